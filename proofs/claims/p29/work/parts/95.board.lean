/-! the law's board: what is drawn, written, read, laid -/
def smN (v : Int32) (n : Nat) : Nat := (v.toBitVec.toNat % 2 ^ 31) % n
theorem smN_lt {v : Int32} {n : Nat} (hn : 1 ≤ n) : smN v n < n := Nat.mod_lt _ hn
theorem some_ok {v : Int32} {n : Nat} (hn : 1 ≤ n ∧ n ≤ 1000000) (S : St) : f_L_some v (iI n) S = some (iI (smN v n), S) := by
  have hz := Nat.mod_lt v.toBitVec.toNat (show 0 < 2 ^ 31 by decide)
  have e : v &&& (2147483647 : Int32) = iI (v.toBitVec.toNat % 2 ^ 31 : Nat) := pk_and v 31 (by decide)
  unfold f_L_some smN
  rw [e]
  generalize v.toBitVec.toNat % 2 ^ 31 = z at hz
  rw [ck_pos (by rw [show (0 : Int32) = iI 0 from rfl, iI_eq (by omega) (by omega)]; omega), iI_rem (by omega) (by omega), ← Int.natCast_emod]
theorem fset_eq (f : Nat → Int32) (k : Nat) (v : Int32) : fset f k v k = v := if_pos rfl
theorem fset_ne (f : Nat → Int32) {k b : Nat} (v : Int32) (h : b ≠ k) : fset f k v b = f b := if_neg h
def vs5 (a b c d e : Nat) : Nat → Nat := fun j => if j = 0 then a else if j = 1 then b else if j = 2 then c else if j = 3 then d else if j = 4 then e else 0
theorem vs5_le {a b c d e : Nat} (h : a ≤ 999 ∧ b ≤ 999 ∧ c ≤ 999 ∧ d ≤ 999 ∧ e ≤ 999) (j : Nat) : vs5 a b c d e j ≤ 999 := by
  unfold vs5
  by_cases h0 : j = 0
  · rw [if_pos h0]; omega
  by_cases h1 : j = 1
  · rw [if_neg h0, if_pos h1]; omega
  by_cases h2 : j = 2
  · rw [if_neg h0, if_neg h1, if_pos h2]; omega
  by_cases h3 : j = 3
  · rw [if_neg h0, if_neg h1, if_neg h2, if_pos h3]; omega
  by_cases h4 : j = 4
  · rw [if_neg h0, if_neg h1, if_neg h2, if_neg h3, if_pos h4]; omega
  · rw [if_neg h0, if_neg h1, if_neg h2, if_neg h3, if_neg h4]; omega
theorem vs5_z {a b c d e m : Nat} (h : (m ≤ 0 → a = 0) ∧ (m ≤ 1 → b = 0) ∧ (m ≤ 2 → c = 0) ∧ (m ≤ 3 → d = 0) ∧ (m ≤ 4 → e = 0)) : ∀ j, m ≤ j → vs5 a b c d e j = 0 := by
  intro j hj
  unfold vs5
  by_cases h0 : j = 0
  · rw [if_pos h0]; exact h.1 (by omega)
  by_cases h1 : j = 1
  · rw [if_neg h0, if_pos h1]; exact h.2.1 (by omega)
  by_cases h2 : j = 2
  · rw [if_neg h0, if_neg h1, if_pos h2]; exact h.2.2.1 (by omega)
  by_cases h3 : j = 3
  · rw [if_neg h0, if_neg h1, if_neg h2, if_pos h3]; exact h.2.2.2.1 (by omega)
  by_cases h4 : j = 4
  · rw [if_neg h0, if_neg h1, if_neg h2, if_neg h3, if_pos h4]; exact h.2.2.2.2 (by omega)
  · rw [if_neg h0, if_neg h1, if_neg h2, if_neg h3, if_neg h4]
/-- an item written and read -/
theorem it_ok {S0 : St} {bs : List Nat} {D D2 : Bd} {l m : Nat} {a b c d e : Nat} {L M A3 A4 A5 A6 A7 : Int32} (hP : PS bs D) (hl : l < 256) (hm : manyS l = m) (hm0 : 1 ≤ m ∧ m ≤ 5) (h9 : a ≤ 999 ∧ b ≤ 999 ∧ c ≤ 999 ∧ d ≤ 999 ∧ e ≤ 999) (hz : (m ≤ 0 → a = 0) ∧ (m ≤ 1 → b = 0) ∧ (m ≤ 2 → c = 0) ∧ (m ≤ 3 → d = 0) ∧ (m ≤ 4 → e = 0)) (ht : takeS l (vs5 a b c d e) D = some D2) (hL : L = iI l) (hM : M = iI m) (h3 : A3 = iI a) (h4 : A4 = iI b) (h5 : A5 = iI c) (h6 : A6 = iI d) (h7 : A7 = iI e) (hb : bs.length + 21 ≤ 300) : f_L_item 0 L M A3 A4 A5 A6 A7 (txt S0 bs) = some (1, txt S0 (bs ++ itemB l m (vs5 a b c d e))) ∧ PS (bs ++ itemB l m (vs5 a b c d e)) D2 ∧ (bs ++ itemB l m (vs5 a b c d e)).length ≤ bs.length + (1 + 4 * m) := by
  refine ⟨item_ok hl hm0.2 (vs5_le h9) hL hM h3 h4 h5 h6 h7 hb, PS_step hP hl hm (by omega) (vs5_le h9) (vs5_z hz) ht, ?_⟩
  rw [List.length_append]
  have := itemB_len l m (vs5 a b c d e)
  omega
theorem tx_mem {bs : List Nat} {k : Nat} (h : k < bs.length) : tx bs k ∈ bs := by
  unfold tx
  rw [List.getD_eq_getElem?_getD, List.getElem?_eq_getElem h, Option.getD_some]
  exact List.getElem_mem h
theorem IE_txt {S0 : St} {T : Tst} {bs : List Nat} (hV : VT T) (hE : IE S0 T) (hl : bs.length ≤ 300) (hb : ∀ x, x ∈ bs → x < 256) : VT (((bs.length, tx bs), T.2) : Tst) ∧ IE (txt S0 bs) (((bs.length, tx bs), T.2) : Tst) := by
  obtain ⟨t1, t2, t3, t4, t5, t6, t7⟩ := IE_has hE
  refine ⟨⟨hl, fun k hk => hb _ (tx_mem hk), hV.2.2⟩, IE_of2 hE (fun a h1 h2 => txt_o _ _ (by omega)) rfl rfl rfl (fun k hk => ?_) ?_ ?_ ?_ ?_ ?_⟩
  · rw [txt_2, if_pos (show k < bs.length from hk)]; rfl
  · rw [txt_o _ _ (by omega)]; exact t3
  · rw [txt_o _ _ (by omega)]; exact t4
  · rw [txt_o _ _ (by omega)]; exact t5
  · rw [txt_o _ _ (by omega), txt_o _ _ (by omega)]; exact t6
  · exact KE_of t7 (fun k _ => by rw [txt_o _ _ (by omega)]) rfl
theorem lay_ok {S : St} {T : Tst} {B : Bd} (hV : VT T) (hE : IE S T) (hr : rdB (tT T) (tN T) = (tN T, B, true)) (hw : whB B = true) (h0 : B 9 0 ≠ 0) : ∃ S9 : St, f_X9_lay 0 S = some (iI (B 9 1), S9) ∧ VT (setLay T B) ∧ IE S9 (setLay T B) := by
  obtain ⟨P, Q, S2, hPQ, h3, y1, y2, y3, y4⟩ := E_readT hV hE
  have hQ : Q = 5 ∨ Q = 15 := by omega
  have hP : P = 5 ∨ P = 15 := by omega
  rw [hr] at y1 y3
  rw [rdS_n4.mpr ⟨rfl, hw⟩] at y1
  obtain ⟨hB, hVB0⟩ := y3 rfl
  have q3 : S2.2.2 0 3 = Q := y2.1.2.1
  have q2 : S2.2.2 0 2 = P := y2.1.1
  have hB : BE S2 Q B := hB
  have hVB0 : VB0 B := hVB0
  have h6 : B 9 0 ≤ 6 := hVB0.2.1.1
  have hVB := VB_of hVB0 hw h0
  obtain ⟨S9, x1, x2, x3⟩ := E_lay hPQ y2 hB hVB
  have hne : ¬ iI (B 9 0) = (0 : Int32) := by rw [show (0 : Int32) = iI 0 from rfl, iI_eq (by omega) (by omega)]; omega
  refine ⟨S9, ?_, ⟨hV.1, hV.2.1, hVB, fun i => Nat.zero_le _, Nat.zero_le _, Nat.zero_le _, hV.2.2.2.2.2.2.1, hV.2.2.2.2.2.2.2⟩, IE_of3 (by omega) x2⟩
  unfold f_X9_lay
  rw [h3, ck_pos (kdE_P hQ)]
  dsimp only [Nat.reduceAdd]
  rw [bd_ok y1, iI_n4, if_pos rfl, ck_pos (by rw [q3]; exact kdE_P hQ), show S2.1 (S2.2.2 0 3 + 1) 0 = iI (B 9 0) by rw [q3]; exact hB.2.1, if_neg hne, ck_pos (by rw [q2]; exact kdE_P hP), ck_pos (by rw [q3]; exact kdE_P hQ)]
  exact x1
theorem fault_end {S0 : St} {T : Tst} {bs : List Nat} {B : Bd} (hV : VT T) (hE : IE S0 T) (hl : bs.length ≤ 300) (hP : PS bs B) (hw : whB B = true) (h0 : B 9 0 ≠ 0) : ∃ S2 S9 : St, f_X9_fault 0 (txt S0 bs) = some ((-4 : Int32), S2) ∧ f_X9_lay 0 S2 = some (iI (B 9 1), S9) ∧ LI (B 9 1) (B 0 2) S9 := by
  obtain ⟨hV2, hE2⟩ := IE_txt hV hE hl hP.1
  obtain ⟨T2, hT2⟩ : ∃ T2 : Tst, T2 = ((bs.length, tx bs), T.2) := ⟨_, rfl⟩
  rw [← hT2] at hV2 hE2
  have hr : rdB (tT T2) (tN T2) = (tN T2, B, true) := by rw [hT2]; exact PS_end hP
  obtain ⟨P, Q, S2, hPQ, h3, y1, y2, y3, y4⟩ := E_readT hV2 hE2
  have hQ : Q = 5 ∨ Q = 15 := by omega
  rw [hr, rdS_n4.mpr ⟨rfl, hw⟩] at y1
  obtain ⟨S9, z1, z2, z3⟩ := lay_ok hV2 (IE_of3 hPQ y2) hr hw h0
  refine ⟨S2, S9, ?_, z1, setLay T2 B, z2, z3, rfl, rfl⟩
  unfold f_X9_fault
  rw [h3, ck_pos (kdE_P hQ)]
  dsimp only [Nat.reduceAdd]
  rw [bd_ok y1, iI_n4]
/-- whatever stands in the rows at first, the machine ends in one and the same state -/
def GG (F : (Nat → Int32) → (Nat → Int32) → Option RB) (HB : (Nat → Int32) → (Nat → Int32) → Prop) (d : Nat) : Prop := ∃ (n : Nat) (Sb : St), LI n d Sb ∧ ∀ B W : Nat → Int32, HB B W → ∃ B2 W2 : Nat → Int32, F B W = some ((1 : Int32), Sb, B2, W2) ∧ B2 0 = iI n ∧ B2 3 = iI d
theorem GG_step {F F2 : (Nat → Int32) → (Nat → Int32) → Option RB} {HB HB2 : (Nat → Int32) → (Nat → Int32) → Prop} {d : Nat} (h : ∀ B W, HB B W → ∃ B2 W2 : Nat → Int32, HB2 B2 W2 ∧ F B W = F2 B2 W2) (g : GG F2 HB2 d) : GG F HB d := by
  obtain ⟨n, Sb, h1, h2⟩ := g
  refine ⟨n, Sb, h1, fun B W hB => ?_⟩
  obtain ⟨B2, W2, k1, k2⟩ := h B W hB
  obtain ⟨B3, W3, k3, k4⟩ := h2 B2 W2 k1
  exact ⟨B3, W3, k2.trans k3, k4⟩
/-- between the sorts: k of them, g givers -/
def BI (bs : List Nat) (D : Bd) (k g d len : Nat) : Prop := PS bs D ∧ bs.length ≤ len ∧ D 0 2 = d ∧ D 9 0 = k ∧ D 9 1 = g ∧ ∀ s, s < k → D 4 s ≤ 3 ∧ natTo (fun j => D 6 (3 * s + j)) (D 4 s) = 10
/-- within the sort k: i worths told, left tenths -/
def BJ (bs : List Nat) (D : Bd) (k g d len i left : Nat) : Prop := PS bs D ∧ bs.length ≤ len ∧ D 0 2 = d ∧ D 9 0 = k + 1 ∧ D 9 1 = g ∧ (∀ s, s < k → D 4 s ≤ 3 ∧ natTo (fun j => D 6 (3 * s + j)) (D 4 s) = 10) ∧ D 4 k = i ∧ natTo (fun j => D 6 (3 * k + j)) i + left = 10
theorem BJ_end {bs : List Nat} {D : Bd} {k g d len i : Nat} (h : BJ bs D k g d len i 0) (hi : i ≤ 3) : BI bs D (k + 1) g d len := by
  obtain ⟨h1, h2, h3, h4, h5, h6, h7, h8⟩ := h
  refine ⟨h1, h2, h3, h4, h5, fun s hs => ?_⟩
  by_cases hk : s = k
  · subst hk; rw [h7]; exact ⟨hi, by omega⟩
  · exact h6 s (by omega)
theorem addB_6 (B : Bd) (v : Nat → Nat) (b : Nat) : addB B v 6 b = B 6 b := by
  unfold addB
  rw [if_neg (by omega), if_neg (by omega), if_neg (by omega)]
  by_cases hb : b = B 9 0
  · rw [if_pos hb, if_neg (by omega), if_neg (by omega), if_neg (by omega), if_neg (by omega), if_neg (by omega), if_neg (by omega), if_neg (by omega)]
  · rw [if_neg hb]
theorem addB_02 (B : Bd) (v : Nat → Nat) : addB B v 0 2 = B 0 2 := by
  unfold addB
  rw [if_neg (by omega), if_neg (by omega), if_neg (by omega)]
  by_cases hb : 2 = B 9 0
  · rw [if_pos hb, if_neg (by omega), if_neg (by omega), if_neg (by omega), if_neg (by omega), if_neg (by omega), if_neg (by omega), if_neg (by omega)]
  · rw [if_neg hb]
/-- the item of a sort -/
theorem bj_g {S0 : St} {bs : List Nat} {D : Bd} {k g d len many kind purse day gap : Nat} {A3 A4 A5 A6 A7 : Int32} (h : BI bs D k g d len) (hk : k ≤ 5) (hlen : len + 21 ≤ 300) (h1 : 1 ≤ many) (h2 : g + many ≤ 8) (h3 : kind ≤ 5 ∧ purse ≤ 30 ∧ day ≤ 30 ∧ gap ≤ 9) (e3 : A3 = iI many) (e4 : A4 = iI kind) (e5 : A5 = iI purse) (e6 : A6 = iI day) (e7 : A7 = iI gap) : ∃ bs2 D2, f_L_item 0 (103 : Int32) (5 : Int32) A3 A4 A5 A6 A7 (txt S0 bs) = some (1, txt S0 bs2) ∧ BJ bs2 D2 k (g + many) d (len + 21) 0 10 := by
  obtain ⟨p1, p2, p3, p4, p5, p6⟩ := h
  have ht : takeS 103 (vs5 many kind purse day gap) D = some (addB D (vs5 many kind purse day gap)) := by
    unfold takeS
    rw [if_neg (by decide), if_neg (by decide), if_neg (by decide), if_neg (by decide), if_pos rfl]
    exact if_pos ⟨by omega, h1, (show D 9 1 + many ≤ 8 by omega), h3.1, h3.2.1, h3.2.2.1, h3.2.2.2⟩
  obtain ⟨q1, q2, q3⟩ := it_ok (S0 := S0) p1 (l := 103) (m := 5) (by decide) rfl (by decide) ⟨by omega, by omega, by omega, by omega, by omega⟩ ⟨by omega, by omega, by omega, by omega, by omega⟩ ht rfl rfl e3 e4 e5 e6 e7 (by omega)
  obtain ⟨n1, n2, n3, n4, n10, n11, n12⟩ := addB_n D (vs5 many kind purse day gap)
  have n4 : addB D (vs5 many kind purse day gap) 4 k = 0 := by rw [← p4]; exact n4
  refine ⟨_, _, q1, q2, by omega, by rw [addB_02]; exact p3, ?_, ?_, fun s hs => ?_, n4, rfl⟩
  · rw [addB_9, if_pos rfl, p4]
  · rw [addB_9, if_neg (by decide), if_pos rfl, p5]; rfl
  · rw [addB_o _ _ 4 s (by omega) (by omega)]
    obtain ⟨a1, a2⟩ := p6 s hs
    refine ⟨a1, ?_⟩
    rw [← a2]
    exact natTo_cong (fun j _ => addB_6 _ _ _)
theorem bj_t {S0 : St} {bs : List Nat} {D : Bd} {k g d len i left tells : Nat} {A3 A4 : Int32} (h : BJ bs D k g d len i left) (hk : k ≤ 5) (hlen : len + 21 ≤ 300) (h1 : tells ≤ 30) (e3 : A3 = iI k) (e4 : A4 = iI tells) : ∃ bs2 D2, f_L_item 0 (116 : Int32) (2 : Int32) A3 A4 (0 : Int32) (0 : Int32) (0 : Int32) (txt S0 bs) = some (1, txt S0 bs2) ∧ BJ bs2 D2 k g d (len + 9) i left := by
  obtain ⟨p1, p2, p3, p4, p5, p6, p7, p8⟩ := h
  have ht : takeS 116 (vs5 k tells 0 0 0) D = some (tdB D k tells) := by
    unfold takeS
    rw [if_neg (by decide), if_neg (by decide), if_neg (by decide), if_neg (by decide), if_neg (by decide), if_neg (by decide), if_neg (by decide), if_neg (by decide), if_pos rfl]
    exact if_pos ⟨(show k < D 9 0 by omega), h1⟩
  obtain ⟨q1, q2, q3⟩ := it_ok (S0 := S0) p1 (l := 116) (m := 2) (by decide) rfl (by decide) ⟨by omega, by omega, by omega, by omega, by omega⟩ ⟨by omega, by omega, by omega, by omega, by omega⟩ ht rfl rfl e3 e4 rfl rfl rfl (by omega)
  refine ⟨_, _, q1, q2, by omega, ?_⟩
  rw [tdB_r _ _ _ 0 (by decide), tdB_r _ _ _ 9 (by decide), tdB_r _ _ _ 4 (by decide), tdB_r _ _ _ 6 (by decide)]
  exact ⟨p3, p4, p5, p6, p7, p8⟩
theorem bj_w {S0 : St} {bs : List Nat} {D : Bd} {k g d len i left worth t : Nat} {A3 A4 A5 : Int32} (h : BJ bs D k g d len i left) (hk : k ≤ 5) (hi : i < 3) (hlen : len + 21 ≤ 300) (h1 : worth ≤ 30) (h2 : 1 ≤ t ∧ t ≤ left) (e3 : A3 = iI k) (e4 : A4 = iI worth) (e5 : A5 = iI t) : ∃ bs2 D2, f_L_item 0 (119 : Int32) (3 : Int32) A3 A4 A5 (0 : Int32) (0 : Int32) (txt S0 bs) = some (1, txt S0 bs2) ∧ BJ bs2 D2 k g d (len + 13) (i + 1) (left - t) := by
  obtain ⟨p1, p2, p3, p4, p5, p6, p7, p8⟩ := h
  have ht : takeS 119 (vs5 k worth t 0 0) D = some (wtB D (vs5 k worth t 0 0)) := by
    unfold takeS
    rw [if_neg (by decide), if_neg (by decide), if_neg (by decide), if_neg (by decide), if_neg (by decide), if_neg (by decide), if_neg (by decide), if_neg (by decide), if_neg (by decide), if_pos rfl]
    exact if_pos ⟨(show k < D 9 0 by omega), h1, h2.1, (show t ≤ 10 by omega), (show D 4 k < 3 by omega)⟩
  obtain ⟨q1, q2, q3⟩ := it_ok (S0 := S0) p1 (l := 119) (m := 3) (by decide) rfl (by decide) ⟨by omega, by omega, by omega, by omega, by omega⟩ ⟨by omega, by omega, by omega, by omega, by omega⟩ ht rfl rfl e3 e4 e5 rfl rfl (by omega)
  have r : ∀ a, a ≠ 4 ∧ a ≠ 5 ∧ a ≠ 6 → wtB D (vs5 k worth t 0 0) a = D a := wtB_r D _
  have r4 : ∀ b, wtB D (vs5 k worth t 0 0) 4 b = if b = k then D 4 k + 1 else D 4 b := wtB_4 D _
  have r6 : ∀ b, wtB D (vs5 k worth t 0 0) 6 b = if b = 3 * k + D 4 k then t else D 6 b := wtB_6 D _
  refine ⟨_, _, q1, q2, by omega, ?_⟩
  rw [r 0 (by decide), r 9 (by decide)]
  refine ⟨p3, p4, p5, fun s hs => ?_, ?_, ?_⟩
  · rw [r4, if_neg (by omega)]
    obtain ⟨a1, a2⟩ := p6 s hs
    refine ⟨a1, ?_⟩
    rw [← a2]
    exact natTo_cong (fun j hj => by rw [r6, if_neg (by omega)])
  · rw [r4, if_pos rfl, p7]
  · show natTo (fun j => wtB D (vs5 k worth t 0 0) 6 (3 * k + j)) i + wtB D (vs5 k worth t 0 0) 6 (3 * k + i) + (left - t) = 10
    rw [r6, p7, if_pos rfl, natTo_cong (g := fun j => D 6 (3 * k + j)) (fun j hj => by rw [r6, p7, if_neg (by omega)])]
    omega
