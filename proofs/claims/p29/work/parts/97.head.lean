/-! the board's first numbers -/
theorem J373_ok {S0 : St} {T : Tst} {xs : Nat → Int32} {Ln d : Nat} {l5 : Int32} {bs : List Nat} {D : Bd} (hV : VT T) (hE : IE S0 T) (hLn : Ln < 2147483648) (hd : d ≤ 30) (hI : BI bs D 0 0 d 47) : GG (fun B W => f_L_board_J373 0 xs Ln 0 l5 (1 : Int32) (txt S0 bs) B W) (fun B _ => B 3 = iI d) d := by
  have hs := smN_lt (v := l5 >>> ((22 : Int32) &&& 31)) (n := 3) (by decide)
  refine GG_step (fun B W hB => ⟨fset B 0 (iI (0 : Nat)), W, ⟨fset_eq _ _ _, ?_⟩, ?_⟩) (L395_ok (xs := xs) (Ln := Ln) (sorts := 1 + smN (l5 >>> ((22 : Int32) &&& 31)) 3) hV hE hLn ⟨by omega, by omega⟩ hd (1 + smN (l5 >>> ((22 : Int32) &&& 31)) 3) FU 0 0 bs D (by omega) (by unfold FU; omega) hI (by omega))
  · unfold f_L_board_J373
    rw [bx_ok (show f_L_some (l5 >>> ((22 : Int32) &&& 31)) (3 : Int32) (txt S0 bs) = some (iI (smN (l5 >>> ((22 : Int32) &&& 31)) 3), txt S0 bs) from some_ok (by decide) _), iI_s2, sq_k, sq_k]
    rfl
  · rw [fset_ne _ _ (by omega)]; exact hB
def hiB (j : Nat) : Nat := if j = 1 then 60 else if j = 2 then 8 else if j = 3 then 30 else if j = 4 then 199 else if j = 5 then 9 else if j = 6 then 9 else if j = 7 then 30 else if j = 8 then 1 else if j = 9 then 60 else 99
def UB (u : Nat → Nat) (n : Nat) : Prop := 1 ≤ u 1 ∧ ∀ j, 1 ≤ j → j ≤ n → u j ≤ hiB j
def HBn (u : Nat → Nat) (n : Nat) (B : Nat → Int32) : Prop := ∀ j, 1 ≤ j → j ≤ n → B j = iI (u j)
def updN (u : Nat → Nat) (k x : Nat) : Nat → Nat := fun j => if j = k then x else u j
theorem updN_eq (u : Nat → Nat) (k x : Nat) : updN u k x k = x := if_pos rfl
theorem updN_ne (u : Nat → Nat) {k j : Nat} (x : Nat) (h : j ≠ k) : updN u k x j = u j := if_neg h
theorem HB_ext {u : Nat → Nat} {n k : Nat} {B : Nat → Int32} {x : Int32} (h : HBn u n B) (hk : k = n + 1) (hx : x = iI (u k)) : HBn u k (fset B k x) := fun j h1 h2 => by
  by_cases hj : j = k
  · rw [hj, fset_eq, hx]
  · rw [fset_ne _ _ hj]; exact h j h1 (by omega)
theorem HB_cg {u u2 : Nat → Nat} {n : Nat} {B : Nat → Int32} (h : HBn u n B) (e : ∀ j, j ≤ n → u2 j = u j) : HBn u2 n B := fun j h1 h2 => by rw [e j h2]; exact h j h1 h2
theorem UB_ext {u : Nat → Nat} {n k x : Nat} (h : UB u n) (hk : k = n + 1) (hn : 1 ≤ n) (hx : x ≤ hiB k) : UB (updN u k x) k := by
  refine ⟨by rw [updN_ne _ _ (by omega)]; exact h.1, fun j h1 h2 => ?_⟩
  by_cases hj : j = k
  · rw [hj, updN_eq]; exact hx
  · rw [updN_ne _ _ hj]; exact h.2 j h1 (by omega)
theorem txt_nil (S : St) : pI S 1 1 (0 : Int32) = txt S [] := by
  refine Prod.ext ?_ rfl
  funext a k
  rw [pI_1]
  by_cases h1 : a = 1
  · subst h1
    rw [txt_1]
    by_cases hk : k = 1
    · rw [if_pos ⟨rfl, hk⟩, if_pos hk]; rfl
    · rw [if_neg (fun z => hk z.2), if_neg hk]
  · rw [if_neg (fun z => h1 z.1)]
    by_cases h2 : a = 2
    · subst h2; rw [txt_2, if_neg (show ¬ k < ([] : List Nat).length from Nat.not_lt_zero _)]
    · rw [txt_o _ _ ⟨h1, h2⟩]
theorem it_e {S0 : St} {bs : List Nat} {D D2 : Bd} {l m : Nat} {a b : Nat} {L M A3 A4 : Int32} (hP : PS bs D) (hl : l < 256) (hm : manyS l = m) (hm0 : m = 1 ∨ m = 2) (h9 : a ≤ 999 ∧ b ≤ 999) (hz : m ≤ 1 → b = 0) (ht : takeS l (vs5 a b 0 0 0) D = some D2) (hL : L = iI l) (hM : M = iI m) (h3 : A3 = iI a) (h4 : A4 = iI b) (hb : bs.length + 21 ≤ 300) : ∃ bs2, f_L_item 0 L M A3 A4 (0 : Int32) (0 : Int32) (0 : Int32) (txt S0 bs) = some (1, txt S0 bs2) ∧ PS bs2 D2 ∧ bs2.length ≤ bs.length + (1 + 4 * m) :=
  ⟨_, it_ok hP hl hm (by omega) ⟨h9.1, h9.2, by omega, by omega, by omega⟩ ⟨by omega, hz, by omega, by omega, by omega⟩ ht hL hM h3 h4 rfl rfl rfl hb⟩
theorem J223_ok {S0 : St} {T : Tst} {xs : Nat → Int32} {Ln : Nat} {l5 : Int32} {u : Nat → Nat} (hV : VT T) (hE : IE S0 T) (hLn : Ln < 2147483648) (hU : UB u 10) : GG (fun B W => f_L_board_J223 0 xs Ln 0 l5 (10 : Int32) (iI (u 10)) S0 B W) (fun B _ => HBn u 9 B) (u 3) := by
  have hw : f_X9_wipe 0 S0 = some (S0.1 1 1, txt S0 []) := by
    unfold f_X9_wipe
    rw [sq_k, sq_k]
    show some (S0.1 1 1, pI S0 1 1 0) = _
    rw [txt_nil]
  have t1 : S0.1 1 1 = iI (tN T) := (IE_has hE).1
  have hN : tN T ≤ 300 := hV.1
  have h1 := hU.1
  have u1 : u 1 ≤ 60 := hU.2 1 (by decide) (by decide)
  have u2 : u 2 ≤ 8 := hU.2 2 (by decide) (by decide)
  have u3 : u 3 ≤ 30 := hU.2 3 (by decide) (by decide)
  have u4 : u 4 ≤ 199 := hU.2 4 (by decide) (by decide)
  have u5 : u 5 ≤ 9 := hU.2 5 (by decide) (by decide)
  have u6 : u 6 ≤ 9 := hU.2 6 (by decide) (by decide)
  have u7 : u 7 ≤ 30 := hU.2 7 (by decide) (by decide)
  have u8 : u 8 ≤ 1 := hU.2 8 (by decide) (by decide)
  have u9 : u 9 ≤ 60 := hU.2 9 (by decide) (by decide)
  have u10 : u 10 ≤ 99 := hU.2 10 (by decide) (by decide)
  obtain ⟨D1, hD1⟩ : ∃ z, z = (up1B (up1B clrB 0 (u 1)) 1 (u 2)) := ⟨_, rfl⟩
  have ht1 : takeS 98 (vs5 (u 1) (u 2) 0 0 0) clrB = some D1 := by
    rw [hD1]; unfold takeS
    rw [if_pos rfl]
    exact if_pos ⟨h1, u1, u2⟩
  obtain ⟨b1, q1, p1, s1⟩ := it_e (S0 := S0) (L := (98 : Int32)) (M := (2 : Int32)) PS_nil (l := 98) (m := 2) (by decide) rfl (Or.inr rfl) ⟨by omega, by omega⟩ (fun h => absurd h (by decide)) ht1 rfl rfl rfl rfl (by decide)
  have s1 : b1.length ≤ 0 + 9 := s1
  obtain ⟨D2, hD2⟩ : ∃ z, z = (up1B D1 2 (u 3)) := ⟨_, rfl⟩
  have ht2 : takeS 100 (vs5 (u 3) 0 0 0 0) D1 = some D2 := by
    rw [hD2]; unfold takeS
    rw [if_neg (by decide), if_neg (by decide), if_pos rfl]
    exact if_pos u3
  obtain ⟨b2, q2, p2, s2⟩ := it_e (S0 := S0) (L := (100 : Int32)) (M := (1 : Int32)) (A4 := (0 : Int32)) p1 (l := 100) (m := 1) (by decide) rfl (Or.inl rfl) ⟨by omega, by omega⟩ (fun _ => rfl) ht2 rfl rfl rfl rfl (by omega)
  obtain ⟨D3, hD3⟩ : ∃ z, z = (up1B D2 3 (u 4)) := ⟨_, rfl⟩
  have ht3 : takeS 99 (vs5 (u 4) 0 0 0 0) D2 = some D3 := by
    rw [hD3]; unfold takeS
    rw [if_neg (by decide), if_pos rfl]
    exact if_pos u4
  obtain ⟨b3, q3, p3, s3⟩ := it_e (S0 := S0) (L := (99 : Int32)) (M := (1 : Int32)) (A4 := (0 : Int32)) p2 (l := 99) (m := 1) (by decide) rfl (Or.inl rfl) ⟨by omega, by omega⟩ (fun _ => rfl) ht3 rfl rfl rfl rfl (by omega)
  obtain ⟨D4, hD4⟩ : ∃ z, z = (up1B D3 4 (u 5)) := ⟨_, rfl⟩
  have ht4 : takeS 112 (vs5 (u 5) 0 0 0 0) D3 = some D4 := by
    rw [hD4]; unfold takeS
    rw [if_neg (by decide), if_neg (by decide), if_neg (by decide), if_neg (by decide), if_neg (by decide), if_neg (by decide), if_pos rfl]
    exact if_pos u5
  obtain ⟨b4, q4, p4, s4⟩ := it_e (S0 := S0) (L := (112 : Int32)) (M := (1 : Int32)) (A4 := (0 : Int32)) p3 (l := 112) (m := 1) (by decide) rfl (Or.inl rfl) ⟨by omega, by omega⟩ (fun _ => rfl) ht4 rfl rfl rfl rfl (by omega)
  obtain ⟨D5, hD5⟩ : ∃ z, z = (up1B (up1B D4 5 (u 6)) 6 (u 7)) := ⟨_, rfl⟩
  have ht5 : takeS 101 (vs5 (u 6) (u 7) 0 0 0) D4 = some D5 := by
    rw [hD5]; unfold takeS
    rw [if_neg (by decide), if_neg (by decide), if_neg (by decide), if_pos rfl]
    exact if_pos ⟨u6, u7⟩
  obtain ⟨b5, q5, p5, s5⟩ := it_e (S0 := S0) (L := (101 : Int32)) (M := (2 : Int32)) p4 (l := 101) (m := 2) (by decide) rfl (Or.inr rfl) ⟨by omega, by omega⟩ (fun h => absurd h (by decide)) ht5 rfl rfl rfl rfl (by omega)
  obtain ⟨D6, hD6⟩ : ∃ z, z = (up1B D5 7 (u 8)) := ⟨_, rfl⟩
  have ht6 : takeS 111 (vs5 (u 8) 0 0 0 0) D5 = some D6 := by
    rw [hD6]; unfold takeS
    rw [if_neg (by decide), if_neg (by decide), if_neg (by decide), if_neg (by decide), if_neg (by decide), if_pos rfl]
    exact if_pos u8
  obtain ⟨b6, q6, p6, s6⟩ := it_e (S0 := S0) (L := (111 : Int32)) (M := (1 : Int32)) (A4 := (0 : Int32)) p5 (l := 111) (m := 1) (by decide) rfl (Or.inl rfl) ⟨by omega, by omega⟩ (fun _ => rfl) ht6 rfl rfl rfl rfl (by omega)
  obtain ⟨D7, hD7⟩ : ∃ z, z = (up1B (up1B D6 8 (u 9)) 9 (u 10)) := ⟨_, rfl⟩
  have ht7 : u 9 ≠ 0 → takeS 115 (vs5 (u 9) (u 10) 0 0 0) D6 = some D7 := fun h9 => by
    rw [hD7]; unfold takeS
    rw [if_neg (by decide), if_neg (by decide), if_neg (by decide), if_neg (by decide), if_neg (by decide), if_neg (by decide), if_neg (by decide), if_pos rfl]
    exact if_pos ⟨(show 1 ≤ u 9 by omega), u9, u10⟩
  have f6 : D6 0 2 = u 3 ∧ D6 9 0 = 0 ∧ D6 9 1 = 0 := by rw [hD6, hD5, hD4, hD3, hD2, hD1]; exact ⟨rfl, rfl, rfl⟩
  have f7 : D7 0 2 = u 3 ∧ D7 9 0 = 0 ∧ D7 9 1 = 0 := by rw [hD7, hD6, hD5, hD4, hD3, hD2, hD1]; exact ⟨rfl, rfl, rfl⟩
  have pre : ∀ B W : Nat → Int32, HBn u 9 B → ∃ B1 : Nat → Int32, HBn u 10 B1 ∧ f_L_board_J223 0 xs Ln 0 l5 (10 : Int32) (iI (u 10)) S0 B W = (if iI (u 9) = (0 : Int32) then f_L_board_J368 0 xs Ln 0 l5 (txt S0 b6) B1 W else bx (f_L_item 0 (115 : Int32) (2 : Int32) (iI (u 9)) (iI (u 10)) (0 : Int32) (0 : Int32) (0 : Int32) (txt S0 b6)) fun x S2 => if x = 0 then f_L_board_J372 0 xs Ln 0 l5 S2 B1 W else f_L_board_J368 0 xs Ln 0 l5 S2 B1 W) := by
    intro B W hB
    obtain ⟨B1, hB1⟩ : ∃ B1, B1 = fset B (Int32.toNatClampNeg (10 : Int32)) (iI (u 10)) := ⟨_, rfl⟩
    have hb : HBn u 10 B1 := by rw [hB1]; exact HB_ext hB rfl rfl
    refine ⟨B1, hb, ?_⟩
    have e1 : B1 (Int32.toNatClampNeg (1 : Int32)) = iI (u 1) := hb 1 (by decide) (by decide)
    have e2 : B1 (Int32.toNatClampNeg (2 : Int32)) = iI (u 2) := hb 2 (by decide) (by decide)
    have e3 : B1 (Int32.toNatClampNeg (3 : Int32)) = iI (u 3) := hb 3 (by decide) (by decide)
    have e4 : B1 (Int32.toNatClampNeg (4 : Int32)) = iI (u 4) := hb 4 (by decide) (by decide)
    have e5 : B1 (Int32.toNatClampNeg (5 : Int32)) = iI (u 5) := hb 5 (by decide) (by decide)
    have e6 : B1 (Int32.toNatClampNeg (6 : Int32)) = iI (u 6) := hb 6 (by decide) (by decide)
    have e7 : B1 (Int32.toNatClampNeg (7 : Int32)) = iI (u 7) := hb 7 (by decide) (by decide)
    have e8 : B1 (Int32.toNatClampNeg (8 : Int32)) = iI (u 8) := hb 8 (by decide) (by decide)
    have e9 : B1 (Int32.toNatClampNeg (9 : Int32)) = iI (u 9) := hb 9 (by decide) (by decide)
    have e10 : B1 (Int32.toNatClampNeg (10 : Int32)) = iI (u 10) := hb 10 (by decide) (by decide)
    unfold f_L_board_J223
    rw [ob_in (vinl (by decide)), sq_k, ← hB1, bx_ok hw, t1, if_neg (iI_nneg (by omega))]
    rw [e1, e2, bx_ok q1, if_neg (by decide), e3, bx_ok q2, if_neg (by decide), e4, bx_ok q3, if_neg (by decide), e5, bx_ok q4, if_neg (by decide), e6, e7, bx_ok q5, if_neg (by decide), e8, bx_ok q6, if_neg (by decide), e9, e10]
  by_cases h9 : u 9 = 0
  · refine GG_step (fun B W hB => ?_) (J373_ok (xs := xs) (Ln := Ln) (l5 := l5) (bs := b6) (D := D6) hV hE hLn u3 ⟨p6, by omega, f6.1, f6.2.1, f6.2.2, fun s hs => absurd hs (Nat.not_lt_zero _)⟩)
    obtain ⟨B1, hb, e⟩ := pre B W hB
    refine ⟨B1, W, hb 3 (by decide) (by decide), ?_⟩
    rw [e, if_pos (by rw [h9]; rfl)]; rfl
  · obtain ⟨b7, q7, p7, s7⟩ := it_e (S0 := S0) (L := (115 : Int32)) (M := (2 : Int32)) p6 (l := 115) (m := 2) (by decide) rfl (Or.inr rfl) ⟨by omega, by omega⟩ (fun h => absurd h (by decide)) (ht7 h9) rfl rfl rfl rfl (by omega)
    refine GG_step (fun B W hB => ?_) (J373_ok (xs := xs) (Ln := Ln) (l5 := l5) (bs := b7) (D := D7) hV hE hLn u3 ⟨p7, by omega, f7.1, f7.2.1, f7.2.2, fun s hs => absurd hs (Nat.not_lt_zero _)⟩)
    obtain ⟨B1, hb, e⟩ := pre B W hB
    refine ⟨B1, W, hb 3 (by decide) (by decide), ?_⟩
    rw [e, if_neg (by rw [show (0 : Int32) = iI 0 from rfl, iI_eq (by omega) (by omega)]; omega), bx_ok q7, if_neg (by decide)]; rfl
theorem J198_ok {S0 : St} {T : Tst} {xs : Nat → Int32} {Ln : Nat} {l5 l6 : Int32} {u : Nat → Nat} (hV : VT T) (hE : IE S0 T) (hLn : Ln < 2147483648) (hU : UB u 9) : GG (fun B W => f_L_board_J198 0 xs Ln 0 l5 l6 (9 : Int32) (iI (u 9)) S0 B W) (fun B _ => HBn u 8 B) (u 3) := by
  have u9 : u 9 ≤ 60 := hU.2 9 (by decide) (by decide)
  have k22_100 := smN_lt (v := l6 >>> ((22 : Int32) &&& 31)) (n := 100) (by decide)
  have pre : ∀ B W : Nat → Int32, HBn u 8 B → HBn u 9 (fset B 9 (iI (u 9))) ∧ f_L_board_J198 0 xs Ln 0 l5 l6 (9 : Int32) (iI (u 9)) S0 B W = (if iI (u 9) = (0 : Int32) then f_L_board_J223 0 xs Ln 0 l5 (10 : Int32) (0 : Int32) S0 (fset B 9 (iI (u 9))) W else f_L_board_J223 0 xs Ln 0 l5 (10 : Int32) (iI (smN (l6 >>> ((22 : Int32) &&& 31)) 100)) S0 (fset B 9 (iI (u 9))) W) := by
    intro B W hB
    refine ⟨HB_ext hB rfl rfl, ?_⟩
    unfold f_L_board_J198
    rw [ob_in (vinl (by decide)), sq_k, show (9 : Int32).toNatClampNeg = 9 from rfl, fset_eq, bx_ok (show f_L_some (l6 >>> ((22 : Int32) &&& 31)) (100 : Int32) S0 = some (iI (smN (l6 >>> ((22 : Int32) &&& 31)) 100), S0) from some_ok (by decide) _)]
  by_cases h9 : u 9 = 0
  · refine GG_step (fun B W hB => ⟨fset B 9 (iI (u 9)), W, ?_, ?_⟩) (J223_ok (xs := xs) (l5 := l5) (u := updN u 10 0) hV hE hLn (UB_ext hU rfl (by decide) (Nat.zero_le _)))
    · exact HB_cg (pre B W hB).1 (fun j hj => updN_ne _ _ (by omega))
    · rw [(pre B W hB).2, if_pos (by rw [h9]; rfl)]; rfl
  · refine GG_step (fun B W hB => ⟨fset B 9 (iI (u 9)), W, ?_, ?_⟩) (J223_ok (xs := xs) (l5 := l5) (u := updN u 10 (smN (l6 >>> ((22 : Int32) &&& 31)) 100)) hV hE hLn (UB_ext hU rfl (by decide) (show _ ≤ 99 by omega)))
    · exact HB_cg (pre B W hB).1 (fun j hj => updN_ne _ _ (by omega))
    · rw [(pre B W hB).2, if_neg (by rw [show (0 : Int32) = iI 0 from rfl, iI_eq (by omega) (by omega)]; omega)]; rfl
theorem J143_ok {S0 : St} {T : Tst} {xs : Nat → Int32} {Ln : Nat} {l5 l6 : Int32} {u : Nat → Nat} (hV : VT T) (hE : IE S0 T) (hLn : Ln < 2147483648) (hU : UB u 6) : GG (fun B W => f_L_board_J143 0 xs Ln 0 l5 l6 (6 : Int32) (iI (u 6)) S0 B W) (fun B _ => HBn u 5 B) (u 3) := by
  have k11_10 := smN_lt (v := l6 >>> ((11 : Int32) &&& 31)) (n := 10) (by decide)
  have k17_30 := smN_lt (v := l6 >>> ((17 : Int32) &&& 31)) (n := 30) (by decide)
  have kb := Nat.mod_lt (l6 >>> ((15 : Int32) &&& 31)).toBitVec.toNat (show 0 < 2 ^ 1 by decide)
  have eb : (l6 >>> ((15 : Int32) &&& 31)) &&& (1 : Int32) = iI (((l6 >>> ((15 : Int32) &&& 31)).toBitVec.toNat % 2 ^ 1) : Nat) := pk_and _ 1 (by decide)
  have hU8 : UB (updN (updN u 7 (smN (l6 >>> ((11 : Int32) &&& 31)) 10)) 8 ((l6 >>> ((15 : Int32) &&& 31)).toBitVec.toNat % 2 ^ 1)) 8 := UB_ext (UB_ext hU rfl (by decide) (show _ ≤ 30 by omega)) rfl (by decide) (show _ ≤ 1 by omega)
  have h8 : ∀ (x : Nat) (B : Nat → Int32), HBn u 5 B → HBn (updN (updN (updN u 7 (smN (l6 >>> ((11 : Int32) &&& 31)) 10)) 8 ((l6 >>> ((15 : Int32) &&& 31)).toBitVec.toNat % 2 ^ 1)) 9 x) 8 (fset (fset (fset B 6 (iI (u 6))) 7 (iI (smN (l6 >>> ((11 : Int32) &&& 31)) 10))) 8 (iI (((l6 >>> ((15 : Int32) &&& 31)).toBitVec.toNat % 2 ^ 1) : Nat))) := fun x B hB => HB_ext (HB_ext (HB_ext (HB_cg hB (fun j hj => by rw [updN_ne _ _ (by omega), updN_ne _ _ (by omega), updN_ne _ _ (by omega)])) rfl (by rw [updN_ne _ _ (by omega), updN_ne _ _ (by omega), updN_ne _ _ (by omega)])) rfl (by rw [updN_ne _ _ (by omega), updN_ne _ _ (by omega), updN_eq])) rfl (by rw [updN_ne _ _ (by omega), updN_eq])
  have pre : ∀ B W : Nat → Int32, f_L_board_J143 0 xs Ln 0 l5 l6 (6 : Int32) (iI (u 6)) S0 B W = (if ((l6 >>> ((16 : Int32) &&& 31)) &&& (1 : Int32)) = 0 then f_L_board_J198 0 xs Ln 0 l5 l6 (9 : Int32) (0 : Int32) S0 (fset (fset (fset B 6 (iI (u 6))) 7 (iI (smN (l6 >>> ((11 : Int32) &&& 31)) 10))) 8 (iI (((l6 >>> ((15 : Int32) &&& 31)).toBitVec.toNat % 2 ^ 1) : Nat))) W else f_L_board_J198 0 xs Ln 0 l5 l6 (9 : Int32) (iI (1 + smN (l6 >>> ((17 : Int32) &&& 31)) 30 : Nat)) S0 (fset (fset (fset B 6 (iI (u 6))) 7 (iI (smN (l6 >>> ((11 : Int32) &&& 31)) 10))) 8 (iI (((l6 >>> ((15 : Int32) &&& 31)).toBitVec.toNat % 2 ^ 1) : Nat))) W) := by
    intro B W
    unfold f_L_board_J143
    rw [ob_in (vinl (by decide)), sq_k, show (6 : Int32).toNatClampNeg = 6 from rfl, bx_ok (show f_L_some (l6 >>> ((11 : Int32) &&& 31)) (10 : Int32) S0 = some (iI (smN (l6 >>> ((11 : Int32) &&& 31)) 10), S0) from some_ok (by decide) _), sq_k, show (7 : Int32).toNatClampNeg = 7 from rfl, sq_k, show (8 : Int32).toNatClampNeg = 8 from rfl, eb, bx_ok (show f_L_some (l6 >>> ((17 : Int32) &&& 31)) (30 : Int32) S0 = some (iI (smN (l6 >>> ((17 : Int32) &&& 31)) 30), S0) from some_ok (by decide) _), iI_s2]
  by_cases hc : ((l6 >>> ((16 : Int32) &&& 31)) &&& (1 : Int32)) = 0
  · refine GG_step (fun B W hB => ⟨_, W, h8 0 B hB, ?_⟩) (J198_ok (xs := xs) (l5 := l5) (l6 := l6) (u := updN (updN (updN u 7 (smN (l6 >>> ((11 : Int32) &&& 31)) 10)) 8 ((l6 >>> ((15 : Int32) &&& 31)).toBitVec.toNat % 2 ^ 1)) 9 0) hV hE hLn (UB_ext hU8 rfl (by decide) (Nat.zero_le _)))
    rw [pre, if_pos hc]; rfl
  · refine GG_step (fun B W hB => ⟨_, W, h8 (1 + smN (l6 >>> ((17 : Int32) &&& 31)) 30) B hB, ?_⟩) (J198_ok (xs := xs) (l5 := l5) (l6 := l6) (u := updN (updN (updN u 7 (smN (l6 >>> ((11 : Int32) &&& 31)) 10)) 8 ((l6 >>> ((15 : Int32) &&& 31)).toBitVec.toNat % 2 ^ 1)) 9 (1 + smN (l6 >>> ((17 : Int32) &&& 31)) 30)) hV hE hLn (UB_ext hU8 rfl (by decide) (show _ ≤ 60 by omega)))
    rw [pre, if_neg hc]; rfl
theorem J115_ok {S0 : St} {T : Tst} {xs : Nat → Int32} {Ln : Nat} {l5 l6 : Int32} {u : Nat → Nat} (hV : VT T) (hE : IE S0 T) (hLn : Ln < 2147483648) (hU : UB u 5) : GG (fun B W => f_L_board_J115 0 xs Ln 0 l5 l6 (5 : Int32) (iI (u 5)) S0 B W) (fun B _ => HBn u 4 B) (u 3) := by
  have k7_10 := smN_lt (v := l6 >>> ((7 : Int32) &&& 31)) (n := 10) (by decide)
  have pre : ∀ B W : Nat → Int32, f_L_board_J115 0 xs Ln 0 l5 l6 (5 : Int32) (iI (u 5)) S0 B W = (if ((l6 >>> ((6 : Int32) &&& 31)) &&& (1 : Int32)) = 0 then f_L_board_J143 0 xs Ln 0 l5 l6 (6 : Int32) (iI (smN (l6 >>> ((7 : Int32) &&& 31)) 10)) S0 (fset B 5 (iI (u 5))) W else f_L_board_J143 0 xs Ln 0 l5 l6 (6 : Int32) (0 : Int32) S0 (fset B 5 (iI (u 5))) W) := by
    intro B W
    unfold f_L_board_J115
    rw [ob_in (vinl (by decide)), sq_k, show (5 : Int32).toNatClampNeg = 5 from rfl, bx_ok (show f_L_some (l6 >>> ((7 : Int32) &&& 31)) (10 : Int32) S0 = some (iI (smN (l6 >>> ((7 : Int32) &&& 31)) 10), S0) from some_ok (by decide) _)]
  have h5 : ∀ (x : Nat) (B : Nat → Int32), HBn u 4 B → HBn (updN u 6 x) 5 (fset B 5 (iI (u 5))) := fun x B hB => HB_ext (HB_cg hB (fun j hj => updN_ne _ _ (by omega))) rfl (by rw [updN_ne _ _ (by omega)])
  by_cases hc : ((l6 >>> ((6 : Int32) &&& 31)) &&& (1 : Int32)) = 0
  · refine GG_step (fun B W hB => ⟨_, W, h5 (smN (l6 >>> ((7 : Int32) &&& 31)) 10) B hB, ?_⟩) (J143_ok (xs := xs) (l5 := l5) (l6 := l6) (u := updN u 6 (smN (l6 >>> ((7 : Int32) &&& 31)) 10)) hV hE hLn (UB_ext hU rfl (by decide) (show _ ≤ 9 by omega)))
    rw [pre, if_pos hc]; rfl
  · refine GG_step (fun B W hB => ⟨_, W, h5 0 B hB, ?_⟩) (J143_ok (xs := xs) (l5 := l5) (l6 := l6) (u := updN u 6 0) hV hE hLn (UB_ext hU rfl (by decide) (Nat.zero_le _)))
    rw [pre, if_neg hc]; rfl
theorem J66_ok {S0 : St} {T : Tst} {xs : Nat → Int32} {Ln : Nat} {l5 l6 : Int32} {u : Nat → Nat} (hV : VT T) (hE : IE S0 T) (hLn : Ln < 2147483648) (hU : UB u 2) : GG (fun B W => f_L_board_J66 0 xs Ln 0 l5 l6 (2 : Int32) (iI (u 2)) S0 B W) (fun B _ => HBn u 1 B) (smN (l5 >>> ((12 : Int32) &&& 31)) 13) := by
  have k12_13 := smN_lt (v := l5 >>> ((12 : Int32) &&& 31)) (n := 13) (by decide)
  have k16_60 := smN_lt (v := l5 >>> ((16 : Int32) &&& 31)) (n := 60) (by decide)
  have k2_10 := smN_lt (v := l6 >>> ((2 : Int32) &&& 31)) (n := 10) (by decide)
  have hU4 : UB (updN (updN u 3 (smN (l5 >>> ((12 : Int32) &&& 31)) 13)) 4 (smN (l5 >>> ((16 : Int32) &&& 31)) 60)) 4 := UB_ext (UB_ext hU rfl (by decide) (show _ ≤ 30 by omega)) rfl (by decide) (show _ ≤ 199 by omega)
  have pre : ∀ B W : Nat → Int32, f_L_board_J66 0 xs Ln 0 l5 l6 (2 : Int32) (iI (u 2)) S0 B W = (if (l6 &&& (3 : Int32)) = 0 then f_L_board_J115 0 xs Ln 0 l5 l6 (5 : Int32) (iI (smN (l6 >>> ((2 : Int32) &&& 31)) 10)) S0 (fset (fset (fset B 2 (iI (u 2))) 3 (iI (smN (l5 >>> ((12 : Int32) &&& 31)) 13))) 4 (iI (smN (l5 >>> ((16 : Int32) &&& 31)) 60))) W else f_L_board_J115 0 xs Ln 0 l5 l6 (5 : Int32) (0 : Int32) S0 (fset (fset (fset B 2 (iI (u 2))) 3 (iI (smN (l5 >>> ((12 : Int32) &&& 31)) 13))) 4 (iI (smN (l5 >>> ((16 : Int32) &&& 31)) 60))) W) := by
    intro B W
    unfold f_L_board_J66
    rw [ob_in (vinl (by decide)), sq_k, show (2 : Int32).toNatClampNeg = 2 from rfl, bx_ok (show f_L_some (l5 >>> ((12 : Int32) &&& 31)) (13 : Int32) S0 = some (iI (smN (l5 >>> ((12 : Int32) &&& 31)) 13), S0) from some_ok (by decide) _), sq_k, show (3 : Int32).toNatClampNeg = 3 from rfl, bx_ok (show f_L_some (l5 >>> ((16 : Int32) &&& 31)) (60 : Int32) S0 = some (iI (smN (l5 >>> ((16 : Int32) &&& 31)) 60), S0) from some_ok (by decide) _), sq_k, show (4 : Int32).toNatClampNeg = 4 from rfl, bx_ok (show f_L_some (l6 >>> ((2 : Int32) &&& 31)) (10 : Int32) S0 = some (iI (smN (l6 >>> ((2 : Int32) &&& 31)) 10), S0) from some_ok (by decide) _)]
  have h4 : ∀ (x : Nat) (B : Nat → Int32), HBn u 1 B → HBn (updN (updN (updN u 3 (smN (l5 >>> ((12 : Int32) &&& 31)) 13)) 4 (smN (l5 >>> ((16 : Int32) &&& 31)) 60)) 5 x) 4 (fset (fset (fset B 2 (iI (u 2))) 3 (iI (smN (l5 >>> ((12 : Int32) &&& 31)) 13))) 4 (iI (smN (l5 >>> ((16 : Int32) &&& 31)) 60))) := fun x B hB => HB_ext (HB_ext (HB_ext (HB_cg hB (fun j hj => by rw [updN_ne _ _ (by omega), updN_ne _ _ (by omega), updN_ne _ _ (by omega)])) rfl (by rw [updN_ne _ _ (by omega), updN_ne _ _ (by omega), updN_ne _ _ (by omega)])) rfl (by rw [updN_ne _ _ (by omega), updN_ne _ _ (by omega), updN_eq])) rfl (by rw [updN_ne _ _ (by omega), updN_eq])
  by_cases hc : (l6 &&& (3 : Int32)) = 0
  · refine GG_step (fun B W hB => ⟨_, W, h4 (smN (l6 >>> ((2 : Int32) &&& 31)) 10) B hB, ?_⟩) (J115_ok (xs := xs) (l5 := l5) (l6 := l6) (u := updN (updN (updN u 3 (smN (l5 >>> ((12 : Int32) &&& 31)) 13)) 4 (smN (l5 >>> ((16 : Int32) &&& 31)) 60)) 5 (smN (l6 >>> ((2 : Int32) &&& 31)) 10)) hV hE hLn (UB_ext hU4 rfl (by decide) (show _ ≤ 9 by omega)))
    rw [pre, if_pos hc]; rfl
  · refine GG_step (fun B W hB => ⟨_, W, h4 0 B hB, ?_⟩) (J115_ok (xs := xs) (l5 := l5) (l6 := l6) (u := updN (updN (updN u 3 (smN (l5 >>> ((12 : Int32) &&& 31)) 13)) 4 (smN (l5 >>> ((16 : Int32) &&& 31)) 60)) 5 0) hV hE hLn (UB_ext hU4 rfl (by decide) (Nat.zero_le _)))
    rw [pre, if_neg hc]; rfl
theorem J36_ok {S0 : St} {T : Tst} {xs : Nat → Int32} {Ln : Nat} {l5 l6 : Int32} {bb : Nat} (hV : VT T) (hE : IE S0 T) (hLn : Ln < 2147483648) (hb : 1 ≤ bb ∧ bb ≤ 60) : GG (fun B W => f_L_board_J36 0 xs Ln 0 l5 l6 (1 : Int32) (1 : Int32) l5 (iI bb) S0 B W) (fun _ _ => True) (smN (l5 >>> ((12 : Int32) &&& 31)) 13) := by
  have k1 := smN_lt (v := l5) (n := bb) hb.1
  have k9_5 := smN_lt (v := l5 >>> ((9 : Int32) &&& 31)) (n := 5) (by decide)
  obtain ⟨u, hu⟩ : ∃ u : Nat → Nat, u = fun _ => 1 + smN l5 bb := ⟨_, rfl⟩
  have hU1 : UB u 1 := by
    rw [hu]
    refine ⟨(show 1 ≤ 1 + smN l5 bb by omega), fun j h1 h2 => ?_⟩
    obtain rfl : j = 1 := by omega
    show 1 + smN l5 bb ≤ 60
    omega
  have pre : ∀ B W : Nat → Int32, f_L_board_J36 0 xs Ln 0 l5 l6 (1 : Int32) (1 : Int32) l5 (iI bb) S0 B W = (if ((l5 >>> ((7 : Int32) &&& 31)) &&& (3 : Int32)) = 0 then f_L_board_J66 0 xs Ln 0 l5 l6 (2 : Int32) (iI (smN (l5 >>> ((9 : Int32) &&& 31)) 5)) S0 (fset B 1 (iI (1 + smN l5 bb : Nat))) W else f_L_board_J66 0 xs Ln 0 l5 l6 (2 : Int32) (0 : Int32) S0 (fset B 1 (iI (1 + smN l5 bb : Nat))) W) := by
    intro B W
    unfold f_L_board_J36
    rw [bx_ok (some_ok (by omega) _), ob_in (vinl (by decide)), iI_s2, sq_k, show (1 : Int32).toNatClampNeg = 1 from rfl, bx_ok (show f_L_some (l5 >>> ((9 : Int32) &&& 31)) (5 : Int32) S0 = some (iI (smN (l5 >>> ((9 : Int32) &&& 31)) 5), S0) from some_ok (by decide) _)]
  have h1 : ∀ (x : Nat) (B : Nat → Int32), HBn (updN u 2 x) 1 (fset B 1 (iI (1 + smN l5 bb : Nat))) := fun x B => HB_ext (n := 0) (fun j h1 h2 => absurd h1 (by omega)) rfl (by rw [updN_ne _ _ (by omega), hu])
  by_cases hc : ((l5 >>> ((7 : Int32) &&& 31)) &&& (3 : Int32)) = 0
  · refine GG_step (fun B W hB => ⟨_, W, h1 (smN (l5 >>> ((9 : Int32) &&& 31)) 5) B, ?_⟩) (J66_ok (xs := xs) (l5 := l5) (l6 := l6) (u := updN u 2 (smN (l5 >>> ((9 : Int32) &&& 31)) 5)) hV hE hLn (UB_ext hU1 rfl (by decide) (show _ ≤ 8 by omega)))
    rw [pre, if_pos hc]; rfl
  · refine GG_step (fun B W hB => ⟨_, W, h1 0 B, ?_⟩) (J66_ok (xs := xs) (l5 := l5) (l6 := l6) (u := updN u 2 0) hV hE hLn (UB_ext hU1 rfl (by decide) (Nat.zero_le _)))
    rw [pre, if_neg hc]; rfl
theorem board_ok {S0 : St} {T : Tst} {xs : Nat → Int32} {Ln : Nat} (hV : VT T) (hE : IE S0 T) (hLn : Ln < 2147483648) : ∃ d, GG (fun B W => f_L_board 0 xs Ln (0 : Int32) S0 B W) (fun _ _ => True) d := by
  have pre : ∀ B W : Nat → Int32, f_L_board 0 xs Ln (0 : Int32) S0 B W = (if (cellF xs Ln 0 &&& (1073741824 : Int32)) = 0 then f_L_board_J36 0 xs Ln 0 (cellF xs Ln 0) (cellF xs Ln ((0 : Int32) + (1 : Int32))) (1 : Int32) (1 : Int32) (cellF xs Ln 0) (iI (30 : Nat)) S0 B W else f_L_board_J36 0 xs Ln 0 (cellF xs Ln 0) (cellF xs Ln ((0 : Int32) + (1 : Int32))) (1 : Int32) (1 : Int32) (cellF xs Ln 0) (iI (60 : Nat)) S0 B W) := by
    intro B W
    unfold f_L_board
    rw [ck_pos ⟨by decide, hLn⟩, sq_k, ck_pos ⟨by decide, hLn⟩, sq_k]
    rfl
  by_cases hc : (cellF xs Ln 0 &&& (1073741824 : Int32)) = 0
  · exact ⟨_, GG_step (fun B W _ => ⟨B, W, trivial, by rw [pre, if_pos hc]⟩) (J36_ok (xs := xs) (l5 := cellF xs Ln 0) (l6 := cellF xs Ln ((0 : Int32) + (1 : Int32))) (bb := 30) hV hE hLn (by decide))⟩
  · exact ⟨_, GG_step (fun B W _ => ⟨B, W, trivial, by rw [pre, if_neg hc]⟩) (J36_ok (xs := xs) (l5 := cellF xs Ln 0) (l6 := cellF xs Ln ((0 : Int32) + (1 : Int32))) (bb := 60) hV hE hLn (by decide))⟩
/-- what is left of the claim, in words of the functions alone -/
theorem fun_ok : ∃ S1 : St, f_X9_initB 0 S0 = some ((), S1) ∧ ∀ (xs : Nat → Int32) (L : Nat), L ≤ 260 → ∃ (Sb : St) (LI2 : St → Prop) (b0 b3 : Int32), (∀ B W : Nat → Int32, ∃ B2 W2 : Nat → Int32, f_L_board 0 xs L (0 : Int32) S1 B W = some ((1 : Int32), Sb, B2, W2) ∧ B2 (Int32.toNatClampNeg (0 : Int32)) = b0 ∧ B2 (Int32.toNatClampNeg (3 : Int32)) = b3) ∧ LI2 Sb ∧ ∀ S, LI2 S → Refus S ∧ ∀ (x y : Int32) (t : Nat), t < 40 → ∃ S4, Round b0 b3 x y (iI t) S S4 ∧ LI2 S4 := by
  obtain ⟨I, J, h1, h2⟩ := start_E
  refine ⟨(I, J, R0), h1, fun xs L hL => ?_⟩
  obtain ⟨d, n, Sb, g1, g2⟩ := board_ok (xs := xs) (Ln := L) T0_V h2 (by omega)
  exact ⟨Sb, LI n d, iI n, iI d, fun B W => g2 B W trivial, g1, fun S hS => round_ok hS⟩
