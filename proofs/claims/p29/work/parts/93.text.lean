/-! the law's own writing: a machine's state by its text alone -/
def tx (l : List Nat) : Nat → Nat := fun j => l.getD j 0
def txt (S0 : St) (bs : List Nat) : St := (fun a => if a = 1 then (fun k => if k = 1 then iI bs.length else S0.1 1 k) else if a = 2 then (fun j => if j < bs.length then iI (tx bs j) else S0.1 2 j) else S0.1 a, S0.2)
theorem txt_1 (S0 : St) (bs : List Nat) (k : Nat) : (txt S0 bs).1 1 k = if k = 1 then iI bs.length else S0.1 1 k := rfl
theorem txt_2 (S0 : St) (bs : List Nat) (j : Nat) : (txt S0 bs).1 2 j = if j < bs.length then iI (tx bs j) else S0.1 2 j := rfl
theorem txt_o (S0 : St) (bs : List Nat) {a : Nat} (h : a ≠ 1 ∧ a ≠ 2) : (txt S0 bs).1 a = S0.1 a := by
  show (if a = 1 then _ else if a = 2 then _ else S0.1 a) = S0.1 a
  rw [if_neg h.1, if_neg h.2]
theorem tx_app (a b : List Nat) (j : Nat) : tx (a ++ b) j = if j < a.length then tx a j else tx b (j - a.length) := by
  unfold tx
  by_cases h : j < a.length
  · rw [if_pos h, List.getD_eq_getElem?_getD, List.getD_eq_getElem?_getD, List.getElem?_append_left h]
  · rw [if_neg h, List.getD_eq_getElem?_getD, List.getD_eq_getElem?_getD, List.getElem?_append_right (by omega)]
theorem txt_put (S0 : St) (bs : List Nat) (c : Nat) : pI (pI (txt S0 bs) 2 bs.length (iI c)) 1 1 (iI (bs.length + 1 : Nat)) = txt S0 (bs ++ [c]) := by
  refine Prod.ext ?_ rfl
  funext a k
  rw [pI_1]
  by_cases h1 : a = 1
  · subst h1
    rw [txt_1, List.length_append]
    by_cases hk : k = 1
    · rw [if_pos ⟨rfl, hk⟩, if_pos hk]; rfl
    · rw [if_neg (fun z => hk z.2), if_neg hk, pI_1, if_neg (fun z => absurd z.1 (by decide)), txt_1, if_neg hk]
  · rw [if_neg (fun z => h1 z.1), pI_1]
    by_cases h2 : a = 2
    · subst h2
      rw [txt_2 S0 (bs ++ [c]), List.length_append, tx_app]
      by_cases hk : k = bs.length
      · rw [if_pos ⟨rfl, hk⟩, if_pos (by rw [hk]; exact Nat.lt_succ_self _), if_neg (by omega), hk, Nat.sub_self]; rfl
      · rw [if_neg (fun z => hk z.2), txt_2]
        by_cases hl : k < bs.length
        · rw [if_pos hl, if_pos (by show k < bs.length + 1; omega), if_pos hl]
        · rw [if_neg hl, if_neg (by show ¬ k < bs.length + 1; omega)]
    · rw [if_neg (fun z => h2 z.1), txt_o _ _ ⟨h1, h2⟩, txt_o _ _ ⟨h1, h2⟩]
theorem byc {c : Nat} (h : c < 256) : byE (Int32.toInt64 (iI c)) (iI 0) = iI c := (by decide +kernel : ∀ c : Fin 256, byE (Int32.toInt64 (iI ((c.val : Nat) : Int))) (iI 0) = iI ((c.val : Nat) : Int)) ⟨c, h⟩
theorem FU_2 : ∃ n, FU = n + 2 := ⟨9998, rfl⟩
theorem wr1 {S0 : St} {bs : List Nat} {c : Nat} (hc : c < 256) (hl : bs.length + 1 ≤ 300) : f_X9_write 0 (1 : Int32) (Int32.toInt64 (iI c)) (txt S0 bs) = some (iI (bs.length + 1 : Nat), txt S0 (bs ++ [c])) := by
  have w : f_X9_isWithin (1 : Int32) (1 : Int32) (8 : Int32) (txt S0 bs) = some (1, txt S0 bs) := within_ok (by unfold bad; decide)
  have t1 : (txt S0 bs).1 1 1 = iI bs.length := rfl
  have p : f_X7_put (0 + 1) (1 : Int32) (Int32.toInt64 (iI c)) (txt S0 bs) = some (1, txt S0 (bs ++ [c])) := by
    show f_X7_put 1 (1 : Int32) (Int32.toInt64 (iI c)) (txt S0 bs) = _
    unfold f_X7_put
    obtain ⟨N, hN⟩ := FU_2
    rw [t1, if_pos (by rw [show (1 : Int32) = iI 1 from rfl, iI_add, show (300 : Int32) = iI 300 from rfl, iI_le (by omega) (by omega)]; omega), sq_k, show (1 : Int32) - (1 : Int32) = 0 from rfl, hN, f_X7_put_L19, if_neg (by decide), t1, ob_iI (by omega), iI_nat (by omega)]
    dsimp only [sq, Nat.reduceAdd]
    rw [pI_row (by omega), t1, show iI (bs.length : Int) + (1 : Int32) = iI (bs.length + 1 : Nat) from iI_add _ 1, f_X7_put_L19, if_pos (by decide)]
    show some ((1 : Int32), pI (pI (txt S0 bs) 2 bs.length (byE (Int32.toInt64 (iI c)) (iI 0))) 1 1 (iI (bs.length + 1 : Nat))) = _
    rw [byc hc, txt_put]
  unfold f_X9_write
  rw [bd_ok w, if_neg (by decide), bd_ok p, if_neg (by decide)]
  show some ((txt S0 (bs ++ [c])).1 1 1, txt S0 (bs ++ [c])) = _
  rw [txt_1, if_pos rfl, List.length_append]; rfl
theorem iI_npos {a : Nat} (h : 1 ≤ a ∧ a < 2147483648) : ¬ iI a ≤ (0 : Int32) := by rw [show (0 : Int32) = iI 0 from rfl, iI_le (by omega) (by omega)]; omega
/-! a number and what stands behind it -/
def digs (v : Nat) : List Nat := if 100 ≤ v then [48 + v / 100 % 10, 48 + v / 10 % 10, 48 + v / 1 % 10] else if 10 ≤ v then [48 + v / 10 % 10, 48 + v / 1 % 10] else [48 + v / 1 % 10]
theorem digs_len (v : Nat) : 1 ≤ (digs v).length ∧ (digs v).length ≤ 3 := by
  unfold digs
  by_cases h1 : 100 ≤ v
  · rw [if_pos h1]; exact ⟨(show 1 ≤ 3 by omega), (show 3 ≤ 3 by omega)⟩
  · rw [if_neg h1]
    by_cases h2 : 10 ≤ v
    · rw [if_pos h2]; exact ⟨(show 1 ≤ 2 by omega), (show 2 ≤ 3 by omega)⟩
    · rw [if_neg h2]; exact ⟨(show 1 ≤ 1 by omega), (show 1 ≤ 3 by omega)⟩
theorem num_W {S0 : St} {bs : List Nat} {v z k : Nat} (hv : v ≤ 999) (hk : k = 1 ∨ k = 10 ∨ k = 100) (hl : bs.length + 1 ≤ 300) (kb : Int32 → Int32 → St → Option (Int32 × St)) : f_L_number_J27 0 (iI v) (iI z) kb (iI k) (txt S0 bs) = kb 1 (iI (k / 10 : Nat)) (txt S0 (bs ++ [48 + v / k % 10])) := by
  have hk0 : 0 < k ∧ k ≤ 100 := by omega
  have hq : v / k ≤ 999 := Nat.le_trans (Nat.div_le_self _ _) hv
  have e1 : iI (v : Int) / iI (k : Int) = iI (v / k : Nat) := by rw [iI_div (by omega) (by omega)]; rfl
  have e2 : (48 : Int32) + (iI (v / k : Nat) - iI (v / k : Nat) / (10 : Int32) * (10 : Int32)) = iI (48 + v / k % 10 : Nat) := by
    generalize v / k = w at hq
    rw [show (10 : Int32) = iI 10 from rfl, iI_rem (by omega) (by omega), show (48 : Int32) = iI 48 from rfl, iI_add]; congr 1
  have e3 : iI (k : Int) / (10 : Int32) = iI (k / 10 : Nat) := by rw [show (10 : Int32) = iI 10 from rfl, iI_div (by omega) (by omega)]; rfl
  have hm := Nat.mod_lt (v / k) (show 0 < 10 by decide)
  unfold f_L_number_J27
  rw [ck_pos (by rw [show (0 : Int32) = iI 0 from rfl, iI_eq (by omega) (by omega)]; omega), e1, e2, bd_ok (wr1 (by omega) hl), if_neg (iI_npos (by omega)), sq_k, e3]
theorem num_ok {S0 : St} {bs : List Nat} {v z : Nat} (hv : v ≤ 999) (hz : z < 256) (hl : bs.length + 4 ≤ 300) : f_L_number 0 (iI v) (iI z) (txt S0 bs) = some (1, txt S0 (bs ++ digs v ++ [z])) := by
  have stepW : ∀ (N k : Nat) (cs : List Nat), (k = 1 ∨ k = 10 ∨ k = 100) → (k ≤ v ∨ k = 1) → cs.length + 1 ≤ 300 → f_L_number_L6 (N + 1) 0 (iI v) (iI z) 1 (iI k) (txt S0 cs) = f_L_number_L6 N 0 (iI v) (iI z) 1 (iI (k / 10 : Nat)) (txt S0 (cs ++ [48 + v / k % 10])) := by
    intro N k cs hk hkv hc
    rw [f_L_number_L6, if_neg (iI_npos (by omega)), if_neg (by decide)]
    by_cases h : k ≤ v
    · rw [if_pos (by rw [iI_le (by omega) (by omega)]; omega), num_W hv hk hc]
    · rw [if_neg (by rw [iI_le (by omega) (by omega)]; omega), if_neg (by rw [show (1 : Int32) = iI 1 from rfl, iI_lt (by omega) (by omega)]; omega), num_W hv hk hc]
  have stepS : ∀ (N k : Nat) (S : St), (k = 10 ∨ k = 100) → v < k → f_L_number_L6 (N + 1) 0 (iI v) (iI z) 1 (iI k) S = f_L_number_L6 N 0 (iI v) (iI z) 1 (iI (k / 10 : Nat)) S := by
    intro N k S hk hkv
    rw [f_L_number_L6, if_neg (iI_npos (by omega)), if_neg (by decide), if_neg (by rw [iI_le (by omega) (by omega)]; omega), if_pos (by rw [show (1 : Int32) = iI 1 from rfl, iI_lt (by omega) (by omega)]; omega), sq_k]
    rw [show iI (k : Int) / (10 : Int32) = iI (k / 10 : Nat) by rw [show (10 : Int32) = iI 10 from rfl, iI_div (by omega) (by omega)]; rfl]
  have fin : ∀ (N : Nat) (cs : List Nat), cs.length + 1 ≤ 300 → f_L_number_L6 (N + 1) 0 (iI v) (iI z) 1 (iI (0 : Nat)) (txt S0 cs) = some (1, txt S0 (cs ++ [z])) := by
    intro N cs hc
    rw [f_L_number_L6, if_pos (by decide), if_neg (by decide), bd_ok (wr1 hz hc), if_neg (iI_npos (by omega))]
  obtain ⟨N, hN⟩ : ∃ n, FU = n + 4 := ⟨9996, rfl⟩
  unfold f_L_number
  rw [hN, show (100 : Int32) = iI (100 : Nat) from rfl]
  unfold digs
  by_cases h1 : 100 ≤ v
  · rw [if_pos h1, stepW (N + 3) 100 bs (by omega) (by omega) (by omega), show (100 / 10 : Nat) = 10 from rfl, stepW (N + 2) 10 _ (by omega) (by omega) (by rw [List.length_append]; show bs.length + 1 + 1 ≤ 300; omega), show (10 / 10 : Nat) = 1 from rfl, stepW (N + 1) 1 _ (by omega) (by omega) (by rw [List.length_append, List.length_append]; show bs.length + 1 + 1 + 1 ≤ 300; omega), show (1 / 10 : Nat) = 0 from rfl, fin N _ (by rw [List.length_append, List.length_append, List.length_append]; show bs.length + 1 + 1 + 1 + 1 ≤ 300; omega)]
    rw [List.append_assoc, List.append_assoc, List.append_assoc, List.append_assoc]; rfl
  · rw [if_neg h1, stepS (N + 3) 100 _ (by omega) (by omega), show (100 / 10 : Nat) = 10 from rfl]
    by_cases h2 : 10 ≤ v
    · rw [if_pos h2, stepW (N + 2) 10 _ (by omega) (by omega) (by omega), show (10 / 10 : Nat) = 1 from rfl, stepW (N + 1) 1 _ (by omega) (by omega) (by rw [List.length_append]; show bs.length + 1 + 1 ≤ 300; omega), show (1 / 10 : Nat) = 0 from rfl, fin N _ (by rw [List.length_append, List.length_append]; show bs.length + 1 + 1 + 1 ≤ 300; omega)]
      rw [List.append_assoc, List.append_assoc, List.append_assoc]; rfl
    · rw [if_neg h2, stepS (N + 2) 10 _ (by omega) (by omega), show (10 / 10 : Nat) = 1 from rfl, stepW (N + 1) 1 _ (by omega) (by omega) (by omega), show (1 / 10 : Nat) = 0 from rfl, fin N _ (by rw [List.length_append]; show bs.length + 1 + 1 ≤ 300; omega)]
/-! an item -/
def sepN (r : Nat) : Nat := if r = 0 then 59 else 44
/-- the last r of m numbers -/
def numsB (v : Nat → Nat) (m : Nat) : Nat → List Nat
  | 0 => []
  | r + 1 => digs (v (m - (r + 1))) ++ [sepN r] ++ numsB v m r
def itemB (l m : Nat) (v : Nat → Nat) : List Nat := l :: numsB v m m
theorem numsB_len (v : Nat → Nat) (m : Nat) : ∀ r, (numsB v m r).length ≤ 4 * r
  | 0 => Nat.zero_le _
  | r + 1 => by
    have := digs_len (v (m - (r + 1)))
    have := numsB_len v m r
    unfold numsB
    rw [List.length_append, List.length_append]
    show _ + 1 + _ ≤ _
    omega
theorem itemB_len (l m : Nat) (v : Nat → Nat) : (itemB l m v).length ≤ 1 + 4 * m := by
  have := numsB_len v m m
  show (numsB v m m).length + 1 ≤ _
  omega
theorem item_L {S0 : St} {m : Nat} {v : Nat → Nat} {A3 A4 A5 A6 A7 L : Int32} (hm : m ≤ 5) (hv : ∀ j, v j ≤ 999) (h3 : A3 = iI (v 0)) (h4 : A4 = iI (v 1)) (h5 : A5 = iI (v 2)) (h6 : A6 = iI (v 3)) (h7 : A7 = iI (v 4)) : ∀ (r N : Nat) (bs : List Nat), r ≤ m → r < N → bs.length + 4 * r ≤ 300 → f_L_item_L20 N 0 L (iI m) A3 A4 A5 A6 A7 1 (iI (m - r : Nat)) (txt S0 bs) = some (1, txt S0 (bs ++ numsB v m r)) := by
  intro r
  induction r with
  | zero =>
    intro N bs hr hN hl
    obtain ⟨N, rfl⟩ : ∃ k, N = k + 1 := ⟨N - 1, by omega⟩
    rw [f_L_item_L20, if_pos (by rw [iI_le (by omega) (by omega)]; omega), ck_pos (by decide)]
    show some ((1 : Int32), txt S0 bs) = some ((1 : Int32), txt S0 (bs ++ []))
    rw [List.append_nil]
  | succ r ih =>
    intro N bs hr hN hl
    obtain ⟨N, rfl⟩ : ∃ k, N = k + 1 := ⟨N - 1, by omega⟩
    have hz : sepN r < 256 := by unfold sepN; split <;> decide
    have j76 : ∀ w : Int32, w = iI (v (m - (r + 1))) → f_L_item_J76 0 L (iI m) A3 A4 A5 A6 A7 (fun l8 l9 S => f_L_item_L20 N 0 L (iI m) A3 A4 A5 A6 A7 l8 l9 S) (iI (m - (r + 1) : Nat)) 0 w (txt S0 bs) = some (1, txt S0 (bs ++ numsB v m (r + 1))) := by
      intro w hw
      have j91 : f_L_item_J91 0 L (iI m) A3 A4 A5 A6 A7 (fun l8 l9 S => f_L_item_L20 N 0 L (iI m) A3 A4 A5 A6 A7 l8 l9 S) (iI (m - (r + 1) : Nat)) 0 w (iI (sepN r)) (txt S0 bs) = some (1, txt S0 (bs ++ numsB v m (r + 1))) := by
        unfold f_L_item_J91
        rw [hw, bd_ok (num_ok (hv _) hz (by omega)), if_neg (by decide), show iI (m - (r + 1) : Nat) + (1 : Int32) = iI (m - r : Nat) by rw [show (1 : Int32) = iI 1 from rfl, iI_add]; congr 1; omega]
        have hd := digs_len (v (m - (r + 1)))
        dsimp only
        rw [ih N (bs ++ digs (v (m - (r + 1))) ++ [sepN r]) (by omega) (by omega) (by rw [List.length_append, List.length_append]; show bs.length + _ + 1 + 4 * r ≤ 300; omega)]
        show some ((1 : Int32), txt S0 (bs ++ digs (v (m - (r + 1))) ++ [sepN r] ++ numsB v m r)) = some ((1 : Int32), txt S0 (bs ++ (digs (v (m - (r + 1))) ++ [sepN r] ++ numsB v m r)))
        rw [List.append_assoc, List.append_assoc, List.append_assoc]
      unfold f_L_item_J76
      unfold sepN at j91
      by_cases h0 : r = 0
      · rw [if_pos (by rw [show (1 : Int32) = iI 1 from rfl, iI_sub, iI_le (by omega) (by omega)]; omega)]
        rw [if_pos h0] at j91
        exact j91
      · rw [if_neg (by rw [show (1 : Int32) = iI 1 from rfl, iI_sub, iI_le (by omega) (by omega)]; omega)]
        rw [if_neg h0] at j91
        exact j91
    rw [f_L_item_L20, if_neg (by rw [iI_le (by omega) (by omega)]; omega), if_neg (by decide)]
    have hk : m - (r + 1) ≤ 4 := by omega
    generalize m - (r + 1) = k at hk j76 ⊢
    match k, hk with
    | 0, _ => rw [if_pos (show iI ((0 : Nat) : Int) = (0 : Int32) from rfl)]; exact j76 _ h3
    | 1, _ => rw [if_neg (by decide), if_pos (show iI ((1 : Nat) : Int) = (1 : Int32) from rfl)]; exact j76 _ h4
    | 2, _ => rw [if_neg (by decide), if_neg (by decide), if_pos (show iI ((2 : Nat) : Int) = (2 : Int32) from rfl)]; exact j76 _ h5
    | 3, _ => rw [if_neg (by decide), if_neg (by decide), if_neg (by decide), if_pos (show iI ((3 : Nat) : Int) = (3 : Int32) from rfl)]; exact j76 _ h6
    | 4, _ => rw [if_neg (by decide), if_neg (by decide), if_neg (by decide), if_neg (by decide)]; exact j76 _ h7
    | k + 5, h => exact absurd h (by omega)
theorem item_ok {S0 : St} {bs : List Nat} {l m : Nat} {v : Nat → Nat} {L M A3 A4 A5 A6 A7 : Int32} (hl : l < 256) (hm : m ≤ 5) (hv : ∀ j, v j ≤ 999) (hL : L = iI l) (hM : M = iI m) (h3 : A3 = iI (v 0)) (h4 : A4 = iI (v 1)) (h5 : A5 = iI (v 2)) (h6 : A6 = iI (v 3)) (h7 : A7 = iI (v 4)) (hb : bs.length + 21 ≤ 300) : f_L_item 0 L M A3 A4 A5 A6 A7 (txt S0 bs) = some (1, txt S0 (bs ++ itemB l m v)) := by
  subst hL
  subst hM
  unfold f_L_item
  rw [bd_ok (wr1 hl (by omega)), if_neg (iI_npos (by omega))]
  have h := item_L (S0 := S0) (L := iI l) hm hv h3 h4 h5 h6 h7 m FU (bs ++ [l]) (Nat.le_refl _) (by unfold FU; omega) (by rw [List.length_append]; show bs.length + 1 + 4 * m ≤ 300; omega)
  rw [Nat.sub_self] at h
  refine Eq.trans h ?_
  rw [List.append_assoc]; rfl
