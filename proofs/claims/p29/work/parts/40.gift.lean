/-! what one gives, on both sides -/
theorem lackS_le (sh bar g : Nat) : lackS sh bar g ≤ bar := by
  unfold lackS
  by_cases h0 : sh = 0
  · rw [if_pos h0]; omega
  rw [if_neg h0]
  by_cases h1 : sh = 1
  · rw [if_pos h1]; omega
  rw [if_neg h1]; omega
theorem E_lack {c : Nat} {S : St} {sh bar g : Nat} (hs : S.1 c 2 = iI sh) (h1 : sh ≤ 2) (hb : bar ≤ 1000) (hg : g ≤ 1000000) : f_X1_lackOf c (iI bar) (iI g) S = some (iI (lackS sh bar g), S) := by
  have fin : ∀ l : Nat, l ≤ 1000000 → f_X1_lackOf_J28 c (iI bar) (iI g) (iI l) S = some (iI (bar - l : Nat), S) := fun l hl => by
    unfold f_X1_lackOf_J28
    rw [show (0 : Int32) = iI 0 from rfl, iI_sub, imax_iI (by omega) (by omega)]
    congr 3; omega
  unfold f_X1_lackOf f_X1_lackOf_J12
  rw [hs]
  unfold lackS
  by_cases s1 : sh = 1
  · rw [if_pos (by rw [show (1 : Int32) = iI 1 from rfl, iI_eq (by omega) (by omega)]; omega), if_neg (by rw [show (2 : Int32) = iI 2 from rfl, iI_eq (by omega) (by omega)]; omega), if_neg (by omega), if_pos s1]
    exact fin 0 (by omega)
  rw [if_neg (by rw [show (1 : Int32) = iI 1 from rfl, iI_eq (by omega) (by omega)]; omega)]
  by_cases s2 : sh = 2
  · rw [if_pos (by rw [show (2 : Int32) = iI 2 from rfl, iI_eq (by omega) (by omega)]; omega), if_neg (by omega), if_neg s1]
    dsimp only [sq]
    rw [show (10 : Int32) = iI 10 from rfl, iI_div (by omega) (by omega), iI_mul]
    exact fin (g / 10 * 10) (by omega)
  · rw [if_neg (by rw [show (2 : Int32) = iI 2 from rfl, iI_eq (by omega) (by omega)]; omega), if_pos (by omega)]
    exact fin g hg
theorem M_lack {S : St} {sh bar g : Nat} (hs : S.1 103 22 = iI sh) (h1 : sh ≤ 2) (hb : bar ≤ 1000) (hg : g ≤ 1000000) : f_X10_lackOf 103 (iI bar) (iI g) S = some (iI (lackS sh bar g), S) := by
  have fin : ∀ l : Nat, l ≤ 1000000 → f_X10_lackOf_J29 103 (iI bar) (iI g) (iI l) S = some (iI (bar - l : Nat), S) := fun l hl => by
    unfold f_X10_lackOf_J29
    by_cases hc : bar ≤ l
    · rw [if_pos (by rw [iI_le (by omega) (by omega)]; omega)]
      congr 2
      rw [show bar - l = 0 by omega]; rfl
    · rw [if_neg (by rw [iI_le (by omega) (by omega)]; omega), iI_sub]
      congr 3; omega
  unfold f_X10_lackOf
  rw [hs]
  unfold lackS
  by_cases s0 : sh = 0
  · rw [if_pos (by rw [show (0 : Int32) = iI 0 from rfl, iI_eq (by omega) (by omega)]; omega), if_pos s0]
    exact fin g hg
  rw [if_neg (by rw [show (0 : Int32) = iI 0 from rfl, iI_eq (by omega) (by omega)]; omega), if_neg s0]
  by_cases s1 : sh = 1
  · rw [if_pos (by rw [show (1 : Int32) = iI 1 from rfl, iI_eq (by omega) (by omega)]; omega), if_pos s1]
    exact fin 0 (by omega)
  · rw [if_neg (by rw [show (1 : Int32) = iI 1 from rfl, iI_eq (by omega) (by omega)]; omega), if_neg s1, show (10 : Int32) = iI 10 from rfl, iI_rem (by omega) (by omega), iI_sub]
    have := fin (g / 10 * 10) (by omega)
    rw [show ((g : Int) - (g : Int) % 10) = ((g / 10 * 10 : Nat) : Int) by omega]
    exact this
theorem div_le_num (l r : Nat) (hr : 1 ≤ r) : (l + r - 1) / r ≤ l := by
  rcases Nat.eq_zero_or_pos l with h | h
  · subst h
    rw [Nat.div_eq_of_lt (by omega)]; exact Nat.le_refl _
  · apply Nat.div_le_of_le_mul
    have : r + l ≤ r * l + 1 := by
      obtain ⟨a, rfl⟩ : ∃ a, r = a + 1 := ⟨r - 1, by omega⟩
      obtain ⟨b, rfl⟩ : ∃ b, l = b + 1 := ⟨l - 1, by omega⟩
      rw [Nat.add_mul, Nat.mul_add]; omega
    omega
theorem fairI {l r : Nat} (hl : l ≤ 1000) (hr : 1 ≤ r ∧ r ≤ 8) : ((iI l + iI r) - (1 : Int32)) / iI r = iI ((l + r - 1) / r : Nat) := by
  rw [show (1 : Int32) = iI 1 from rfl, iI_add, iI_sub, iI_div (by omega) (by omega)]
  rw [Int.natCast_ediv]; congr 2; omega
theorem E_kind {S : St} {k m l r : Nat} (hk : k ≤ 5) (hm : m ≤ 1000) (hl : l ≤ 1000) (hr : 1 ≤ r ∧ r ≤ 8) : f_X1_giftByKind (iI k) (iI m) (iI l) (iI r) S = some (iI (gkS k m l r), S) := by
  unfold f_X1_giftByKind gkS
  by_cases k0 : k = 0
  · rw [if_pos (by rw [show (0 : Int32) = iI 0 from rfl, iI_eq (by omega) (by omega)]; omega), if_pos k0]
    by_cases r1 : r = 1
    · rw [if_pos (by rw [show (1 : Int32) = iI 1 from rfl, iI_eq (by omega) (by omega)]; omega)]
      by_cases hc : l ≤ m
      · rw [if_neg (by rw [iI_lt (by omega) (by omega)]; omega), if_pos ⟨r1, hc⟩]
      · rw [if_pos (by rw [iI_lt (by omega) (by omega)]; omega), if_neg (by omega)]; rfl
    · rw [if_neg (by rw [show (1 : Int32) = iI 1 from rfl, iI_eq (by omega) (by omega)]; omega), if_neg (by omega)]; rfl
  rw [if_neg (by rw [show (0 : Int32) = iI 0 from rfl, iI_eq (by omega) (by omega)]; omega), if_neg k0]
  by_cases k2 : k = 2
  · rw [if_pos (by rw [show (2 : Int32) = iI 2 from rfl, iI_eq (by omega) (by omega)]; omega), if_pos k2, show (1 : Int32) = iI 1 from rfl, show (2 : Int32) = iI 2 from rfl, iI_add, iI_div (by omega) (by omega)]
    congr 3
  rw [if_neg (by rw [show (2 : Int32) = iI 2 from rfl, iI_eq (by omega) (by omega)]; omega), if_neg k2]
  by_cases k4 : k = 4
  · rw [if_pos (by rw [show (4 : Int32) = iI 4 from rfl, iI_eq (by omega) (by omega)]; omega), if_pos k4]
    by_cases hc : l ≤ m
    · rw [if_neg (by rw [iI_lt (by omega) (by omega)]; omega), if_pos hc]
    · rw [if_pos (by rw [iI_lt (by omega) (by omega)]; omega), if_neg hc]; rfl
  have hd : (l + r - 1) / r ≤ l := div_le_num l r hr.1
  rw [if_neg (by rw [show (4 : Int32) = iI 4 from rfl, iI_eq (by omega) (by omega)]; omega), if_neg k4, fairI hl hr, if_pos (by rw [show (1 : Int32) = iI 1 from rfl, iI_le (by omega) (by omega)]; omega), ck_pos (by rw [show (0 : Int32) = iI 0 from rfl, iI_eq (by omega) (by omega)]; omega)]
  generalize (l + r - 1) / r = q at hd ⊢
  rw [imin_iI (by omega) (by omega)]
  congr 3; omega
def gB (B : Bd) (L e k i w z l r : Nat) : Nat := if k = 5 then min (B 3 (B 7 i)) z else if k = 3 ∧ dayL B L i ≤ B 0 6 then min (min (min w z + e) z) l else gkS k (min w z) l r
theorem M_lesser {a b : Nat} {S : St} (ha : a ≤ 1000000) (hb : b ≤ 1000000) : f_X10_lesser (iI a) (iI b) S = some (iI (min a b : Nat), S) := by
  unfold f_X10_lesser
  by_cases h : b ≤ a
  · rw [if_pos (by rw [iI_le (by omega) (by omega)]; omega), Nat.min_eq_right h]
  · rw [if_neg (by rw [iI_le (by omega) (by omega)]; omega), Nat.min_eq_left (by omega)]
theorem dayL_le {B : Bd} {L i : Nat} (hV : VB B) (hL : L ≤ 30) (hi : i < B 9 1) : dayL B L i ≤ 200 := by
  unfold dayL
  by_cases h : B 1 (B 7 i) = 4
  · rw [if_pos h]; omega
  · rw [if_neg h]; exact (hV.2.2.2 i hi).2
theorem M_giftBy {S : St} {B : Bd} {L e k i w z l r : Nat} (hV : VB B) (hL30 : L ≤ 30) (hB : BM S B) (hL : S.1 103 20 = iI L) (he : S.1 103 21 = iI e) (he9 : e ≤ 9) (hi : i < B 9 1) (hk : k ≤ 5) (hw : w ≤ 1000) (hz : z ≤ 1000) (hl : l ≤ 1000) (hr : 1 ≤ r ∧ r ≤ 8) : f_X10_giftBy 103 (iI k) (iI i) (iI w) (iI z) (iI l) (iI r) S = some (iI (gB B L e k i w z l r), S) := by
  have hd : (l + r - 1) / r ≤ l := div_le_num l r hr.1
  have fair : ∀ m : Nat, m ≤ 1000 → bd (f_X10_lesser ((((iI l) + (iI r)) - (1 : Int32)) / (iI r)) (iI m) S) (fun x S => some (x, S)) = some (iI (min ((l + r - 1) / r) m : Nat), S) := fun m hm => by
    rw [fairI hl hr]
    generalize (l + r - 1) / r = q at hd ⊢
    rw [bd_ok (M_lesser (by omega) (by omega))]
  have hi8 : B 9 1 ≤ 8 := hV.2.1.2.2.2
  have w4 := hV.2.2.2 i hi
  have w3 := hV.2.2.1 _ w4.1
  have hns : B 9 0 ≤ 6 := hV.2.1.2.1
  have hso := hB.2.2.2.2 i hi
  have hsd := hB.2.2.2.1 _ w4.1
  have hmin : min w z ≤ 1000 := by omega
  have hck : ¬ iI (r : Int) = 0 := by rw [show (0 : Int32) = iI 0 from rfl, iI_eq (by omega) (by omega)]; omega
  unfold f_X10_giftBy
  rw [bd_ok (M_lesser (by omega) (by omega))]
  by_cases k0 : k = 0
  · have hR : gB B L e k i w z l r = if r = 1 ∧ l ≤ min w z then l else 0 := by
      unfold gB gkS; rw [if_neg (by omega), if_neg (by omega), if_pos k0]
    rw [if_pos (by rw [show (0 : Int32) = iI 0 from rfl, iI_eq (by omega) (by omega)]; omega), hR]
    by_cases r1 : r = 1
    · rw [if_pos (by rw [show (1 : Int32) = iI 1 from rfl, iI_eq (by omega) (by omega)]; omega)]
      by_cases hc : l ≤ min w z
      · rw [if_neg (by rw [iI_lt (by omega) (by omega)]; omega), if_pos ⟨r1, hc⟩]
      · rw [if_pos (by rw [iI_lt (by omega) (by omega)]; omega), if_neg (by omega)]; rfl
    · rw [if_neg (by rw [show (1 : Int32) = iI 1 from rfl, iI_eq (by omega) (by omega)]; omega), if_neg (by omega)]; rfl
  rw [if_neg (by rw [show (0 : Int32) = iI 0 from rfl, iI_eq (by omega) (by omega)]; omega)]
  by_cases k2 : k = 2
  · have hR : gB B L e k i w z l r = (min w z + 1) / 2 := by
      unfold gB gkS; rw [if_neg (by omega), if_neg (by omega), if_neg k0, if_pos k2]
    rw [if_pos (by rw [show (2 : Int32) = iI 2 from rfl, iI_eq (by omega) (by omega)]; omega), hR, show (1 : Int32) = iI 1 from rfl, show (2 : Int32) = iI 2 from rfl]
    generalize min w z = q at hmin ⊢
    rw [iI_add, iI_div (by omega) (by omega)]
    congr 3
  rw [if_neg (by rw [show (2 : Int32) = iI 2 from rfl, iI_eq (by omega) (by omega)]; omega)]
  by_cases k3 : k = 3
  · have hd2 := dayL_le (L := L) hV hL30 hi
    have h6 := hB.1 6 (by omega)
    have hV6 : B 0 6 ≤ 30 := hV.1.2.2.2.2.2.2.2.1
    rw [if_pos (by rw [show (3 : Int32) = iI 3 from rfl, iI_eq (by omega) (by omega)]; omega), bd_ok (M_dayOf hV hB hL hi), show Int32.toNatClampNeg 6 = 6 from rfl]
    dsimp only [Nat.reduceAdd]
    rw [h6]
    by_cases hc : dayL B L i ≤ B 0 6
    · have hR : gB B L e k i w z l r = min (min (min w z + e) z) l := by
        unfold gB; rw [if_neg (by omega), if_pos ⟨k3, hc⟩]
      rw [if_neg (by rw [iI_lt (by omega) (by omega)]; omega), hR, he, show iI (min w z : Nat) + iI e = iI (min w z + e : Nat) from iI_add _ _, bd_ok (M_lesser (by omega) (by omega)), bd_ok (M_lesser (by omega) (by omega))]
    · have hR : gB B L e k i w z l r = min ((l + r - 1) / r) (min w z) := by
        unfold gB gkS; rw [if_neg (by omega), if_neg (fun q => hc q.2), if_neg k0, if_neg k2, if_neg (by omega)]
      rw [if_pos (by rw [iI_lt (by omega) (by omega)]; omega), hR, ck_pos hck]
      exact fair _ hmin
  rw [if_neg (by rw [show (3 : Int32) = iI 3 from rfl, iI_eq (by omega) (by omega)]; omega)]
  by_cases k4 : k = 4
  · have hR : gB B L e k i w z l r = if l ≤ min w z then l else 0 := by
      unfold gB gkS; rw [if_neg (by omega), if_neg (by omega), if_neg k0, if_neg k2, if_pos k4]
    rw [if_pos (by rw [show (4 : Int32) = iI 4 from rfl, iI_eq (by omega) (by omega)]; omega), hR]
    by_cases hc : l ≤ min w z
    · rw [if_neg (by rw [iI_lt (by omega) (by omega)]; omega), if_pos hc]
    · rw [if_pos (by rw [iI_lt (by omega) (by omega)]; omega), if_neg hc]; rfl
  rw [if_neg (by rw [show (4 : Int32) = iI 4 from rfl, iI_eq (by omega) (by omega)]; omega)]
  by_cases k5 : k = 5
  · have hR : gB B L e k i w z l r = min (B 3 (B 7 i)) z := by unfold gB; rw [if_pos k5]
    rw [if_pos (by rw [show (5 : Int32) = iI 5 from rfl, iI_eq (by omega) (by omega)]; omega), hR, ob_iI (by omega), iI_nat (by omega)]
    dsimp only [Nat.reduceAdd]
    rw [hso.1, ob_iI (by omega), iI_nat (by omega), hsd.2.2.1, bd_ok (M_lesser (by omega) (by omega))]
  · have hR : gB B L e k i w z l r = min ((l + r - 1) / r) (min w z) := by
      unfold gB gkS; rw [if_neg k5, if_neg (by omega), if_neg k0, if_neg k2, if_neg k4]
    rw [if_neg (by rw [show (5 : Int32) = iI 5 from rfl, iI_eq (by omega) (by omega)]; omega), hR, ck_pos hck]
    exact fair _ hmin
theorem gB_gift (B : Bd) (L e i w l r : Nat) : gB B L e (B 1 (B 7 i)) i w (B 2 (B 7 i)) l r = giftS B e (dayL B L i) i w l r := by
  unfold gB giftS
  by_cases h5 : B 1 (B 7 i) = 5
  · rw [if_pos h5, if_pos h5]
  rw [if_neg h5, if_neg h5]
  by_cases h3 : B 1 (B 7 i) = 3 ∧ dayL B L i ≤ B 0 6
  · rw [if_pos h3, if_pos h3, Nat.min_comm]
  · rw [if_neg h3, if_neg h3]
