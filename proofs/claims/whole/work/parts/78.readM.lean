/-! texts read: the reference -/
def BM1 (S : St) (B : Bd) : Prop := (∀ k, k < 10 → S.1 105 (10 + k) = iI (B 0 k)) ∧ S.1 106 1 = iI (B 9 0) ∧
  ∀ s, s < B 9 0 → S.1 107 (6 + s) = iI (B 10 s) ∧ S.1 108 (6 + s) = iI (B 1 s) ∧ S.1 109 (6 + s) = iI (B 2 s) ∧ S.1 110 (6 + s) = iI (B 11 s) ∧ S.1 111 (6 + s) = iI (B 12 s) ∧ S.1 112 (6 + s) = iI (B 3 s) ∧ S.1 113 (6 + s) = iI (B 4 s) ∧ ∀ k, k < B 4 s → S.1 114 (18 + 3 * s + k) = iI (B 5 (3 * s + k)) ∧ S.1 115 (18 + 3 * s + k) = iI (B 6 (3 * s + k))
def PRt (a k : Nat) : Prop := (a = 105 ∧ 10 ≤ k) ∨ (a = 106 ∧ k = 1) ∨ (107 ≤ a ∧ a ≤ 113 ∧ 6 ≤ k) ∨ (114 ≤ a ∧ a ≤ 115 ∧ 18 ≤ k)
theorem PRt_rd {a k : Nat} (h : PRt a k) : PRd a k := by unfold PRt at h; unfold PRd; omega
theorem BM1_119 {S S2 : St} {B : Bd} (h : BM1 S B) (hf : Fr P119 S S2) : BM1 S2 B := by
  have r : ∀ a, 104 ≤ a → a ≤ 115 → S2.1 a = S.1 a := fun a h1 h2 => funext fun k => hf.1 a k (by unfold P119; omega)
  unfold BM1 at h ⊢
  rw [r 105 (by omega) (by omega), r 106 (by omega) (by omega), r 107 (by omega) (by omega), r 108 (by omega) (by omega), r 109 (by omega) (by omega), r 110 (by omega) (by omega), r 111 (by omega) (by omega), r 112 (by omega) (by omega), r 113 (by omega) (by omega), r 114 (by omega) (by omega), r 115 (by omega) (by omega)]
  exact h
def RM (o : Option Bd) (S : St) (R : Option (Int32 × St)) : Prop := ∃ (S2 : St) (b : Bool), R = some (bI b, S2) ∧ Fr PRt S S2 ∧ (o = none → b = false) ∧ ∀ B2, o = some B2 → b = true ∧ BM1 S2 B2
theorem RM_no {S S2 : St} {R : Option (Int32 × St)} (h : R = some (0, S2)) (hf : Fr PRt S S2) : RM none S R := ⟨S2, false, h, hf, fun _ => rfl, fun B2 h => absurd h (by simp)⟩
theorem RM_yes {S S2 : St} {R : Option (Int32 × St)} {B2 : Bd} (h : R = some (1, S2)) (hf : Fr PRt S S2) (hB : BM1 S2 B2) : RM (some B2) S R := ⟨S2, true, h, hf, fun h => absurd h (by simp), fun B3 h => ⟨rfl, by rw [← Option.some.inj h]; exact hB⟩⟩
theorem BM1_set {S : St} {k v : Nat} {B : Bd} (hk : k ≤ 9) (h : BM1 S B) : BM1 (pI S 105 (10 + k) (iI v)) (up1B B k v) := by
  obtain ⟨h1, h2, h3⟩ := h
  unfold BM1
  rw [up1B_r B k v 9 (by omega), up1B_r B k v 1 (by omega), up1B_r B k v 2 (by omega), up1B_r B k v 3 (by omega), up1B_r B k v 4 (by omega), up1B_r B k v 5 (by omega), up1B_r B k v 6 (by omega), up1B_r B k v 10 (by omega), up1B_r B k v 11 (by omega), up1B_r B k v 12 (by omega), pI_row (show (106 : Nat) ≠ 105 by omega), pI_row (show (107 : Nat) ≠ 105 by omega), pI_row (show (108 : Nat) ≠ 105 by omega), pI_row (show (109 : Nat) ≠ 105 by omega), pI_row (show (110 : Nat) ≠ 105 by omega), pI_row (show (111 : Nat) ≠ 105 by omega), pI_row (show (112 : Nat) ≠ 105 by omega), pI_row (show (113 : Nat) ≠ 105 by omega), pI_row (show (114 : Nat) ≠ 105 by omega), pI_row (show (115 : Nat) ≠ 105 by omega)]
  refine ⟨fun j hj => ?_, h2, h3⟩
  rw [pI_1, up1B_0]
  by_cases hc : j = k
  · rw [if_pos ⟨rfl, by rw [hc]⟩, if_pos hc]
  · rw [if_neg (by omega), if_neg hc]; exact h1 j hj
section TakeM
variable {S : St} {B : Bd} {v : Nat → Nat}
theorem M_copy {k many : Nat} {a3 a4 a5 : Int32} (hk : k + many ≤ 10) (hm : many ≤ 2) : ∀ (m N i : Nat) (S : St), i + m = many → m < N → (∀ j, j < many → S.1 120 j = iI (v j)) →
    ∃ S2 : St, f_X10_numberItem_L47 N 103 (iI k) (iI many) a3 a4 a5 (iI i) S = some (1, S2) ∧ S2 = (if m = 0 then S else if m = 1 then pI S 105 (10 + (k + i)) (iI (v i)) else pI (pI S 105 (10 + (k + i)) (iI (v i))) 105 (10 + (k + i + 1)) (iI (v (i + 1)))) := by
  intro m
  induction m with
  | zero =>
    intro N i S hi hN hv
    obtain ⟨N, rfl⟩ : ∃ k, N = k + 1 := ⟨N - 1, by omega⟩
    refine ⟨S, ?_, rfl⟩
    rw [f_X10_numberItem_L47, if_pos (by rw [iI_le (by omega) (by omega)]; omega)]
  | succ m ih =>
    intro N i S hi hN hv
    obtain ⟨N, rfl⟩ : ∃ k, N = k + 1 := ⟨N - 1, by omega⟩
    have x1 : (10 : Int32) + iI k + iI i = iI (10 + (k + i) : Nat) := by rw [show (10 : Int32) = iI 10 from rfl, iI_add, iI_add]; congr 1; omega
    obtain ⟨S2, y1, y2⟩ := ih N (i + 1) (pI S 105 (10 + (k + i)) (iI (v i))) (by omega) (by omega) (fun j hj => by rw [pI_row (by omega)]; exact hv j hj)
    refine ⟨S2, ?_, ?_⟩
    · rw [f_X10_numberItem_L47, if_neg (by rw [iI_le (by omega) (by omega)]; omega), x1, ob_iI (by omega), ob_iI (by omega), iI_nat (by omega), iI_nat (by omega)]
      dsimp only [Nat.reduceAdd]
      rw [hv i (by omega), sq_k, show iI i + (1 : Int32) = iI (i + 1 : Nat) from iI_add i 1]
      exact y1
    · rw [if_neg (show ¬ (m + 1 = 0) by omega), y2]
      by_cases hm0 : m = 0
      · rw [if_pos hm0, if_pos (by omega)]
      · rw [if_neg hm0, if_pos (show m = 1 by omega), if_neg (show ¬ (m + 1 = 1) by omega), show k + (i + 1) = k + i + 1 by omega]
/-- what numberItem does behind the figures -/
def nuC (k many low high second : Int32) (S6 : St) : Option (Int32 × St) := bd (f_X10_in (Int32.toInt64 (S6.1 (103 + 17) (Int32.toNatClampNeg (0 : Int32)))) (Int32.toInt64 low) (Int32.toInt64 high) S6) fun x9 S10 => if x9 = 0 then some ((0 : Int32), S10) else if many = (2 : Int32) then if (S10.1 (103 + 17) (Int32.toNatClampNeg (1 : Int32))) ≤ second then f_X10_numberItem_L47 FU 103 k many low high second (0 : Int32) S10 else some ((0 : Int32), S10) else f_X10_numberItem_L47 FU 103 k many low high second (0 : Int32) S10
theorem M_nu2 {k low high second : Nat} (hk : k + 2 ≤ 10) (hB : BM1 S B) (hv : ∀ j, j < 2 → S.1 120 j = iI (v j)) (h9 : ∀ j, v j ≤ 999) (hl : low ≤ 999) (hh : high ≤ 999) (hs : second ≤ 999) : RM (if low ≤ v 0 ∧ v 0 ≤ high ∧ v 1 ≤ second then some (up1B (up1B B k (v 0)) (k + 1) (v 1)) else none) S (nuC (iI k) (iI (2 : Nat)) (iI low) (iI high) (iI second) S) := by
  have v0 := hv 0 (by omega)
  have v1 := hv 1 (by omega)
  have a0 := h9 0
  have a1 := h9 1
  have hin := in_iI (z := (v 0 : Int)) (a := low) (b := high) (S := S) (by omega) (by omega) (by omega)
  unfold nuC
  dsimp only [Nat.reduceAdd]
  rw [cl0, cl1, v0, iI_l (a := (low : Int)) (by omega), iI_l (a := (high : Int)) (by omega), hin, bd_ok rfl]
  by_cases c1 : (low : Int) ≤ v 0 ∧ (v 0 : Int) ≤ high
  · rw [decide_eq_true c1, if_neg (show ¬ bI true = 0 by decide), if_pos (show iI ((2 : Nat) : Int) = 2 from rfl), v1]
    by_cases c2 : v 1 ≤ second
    · rw [if_pos (show iI (v 1) ≤ iI second by rw [iI_le (by omega) (by omega)]; omega), if_pos ⟨by omega, by omega, c2⟩]
      obtain ⟨S2, y1, y2⟩ := M_copy (v := v) (k := k) (many := 2) (a3 := iI low) (a4 := iI high) (a5 := iI second) hk (by omega) 2 FU 0 S rfl (by unfold FU; omega) hv
      rw [if_neg (by decide), if_neg (by decide)] at y2
      refine RM_yes y1 ?_ ?_
      · rw [y2]; exact (Fr.pI (Or.inl ⟨rfl, by omega⟩)).tr (Fr.pI (Or.inl ⟨rfl, by omega⟩))
      · rw [y2]; exact BM1_set (k := k + 1) (by omega) (BM1_set (k := k) (by omega) hB)
    · rw [if_neg (show ¬ iI (v 1) ≤ iI second by rw [iI_le (by omega) (by omega)]; omega), if_neg (fun z => c2 z.2.2)]
      exact RM_no rfl Fr.rf
  · rw [decide_eq_false c1, if_pos (show bI false = 0 by decide), if_neg (by omega)]
    exact RM_no rfl Fr.rf
theorem M_nu1 {k low high second : Nat} (hk : k + 1 ≤ 10) (hB : BM1 S B) (hv : ∀ j, j < 1 → S.1 120 j = iI (v j)) (h9 : ∀ j, v j ≤ 999) (hl : low ≤ 999) (hh : high ≤ 999) : RM (if low ≤ v 0 ∧ v 0 ≤ high then some (up1B B k (v 0)) else none) S (nuC (iI k) (iI (1 : Nat)) (iI low) (iI high) (iI second) S) := by
  have v0 := hv 0 (by omega)
  have a0 := h9 0
  have hin := in_iI (z := (v 0 : Int)) (a := low) (b := high) (S := S) (by omega) (by omega) (by omega)
  unfold nuC
  dsimp only [Nat.reduceAdd]
  rw [cl0, cl1, v0, iI_l (a := (low : Int)) (by omega), iI_l (a := (high : Int)) (by omega), hin, bd_ok rfl]
  by_cases c1 : (low : Int) ≤ v 0 ∧ (v 0 : Int) ≤ high
  · rw [decide_eq_true c1, if_neg (show ¬ bI true = 0 by decide), if_neg (show ¬ iI ((1 : Nat) : Int) = 2 by decide), if_pos (by omega)]
    obtain ⟨S2, y1, y2⟩ := M_copy (v := v) (k := k) (many := 1) (a3 := iI low) (a4 := iI high) (a5 := iI second) hk (by omega) 1 FU 0 S rfl (by unfold FU; omega) hv
    rw [if_neg (by decide), if_pos rfl] at y2
    refine RM_yes y1 ?_ ?_
    · rw [y2]; exact Fr.pI (Or.inl ⟨rfl, by omega⟩)
    · rw [y2]; exact BM1_set (k := k) (by omega) hB
  · rw [decide_eq_false c1, if_pos (show bI false = 0 by decide), if_neg (by omega)]
    exact RM_no rfl Fr.rf
theorem RM_iff {p q : Prop} [Decidable p] [Decidable q] (h : p ↔ q) {x : Bd} {R : Option (Int32 × St)} (hR : RM (if p then some x else none) S R) : RM (if q then some x else none) S R := by
  by_cases c : p
  · rw [if_pos c] at hR; rw [if_pos (h.mp c)]; exact hR
  · rw [if_neg c] at hR; rw [if_neg (fun z => c (h.mpr z))]; exact hR
/-- the told of a sort -/
def tdC (S47 : St) : Option (Int32 × St) := if (S47.1 (103 + 3) (Int32.toNatClampNeg (1 : Int32))) ≤ (S47.1 (103 + 17) (Int32.toNatClampNeg (0 : Int32))) then some ((0 : Int32), S47) else if (S47.1 (103 + 17) (Int32.toNatClampNeg (1 : Int32))) ≤ (30 : Int32) then ob ((6 : Int32) + (S47.1 (103 + 17) (Int32.toNatClampNeg (0 : Int32)))) 12 (sq (pI S47 (103 + 9) (Int32.toNatClampNeg ((6 : Int32) + (S47.1 (103 + 17) (Int32.toNatClampNeg (0 : Int32))))) (S47.1 (103 + 17) (Int32.toNatClampNeg (1 : Int32)))) fun S53 => some ((1 : Int32), S53)) else some ((0 : Int32), S47)
theorem M_t116 (hV : VB0 B) (hB : BM1 S B) (hv : ∀ j, j < 2 → S.1 120 j = iI (v j)) (h9 : ∀ j, v j ≤ 999) : RM (takeS 116 v B) S (tdC S) := by
  have v0 := hv 0 (by omega)
  have v1 := hv 1 (by omega)
  have a0 := h9 0
  have a1 := h9 1
  have h6 := hV.2.1.1
  have e : takeS 116 v B = if v 0 < B 9 0 ∧ v 1 ≤ 30 then some (tdB B (v 0) (v 1)) else none := rfl
  rw [e]
  unfold tdC
  dsimp only [Nat.reduceAdd]
  rw [cl0, cl1, hB.2.1, v0, v1]
  by_cases c1 : v 0 < B 9 0
  · rw [if_neg (show ¬ iI (B 9 0) ≤ iI (v 0) by rw [iI_le (by omega) (by omega)]; omega), show (30 : Int32) = iI 30 from rfl]
    by_cases c2 : v 1 ≤ 30
    · have x1 : (6 : Int32) + iI (v 0) = iI (6 + v 0 : Nat) := by rw [show (6 : Int32) = iI 6 from rfl, iI_add]; congr 1
      rw [if_pos (show iI (v 1) ≤ iI 30 by rw [iI_le (by omega) (by omega)]; omega), if_pos ⟨c1, c2⟩, x1, ob_iI (by omega), iI_nat (by omega), sq_k]
      refine RM_yes rfl (Fr.pI (by unfold PRt; omega)) ?_
      obtain ⟨h1, h2, h3⟩ := hB
      unfold BM1
      rw [tdB_r B _ _ 0 (by omega), tdB_r B _ _ 9 (by omega), tdB_r B _ _ 1 (by omega), tdB_r B _ _ 2 (by omega), tdB_r B _ _ 4 (by omega), tdB_r B _ _ 5 (by omega), tdB_r B _ _ 6 (by omega), tdB_r B _ _ 10 (by omega), tdB_r B _ _ 11 (by omega), tdB_r B _ _ 12 (by omega), pI_row (show (105 : Nat) ≠ 112 by omega), pI_row (show (106 : Nat) ≠ 112 by omega), pI_row (show (107 : Nat) ≠ 112 by omega), pI_row (show (108 : Nat) ≠ 112 by omega), pI_row (show (109 : Nat) ≠ 112 by omega), pI_row (show (110 : Nat) ≠ 112 by omega), pI_row (show (111 : Nat) ≠ 112 by omega), pI_row (show (113 : Nat) ≠ 112 by omega), pI_row (show (114 : Nat) ≠ 112 by omega), pI_row (show (115 : Nat) ≠ 112 by omega)]
      refine ⟨h1, h2, fun s hs => ?_⟩
      obtain ⟨z1, z2, z3, z4, z5, z6, z7, z8⟩ := h3 s hs
      refine ⟨z1, z2, z3, z4, z5, ?_, z7, z8⟩
      rw [pI_1, tdB_3]
      by_cases h : s = v 0
      · rw [if_pos ⟨rfl, by rw [h]⟩, if_pos h]
      · rw [if_neg (by omega), if_neg h]; exact z6
    · rw [if_neg (show ¬ iI (v 1) ≤ iI 30 by rw [iI_le (by omega) (by omega)]; omega), if_neg (fun z => c2 z.2)]
      exact RM_no rfl Fr.rf
  · rw [if_pos (show iI (B 9 0) ≤ iI (v 0) by rw [iI_le (by omega) (by omega)]; omega), if_neg (fun z => c1 z.1)]
    exact RM_no rfl Fr.rf
/-- a worth of a sort -/
def wtC (S2 : St) : Option (Int32 × St) := if (S2.1 (103 + 3) (Int32.toNatClampNeg (1 : Int32))) ≤ (S2.1 (103 + 17) (Int32.toNatClampNeg (0 : Int32))) then some ((0 : Int32), S2) else if (30 : Int32) < (S2.1 (103 + 17) (Int32.toNatClampNeg (1 : Int32))) then some ((0 : Int32), S2) else bd (f_X10_in (Int32.toInt64 (S2.1 (103 + 17) (Int32.toNatClampNeg (2 : Int32)))) (1 : Int64) (10 : Int64) S2) fun x7 S8 => if x7 = 0 then some ((0 : Int32), S8) else ob ((6 : Int32) + (S8.1 (103 + 17) (Int32.toNatClampNeg (0 : Int32)))) 12 (if (S8.1 (103 + 10) (Int32.toNatClampNeg ((6 : Int32) + (S8.1 (103 + 17) (Int32.toNatClampNeg (0 : Int32)))))) = (3 : Int32) then some ((0 : Int32), S8) else sq ((6 : Int32) + (S8.1 (103 + 17) (Int32.toNatClampNeg (0 : Int32)))) fun x13 => ob x13 12 (ob (((3 : Int32) * x13) + (S8.1 (103 + 10) (Int32.toNatClampNeg x13))) 36 (sq (pI S8 (103 + 11) (Int32.toNatClampNeg (((3 : Int32) * x13) + (S8.1 (103 + 10) (Int32.toNatClampNeg x13)))) (S8.1 (103 + 17) (Int32.toNatClampNeg (1 : Int32)))) fun S16 => ob x13 12 (ob (((3 : Int32) * x13) + (S16.1 (103 + 10) (Int32.toNatClampNeg x13))) 36 (sq (pI S16 (103 + 12) (Int32.toNatClampNeg (((3 : Int32) * x13) + (S16.1 (103 + 10) (Int32.toNatClampNeg x13)))) (S16.1 (103 + 17) (Int32.toNatClampNeg (2 : Int32)))) fun S19 => ob x13 12 (ob x13 12 (sq (pI S19 (103 + 10) (Int32.toNatClampNeg x13) ((S19.1 (103 + 10) (Int32.toNatClampNeg x13)) + (1 : Int32))) fun S22 => some ((1 : Int32), S22))))))))
theorem M_t119 (hV : VB0 B) (hB : BM1 S B) (hv : ∀ j, j < 3 → S.1 120 j = iI (v j)) (h9 : ∀ j, v j ≤ 999) : RM (takeS 119 v B) S (wtC S) := by
  have v0 := hv 0 (by omega)
  have v1 := hv 1 (by omega)
  have v2 := hv 2 (by omega)
  have a0 := h9 0
  have a1 := h9 1
  have a2 := h9 2
  have h6 := hV.2.1.1
  have e : takeS 119 v B = if v 0 < B 9 0 ∧ v 1 ≤ 30 ∧ 1 ≤ v 2 ∧ v 2 ≤ 10 ∧ B 4 (v 0) < 3 then some (wtB B v) else none := rfl
  have hin := in_iI (z := (v 2 : Int)) (a := 1) (b := 10) (S := S) (by omega) (by omega) (by omega)
  have hin' : f_X10_in (Int32.toInt64 (iI (v 2))) 1 10 S = some (bI (decide ((1 : Int) ≤ (v 2 : Int) ∧ (v 2 : Int) ≤ 10)), S) := hin
  rw [e]
  unfold wtC
  dsimp only [Nat.reduceAdd]
  rw [cl0, cl1, cl2, hB.2.1, v0, v1, v2]
  by_cases c1 : v 0 < B 9 0
  · rw [if_neg (show ¬ iI (B 9 0) ≤ iI (v 0) by rw [iI_le (by omega) (by omega)]; omega), show (30 : Int32) = iI 30 from rfl]
    by_cases c2 : v 1 ≤ 30
    · rw [if_neg (show ¬ iI 30 < iI (v 1) by rw [iI_lt (by omega) (by omega)]; omega), hin', bd_ok rfl]
      by_cases c3 : (1 : Int) ≤ (v 2 : Int) ∧ (v 2 : Int) ≤ 10
      · have x1 : (6 : Int32) + iI (v 0) = iI (6 + v 0 : Nat) := by rw [show (6 : Int32) = iI 6 from rfl, iI_add]; congr 1
        obtain ⟨b1, b2, b3, b4, b5, b6, b7, b8, b9⟩ := hV.2.2.1 (v 0) c1
        have z7 := (hB.2.2 (v 0) c1).2.2.2.2.2.2.1
        rw [decide_eq_true c3, if_neg (show ¬ bI true = 0 by decide), v0, x1, ob_iI (by omega), iI_nat (by omega), z7]
        by_cases c4 : B 4 (v 0) < 3
        · have x2 : (3 : Int32) * iI (6 + v 0 : Nat) + iI (B 4 (v 0)) = iI (18 + 3 * v 0 + B 4 (v 0) : Nat) := by rw [show (3 : Int32) = iI 3 from rfl, iI_mul, iI_add]; congr 1; omega
          obtain ⟨S3, hS3⟩ : ∃ S3, S3 = pI (pI (pI S 114 (18 + 3 * v 0 + B 4 (v 0)) (iI (v 1))) 115 (18 + 3 * v 0 + B 4 (v 0)) (iI (v 2))) 113 (6 + v 0) (iI (B 4 (v 0) + 1 : Nat)) := ⟨_, rfl⟩
          have hz : ∀ R, R = some ((1 : Int32), S3) → RM (some (wtB B v)) S R := by
            intro R hR
            refine RM_yes hR ?_ ?_
            · rw [hS3]; exact ((Fr.pI (by unfold PRt; omega)).tr (Fr.pI (by unfold PRt; omega))).tr (Fr.pI (by unfold PRt; omega))
            · obtain ⟨h1, h2, h3⟩ := hB
              have r : ∀ a, a ≠ 113 → a ≠ 114 → a ≠ 115 → S3.1 a = S.1 a := fun a h1 h2 h3 => by rw [hS3, pI_row h1, pI_row h3, pI_row h2]
              unfold BM1
              rw [wtB_r B v 0 (by omega), wtB_r B v 9 (by omega), wtB_r B v 1 (by omega), wtB_r B v 2 (by omega), wtB_r B v 3 (by omega), wtB_r B v 10 (by omega), wtB_r B v 11 (by omega), wtB_r B v 12 (by omega), r 105 (by omega) (by omega) (by omega), r 106 (by omega) (by omega) (by omega), r 107 (by omega) (by omega) (by omega), r 108 (by omega) (by omega) (by omega), r 109 (by omega) (by omega) (by omega), r 110 (by omega) (by omega) (by omega), r 111 (by omega) (by omega) (by omega), r 112 (by omega) (by omega) (by omega)]
              refine ⟨h1, h2, fun s hs => ?_⟩
              obtain ⟨y1, y2, y3, y4, y5, y6, y7, y8⟩ := h3 s hs
              have b4s := (hV.2.2.1 s hs).2.2.2.1
              have q5 : S3.1 113 (6 + s) = if s = v 0 then iI (B 4 (v 0) + 1 : Nat) else S.1 113 (6 + s) := by
                rw [hS3, pI_1, pI_row (show (113 : Nat) ≠ 115 by omega), pI_row (show (113 : Nat) ≠ 114 by omega)]
                by_cases h : s = v 0
                · rw [if_pos ⟨rfl, by rw [h]⟩, if_pos h]
                · rw [if_neg (by omega), if_neg h]
              have q6 : ∀ k, S3.1 114 k = if k = 18 + 3 * v 0 + B 4 (v 0) then iI (v 1) else S.1 114 k := fun k => by
                rw [hS3, pI_row (show (114 : Nat) ≠ 113 by omega), pI_row (show (114 : Nat) ≠ 115 by omega), pI_1]
                by_cases h : k = 18 + 3 * v 0 + B 4 (v 0)
                · rw [if_pos ⟨rfl, h⟩, if_pos h]
                · rw [if_neg (fun z => h z.2), if_neg h]
              have q7 : ∀ k, S3.1 115 k = if k = 18 + 3 * v 0 + B 4 (v 0) then iI (v 2) else S.1 115 k := fun k => by
                rw [hS3, pI_row (show (115 : Nat) ≠ 113 by omega), pI_1, pI_row (show (115 : Nat) ≠ 114 by omega)]
                by_cases h : k = 18 + 3 * v 0 + B 4 (v 0)
                · rw [if_pos ⟨rfl, h⟩, if_pos h]
                · rw [if_neg (fun z => h z.2), if_neg h]
              refine ⟨y1, y2, y3, y4, y5, y6, ?_, fun k hk => ?_⟩
              · rw [q5, wtB_4]
                by_cases h : s = v 0
                · rw [if_pos h, if_pos h]
                · rw [if_neg h, if_neg h]; exact y7
              · rw [q6, q7, wtB_5, wtB_6]
                rw [wtB_4] at hk
                by_cases h2 : 3 * s + k = 3 * v 0 + B 4 (v 0)
                · rw [if_pos (by omega), if_pos h2, if_pos (by omega), if_pos h2]; exact ⟨rfl, rfl⟩
                · rw [if_neg (by omega), if_neg h2, if_neg (by omega), if_neg h2]
                  refine y8 k ?_
                  by_cases h : s = v 0
                  · rw [if_pos h] at hk; rw [h] at h2 ⊢; omega
                  · rw [if_neg h] at hk; exact hk
          rw [if_pos ⟨c1, c2, by omega, by omega, c4⟩]
          refine hz _ ?_
          rw [show (3 : Int32) = iI 3 from rfl, if_neg (show ¬ iI (B 4 (v 0)) = iI 3 by rw [iI_eq (by omega) (by omega)]; omega), ← show (3 : Int32) = iI 3 from rfl, sq_k, ob_iI (by omega), iI_nat (by omega), z7, x2, ob_iI (by omega), iI_nat (by omega), v1, sq_k, ob_iI (by omega), pI_row (show (113 : Nat) ≠ 114 by omega), z7, x2, ob_iI (by omega), iI_nat (by omega), pI_row (show (120 : Nat) ≠ 114 by omega), v2, sq_k, ob_iI (by omega), ob_iI (by omega), pI_row (show (113 : Nat) ≠ 115 by omega), pI_row (show (113 : Nat) ≠ 114 by omega), z7, show iI (B 4 (v 0)) + (1 : Int32) = iI (B 4 (v 0) + 1 : Nat) from iI_add _ 1, sq_k, ← hS3]
        · rw [if_neg (fun z => c4 z.2.2.2.2), show (3 : Int32) = iI 3 from rfl, if_pos (show iI (B 4 (v 0)) = iI 3 by rw [iI_eq (by omega) (by omega)]; omega)]
          exact RM_no rfl Fr.rf
      · rw [decide_eq_false c3, if_pos (show bI false = 0 by decide), if_neg (by omega)]
        exact RM_no rfl Fr.rf
    · rw [if_pos (show iI 30 < iI (v 1) by rw [iI_lt (by omega) (by omega)]; omega), if_neg (fun z => c2 z.2.1)]
      exact RM_no rfl Fr.rf
  · rw [if_pos (show iI (B 9 0) ≤ iI (v 0) by rw [iI_le (by omega) (by omega)]; omega), if_neg (fun z => c1 z.1)]
    exact RM_no rfl Fr.rf
theorem M_readGivers (hV : VB0 B) (hB : BM1 S B) : f_X10_readGivers 103 S = some (iI (B 9 1), S) := by
  have h6 := hV.2.1.1
  have h8 := hV.2.1.2.2
  have key : ∀ (m N s : Nat), s + m = B 9 0 → m < N → f_X10_readGivers_L4 N 103 (iI (natTo (B 10) s)) (iI s) S = some (iI (B 9 1), S) := by
    intro m
    induction m with
    | zero =>
      intro N s hs hN
      obtain ⟨N, rfl⟩ : ∃ k, N = k + 1 := ⟨N - 1, by omega⟩
      rw [f_X10_readGivers_L4]
      dsimp only [Nat.reduceAdd]
      rw [cl1, hB.2.1, if_pos (by rw [iI_le (by omega) (by omega)]; omega), h8, show s = B 9 0 by omega]
    | succ m ih =>
      intro N s hs hN
      obtain ⟨N, rfl⟩ : ∃ k, N = k + 1 := ⟨N - 1, by omega⟩
      have x1 : (6 : Int32) + iI s = iI (6 + s : Nat) := by rw [show (6 : Int32) = iI 6 from rfl, iI_add]; congr 1
      rw [f_X10_readGivers_L4]
      dsimp only [Nat.reduceAdd]
      rw [cl1, hB.2.1, if_neg (by rw [iI_le (by omega) (by omega)]; omega), x1, ob_iI (by omega), iI_nat (by omega), (hB.2.2 s (by omega)).1, iI_add, sq_k, show iI s + (1 : Int32) = iI (s + 1 : Nat) from iI_add s 1]
      exact ih N (s + 1) (by omega) (by omega)
  unfold f_X10_readGivers
  exact key (B 9 0) FU 0 (Nat.zero_add _) (by unfold FU; omega)
/-- a sort -/
def gC (x1 : Int32) (S3 : St) : Option (Int32 × St) := if (S3.1 (103 + 3) (Int32.toNatClampNeg (1 : Int32))) = (6 : Int32) then some ((0 : Int32), S3) else bd (f_X10_in (Int32.toInt64 (S3.1 (103 + 17) (Int32.toNatClampNeg (0 : Int32)))) (1 : Int64) (8 : Int64) S3) fun x7 S8 => if x7 = 0 then some ((0 : Int32), S8) else bd (f_X10_readGivers 103 S8) fun x11 S12 => if (8 : Int32) < (x11 + (S12.1 (103 + 17) (Int32.toNatClampNeg (0 : Int32)))) then some ((0 : Int32), S12) else if (5 : Int32) < (S12.1 (103 + 17) (Int32.toNatClampNeg (1 : Int32))) then some ((0 : Int32), S12) else if (30 : Int32) < (S12.1 (103 + 17) (Int32.toNatClampNeg (2 : Int32))) then some ((0 : Int32), S12) else if (30 : Int32) < (S12.1 (103 + 17) (Int32.toNatClampNeg (3 : Int32))) then some ((0 : Int32), S12) else if (S12.1 (103 + 17) (Int32.toNatClampNeg (4 : Int32))) ≤ (9 : Int32) then ob x1 12 (sq (pI S12 (103 + 4) (Int32.toNatClampNeg x1) (S12.1 (103 + 17) (Int32.toNatClampNeg (0 : Int32)))) fun S20 => ob x1 12 (sq (pI S20 (103 + 5) (Int32.toNatClampNeg x1) (S20.1 (103 + 17) (Int32.toNatClampNeg (1 : Int32)))) fun S22 => ob x1 12 (sq (pI S22 (103 + 6) (Int32.toNatClampNeg x1) (S22.1 (103 + 17) (Int32.toNatClampNeg (2 : Int32)))) fun S24 => ob x1 12 (sq (pI S24 (103 + 7) (Int32.toNatClampNeg x1) (S24.1 (103 + 17) (Int32.toNatClampNeg (3 : Int32)))) fun S26 => ob x1 12 (sq (pI S26 (103 + 8) (Int32.toNatClampNeg x1) (S26.1 (103 + 17) (Int32.toNatClampNeg (4 : Int32)))) fun S28 => ob x1 12 (sq (pI S28 (103 + 9) (Int32.toNatClampNeg x1) (0 : Int32)) fun S30 => ob x1 12 (sq (pI S30 (103 + 10) (Int32.toNatClampNeg x1) (0 : Int32)) fun S32 => sq (pI S32 (103 + 3) (Int32.toNatClampNeg (1 : Int32)) ((S32.1 (103 + 3) (Int32.toNatClampNeg (1 : Int32))) + (1 : Int32))) fun S33 => some ((1 : Int32), S33)))))))) else some ((0 : Int32), S12)
theorem M_t103 (hV : VB0 B) (hB : BM1 S B) (hv : ∀ j, j < 5 → S.1 120 j = iI (v j)) (h9 : ∀ j, v j ≤ 999) : RM (takeS 103 v B) S (gC (iI (6 + B 9 0 : Nat)) S) := by
  have v0 := hv 0 (by omega)
  have v1 := hv 1 (by omega)
  have v2 := hv 2 (by omega)
  have v3 := hv 3 (by omega)
  have v4 := hv 4 (by omega)
  have a0 := h9 0
  have a1 := h9 1
  have a2 := h9 2
  have a3 := h9 3
  have a4 := h9 4
  have h6 := hV.2.1.1
  have h8 := hV.2.1.2.1
  have e : takeS 103 v B = if B 9 0 < 6 ∧ 1 ≤ v 0 ∧ B 9 1 + v 0 ≤ 8 ∧ v 1 ≤ 5 ∧ v 2 ≤ 30 ∧ v 3 ≤ 30 ∧ v 4 ≤ 9 then some (addB B v) else none := rfl
  have hin := in_iI (z := (v 0 : Int)) (a := 1) (b := 8) (S := S) (by omega) (by omega) (by omega)
  have hin' : f_X10_in (Int32.toInt64 (iI (v 0))) 1 8 S = some (bI (decide ((1 : Int) ≤ (v 0 : Int) ∧ (v 0 : Int) ≤ 8)), S) := hin
  have no : ∀ c : Prop, (B 9 0 < 6 ∧ 1 ≤ v 0 ∧ B 9 1 + v 0 ≤ 8 ∧ v 1 ≤ 5 ∧ v 2 ≤ 30 ∧ v 3 ≤ 30 ∧ v 4 ≤ 9 → c) → ¬ c → RM (if B 9 0 < 6 ∧ 1 ≤ v 0 ∧ B 9 1 + v 0 ≤ 8 ∧ v 1 ≤ 5 ∧ v 2 ≤ 30 ∧ v 3 ≤ 30 ∧ v 4 ≤ 9 then some (addB B v) else none) S (some ((0 : Int32), S)) := fun c h1 h2 => by
    rw [if_neg (fun z => h2 (h1 z))]; exact RM_no rfl Fr.rf
  rw [e]
  unfold gC
  dsimp only [Nat.reduceAdd]
  rw [cl0, cl1, cl2, cl3, cl4, hB.2.1, v0, show (6 : Int32) = iI 6 from rfl]
  by_cases c1 : B 9 0 < 6
  · rw [if_neg (show ¬ iI (B 9 0) = iI 6 by rw [iI_eq (by omega) (by omega)]; omega), hin', bd_ok rfl]
    by_cases c2 : (1 : Int) ≤ (v 0 : Int) ∧ (v 0 : Int) ≤ 8
    · rw [decide_eq_true c2, if_neg (show ¬ bI true = 0 by decide), M_readGivers hV hB, bd_ok rfl, v0, v1, v2, v3, v4, iI_add, show (8 : Int32) = iI 8 from rfl, show (5 : Int32) = iI 5 from rfl, show (30 : Int32) = iI 30 from rfl, show (9 : Int32) = iI 9 from rfl]
      by_cases c3 : B 9 1 + v 0 ≤ 8
      · rw [if_neg (show ¬ iI 8 < iI ((B 9 1 : Int) + v 0) by rw [iI_lt (by omega) (by omega)]; omega)]
        by_cases c4 : v 1 ≤ 5
        · rw [if_neg (show ¬ iI 5 < iI (v 1) by rw [iI_lt (by omega) (by omega)]; omega)]
          by_cases c5 : v 2 ≤ 30
          · rw [if_neg (show ¬ iI 30 < iI (v 2) by rw [iI_lt (by omega) (by omega)]; omega)]
            by_cases c6 : v 3 ≤ 30
            · rw [if_neg (show ¬ iI 30 < iI (v 3) by rw [iI_lt (by omega) (by omega)]; omega)]
              by_cases c7 : v 4 ≤ 9
              · obtain ⟨S3, hS3⟩ : ∃ S3, S3 = pI (pI (pI (pI (pI (pI (pI (pI S 107 (6 + B 9 0) (iI (v 0))) 108 (6 + B 9 0) (iI (v 1))) 109 (6 + B 9 0) (iI (v 2))) 110 (6 + B 9 0) (iI (v 3))) 111 (6 + B 9 0) (iI (v 4))) 112 (6 + B 9 0) 0) 113 (6 + B 9 0) 0) 106 1 (iI (B 9 0 + 1 : Nat)) := ⟨_, rfl⟩
                rw [if_pos (show iI (v 4) ≤ iI 9 by rw [iI_le (by omega) (by omega)]; omega), if_pos ⟨c1, by omega, c3, c4, c5, c6, c7⟩]
                have hR : RM (some (addB B v)) S (some ((1 : Int32), S3)) := by
                  refine RM_yes rfl ?_ ?_
                  · rw [hS3]
                    exact (((((((Fr.pI (by unfold PRt; omega)).tr (Fr.pI (by unfold PRt; omega))).tr (Fr.pI (by unfold PRt; omega))).tr (Fr.pI (by unfold PRt; omega))).tr (Fr.pI (by unfold PRt; omega))).tr (Fr.pI (by unfold PRt; omega))).tr (Fr.pI (by unfold PRt; omega))).tr (Fr.pI (by unfold PRt; omega))
                  · obtain ⟨h1, h2, h3⟩ := hB
                    obtain ⟨n1, n2, n3, n4, n10, n11, n12⟩ := addB_n B v
                    have e90 : addB B v 9 0 = B 9 0 + 1 := by rw [addB_9, if_pos rfl]
                    have z0 : ∀ k, addB B v 0 k = B 0 k := fun k => by
                      unfold addB
                      rw [if_neg (by omega), if_neg (by omega), if_neg (by omega)]
                      by_cases hb : k = B 9 0
                      · rw [if_pos hb, if_neg (by omega), if_neg (by omega), if_neg (by omega), if_neg (by omega), if_neg (by omega), if_neg (by omega), if_neg (by omega)]
                      · rw [if_neg hb]
                    have nw : ∀ a, 107 ≤ a → a ≤ 113 → ∀ k, k ≠ 6 + B 9 0 → S3.1 a k = S.1 a k := fun a h1 h2 k hk => by
                      rw [hS3, pI_1, if_neg (by omega), pI_1, if_neg (by omega), pI_1, if_neg (by omega), pI_1, if_neg (by omega), pI_1, if_neg (by omega), pI_1, if_neg (by omega), pI_1, if_neg (by omega), pI_1, if_neg (by omega)]
                    have ot : ∀ a, a < 106 ∨ 113 < a → S3.1 a = S.1 a := fun a ha => by
                      rw [hS3, pI_row (by omega), pI_row (by omega), pI_row (by omega), pI_row (by omega), pI_row (by omega), pI_row (by omega), pI_row (by omega), pI_row (by omega)]
                    refine ⟨fun k hk => ?_, ?_, fun s hs => ?_⟩
                    · rw [z0, ot 105 (by omega)]; exact h1 k hk
                    · rw [e90, hS3, pI_1, if_pos ⟨rfl, rfl⟩]
                    · rw [e90] at hs
                      by_cases hc : s = B 9 0
                      · rw [hc, n1, n2, n3, n4, n10, n11, n12, hS3]
                        refine ⟨?_, ?_, ?_, ?_, ?_, ?_, ?_, fun k hk => absurd hk (Nat.not_lt_zero _)⟩
                        · rw [pI_row (by omega), pI_row (by omega), pI_row (by omega), pI_row (by omega), pI_row (by omega), pI_row (by omega), pI_row (by omega), pI_1, if_pos ⟨rfl, rfl⟩]
                        · rw [pI_row (by omega), pI_row (by omega), pI_row (by omega), pI_row (by omega), pI_row (by omega), pI_row (by omega), pI_1, if_pos ⟨rfl, rfl⟩]
                        · rw [pI_row (by omega), pI_row (by omega), pI_row (by omega), pI_row (by omega), pI_row (by omega), pI_1, if_pos ⟨rfl, rfl⟩]
                        · rw [pI_row (by omega), pI_row (by omega), pI_row (by omega), pI_row (by omega), pI_1, if_pos ⟨rfl, rfl⟩]
                        · rw [pI_row (by omega), pI_row (by omega), pI_row (by omega), pI_1, if_pos ⟨rfl, rfl⟩]
                        · rw [pI_row (by omega), pI_row (by omega), pI_1, if_pos ⟨rfl, rfl⟩]; rfl
                        · rw [pI_row (by omega), pI_1, if_pos ⟨rfl, rfl⟩]; rfl
                      · have hs2 : s < B 9 0 := by omega
                        have o : ∀ a, (a ≠ 7 ∧ a ≠ 8 ∧ a ≠ 9) → addB B v a s = B a s := fun a ha => addB_o B v a s ha hc
                        rw [o 1 (by omega), o 2 (by omega), o 3 (by omega), o 4 (by omega), o 10 (by omega), o 11 (by omega), o 12 (by omega), nw 107 (by omega) (by omega) _ (by omega), nw 108 (by omega) (by omega) _ (by omega), nw 109 (by omega) (by omega) _ (by omega), nw 110 (by omega) (by omega) _ (by omega), nw 111 (by omega) (by omega) _ (by omega), nw 112 (by omega) (by omega) _ (by omega), nw 113 (by omega) (by omega) _ (by omega), ot 114 (by omega), ot 115 (by omega)]
                        obtain ⟨y1, y2, y3, y4, y5, y6, y7, y8⟩ := h3 s hs2
                        refine ⟨y1, y2, y3, y4, y5, y6, y7, fun k hk => ?_⟩
                        have hr : ∀ a, a = 5 ∨ a = 6 → addB B v a (3 * s + k) = B a (3 * s + k) := fun a ha => by
                          unfold addB
                          rw [if_neg (by omega), if_neg (by omega), if_neg (by omega)]
                          by_cases hb : 3 * s + k = B 9 0
                          · rw [if_pos hb, if_neg (by omega), if_neg (by omega), if_neg (by omega), if_neg (by omega), if_neg (by omega), if_neg (by omega), if_neg (by omega)]
                          · rw [if_neg hb]
                        rw [hr 5 (Or.inl rfl), hr 6 (Or.inr rfl)]
                        exact y8 k hk
                have hob : ∀ k : Option (Int32 × St), ob (iI (6 + B 9 0 : Nat)) 12 k = k := fun k => ob_iI (by omega)
                rw [hob, iI_nat (by omega), sq_k, hob, pI_row (show (120 : Nat) ≠ 107 by omega), v1, sq_k, hob, pI_row (show (120 : Nat) ≠ 108 by omega), pI_row (show (120 : Nat) ≠ 107 by omega), v2, sq_k, hob, pI_row (show (120 : Nat) ≠ 109 by omega), pI_row (show (120 : Nat) ≠ 108 by omega), pI_row (show (120 : Nat) ≠ 107 by omega), v3, sq_k, hob, pI_row (show (120 : Nat) ≠ 110 by omega), pI_row (show (120 : Nat) ≠ 109 by omega), pI_row (show (120 : Nat) ≠ 108 by omega), pI_row (show (120 : Nat) ≠ 107 by omega), v4, sq_k, hob, sq_k, hob, sq_k, pI_row (show (106 : Nat) ≠ 113 by omega), pI_row (show (106 : Nat) ≠ 112 by omega), pI_row (show (106 : Nat) ≠ 111 by omega), pI_row (show (106 : Nat) ≠ 110 by omega), pI_row (show (106 : Nat) ≠ 109 by omega), pI_row (show (106 : Nat) ≠ 108 by omega), pI_row (show (106 : Nat) ≠ 107 by omega), hB.2.1, show iI (B 9 0) + (1 : Int32) = iI (B 9 0 + 1 : Nat) from iI_add _ 1, sq_k, ← hS3]
                exact hR
              · rw [if_neg (show ¬ iI (v 4) ≤ iI 9 by rw [iI_le (by omega) (by omega)]; omega)]
                exact no _ (fun z => z.2.2.2.2.2.2) c7
            · rw [if_pos (show iI 30 < iI (v 3) by rw [iI_lt (by omega) (by omega)]; omega)]
              exact no _ (fun z => z.2.2.2.2.2.1) c6
          · rw [if_pos (show iI 30 < iI (v 2) by rw [iI_lt (by omega) (by omega)]; omega)]
            exact no _ (fun z => z.2.2.2.2.1) c5
        · rw [if_pos (show iI 5 < iI (v 1) by rw [iI_lt (by omega) (by omega)]; omega)]
          exact no _ (fun z => z.2.2.2.1) c4
      · rw [if_pos (show iI 8 < iI ((B 9 1 : Int) + v 0) by rw [iI_lt (by omega) (by omega)]; omega)]
        exact no _ (fun z => z.2.2.1) c3
    · rw [decide_eq_false c2, if_pos (show bI false = 0 by decide)]
      exact no ((1 : Int) ≤ (v 0 : Int) ∧ (v 0 : Int) ≤ 8) (fun z => by omega) c2
  · rw [if_pos (show iI (B 9 0) = iI 6 by rw [iI_eq (by omega) (by omega)]; omega)]
    exact no _ (fun z => z.1) c1
end TakeM
