/-! the start: the reference -/
def P45 (a _ : Nat) : Prop := a = 105 ∨ a = 106
theorem M_noBoard0 {S : St} : ∃ S2 : St, f_X10_noBoard 103 0 S = some ((), S2) ∧ (∀ k, k < 10 → S2.1 105 k = iI (clrB 0 k)) ∧ Fr P45 S S2 := by
  obtain ⟨S1, hS1⟩ : ∃ S1, S1 = pI (pI (pI (pI (pI (pI (pI (pI (pI (pI (pI S 105 0 20) 105 1 0) 105 2 9) 105 3 20) 105 4 0) 105 5 0) 105 6 0) 105 7 0) 105 8 0) 105 9 0) 106 0 0 := ⟨_, rfl⟩
  have w : ∀ k, P45 105 k := fun k => Or.inl rfl
  have w1 : P45 106 0 := Or.inr rfl
  refine ⟨S1, ?_, fun k hk => ?_, ?_⟩
  · have c10 : Int32.toNatClampNeg (10 * 0) = 0 := by decide
    have c11 : Int32.toNatClampNeg (10 * 0 + 1) = 1 := by decide
    have c12 : Int32.toNatClampNeg (10 * 0 + 2) = 2 := by decide
    have c13 : Int32.toNatClampNeg (10 * 0 + 3) = 3 := by decide
    have c14 : Int32.toNatClampNeg (10 * 0 + 4) = 4 := by decide
    have c15 : Int32.toNatClampNeg (10 * 0 + 5) = 5 := by decide
    have c16 : Int32.toNatClampNeg (10 * 0 + 6) = 6 := by decide
    have c17 : Int32.toNatClampNeg (10 * 0 + 7) = 7 := by decide
    have c18 : Int32.toNatClampNeg (10 * 0 + 8) = 8 := by decide
    have c19 : Int32.toNatClampNeg (10 * 0 + 9) = 9 := by decide
    have o : ∀ (k j : Nat) (x : Int32) (y : Option (Unit × St)), x = iI j → j < k → k ≤ 20 → ob x k y = y := fun k j x y hx hj hk => by rw [hx]; exact ob_iI (by omega)
    unfold f_X10_noBoard
    dsimp only [Nat.reduceAdd]
    rw [sq_k, o 20 0 _ _ (by decide) (by omega) (by omega), c10, sq_k, o 20 1 _ _ (by decide) (by omega) (by omega), c11, sq_k, o 20 2 _ _ (by decide) (by omega) (by omega), c12, sq_k, o 20 3 _ _ (by decide) (by omega) (by omega), c13, sq_k, o 20 4 _ _ (by decide) (by omega) (by omega), c14, sq_k, o 20 5 _ _ (by decide) (by omega) (by omega), c15, sq_k, o 20 6 _ _ (by decide) (by omega) (by omega), c16, sq_k, o 20 7 _ _ (by decide) (by omega) (by omega), c17, sq_k, o 20 8 _ _ (by decide) (by omega) (by omega), c18, sq_k, o 20 9 _ _ (by decide) (by omega) (by omega), c19, sq_k, o 2 0 _ _ (by decide) (by omega) (by omega), cl0, sq_k, ← hS1]
  · rw [hS1, pI_row (by omega)]
    rcases (show k = 0 ∨ k = 1 ∨ k = 2 ∨ k = 3 ∨ k = 4 ∨ k = 5 ∨ k = 6 ∨ k = 7 ∨ k = 8 ∨ k = 9 by omega) with rfl | rfl | rfl | rfl | rfl | rfl | rfl | rfl | rfl | rfl <;> (simp [pI_1, clrB]; try rfl)
  · rw [hS1]
    exact ((((((((((Fr.pI (w _)).tr (Fr.pI (w _))).tr (Fr.pI (w _))).tr (Fr.pI (w _))).tr (Fr.pI (w _))).tr (Fr.pI (w _))).tr (Fr.pI (w _))).tr (Fr.pI (w _))).tr (Fr.pI (w _))).tr (Fr.pI (w _))).tr (Fr.pI w1)
theorem start_M {S : St} (hz : ∀ a k, 103 ≤ a → S.1 a k = 0) : ∃ S2 : St, f_X10_initB 103 S = some ((), S2) ∧ IM S2 T0S ∧ Fr PM S S2 := by
  obtain ⟨S1, a1, a2, a3⟩ := M_noBoard0 (S := S)
  obtain ⟨S3, hS3⟩ : ∃ S3, S3 = pI (pI (pI (pI (pI (pI (pI S1 106 0 1) 107 0 1) 108 0 1) 109 0 20) 113 0 1) 114 0 20) 115 0 10 := ⟨_, rfl⟩
  have z1 : ∀ a k, 103 ≤ a → a ≠ 105 → a ≠ 106 → S1.1 a k = 0 := fun a k h1 h2 h3 => by rw [a3.1 a k (by unfold P45; omega)]; exact hz a k h1
  have z3 : ∀ a k, 103 ≤ a → a ≠ 105 → a ≠ 106 → (¬ k = 0 ∨ a < 107 ∨ (109 < a ∧ a < 113) ∨ 115 < a) → S3.1 a k = 0 := fun a k h1 h2 h3 h4 => by
    rw [hS3, pI_1, if_neg (by omega), pI_1, if_neg (by omega), pI_1, if_neg (by omega), pI_1, if_neg (by omega), pI_1, if_neg (by omega), pI_1, if_neg (by omega), pI_1, if_neg (by omega)]
    exact z1 a k h1 h2 h3
  have hb0 : BM0 S3 B0S := by
    refine ⟨fun k hk => ?_, ?_, fun s hs => ?_⟩
    · have e : B0S 0 k = clrB 0 k := by
        rcases (show k = 0 ∨ k = 1 ∨ k = 2 ∨ k = 3 ∨ k = 4 ∨ k = 5 ∨ k = 6 ∨ k = 7 ∨ k = 8 ∨ k = 9 by omega) with rfl | rfl | rfl | rfl | rfl | rfl | rfl | rfl | rfl | rfl <;> decide
      rw [e, hS3, pI_row (by omega), pI_row (by omega), pI_row (by omega), pI_row (by omega), pI_row (by omega), pI_row (by omega), pI_row (by omega)]
      exact a2 k hk
    · rw [hS3, pI_row (by omega), pI_row (by omega), pI_row (by omega), pI_row (by omega), pI_row (by omega), pI_row (by omega), pI_1, if_pos ⟨rfl, rfl⟩]
      decide
    · have hs1 : B0S 9 0 = 1 := by decide
      have hs0 : s = 0 := by omega
      subst hs0
      refine ⟨?_, ?_, ?_, ?_, ?_, ?_, ?_, fun k hk => ?_⟩
      · rw [hS3, pI_row (by omega), pI_row (by omega), pI_row (by omega), pI_row (by omega), pI_row (by omega), pI_1, if_pos ⟨rfl, rfl⟩]; decide
      · rw [hS3, pI_row (by omega), pI_row (by omega), pI_row (by omega), pI_row (by omega), pI_1, if_pos ⟨rfl, rfl⟩]; decide
      · rw [hS3, pI_row (by omega), pI_row (by omega), pI_row (by omega), pI_1, if_pos ⟨rfl, rfl⟩]; decide
      · rw [z3 110 0 (by omega) (by omega) (by omega) (by omega)]; decide
      · rw [z3 111 0 (by omega) (by omega) (by omega) (by omega)]; decide
      · rw [z3 112 0 (by omega) (by omega) (by omega) (by omega)]; decide
      · rw [hS3, pI_row (by omega), pI_row (by omega), pI_1, if_pos ⟨rfl, rfl⟩]; decide
      · have hk1 : B0S 4 0 = 1 := by decide
        have hk0 : k = 0 := by omega
        subst hk0
        refine ⟨?_, ?_⟩
        · rw [hS3, pI_row (by omega), pI_1, if_pos ⟨rfl, rfl⟩]; decide
        · rw [hS3, pI_1, if_pos ⟨rfl, rfl⟩]; decide
  obtain ⟨S4, g1, g2, g3⟩ := M_layGivers B0_V0.2 hb0
  have hI4 : IM S4 T0S := by
    have w : ∀ a k, ¬ PLg a k → S4.1 a k = S3.1 a k := g3.1
    refine ⟨?_, fun k hk => absurd hk (Nat.not_lt_zero _), g2, fun i hi => ?_, ?_, ?_, fun j hj => absurd hj (Nat.not_lt_zero _)⟩
    · rw [w 103 0 (by unfold PLg; omega)]; exact z3 103 0 (by omega) (by omega) (by omega) (by omega)
    · rw [w 119 i (by unfold PLg; omega)]; exact z3 119 i (by omega) (by omega) (by omega) (by omega)
    · rw [w 118 0 (by unfold PLg; omega)]; exact z3 118 0 (by omega) (by omega) (by omega) (by omega)
    · rw [w 103 18 (by unfold PLg; omega)]; exact z3 103 18 (by omega) (by omega) (by omega) (by omega)
  obtain ⟨S5, h1, h2, h3⟩ := M_plain hI4
  have hf5 := h3.wk (fun _ _ => pl_scr)
  refine ⟨S5, ?_, IM_scr hI4 hf5, ?_⟩
  · unfold f_X10_initB
    dsimp only [Nat.reduceAdd]
    rw [a1, bd_ok rfl, cl0, sq_k, sq_k, sq_k, sq_k, sq_k, sq_k, sq_k, ← hS3, g1, h1, bd_ok rfl, bd_ok rfl]
  · have w : ∀ a k, 103 ≤ a → PM a k := fun a k h => h
    have f3 : Fr PM S1 S3 := by
      rw [hS3]
      exact ((((((Fr.pI (w _ _ (by omega))).tr (Fr.pI (w _ _ (by omega)))).tr (Fr.pI (w _ _ (by omega)))).tr (Fr.pI (w _ _ (by omega)))).tr (Fr.pI (w _ _ (by omega)))).tr (Fr.pI (w _ _ (by omega)))).tr (Fr.pI (w _ _ (by omega)))
    exact (((a3.wk (fun a k h => by unfold P45 at h; unfold PM; omega)).tr f3).tr (g3.wk (fun a k h => by unfold PLg at h; unfold PM; omega))).tr (hf5.wk (fun _ _ => scr_PM))
/-! the law's loop -/
def Inv (S : St) : Prop := ∃ T, VT T ∧ IE S T ∧ IM S T
theorem step_ok {α : Type} [DecidableEq α] {fE fM : St → Option (α × St)} (ok : Okk fE fM) {S : St} (h : Inv S) {k : St → Option (Int32 × St)} {R : Option (Int32 × St)} (hR : R = bd (fE S) fun x S1 => bd (fM S1) fun y S2 => if x = y then k S2 else some ((0 : Int32), S2)) : ∃ S2 : St, Inv S2 ∧ R = k S2 := by
  obtain ⟨T, h1, h2, h3⟩ := h
  obtain ⟨v, S1, S2, T2, e1, e2, v1, v2, v3⟩ := ok S T h1 h2 h3
  refine ⟨S2, ⟨T2, v1, v2, v3⟩, ?_⟩
  rw [hR, e1, bd_ok rfl, e2, bd_ok rfl, if_pos rfl]
