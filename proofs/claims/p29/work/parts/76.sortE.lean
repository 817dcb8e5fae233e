section SortE
variable {S : St} {Q : Nat} {B : Bd} {v : Nat → Nat}
theorem E_has {k : Nat} (hB : BE S Q B) (hk : k ≤ 999) (h6 : B 9 0 ≤ 6) : f_X6_has (Q + 1) (iI k) S = some (bI (decide (k < B 9 0)), S) := by
  unfold f_X6_has
  rw [show (0 : Int32) = iI 0 from rfl, if_neg (by rw [iI_lt (by omega) (by omega)]; omega), hB.2.1]
  by_cases hc : k < B 9 0
  · rw [if_neg (by rw [iI_le (by omega) (by omega)]; omega), decide_eq_true hc]; rfl
  · rw [if_pos (by rw [iI_le (by omega) (by omega)]; omega), decide_eq_false hc]; rfl
theorem E_sort_pre {l : Nat} (h : l = 103 ∨ l = 116 ∨ l = 119) {R : Option (Int32 × St)} {o : Option Bd} (hR : f_X3_takeSort 3 (iI l) (Q + 1) S = R) (hT : RT o Q S R) : RT o Q S (f_X3_take 3 (iI l) Q S) := by
  obtain ⟨S2, b, h1, h2⟩ := hT
  refine ⟨S2, b, ?_, h2⟩
  unfold f_X3_take
  rcases h with rfl | rfl | rfl
  · rw [if_neg (by decide), if_neg (by decide), if_neg (by decide), if_neg (by decide), if_neg (by decide), if_neg (by decide), if_neg (by decide), hR, h1, bd_ok rfl, ckbI]
  · rw [if_neg (by decide), if_neg (by decide), if_neg (by decide), if_neg (by decide), if_neg (by decide), if_neg (by decide), if_neg (by decide), hR, h1, bd_ok rfl, ckbI]
  · rw [if_neg (by decide), if_neg (by decide), if_neg (by decide), if_neg (by decide), if_neg (by decide), if_neg (by decide), if_neg (by decide), hR, h1, bd_ok rfl, ckbI]
theorem tdB_r (B : Bd) (s v a : Nat) (h : a ≠ 3) : tdB B s v a = B a := by funext b; unfold tdB; rw [if_neg (fun z => h z.1)]
theorem tdB_3 (B : Bd) (s v b : Nat) : tdB B s v 3 b = if b = s then v else B 3 b := by
  unfold tdB
  by_cases h : b = s
  · rw [if_pos ⟨rfl, h⟩, if_pos h]
  · rw [if_neg (fun z => h z.2), if_neg h]
theorem E_t116 (hQ : Q = 5 ∨ Q = 15) (hV : VB0 B) (hB : BE S Q B) (hv : ∀ j, j < 2 → S.1 4 j = iI (v j)) (h9 : ∀ j, v j ≤ 999) : RT (takeS 116 v B) Q S (f_X3_take 3 (iI (116 : Nat)) Q S) := by
  have v0 := hv 0 (by omega)
  have v1 := hv 1 (by omega)
  have a0 := h9 0
  have h6 := hV.2.1.1
  have u1 : f_X3_upTo 3 1 30 S = some (bI (decide (v 1 ≤ 30)), S) := E_upTo (k := 1) (h := 30) (by omega) v1 (h9 1) (by omega)
  have e : takeS 116 v B = if v 0 < B 9 0 ∧ v 1 ≤ 30 then some (tdB B (v 0) (v 1)) else none := rfl
  have hh := E_has (k := v 0) hB a0 h6
  have pre : f_X3_takeSort 3 (iI (116 : Nat)) (Q + 1) S = (if bI (decide (v 1 ≤ 30)) = 0 then some ((0 : Int32), S) else bd (if bI (decide (v 0 < B 9 0)) = 0 then some ((0 : Int32), S) else ob (iI (v 0)) 6 (some ((1 : Int32), pI S (Q + 4) (Int32.toNatClampNeg (iI (v 0))) (iI (v 1))))) fun x27 S28 => if x27 = 0 then some ((0 : Int32), S28) else some ((1 : Int32), S28)) := by
    unfold f_X3_takeSort f_X6_tell
    rw [if_neg (by decide), if_pos (by decide), u1, bd_ok rfl]
    dsimp only [Nat.reduceAdd]
    rw [cl0, cl1, v0, v1, hh, bd_ok rfl]
    rfl
  refine E_sort_pre (Or.inr (Or.inl rfl)) pre ?_
  rw [e]
  by_cases c2 : v 1 ≤ 30
  · rw [decide_eq_true c2, if_neg (show ¬ bI true = 0 by decide)]
    by_cases c3 : v 0 < B 9 0
    · rw [if_pos ⟨c3, c2⟩, decide_eq_true c3, if_neg (show ¬ bI true = 0 by decide), ob_iI (by omega), bd_ok rfl, if_neg (by decide), iI_nat (by omega)]
      refine RT_yes rfl (Fr.pI ⟨by omega, by omega⟩) ?_
      obtain ⟨ha, hb1, hb2, hb3, hb4⟩ := hB
      unfold BE
      rw [tdB_r B _ _ 9 (by omega), tdB_r B _ _ 0 (by omega), tdB_r B _ _ 1 (by omega), tdB_r B _ _ 2 (by omega), tdB_r B _ _ 4 (by omega), tdB_r B _ _ 5 (by omega), tdB_r B _ _ 6 (by omega), tdB_r B _ _ 7 (by omega), tdB_r B _ _ 8 (by omega), pI_row (show Q ≠ Q + 4 by omega), pI_row (show Q + 1 ≠ Q + 4 by omega), pI_row (show Q + 2 ≠ Q + 4 by omega), pI_row (show Q + 3 ≠ Q + 4 by omega), pI_row (show Q + 5 ≠ Q + 4 by omega), pI_row (show Q + 6 ≠ Q + 4 by omega), pI_row (show Q + 7 ≠ Q + 4 by omega), pI_row (show Q + 8 ≠ Q + 4 by omega), pI_row (show Q + 9 ≠ Q + 4 by omega)]
      refine ⟨ha, hb1, hb2, fun s hs => ?_, hb4⟩
      obtain ⟨z1, z2, z3, z4⟩ := hb3 s hs
      refine ⟨z1, z2, ?_, z4⟩
      rw [pI_1, tdB_3]
      by_cases h : s = v 0
      · rw [if_pos ⟨rfl, h⟩, if_pos h]
      · rw [if_neg (fun z => h z.2), if_neg h]; exact z3
    · rw [if_neg (fun z => c3 z.1), decide_eq_false c3, if_pos (show bI false = 0 by decide), bd_ok rfl, if_pos rfl]
      exact RT_no rfl Fr.rf
  · rw [if_neg (fun z => c2 z.2), decide_eq_false c2, if_pos (show bI false = 0 by decide)]
    exact RT_no rfl Fr.rf
theorem E_t119 (hQ : Q = 5 ∨ Q = 15) (hV : VB0 B) (hB : BE S Q B) (hv : ∀ j, j < 3 → S.1 4 j = iI (v j)) (h9 : ∀ j, v j ≤ 999) : RT (takeS 119 v B) Q S (f_X3_take 3 (iI (119 : Nat)) Q S) := by
  have v0 := hv 0 (by omega)
  have v1 := hv 1 (by omega)
  have v2 := hv 2 (by omega)
  have a0 := h9 0
  have a2 := h9 2
  have h6 := hV.2.1.1
  have u1 : f_X3_upTo 3 1 30 S = some (bI (decide (v 1 ≤ 30)), S) := E_upTo (k := 1) (h := 30) (by omega) v1 (h9 1) (by omega)
  have u2 : f_X3_upTo 3 2 10 S = some (bI (decide (v 2 ≤ 10)), S) := E_upTo (k := 2) (h := 10) (by omega) v2 (h9 2) (by omega)
  have e : takeS 119 v B = if v 0 < B 9 0 ∧ v 1 ≤ 30 ∧ 1 ≤ v 2 ∧ v 2 ≤ 10 ∧ B 4 (v 0) < 3 then some (wtB B v) else none := rfl
  have hh := E_has (k := v 0) hB a0 h6
  have pre : f_X3_takeSort 3 (iI (119 : Nat)) (Q + 1) S = (if bI (decide (v 1 ≤ 30)) = 0 then some ((0 : Int32), S) else if iI (v 2) < (1 : Int32) then some ((0 : Int32), S) else if bI (decide (v 2 ≤ 10)) = 0 then some ((0 : Int32), S) else bd (f_X6_addWorth (Q + 1) (iI (v 0)) (iI (v 1)) (iI (v 2)) S) fun x41 S42 => if x41 = 0 then some ((0 : Int32), S42) else some ((1 : Int32), S42)) := by
    unfold f_X3_takeSort
    rw [if_neg (by decide), if_neg (by decide), if_pos (by decide), u1, bd_ok rfl]
    dsimp only [Nat.reduceAdd]
    rw [cl0, cl1, cl2, v2, u2, bd_ok rfl, v0, v1, v2]
  refine E_sort_pre (Or.inr (Or.inr rfl)) pre ?_
  rw [e]
  by_cases c1 : v 1 ≤ 30
  · rw [decide_eq_true c1, if_neg (show ¬ bI true = 0 by decide)]
    by_cases c2 : 1 ≤ v 2
    · rw [show (1 : Int32) = iI 1 from rfl, if_neg (show ¬ iI (v 2) < iI 1 by rw [iI_lt (by omega) (by omega)]; omega)]
      by_cases c3 : v 2 ≤ 10
      · rw [decide_eq_true c3, if_neg (show ¬ bI true = 0 by decide)]
        by_cases c4 : v 0 < B 9 0
        · obtain ⟨b1, b2, b3, b4, b5, b6, b7, b8, b9⟩ := hV.2.2.1 (v 0) c4
          have e5 : S.1 (Q + 5) (v 0) = iI (B 4 (v 0)) := (hB.2.2.2.1 (v 0) c4).2.2.2.1
          by_cases c5 : B 4 (v 0) < 3
          · rw [if_pos ⟨c4, c1, c2, c3, c5⟩]
            have x1 : iI (v 0) * (3 : Int32) + iI (B 4 (v 0)) = iI (3 * v 0 + B 4 (v 0) : Nat) := by rw [show (3 : Int32) = iI 3 from rfl, iI_mul, iI_add]; congr 1; omega
            obtain ⟨S3, hS3⟩ : ∃ S3, S3 = pI (pI (pI S (Q + 6) (3 * v 0 + B 4 (v 0)) (iI (v 1))) (Q + 7) (3 * v 0 + B 4 (v 0)) (iI (v 2))) (Q + 5) (v 0) (iI (B 4 (v 0) + 1 : Nat)) := ⟨_, rfl⟩
            have haw : f_X6_addWorth (Q + 1) (iI (v 0)) (iI (v 1)) (iI (v 2)) S = some (1, S3) := by
              unfold f_X6_addWorth
              rw [hh, bd_ok rfl, decide_eq_true c4, if_neg (show ¬ bI true = 0 by decide), ob_iI (by omega), iI_nat (by omega), show Q + 1 + 4 = Q + 5 from rfl, show Q + 1 + 5 = Q + 6 from rfl, show Q + 1 + 6 = Q + 7 from rfl, e5, show (3 : Int32) = iI 3 from rfl, if_pos (by rw [iI_lt (by omega) (by omega)]; omega), ob_iI (by omega), ← show (3 : Int32) = iI 3 from rfl, x1, ob_iI (by omega), iI_nat (by omega), sq_k, ob_iI (by omega), pI_row (show Q + 5 ≠ Q + 6 by omega), e5, x1, ob_iI (by omega), iI_nat (by omega), sq_k, ob_iI (by omega), ob_iI (by omega), pI_row (show Q + 5 ≠ Q + 7 by omega), pI_row (show Q + 5 ≠ Q + 6 by omega), e5, show iI (B 4 (v 0)) + (1 : Int32) = iI (B 4 (v 0) + 1 : Nat) from iI_add _ 1, sq_k, ← hS3]
            rw [haw, bd_ok rfl, if_neg (by decide)]
            refine RT_yes rfl ?_ ?_
            · rw [hS3]
              exact ((Fr.pI ⟨by omega, by omega⟩).tr (Fr.pI ⟨by omega, by omega⟩)).tr (Fr.pI ⟨by omega, by omega⟩)
            · obtain ⟨ha, hb1, hb2, hb3, hb4⟩ := hB
              have r : ∀ a, a ≠ Q + 5 → a ≠ Q + 6 → a ≠ Q + 7 → S3.1 a = S.1 a := fun a h1 h2 h3 => by rw [hS3, pI_row h1, pI_row h3, pI_row h2]
              unfold BE
              rw [wtB_r B v 9 (by omega), wtB_r B v 0 (by omega), wtB_r B v 1 (by omega), wtB_r B v 2 (by omega), wtB_r B v 3 (by omega), wtB_r B v 7 (by omega), wtB_r B v 8 (by omega), r Q (by omega) (by omega) (by omega), r (Q + 1) (by omega) (by omega) (by omega), r (Q + 2) (by omega) (by omega) (by omega), r (Q + 3) (by omega) (by omega) (by omega), r (Q + 4) (by omega) (by omega) (by omega), r (Q + 8) (by omega) (by omega) (by omega), r (Q + 9) (by omega) (by omega) (by omega)]
              refine ⟨ha, hb1, hb2, fun s hs => ?_, hb4⟩
              obtain ⟨z1, z2, z3, z4, z5⟩ := hb3 s hs
              have b4s := (hV.2.2.1 s hs).2.2.2.1
              have q5 : S3.1 (Q + 5) s = if s = v 0 then iI (B 4 (v 0) + 1 : Nat) else S.1 (Q + 5) s := by
                rw [hS3, pI_1, pI_row (show Q + 5 ≠ Q + 7 by omega), pI_row (show Q + 5 ≠ Q + 6 by omega)]
                by_cases h : s = v 0
                · rw [if_pos ⟨rfl, h⟩, if_pos h]
                · rw [if_neg (fun z => h z.2), if_neg h]
              have q6 : ∀ k, S3.1 (Q + 6) k = if k = 3 * v 0 + B 4 (v 0) then iI (v 1) else S.1 (Q + 6) k := fun k => by
                rw [hS3, pI_row (show Q + 6 ≠ Q + 5 by omega), pI_row (show Q + 6 ≠ Q + 7 by omega), pI_1]
                by_cases h : k = 3 * v 0 + B 4 (v 0)
                · rw [if_pos ⟨rfl, h⟩, if_pos h]
                · rw [if_neg (fun z => h z.2), if_neg h]
              have q7 : ∀ k, S3.1 (Q + 7) k = if k = 3 * v 0 + B 4 (v 0) then iI (v 2) else S.1 (Q + 7) k := fun k => by
                rw [hS3, pI_row (show Q + 7 ≠ Q + 5 by omega), pI_1, pI_row (show Q + 7 ≠ Q + 6 by omega)]
                by_cases h : k = 3 * v 0 + B 4 (v 0)
                · rw [if_pos ⟨rfl, h⟩, if_pos h]
                · rw [if_neg (fun z => h z.2), if_neg h]
              refine ⟨z1, z2, z3, ?_, fun k hk => ?_⟩
              · rw [q5, wtB_4]
                by_cases h : s = v 0
                · rw [if_pos h, if_pos h]
                · rw [if_neg h, if_neg h]; exact z4
              · rw [q6, q7, wtB_5, wtB_6]
                rw [wtB_4] at hk
                by_cases h2 : 3 * s + k = 3 * v 0 + B 4 (v 0)
                · rw [if_pos h2, if_pos h2, if_pos h2, if_pos h2]; exact ⟨rfl, rfl⟩
                · rw [if_neg h2, if_neg h2, if_neg h2, if_neg h2]
                  refine z5 k ?_
                  by_cases h : s = v 0
                  · rw [if_pos h] at hk; rw [h] at h2 ⊢; omega
                  · rw [if_neg h] at hk; exact hk
          · rw [if_neg (fun z => c5 z.2.2.2.2)]
            have haw : f_X6_addWorth (Q + 1) (iI (v 0)) (iI (v 1)) (iI (v 2)) S = some (0, S) := by
              unfold f_X6_addWorth
              rw [hh, bd_ok rfl, decide_eq_true c4, if_neg (show ¬ bI true = 0 by decide), ob_iI (by omega), iI_nat (by omega), show Q + 1 + 4 = Q + 5 from rfl, e5, show (3 : Int32) = iI 3 from rfl, if_neg (by rw [iI_lt (by omega) (by omega)]; omega)]
            rw [haw, bd_ok rfl, if_pos rfl]
            exact RT_no rfl Fr.rf
        · rw [if_neg (fun z => c4 z.1)]
          have haw : f_X6_addWorth (Q + 1) (iI (v 0)) (iI (v 1)) (iI (v 2)) S = some (0, S) := by
            unfold f_X6_addWorth
            rw [hh, bd_ok rfl, decide_eq_false c4, if_pos (by decide)]
          rw [haw, bd_ok rfl, if_pos rfl]
          exact RT_no rfl Fr.rf
      · rw [if_neg (fun z => c3 z.2.2.2.1), decide_eq_false c3, if_pos (show bI false = 0 by decide)]
        exact RT_no rfl Fr.rf
    · rw [if_neg (fun z => c2 z.2.2.1), show (1 : Int32) = iI 1 from rfl, if_pos (show iI (v 2) < iI 1 by rw [iI_lt (by omega) (by omega)]; omega)]
      exact RT_no rfl Fr.rf
  · rw [if_neg (fun z => c1 z.2.1), decide_eq_false c1, if_pos (show bI false = 0 by decide)]
    exact RT_no rfl Fr.rf
theorem E_addL {s0 g0 n d e : Nat} {a2 a3 : Int32} (hg : g0 + n ≤ 8) (hd : d ≤ 999) (he : e ≤ 999) : ∀ (m N k : Nat) (S : St), k + m = n → m < N → S.1 (Q + 1) 0 = iI s0 → S.1 (Q + 1) 1 = iI (g0 + k : Nat) →
    ∃ S2 : St, f_X6_add_L70 N (Q + 1) (iI n) a2 a3 (iI d) (iI e) (iI k) S = some (1, S2) ∧ S2.1 (Q + 1) 0 = iI (s0 + 1 : Nat) ∧ S2.1 (Q + 1) 1 = iI (g0 + n : Nat) ∧ (∀ j, k ≤ j → j < n → S2.1 (Q + 8) (g0 + j) = iI s0 ∧ S2.1 (Q + 9) (g0 + j) = iI (d + j * e : Nat)) ∧ (∀ a q, a ≠ Q + 1 → ((a = Q + 8 ∨ a = Q + 9) → q < g0 + k) → S2.1 a q = S.1 a q) ∧ S2.2 = S.2 := by
  intro m
  induction m with
  | zero =>
    intro N k S hk hN h0 h1
    obtain ⟨N, rfl⟩ : ∃ k, N = k + 1 := ⟨N - 1, by omega⟩
    refine ⟨pI S (Q + 1) 0 (iI (s0 + 1 : Nat)), ?_, by rw [pI_1, if_pos ⟨rfl, rfl⟩], ?_, fun j h2 h3 => absurd h2 (by omega), fun a q h2 _ => by rw [pI_row h2], rfl⟩
    · rw [f_X6_add_L70, if_pos (by rw [iI_le (by omega) (by omega)]; omega), h0, show iI s0 + (1 : Int32) = iI (s0 + 1 : Nat) from iI_add _ 1, sq_k]
    · rw [pI_1, if_neg (by omega), h1, show k = n by omega]
  | succ m ih =>
    intro N k S hk hN h0 h1
    obtain ⟨N, rfl⟩ : ∃ k, N = k + 1 := ⟨N - 1, by omega⟩
    obtain ⟨S3, hS3⟩ : ∃ S3, S3 = pI (pI (pI S (Q + 8) (g0 + k) (iI s0)) (Q + 9) (g0 + k) (iI (d + k * e : Nat))) (Q + 1) 1 (iI (g0 + (k + 1) : Nat)) := ⟨_, rfl⟩
    have x1 : iI d + iI k * iI e = iI (d + k * e : Nat) := by rw [iI_mul, iI_add]; congr 1
    obtain ⟨S2, y1, y2, y3, y4, y5, y6⟩ := ih N (k + 1) S3 (by omega) (by omega) (by rw [hS3, pI_1, if_neg (by omega), pI_row (by omega), pI_row (by omega)]; exact h0) (by rw [hS3, pI_1, if_pos ⟨rfl, rfl⟩])
    refine ⟨S2, ?_, y2, y3, fun j h2 h3 => ?_, fun a q h2 h3 => ?_, by rw [y6, hS3]; rfl⟩
    · rw [f_X6_add_L70, if_neg (by rw [iI_le (by omega) (by omega)]; omega), h1, h0, ob_iI (by omega), iI_nat (by omega), show Q + 1 + 7 = Q + 8 from rfl, show Q + 1 + 8 = Q + 9 from rfl, sq_k, pI_row (show Q + 1 ≠ Q + 8 by omega), h1, ob_iI (by omega), iI_nat (by omega), x1, sq_k, pI_row (show Q + 1 ≠ Q + 9 by omega), pI_row (show Q + 1 ≠ Q + 8 by omega), h1, show iI (g0 + k : Nat) + (1 : Int32) = iI (g0 + (k + 1) : Nat) from iI_add _ 1, sq_k, ← hS3, show iI k + (1 : Int32) = iI (k + 1 : Nat) from iI_add _ 1]
      exact y1
    · by_cases hj : j = k
      · rw [hj, y5 (Q + 8) (g0 + k) (by omega) (fun _ => by omega), y5 (Q + 9) (g0 + k) (by omega) (fun _ => by omega), hS3, pI_row (show Q + 8 ≠ Q + 1 by omega), pI_row (show Q + 9 ≠ Q + 1 by omega), pI_row (show Q + 8 ≠ Q + 9 by omega), pI_1, pI_1, if_pos ⟨rfl, rfl⟩, if_pos ⟨rfl, rfl⟩]
        exact ⟨rfl, rfl⟩
      · exact y4 j (by omega) h3
    · rw [y5 a q h2 (fun z => by have := h3 z; omega), hS3, pI_row h2, pI_1, pI_1]
      rw [if_neg (fun z => by have := h3 (Or.inr z.1); omega), if_neg (fun z => by have := h3 (Or.inl z.1); omega)]
theorem E_t103 (hQ : Q = 5 ∨ Q = 15) (hV : VB0 B) (hB : BE S Q B) (hv : ∀ j, j < 5 → S.1 4 j = iI (v j)) (h9 : ∀ j, v j ≤ 999) : RT (takeS 103 v B) Q S (f_X3_take 3 (iI (103 : Nat)) Q S) := by
  have v0 := hv 0 (by omega)
  have v1 := hv 1 (by omega)
  have v2 := hv 2 (by omega)
  have v3 := hv 3 (by omega)
  have v4 := hv 4 (by omega)
  have a0 := h9 0
  have h6 := hV.2.1.1
  have h8 := hV.2.1.2.1
  have u1 : f_X3_upTo 3 1 5 S = some (bI (decide (v 1 ≤ 5)), S) := E_upTo (k := 1) (h := 5) (by omega) v1 (h9 1) (by omega)
  have u2 : f_X3_upTo 3 2 30 S = some (bI (decide (v 2 ≤ 30)), S) := E_upTo (k := 2) (h := 30) (by omega) v2 (h9 2) (by omega)
  have u3 : f_X3_upTo 3 3 30 S = some (bI (decide (v 3 ≤ 30)), S) := E_upTo (k := 3) (h := 30) (by omega) v3 (h9 3) (by omega)
  have u4 : f_X3_upTo 3 4 9 S = some (bI (decide (v 4 ≤ 9)), S) := E_upTo (k := 4) (h := 9) (by omega) v4 (h9 4) (by omega)
  have e : takeS 103 v B = if B 9 0 < 6 ∧ 1 ≤ v 0 ∧ B 9 1 + v 0 ≤ 8 ∧ v 1 ≤ 5 ∧ v 2 ≤ 30 ∧ v 3 ≤ 30 ∧ v 4 ≤ 9 then some (addB B v) else none := rfl
  have pre : f_X3_takeSort 3 (iI (103 : Nat)) (Q + 1) S = (if bI (decide (v 1 ≤ 5)) = 0 then some ((0 : Int32), S) else if bI (decide (v 2 ≤ 30)) = 0 then some ((0 : Int32), S) else if bI (decide (v 3 ≤ 30)) = 0 then some ((0 : Int32), S) else if bI (decide (v 4 ≤ 9)) = 0 then some ((0 : Int32), S) else bd (f_X6_add (Q + 1) (iI (v 0)) (iI (v 1)) (iI (v 2)) (iI (v 3)) (iI (v 4)) S) fun x18 S19 => if x18 = 0 then some ((0 : Int32), S19) else some ((1 : Int32), S19)) := by
    unfold f_X3_takeSort
    rw [if_pos (by decide), u1, bd_ok rfl, u2, bd_ok rfl, u3, bd_ok rfl, u4, bd_ok rfl]
    dsimp only [Nat.reduceAdd]
    rw [cl0, cl1, cl2, cl3, cl4, v0, v1, v2, v3, v4]
  refine E_sort_pre (Or.inl rfl) pre ?_
  rw [e]
  have no : ∀ c : Prop, (B 9 0 < 6 ∧ 1 ≤ v 0 ∧ B 9 1 + v 0 ≤ 8 ∧ v 1 ≤ 5 ∧ v 2 ≤ 30 ∧ v 3 ≤ 30 ∧ v 4 ≤ 9 → c) → ¬ c → RT (if B 9 0 < 6 ∧ 1 ≤ v 0 ∧ B 9 1 + v 0 ≤ 8 ∧ v 1 ≤ 5 ∧ v 2 ≤ 30 ∧ v 3 ≤ 30 ∧ v 4 ≤ 9 then some (addB B v) else none) Q S (some ((0 : Int32), S)) := fun c h1 h2 => by
    rw [if_neg (fun z => h2 (h1 z))]; exact RT_no rfl Fr.rf
  by_cases c1 : v 1 ≤ 5
  · rw [decide_eq_true c1, if_neg (show ¬ bI true = 0 by decide)]
    by_cases c2 : v 2 ≤ 30
    · rw [decide_eq_true c2, if_neg (show ¬ bI true = 0 by decide)]
      by_cases c3 : v 3 ≤ 30
      · rw [decide_eq_true c3, if_neg (show ¬ bI true = 0 by decide)]
        by_cases c4 : v 4 ≤ 9
        · rw [decide_eq_true c4, if_neg (show ¬ bI true = 0 by decide)]
          have b0 : S.1 (Q + 1) 0 = iI (B 9 0) := hB.2.1
          have b1 : S.1 (Q + 1) 1 = iI (B 9 1) := hB.2.2.1
          by_cases c5 : B 9 0 < 6
          · by_cases c6 : 1 ≤ v 0
            · by_cases c7 : B 9 1 + v 0 ≤ 8
              · rw [if_pos ⟨c5, c6, c7, c1, c2, c3, c4⟩]
                obtain ⟨S3, hS3⟩ : ∃ S3, S3 = pI (pI (pI (pI S (Q + 2) (B 9 0) (iI (v 1))) (Q + 3) (B 9 0) (iI (v 2))) (Q + 4) (B 9 0) (iI (0 : Nat))) (Q + 5) (B 9 0) (iI (0 : Nat)) := ⟨_, rfl⟩
                have r3 : ∀ a, a ≠ Q + 2 → a ≠ Q + 3 → a ≠ Q + 4 → a ≠ Q + 5 → S3.1 a = S.1 a := fun a h1 h2 h3 h4 => by rw [hS3, pI_row h4, pI_row h3, pI_row h2, pI_row h1]
                obtain ⟨S2, y1, y2, y3, y4, y5, y6⟩ := E_addL (Q := Q) (s0 := B 9 0) (g0 := B 9 1) (n := v 0) (d := v 3) (e := v 4) (a2 := iI (v 1)) (a3 := iI (v 2)) c7 (h9 3) (h9 4) (v 0) FU 0 S3 (by omega) (by unfold FU; omega) (by rw [r3 _ (by omega) (by omega) (by omega) (by omega)]; exact b0) (by rw [r3 _ (by omega) (by omega) (by omega) (by omega)]; exact b1)
                have had : f_X6_add (Q + 1) (iI (v 0)) (iI (v 1)) (iI (v 2)) (iI (v 3)) (iI (v 4)) S = some (1, S2) := by
                  unfold f_X6_add
                  rw [b0, b1, show (6 : Int32) = iI 6 from rfl, if_neg (by rw [iI_le (by omega) (by omega)]; omega), show (1 : Int32) = iI 1 from rfl, if_neg (by rw [iI_lt (by omega) (by omega)]; omega), iI_add, show (8 : Int32) = iI 8 from rfl, if_pos (by rw [iI_le (by omega) (by omega)]; omega), ob_iI (by omega), iI_nat (by omega), show Q + 1 + 1 = Q + 2 from rfl, show Q + 1 + 2 = Q + 3 from rfl, show Q + 1 + 3 = Q + 4 from rfl, show Q + 1 + 4 = Q + 5 from rfl, sq_k, pI_row (show Q + 1 ≠ Q + 2 by omega), b0, ob_iI (by omega), iI_nat (by omega), sq_k, pI_row (show Q + 1 ≠ Q + 3 by omega), pI_row (show Q + 1 ≠ Q + 2 by omega), b0, ob_iI (by omega), iI_nat (by omega), sq_k, pI_row (show Q + 1 ≠ Q + 4 by omega), pI_row (show Q + 1 ≠ Q + 3 by omega), pI_row (show Q + 1 ≠ Q + 2 by omega), b0, ob_iI (by omega), iI_nat (by omega), sq_k, show (0 : Int32) = iI (0 : Nat) from rfl, ← hS3]
                  exact y1
                rw [had, bd_ok rfl, if_neg (by decide)]
                have fr : ∀ a q, ¬ PQ Q a q → S2.1 a q = S.1 a q := fun a q h => by
                  unfold PQ at h
                  rw [y5 a q (by omega) (fun z => by omega), r3 a (by omega) (by omega) (by omega) (by omega)]
                have s22 : S2.2 = S.2 := by rw [y6, hS3]; rfl
                refine RT_yes rfl (Fr_rows fr s22) ?_
                obtain ⟨n1, n2, n3, n4, n10, n11, n12⟩ := addB_n B v
                have q0 : ∀ k, S2.1 Q k = S.1 Q k := fun k => by rw [y5 Q k (by omega) (fun z => by omega), r3 Q (by omega) (by omega) (by omega) (by omega)]
                have e90 : addB B v 9 0 = B 9 0 + 1 := by rw [addB_9, if_pos rfl]
                have e91 : addB B v 9 1 = B 9 1 + v 0 := by rw [addB_9, if_neg (by omega), if_pos rfl]
                have z0 : ∀ k, addB B v 0 k = B 0 k := fun k => by
                  unfold addB
                  rw [if_neg (by omega), if_neg (by omega), if_neg (by omega)]
                  by_cases hb : k = B 9 0
                  · rw [if_pos hb, if_neg (by omega), if_neg (by omega), if_neg (by omega), if_neg (by omega), if_neg (by omega), if_neg (by omega), if_neg (by omega)]
                  · rw [if_neg hb]
                obtain ⟨ha, hb1, hb2, hb3, hb4⟩ := hB
                refine ⟨?_, by rw [e90]; exact y2, by rw [e91]; exact y3, fun s hs => ?_, fun i hi => ?_⟩
                · rw [q0, q0, q0, q0, q0, q0, q0, q0, q0, q0, z0, z0, z0, z0, z0, z0, z0, z0, z0, z0]; exact ha
                · rw [e90] at hs
                  have t : ∀ q, 2 ≤ q → q ≤ 7 → ∀ k, S2.1 (Q + q) k = S3.1 (Q + q) k := fun q h1 h2 k => y5 _ k (by omega) (fun z => by omega)
                  rw [t 2 (by omega) (by omega), t 3 (by omega) (by omega), t 4 (by omega) (by omega), t 5 (by omega) (by omega)]
                  by_cases hc : s = B 9 0
                  · rw [hc, n1, n2, n3, n4, hS3]
                    refine ⟨?_, ?_, ?_, ?_, fun k hk => absurd hk (Nat.not_lt_zero _)⟩
                    · rw [pI_row (by omega), pI_row (by omega), pI_row (by omega), pI_1, if_pos ⟨rfl, rfl⟩]
                    · rw [pI_row (by omega), pI_row (by omega), pI_1, if_pos ⟨rfl, rfl⟩]
                    · rw [pI_row (by omega), pI_1, if_pos ⟨rfl, rfl⟩]
                    · rw [pI_1, if_pos ⟨rfl, rfl⟩]
                  · have hs2 : s < B 9 0 := by omega
                    have o : ∀ a, (a ≠ 7 ∧ a ≠ 8 ∧ a ≠ 9) → addB B v a s = B a s := fun a ha => addB_o B v a s ha hc
                    rw [o 1 (by omega), o 2 (by omega), o 3 (by omega), o 4 (by omega)]
                    obtain ⟨z1, z2, z3, z4, z5⟩ := hb3 s hs2
                    have w : ∀ q, 2 ≤ q → q ≤ 5 → S3.1 (Q + q) s = S.1 (Q + q) s := fun q h1 h2 => by
                      rw [hS3, pI_1, if_neg (fun z => hc z.2), pI_1, if_neg (fun z => hc z.2), pI_1, if_neg (fun z => hc z.2), pI_1, if_neg (fun z => hc z.2)]
                    rw [w 2 (by omega) (by omega), w 3 (by omega) (by omega), w 4 (by omega) (by omega), w 5 (by omega) (by omega)]
                    refine ⟨z1, z2, z3, z4, fun k hk => ?_⟩
                    have hr : ∀ a, a = 5 ∨ a = 6 → addB B v a (3 * s + k) = B a (3 * s + k) := fun a ha => by
                      unfold addB
                      rw [if_neg (by omega), if_neg (by omega), if_neg (by omega)]
                      by_cases hb : 3 * s + k = B 9 0
                      · rw [if_pos hb, if_neg (by omega), if_neg (by omega), if_neg (by omega), if_neg (by omega), if_neg (by omega), if_neg (by omega), if_neg (by omega)]
                      · rw [if_neg hb]
                    rw [t 6 (by omega) (by omega), t 7 (by omega) (by omega), r3 (Q + 6) (by omega) (by omega) (by omega) (by omega), r3 (Q + 7) (by omega) (by omega) (by omega) (by omega), hr 5 (Or.inl rfl), hr 6 (Or.inr rfl)]
                    exact z5 k hk
                · rw [e91] at hi
                  rw [addB_7, addB_8]
                  by_cases hc : B 9 1 ≤ i
                  · rw [if_pos hc, if_pos hc]
                    have := y4 (i - B 9 1) (Nat.zero_le _) (by omega)
                    rw [show B 9 1 + (i - B 9 1) = i by omega] at this
                    exact this
                  · rw [if_neg hc, if_neg hc, y5 (Q + 8) i (by omega) (fun _ => by omega), y5 (Q + 9) i (by omega) (fun _ => by omega), r3 (Q + 8) (by omega) (by omega) (by omega) (by omega), r3 (Q + 9) (by omega) (by omega) (by omega) (by omega)]
                    exact hb4 i (by omega)
              · have had : f_X6_add (Q + 1) (iI (v 0)) (iI (v 1)) (iI (v 2)) (iI (v 3)) (iI (v 4)) S = some (0, S) := by
                  unfold f_X6_add
                  rw [b0, b1, show (6 : Int32) = iI 6 from rfl, if_neg (by rw [iI_le (by omega) (by omega)]; omega), show (1 : Int32) = iI 1 from rfl, if_neg (by rw [iI_lt (by omega) (by omega)]; omega), iI_add, show (8 : Int32) = iI 8 from rfl, if_neg (by rw [iI_le (by omega) (by omega)]; omega)]
                rw [had, bd_ok rfl, if_pos rfl]
                exact no _ (fun z => z.2.2.1) c7
            · have had : f_X6_add (Q + 1) (iI (v 0)) (iI (v 1)) (iI (v 2)) (iI (v 3)) (iI (v 4)) S = some (0, S) := by
                unfold f_X6_add
                rw [b0, b1, show (6 : Int32) = iI 6 from rfl, if_neg (by rw [iI_le (by omega) (by omega)]; omega), show (1 : Int32) = iI 1 from rfl, if_pos (by rw [iI_lt (by omega) (by omega)]; omega)]
              rw [had, bd_ok rfl, if_pos rfl]
              exact no _ (fun z => z.2.1) c6
          · have had : f_X6_add (Q + 1) (iI (v 0)) (iI (v 1)) (iI (v 2)) (iI (v 3)) (iI (v 4)) S = some (0, S) := by
              unfold f_X6_add
              rw [b0, b1, show (6 : Int32) = iI 6 from rfl, if_pos (by rw [iI_le (by omega) (by omega)]; omega)]
            rw [had, bd_ok rfl, if_pos rfl]
            exact no _ (fun z => z.1) c5
        · rw [decide_eq_false c4, if_pos (show bI false = 0 by decide)]
          exact no _ (fun z => z.2.2.2.2.2.2) c4
      · rw [decide_eq_false c3, if_pos (show bI false = 0 by decide)]
        exact no _ (fun z => z.2.2.2.2.2.1) c3
    · rw [decide_eq_false c2, if_pos (show bI false = 0 by decide)]
      exact no _ (fun z => z.2.2.2.2.1) c2
  · rw [decide_eq_false c1, if_pos (show bI false = 0 by decide)]
    exact no _ (fun z => z.2.2.2.1) c1
end SortE
