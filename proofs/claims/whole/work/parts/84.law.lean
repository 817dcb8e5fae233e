theorem law_step {n Ln i : Nat} {xs : Nat → Int32} (hL : Ln ≤ 2048) (hi : 4 * i + 3 < Ln) {S : St} (h : Inv S) : ∃ S2 : St, Inv S2 ∧ f_L_law_L18 (n + 1) xs Ln (iI (4 * i : Nat)) S = f_L_law_L18 n xs Ln (iI (4 * (i + 1) : Nat)) S2 := by
  have e4 : iI (4 * i : Nat) + (4 : Int32) = iI (4 * (i + 1) : Nat) := by rw [show (4 : Int32) = iI 4 from rfl, iI_add]; congr 1
  have o0 : ∀ k : Option (Int32 × St), ob (iI (4 * i : Nat)) Ln k = k := fun k => ob_iI (by omega)
  have o1' : ∀ k : Option (Int32 × St), ob (iI (4 * i : Nat) + (1 : Int32)) Ln k = k := fun k => by
    rw [show iI (4 * i : Nat) + (1 : Int32) = iI (4 * i + 1 : Nat) from iI_add _ 1]; exact ob_iI (by omega)
  have o2' : ∀ k : Option (Int32 × St), ob (iI (4 * i : Nat) + (2 : Int32)) Ln k = k := fun k => by
    rw [show iI (4 * i : Nat) + (2 : Int32) = iI (4 * i + 2 : Nat) from iI_add _ 2]; exact ob_iI (by omega)
  have o3' : ∀ k : Option (Int32 × St), ob (iI (4 * i : Nat) + (3 : Int32)) Ln k = k := fun k => by
    rw [show iI (4 * i : Nat) + (3 : Int32) = iI (4 * i + 3 : Nat) from iI_add _ 3]; exact ob_iI (by omega)
  have hn : ¬ (nI Ln - (4 : Int32) < iI (4 * i : Nat)) := by
    rw [iI_nI, show (4 : Int32) = iI 4 from rfl, iI_sub, iI_lt (by omega) (by omega)]; omega
  rw [f_L_law_L18, if_neg hn, o0]
  simp only [o1', o2', o3', e4]
  by_cases c0 : (xs (Int32.toNatClampNeg (iI (4 * i : Nat)))) &&& (31 : Int32) = (0 : Int32)
  · rw [if_pos c0]
    exact step_ok (ok_write _ _) h rfl
  rw [if_neg c0]
  by_cases c1 : (xs (Int32.toNatClampNeg (iI (4 * i : Nat)))) &&& (31 : Int32) = (1 : Int32)
  · rw [if_pos c1]
    exact step_ok (ok_wipe) h rfl
  rw [if_neg c1]
  by_cases c2 : (xs (Int32.toNatClampNeg (iI (4 * i : Nat)))) &&& (31 : Int32) = (2 : Int32)
  · rw [if_pos c2]
    exact step_ok (ok_fault) h rfl
  rw [if_neg c2]
  by_cases c3 : (xs (Int32.toNatClampNeg (iI (4 * i : Nat)))) &&& (31 : Int32) = (3 : Int32)
  · rw [if_pos c3]
    exact step_ok (ok_lay) h rfl
  rw [if_neg c3]
  by_cases c4 : (xs (Int32.toNatClampNeg (iI (4 * i : Nat)))) &&& (31 : Int32) = (4 : Int32)
  · rw [if_pos c4]
    exact step_ok (ok_giver _ _) h rfl
  rw [if_neg c4]
  by_cases c5 : (xs (Int32.toNatClampNeg (iI (4 * i : Nat)))) &&& (31 : Int32) = (5 : Int32)
  · rw [if_pos c5]
    exact step_ok (ok_show _) h rfl
  rw [if_neg c5]
  by_cases c6 : (xs (Int32.toNatClampNeg (iI (4 * i : Nat)))) &&& (31 : Int32) = (6 : Int32)
  · rw [if_pos c6]
    exact step_ok (ok_odds _) h rfl
  rw [if_neg c6]
  by_cases c7 : (xs (Int32.toNatClampNeg (iI (4 * i : Nat)))) &&& (31 : Int32) = (7 : Int32)
  · rw [if_pos c7]
    exact step_ok (ok_mean _ _) h rfl
  rw [if_neg c7]
  by_cases c8 : (xs (Int32.toNatClampNeg (iI (4 * i : Nat)))) &&& (31 : Int32) = (8 : Int32)
  · rw [if_pos c8]
    exact step_ok (ok_wrong _) h rfl
  rw [if_neg c8]
  by_cases c9 : (xs (Int32.toNatClampNeg (iI (4 * i : Nat)))) &&& (31 : Int32) = (9 : Int32)
  · rw [if_pos c9]
    exact step_ok (ok_row _ _) h rfl
  rw [if_neg c9]
  by_cases c10 : (xs (Int32.toNatClampNeg (iI (4 * i : Nat)))) &&& (31 : Int32) = (10 : Int32)
  · rw [if_pos c10]
    exact step_ok (ok_judge) h rfl
  rw [if_neg c10]
  by_cases c11 : (xs (Int32.toNatClampNeg (iI (4 * i : Nat)))) &&& (31 : Int32) = (11 : Int32)
  · rw [if_pos c11]
    exact step_ok (ok_made _) h rfl
  rw [if_neg c11]
  by_cases c12 : (xs (Int32.toNatClampNeg (iI (4 * i : Nat)))) &&& (31 : Int32) = (12 : Int32)
  · rw [if_pos c12]
    exact step_ok (ok_just _) h rfl
  rw [if_neg c12]
  by_cases c13 : (xs (Int32.toNatClampNeg (iI (4 * i : Nat)))) &&& (31 : Int32) = (13 : Int32)
  · rw [if_pos c13]
    exact step_ok (ok_fails) h rfl
  rw [if_neg c13]
  by_cases c14 : (xs (Int32.toNatClampNeg (iI (4 * i : Nat)))) &&& (31 : Int32) = (14 : Int32)
  · rw [if_pos c14]
    exact step_ok (ok_bestBar _) h rfl
  rw [if_neg c14]
  by_cases c15 : (xs (Int32.toNatClampNeg (iI (4 * i : Nat)))) &&& (31 : Int32) = (15 : Int32)
  · rw [if_pos c15]
    exact step_ok (ok_bestDay) h rfl
  rw [if_neg c15]
  by_cases c16 : (xs (Int32.toNatClampNeg (iI (4 * i : Nat)))) &&& (31 : Int32) = (16 : Int32)
  · rw [if_pos c16]
    exact step_ok (ok_extra _) h rfl
  rw [if_neg c16]
  by_cases c17 : (xs (Int32.toNatClampNeg (iI (4 * i : Nat)))) &&& (31 : Int32) = (17 : Int32)
  · rw [if_pos c17]
    exact step_ok (ok_bestShow) h rfl
  rw [if_neg c17]
  by_cases c18 : (xs (Int32.toNatClampNeg (iI (4 * i : Nat)))) &&& (31 : Int32) = (18 : Int32)
  · rw [if_pos c18]
    exact step_ok (ok_rich _ _) h rfl
  rw [if_neg c18]
  by_cases c19 : (xs (Int32.toNatClampNeg (iI (4 * i : Nat)))) &&& (31 : Int32) = (19 : Int32)
  · rw [if_pos c19]
    exact step_ok (ok_richDay _) h rfl
  rw [if_neg c19]
  by_cases c20 : (xs (Int32.toNatClampNeg (iI (4 * i : Nat)))) &&& (31 : Int32) = (20 : Int32)
  · rw [if_pos c20]
    exact step_ok (ok_two _) h rfl
  rw [if_neg c20]
  by_cases c21 : (xs (Int32.toNatClampNeg (iI (4 * i : Nat)))) &&& (31 : Int32) = (21 : Int32)
  · rw [if_pos c21]
    exact step_ok (ok_evening _ _ _) h rfl
  rw [if_neg c21]
  by_cases c22 : (xs (Int32.toNatClampNeg (iI (4 * i : Nat)))) &&& (31 : Int32) = (22 : Int32)
  · rw [if_pos c22]
    exact step_ok (ok_whole _ _) h rfl
  rw [if_neg c22]
  by_cases c23 : (xs (Int32.toNatClampNeg (iI (4 * i : Nat)))) &&& (31 : Int32) = (23 : Int32)
  · rw [if_pos c23]
    exact step_ok (ok_keep) h rfl
  rw [if_neg c23]
  by_cases c24 : (xs (Int32.toNatClampNeg (iI (4 * i : Nat)))) &&& (31 : Int32) = (24 : Int32)
  · rw [if_pos c24]
    exact step_ok (ok_back) h rfl
  rw [if_neg c24]
  by_cases c25 : (xs (Int32.toNatClampNeg (iI (4 * i : Nat)))) &&& (31 : Int32) = (25 : Int32)
  · rw [if_pos c25]
    exact step_ok (ok_count _) h rfl
  rw [if_neg c25]
  exact ⟨S, h, rfl⟩
theorem law_ok {xs : Nat → Int32} {Ln : Nat} (hL : Ln ≤ 2048) : ∀ (m N i : Nat) (S : St), Ln ≤ 4 * (i + m) → m < N → i ≤ 600 → Inv S → ∃ r : Int32 × St, r.1 = 1 ∧ f_L_law_L18 N xs Ln (iI (4 * i : Nat)) S = some r := by
  have stop : ∀ (N i : Nat) (S : St), Ln ≤ 4 * i + 3 → i ≤ 600 → ∃ r : Int32 × St, r.1 = 1 ∧ f_L_law_L18 (N + 1) xs Ln (iI (4 * i : Nat)) S = some r := by
    intro N i S h1 h2
    refine ⟨(1, S), rfl, ?_⟩
    rw [f_L_law_L18, if_pos (by rw [iI_nI, show (4 : Int32) = iI 4 from rfl, iI_sub, iI_lt (by omega) (by omega)]; omega)]
  intro m
  induction m with
  | zero =>
    intro N i S h1 hN h2 hI
    obtain ⟨N, rfl⟩ : ∃ k, N = k + 1 := ⟨N - 1, by omega⟩
    exact stop N i S (by omega) h2
  | succ m ih =>
    intro N i S h1 hN h2 hI
    obtain ⟨N, rfl⟩ : ∃ k, N = k + 1 := ⟨N - 1, by omega⟩
    by_cases hc : Ln ≤ 4 * i + 3
    · exact stop N i S hc h2
    · obtain ⟨S2, hI2, e⟩ := law_step (n := N) (xs := xs) hL (show 4 * i + 3 < Ln by omega) hI
      obtain ⟨r, r1, r2⟩ := ih N (i + 1) S2 (by omega) (by omega) (by omega) hI2
      exact ⟨r, r1, e.trans r2⟩
theorem mrg_E (I : Nat → Nat → Int32) (J : Nat → Nat → Int64) : cutE (mrg I J) = cutE (I, J, R0) := by
  unfold cutE mrg
  congr 1
  · funext a
    by_cases h : a < 103
    · rw [if_pos h, if_pos h]
      dsimp only
      rw [if_pos h]
    · rw [if_neg h, if_neg h]
  · congr 1
    funext a
    by_cases h : a < 103
    · rw [if_pos h, if_pos h]
      dsimp only
      rw [if_pos h]
    · rw [if_neg h, if_neg h]
/-- what is left of the claim, in words of the functions alone -/
theorem fun_ok : ∃ (I : Nat → Nat → Int32) (J : Nat → Nat → Int64) (S2 : St), f_X9_initB 0 S0 = some ((), (I, J, R0)) ∧ f_X10_initB 103 (mrg I J) = some ((), S2) ∧ ∀ (xs : Nat → Int32) (Ln : Nat), Ln ≤ 2048 → ∃ r : Int32 × St, r.1 = 1 ∧ f_L_law_L18 FU xs Ln 0 S2 = some r := by
  obtain ⟨I, J, h1, h2⟩ := start_E
  obtain ⟨S2, h3, h4, h5⟩ := start_M (S := mrg I J) (fun a k ha => by
    have : (mrg I J).1 a = fun _ => 0 := if_neg (by omega)
    rw [this])
  refine ⟨I, J, S2, h1, h3, fun xs Ln hL => ?_⟩
  have hE : IE S2 T0S := IE_of (cutE_fr h5) (IE_of (mrg_E I J) h2)
  exact law_ok hL 600 FU 0 S2 (by omega) (by unfold FU; omega) (by omega) ⟨T0S, T0_V, hE, h4⟩
