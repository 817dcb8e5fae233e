/-! the law's round -/
def LI (n d : Nat) (S : St) : Prop := ∃ T : Tst, VT T ∧ IE S T ∧ tB T 9 1 = n ∧ tB T 0 2 = d
theorem refus {S : St} {T : Tst} (hV : VT T) (hE : IE S T) : Refus S := by
  have hng : tB T 9 1 ≤ 8 := (VT_B hV).2.1.2.2.2
  have hng1 : 1 ≤ tB T 9 1 := (VT_B hV).2.1.2.2.1
  have g8 : bad (8 : Int32) 0 ((tB T 9 1 : Int) - 1) := Or.inr (by rw [show (8 : Int32).toInt = 8 from rfl]; omega)
  have g0 : ¬ bad (0 : Int32) 0 ((tB T 9 1 : Int) - 1) := by unfold bad; rw [show (0 : Int32).toInt = 0 from rfl]; omega
  have gz := E_isGiver_bad hV hE g8
  have w0 : f_X9_isWithin (0 : Int32) (0 : Int32) (9999 : Int32) S = some (1, S) := within_ok (by unfold bad; decide)
  refine ⟨?_, ?_, ?_, ?_, ?_, ?_, ?_, ?_, ?_, ?_, ?_, ?_, ?_, ?_, ?_, ?_, ?_⟩
  · have w : f_X9_isWithin (9 : Int32) (1 : Int32) (8 : Int32) S = some (0, S) := within_bad (by unfold bad; decide)
    unfold f_X9_write; rw [bd_ok w]; rfl
  · unfold f_X9_giver; rw [bd_ok gz]; rfl
  · have w : f_X9_isWithin (3 : Int32) (0 : Int32) (2 : Int32) S = some (0, S) := within_bad (by unfold bad; decide)
    unfold f_X9_show; rw [bd_ok w]; rfl
  · have w : f_X9_isWithin (3 : Int32) (0 : Int32) (2 : Int32) S = some (0, S) := within_bad (by unfold bad; decide)
    unfold f_X9_odds; rw [bd_ok w]; rfl
  · unfold f_X9_mean; rw [bd_ok gz]; rfl
  · have w : f_X9_isWithin (2 : Int32) (0 : Int32) (1 : Int32) S = some (0, S) := within_bad (by unfold bad; decide)
    unfold f_X9_wrong; rw [bd_ok w]; rfl
  · have w : f_X9_isWithin (31 : Int32) (0 : Int32) (30 : Int32) S = some (0, S) := within_bad (by unfold bad; decide)
    unfold f_X9_row; rw [bd_ok (E_isGiver_ok hV hE g0), if_neg (by decide), bd_ok w]; rfl
  · have w : f_X9_isWithin (2 : Int32) (0 : Int32) (1 : Int32) S = some (0, S) := within_bad (by unfold bad; decide)
    unfold f_X9_made; rw [bd_ok w]; rfl
  · unfold f_X9_just; rw [if_neg (by decide), bd_ok gz, if_pos rfl]
  · have w : f_X9_isWithin (2 : Int32) (0 : Int32) (1 : Int32) S = some (0, S) := within_bad (by unfold bad; decide)
    unfold f_X9_bestBar; rw [bd_ok w]; rfl
  · have w : f_X9_isWithin (11 : Int32) (0 : Int32) (10 : Int32) S = some (0, S) := within_bad (by unfold bad; decide)
    unfold f_X9_extra; rw [bd_ok w]; rfl
  · have w : f_X9_isWithin (100 : Int32) (0 : Int32) (99 : Int32) S = some (0, S) := within_bad (by unfold bad; decide)
    unfold f_X9_rich; rw [bd_ok w]; rfl
  · have w : f_X9_isWithin (100 : Int32) (0 : Int32) (99 : Int32) S = some (0, S) := within_bad (by unfold bad; decide)
    unfold f_X9_richDay; rw [bd_ok w]; rfl
  · have w : f_X9_isWithin (3 : Int32) (0 : Int32) (2 : Int32) S = some (0, S) := within_bad (by unfold bad; decide)
    unfold f_X9_two; rw [bd_ok w]; rfl
  · unfold f_X9_evening; rw [bd_ok w0, if_neg (by decide), bd_ok gz]; rfl
  · have w : f_X9_isWithin (2 : Int32) (0 : Int32) (1 : Int32) S = some (0, S) := within_bad (by unfold bad; decide)
    unfold f_X9_whole; rw [bd_ok w0, if_neg (by decide), bd_ok w]; rfl
  · unfold f_X9_count; rw [if_neg (by decide), if_neg (by decide), if_neg (by decide), if_neg (by decide), if_neg (by decide), if_neg (by decide), if_neg (by decide)]
theorem OkB_pure {α : Type} (v : α) : OkB (fun S => some (v, S)) := fun S T hV hE => ⟨v, T, S, rfl, hV, hE, rfl⟩
theorem OkB_bd {α β : Type} {f : St → Option (α × St)} {k : α → St → Option (β × St)} (h : OkB f) (hk : ∀ v, OkB (fun S => k v S)) : OkB (fun S => bd (f S) k) := fun S T hV hE => by
  obtain ⟨v, T2, S1, e1, e2, e3, e4⟩ := h S T hV hE
  obtain ⟨w, T3, S2, d1, d2, d3, d4⟩ := hk v S1 T2 e2 e3
  exact ⟨w, T3, S2, (bd_ok e1).trans d1, d2, d3, d4.trans e4⟩
theorem OkB_if {α : Type} {p : Prop} [Decidable p] {a b : St → Option (α × St)} (ha : OkB a) (hb : OkB b) : OkB (fun S => if p then a S else b S) := fun S T hV hE => by
  dsimp only
  by_cases h : p
  · rw [if_pos h]; exact ha S T hV hE
  · rw [if_neg h]; exact hb S T hV hE
theorem OkB_sm (v m : Int32) (h : ¬ m = 0) : OkB (fun S => f_L_some v m S) := fun S T hV hE => ⟨_, T, S, ck_pos h, hV, hE, rfl⟩
set_option maxHeartbeats 4000000 in
theorem act_ok {n d : Nat} (hn : 1 ≤ n ∧ n ≤ 8) (hd : d ≤ 30) (x y : Int32) : OkB (fun S => f_L_act 0 x y (iI n) (iI d) S) := by
  have n0 : ¬ iI (n : Int) = 0 := by rw [show (0 : Int32) = iI 0 from rfl, iI_eq (by omega) (by omega)]; omega
  have n1 : ¬ iI (n : Int) + (1 : Int32) = 0 := by rw [show (1 : Int32) = iI 1 from rfl, iI_add, show (0 : Int32) = iI 0 from rfl, iI_eq (by omega) (by omega)]; omega
  have d1 : ¬ iI (d : Int) + (1 : Int32) = 0 := by rw [show (1 : Int32) = iI 1 from rfl, iI_add, show (0 : Int32) = iI 0 from rfl, iI_eq (by omega) (by omega)]; omega
  unfold f_L_act
  refine OkB_bd (OkB_sm _ _ n0) (fun x1 => ?_)
  refine OkB_if ?_ ?_
  · refine OkB_bd ?_ (fun x5 => ?_)
    · exact OkB_sm _ _ (by decide)
    refine OkB_bd ?_ (fun x8 => ?_)
    · exact ok_show _
    exact OkB_pure _
  refine OkB_if ?_ ?_
  · refine OkB_bd ?_ (fun x12 => ?_)
    · exact OkB_sm _ _ (by decide)
    refine OkB_bd ?_ (fun x15 => ?_)
    · exact ok_odds _
    exact OkB_pure _
  refine OkB_if ?_ ?_
  · refine OkB_bd ?_ (fun x19 => ?_)
    · exact ok_mean _ _
    exact OkB_pure _
  refine OkB_if ?_ ?_
  · refine OkB_bd ?_ (fun x23 => ?_)
    · exact ok_wrong _
    exact OkB_pure _
  refine OkB_if ?_ ?_
  · refine OkB_bd ?_ (fun x27 => ?_)
    · exact OkB_sm _ _ (by decide)
    refine OkB_bd ?_ (fun x30 => ?_)
    · exact ok_row _ _
    exact OkB_pure _
  refine OkB_if ?_ ?_
  · refine OkB_bd ?_ (fun x34 => ?_)
    · exact OkB_sm _ _ (by decide)
    refine OkB_bd ?_ (fun x37 => ?_)
    · exact ok_row _ _
    exact OkB_pure _
  refine OkB_if ?_ ?_
  · refine OkB_bd ?_ (fun x41 => ?_)
    · exact ok_judge
    refine OkB_bd ?_ (fun x44 => ?_)
    · exact ok_made _
    exact OkB_pure _
  refine OkB_if ?_ ?_
  · refine OkB_bd ?_ (fun x48 => ?_)
    · exact OkB_sm _ _ n1
    refine OkB_bd ?_ (fun x51 => ?_)
    · exact ok_just _
    exact OkB_pure _
  refine OkB_if ?_ ?_
  · refine OkB_if ?_ ?_
    · refine OkB_bd ?_ (fun x59 => ?_)
      · exact ok_fails
      exact OkB_pure _
    refine OkB_bd ?_ (fun x56 => ?_)
    · exact ok_made _
    exact OkB_pure _
  refine OkB_if ?_ ?_
  · refine OkB_if ?_ ?_
    · refine OkB_bd ?_ (fun x67 => ?_)
      · exact ok_bestBar _
      exact OkB_pure _
    refine OkB_bd ?_ (fun x64 => ?_)
    · exact ok_bestShow
    exact OkB_pure _
  refine OkB_if ?_ ?_
  · refine OkB_if ?_ ?_
    · refine OkB_bd ?_ (fun x78 => ?_)
      · exact ok_bestDay
      exact OkB_pure _
    refine OkB_bd ?_ (fun x72 => ?_)
    · exact OkB_sm _ _ (by decide)
    refine OkB_bd ?_ (fun x75 => ?_)
    · exact ok_extra _
    exact OkB_pure _
  refine OkB_if ?_ ?_
  · refine OkB_bd ?_ (fun x82 => ?_)
    · exact OkB_sm _ _ (by decide)
    refine OkB_bd ?_ (fun x85 => ?_)
    · exact OkB_sm _ _ d1
    refine OkB_bd ?_ (fun x88 => ?_)
    · exact ok_rich _ _
    refine OkB_if ?_ ?_
    · refine OkB_bd ?_ (fun x92 => ?_)
      · exact OkB_sm _ _ (by decide)
      refine OkB_bd ?_ (fun x95 => ?_)
      · exact ok_richDay _
      exact OkB_pure _
    exact OkB_pure _
  refine OkB_if ?_ ?_
  · refine OkB_bd ?_ (fun x99 => ?_)
    · exact OkB_sm _ _ (by decide)
    refine OkB_bd ?_ (fun x102 => ?_)
    · exact ok_two _
    exact OkB_pure _
  refine OkB_if ?_ ?_
  · refine OkB_bd ?_ (fun x106 => ?_)
    · exact OkB_sm _ _ (by decide)
    refine OkB_bd ?_ (fun x109 => ?_)
    · exact ok_evening _ _ _
    exact OkB_pure _
  refine OkB_if ?_ ?_
  · refine OkB_bd ?_ (fun x113 => ?_)
    · exact OkB_sm _ _ (by decide)
    refine OkB_bd ?_ (fun x116 => ?_)
    · exact ok_whole _ _
    exact OkB_pure _
  refine OkB_if ?_ ?_
  · refine OkB_bd ?_ (fun x120 => ?_)
    · exact ok_back
    exact OkB_pure _
  refine OkB_bd ?_ (fun x123 => ?_)
  · exact ok_keep
  exact OkB_pure _
theorem round_ok {n d : Nat} {S : St} (h : LI n d S) : Refus S ∧ ∀ (x y : Int32) (t : Nat), t < 40 → ∃ S4, Round (iI n) (iI d) x y (iI t) S S4 ∧ LI n d S4 := by
  obtain ⟨T, hV, hE, hn, hd⟩ := h
  refine ⟨refus hV hE, fun x y t ht => ?_⟩
  have hVB := VT_B hV
  have b1 : 1 ≤ n ∧ n ≤ 8 := by rw [← hn]; exact ⟨hVB.2.1.2.2.1, hVB.2.1.2.2.2⟩
  have b2 : d ≤ 30 := by rw [← hd]; exact hVB.1.2.2.2.1
  obtain ⟨va, T1, S1, e1, v1, i1, q1⟩ := act_ok b1 b2 x y S T hV hE
  obtain ⟨vj, T2, S2, e2, v2, i2, q2⟩ := ok_judge S1 T1 v1 i1
  obtain ⟨S3, e3, i3, k3⟩ := odds13 v2 i2
  obtain ⟨vm, e4⟩ := okr_made 0 S3 T2 v2 i3
  obtain ⟨vw, S4, e5, i5, k5⟩ := whole13 (t := t) v2 i3 (by omega)
  have hb : tB T2 = tB T := q2.trans q1
  have hn2 : tB T2 9 1 = n := by rw [hb]; exact hn
  have hd2 : tB T2 0 2 = d := by rw [hb]; exact hd
  have hcl := cntL_le (tB T2) (tB T2 0 2)
  have h4 : tK T2 ≤ 2 := v2.2.2.2.2.2.1
  refine ⟨S4, ⟨va, S1, S2, S3, vj, lI (cnt0 T2), vm, vw, cvF T2, e1, e2, e3, e4, e5, fun k hk => ⟨count_cv v2 i5 _, cv_nneg v2 k hk⟩, ?_, ?_, ?_, odds_again v2 i5 (by rw [k5]; exact k3), cnt0_pos v2⟩, T2, v2, i5, hn2, hd2⟩
  · show iI (tB T2 9 1) = iI n
    rw [hn2]
  · show ¬ iI n < iI (cntL (tB T2) (tB T2 0 2))
    rw [iI_lt (by omega) (by omega)]; omega
  · show ¬ (2 : Int32) < iI (tK T2)
    rw [show (2 : Int32) = iI 2 from rfl, iI_lt (by omega) (by omega)]; omega
