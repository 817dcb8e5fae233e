theorem ok_mean (x y : Int32) : Okk (f_X9_mean 0 x y) (f_X10_mean 103 x y) := by
  apply Okk_scr
  intro S T hV hE
  have hVB := VT_B hV
  have hL := VT_L hV
  have hng : tB T 9 1 ≤ 8 := hVB.2.1.2.2.2
  have hcl := cntL_le (tB T) (tB T 0 2)
  by_cases hb : bad x 0 ((tB T 9 1 : Int) - 1)
  · refine ⟨-9223372036854775808, S, ⟨?_, hE, Fr.rf⟩, fun S1 hM => ⟨S1, ?_, Fr.rf⟩⟩
    · unfold f_X9_mean; rw [bd_ok (E_isGiver_bad hV hE hb)]; rfl
    · unfold f_X10_mean; rw [bd_ok (M_isGiver_bad hV hM hb)]; rfl
  by_cases hb3 : bad y 0 1
  · refine ⟨-9223372036854775808, S, ⟨?_, hE, Fr.rf⟩, fun S1 hM => ⟨S1, ?_, Fr.rf⟩⟩
    · unfold f_X9_mean; rw [bd_ok (E_isGiver_ok hV hE hb), if_neg (by decide), bd_ok (within_bad hb3)]; rfl
    · unfold f_X10_mean; rw [bd_ok (M_isGiver_ok hV hM hb), if_neg (by decide), bd_ok (in_bad hb3)]; rfl
  obtain ⟨i, hi, hi8, rfl⟩ := giver_nat hV hb
  have hpl := E_place25 (i := i) hV hE hi8
  have mbeg : ∀ S1 : St, IM S1 T → ∃ S2 S3 : St, f_X10_plain 103 S1 = some ((), S2) ∧ f_X10_beginWays 103 S2 = some ((), S3) ∧ WM S3 (tB T) (tB T 0 2) (tB T 0 0) (tB T 0 5) (tS T) 0 (-4) (fun _ => 0) ∧ Fr PScr S1 S3 := fun S1 hM => by
    obtain ⟨S2, e1, ⟨q1, q2, q3, q4, q5, q6⟩, e3⟩ := M_plain hM
    have hM1 := IM_scr hM (e3.wk (fun _ _ => pl_scr))
    obtain ⟨S3, z1, z2, z3⟩ := M_begin hVB hL hM1.2.2.1 q1 q2 q3 q4 q5 q6
    exact ⟨S2, S3, e1, z1, z2, (e3.wk (fun _ _ => pl_scr)).tr z3⟩
  rcases plS_cases (ordL (tB T) (tB T 0 2)) i with hp | ⟨p, hp1, hp2⟩
  · refine ⟨-4, S, ⟨?_, hE, Fr.rf⟩, fun S1 hM => ?_⟩
    · unfold f_X9_mean
      rw [bd_ok (E_isGiver_ok hV hE hb), if_neg (by decide), bd_ok (within_ok hb3), if_neg (by decide)]
      dsimp only [Nat.reduceAdd]
      rw [bd_ok hpl, hp, iI_n4, if_pos rfl]
    · obtain ⟨S2, S3, e1, e2, e3, e4⟩ := mbeg S1 hM
      refine ⟨S3, ?_, e4⟩
      unfold f_X10_mean
      rw [bd_ok (M_isGiver_ok hV hM hb), if_neg (by decide), bd_ok (in_ok hb3), if_neg (by decide), bd_ok e1, bd_ok e2, bd_ok (M_placeT hV e3.1.2.1 hi8), hp, iI_n4, if_pos rfl]
  obtain ⟨hq1, hq2⟩ := plS_get hp2
  have hq2' : atL (tB T) (tB T 0 2) p = i := hq2
  have hpc : p < cntL (tB T) (tB T 0 2) := hp1
  have hne := plS_ne (ord_bounds hV (tB T 0 2)).1 hp1
  have hsh : tS T ≤ 2 := hV.2.2.2.2.1
  have hbar : tB T 0 0 ≤ 60 := hVB.1.2.1
  have he : tB T 0 5 ≤ 9 := hVB.1.2.2.2.2.2.2.1
  obtain ⟨S2, e1, e2, e3, e4⟩ := E_stand hV hE
  obtain ⟨k1, k2⟩ := e4.2 p hpc
  refine ⟨lI (waysS (tB T) (tB T 0 2) (fun v => wayP (tB T) (tB T 0 2) v * (if y = 0 then (giftP (tB T) (tB T 0 2) (tB T 0 0) (tB T 0 5) (tS T) 0 0 (wayW (tB T) (tB T 0 2) v) p : Int) else hasP (tB T) (tB T 0 2) (tB T 0 0) (tB T 0 5) (tS T) 0 0 (wayW (tB T) (tB T 0 2) v) p))), S2, ⟨?_, e2, e3⟩, fun S1 hM => ?_⟩
  · unfold f_X9_mean
    rw [bd_ok (E_isGiver_ok hV hE hb), if_neg (by decide), bd_ok (within_ok hb3), if_neg (by decide)]
    dsimp only [Nat.reduceAdd]
    rw [bd_ok hpl, hp2, if_neg hne, bd_ok e1, ck_pos (show kdE 73 = 8 from rfl), ob_iI (by omega), iI_nat (by omega), ob_iI (by omega)]
    by_cases hy : y = 0
    · simp only [if_pos hy]
      rw [show (73 : Nat) + 1 = 74 from rfl, k1]; rfl
    · simp only [if_neg hy]
      rw [show (73 : Nat) + 2 = 75 from rfl, k2]; rfl
  · obtain ⟨S2, S3, z1, z2, z3, z4⟩ := mbeg S1 hM
    have hrq : RQ (tB T) (tB T 0 2) 0 (-4) := Or.inl ⟨by omega, by omega, rfl⟩
    have hstep : ∀ (N : Nat) (t : Int) (v : Nat → Nat) (S : St), WM S (tB T) (tB T 0 2) (tB T 0 0) (tB T 0 5) (tS T) 0 (-4) v → (∀ j, j < cntL (tB T) (tB T 0 2) → v j < wayM (tB T) (tB T 0 2) j) → ∃ S2 : St, f_X10_mean_L49 (N + 1) 103 (iI i) y (lI t) 1 S = bd (f_X10_nextWay_L2 FU 103 (iI (0 : Nat)) S2) (fun x S3 => f_X10_mean_L49 N 103 (iI i) y (lI (t + wayP (tB T) (tB T 0 2) v * (if y = 0 then (giftP (tB T) (tB T 0 2) (tB T 0 0) (tB T 0 5) (tS T) 0 0 (wayW (tB T) (tB T 0 2) v) p : Int) else hasP (tB T) (tB T 0 2) (tB T 0 0) (tB T 0 5) (tS T) 0 0 (wayW (tB T) (tB T 0 2) v) p))) x S3) ∧ WM S2 (tB T) (tB T 0 2) (tB T 0 0) (tB T 0 5) (tS T) 0 (-4) v ∧ Fr PWm S S2 := by
      intro N t v S hE hv
      obtain ⟨S2, q1, q2, q3, q4, q5⟩ := M_take hVB hL hsh hbar he (show 0 ≤ 99 by omega) hrq hv (cntL (tB T) (tB T 0 2)) FU 0 S (by omega) (by unfold FU; omega) hE (fun q h => absurd h (Nat.not_lt_zero _))
      refine ⟨S2, ?_, q2, q5⟩
      have q1' : f_X10_takeWay 103 S = some (lI (wayP (tB T) (tB T 0 2) v), S2) := by unfold f_X10_takeWay; exact q1
      obtain ⟨w1, w2, w3, w4, w5⟩ := way_facts hVB hL hpc (hv p hpc)
      obtain ⟨f1, f2, f3, f4, f5, f6, f7, f8, f9, f10, f11⟩ := at_facts hVB hL hpc
      have hgl : giftP (tB T) (tB T 0 2) (tB T 0 0) (tB T 0 5) (tS T) 0 0 (wayW (tB T) (tB T 0 2) v) p ≤ tB T 2 (soL (tB T) (tB T 0 2) p) := gift_le _ _ _ _ _ _ _
      have hbd := hasP_bd (rq := 0) (R := 0) (bar := tB T 0 0) (e := tB T 0 5) (sh := tS T) (w := wayW (tB T) (tB T 0 2) v) hVB hL (by omega) he hpc (by omega)
      rw [f_X10_mean_L49, if_neg (by decide), bd_ok q1']
      by_cases hy : y = 0
      · rw [if_pos hy, if_pos hy, ob_iI (by omega)]
        unfold f_X10_mean_J81
        rw [iI_nat (by omega), show (103 : Nat) + 20 = 123 from rfl, ← hq2', q3.2.2.1 p hpc, iI_l (by omega), lI_mul, lI_add, sq_k]
        rfl
      · have hh := hasP_M hVB hL q2.1 ⟨hVB.1.1, hVB.1.2.1⟩ he (show 0 ≤ 99 by omega) hpc (by omega) q3 q4
        rw [hq2'] at hh
        rw [if_neg hy, if_neg hy, bd_ok hh]
        unfold f_X10_mean_J81
        rw [iI_l (by omega), lI_mul, lI_add, sq_k]
        rfl
    have hNle : prodTo (wayM (tB T) (tB T 0 2)) (cntL (tB T) (tB T 0 2)) ≤ 6561 := by
      have h1 : prodTo (wayM (tB T) (tB T 0 2)) (cntL (tB T) (tB T 0 2)) ≤ 3 ^ cntL (tB T) (tB T 0 2) := prodTo_le (fun j h => (wayM_bd hVB hL h).2)
      have h2 : 3 ^ cntL (tB T) (tB T 0 2) ≤ 3 ^ 8 := Nat.pow_le_pow_right (by omega) (by omega)
      have h3 : (3 : Nat) ^ 8 = 6561 := by decide
      omega
    obtain ⟨S4, y1, y2, y3⟩ := M_sweep hVB hL (fun N t x S => f_X10_mean_L49 N 103 (iI i) y t x S) _ hstep (cntL (tB T) (tB T 0 2)) (Nat.le_refl _) FU 0 S3 (fun _ => 0) z3 (fun _ _ => rfl) (fun j h1 h2 => absurd h2 (by omega)) (by unfold FU; omega)
    refine ⟨S4, ?_, z4.tr (y3.wk (fun _ _ => wm_scr))⟩
    obtain ⟨F, hF⟩ : ∃ F, FU - cntL (tB T) (tB T 0 2) = F + 1 := ⟨FU - cntL (tB T) (tB T 0 2) - 1, by unfold FU; omega⟩
    obtain ⟨F2, hF2⟩ : ∃ F2, FU - prodTo (wayM (tB T) (tB T 0 2)) (cntL (tB T) (tB T 0 2)) = F2 + 1 := ⟨FU - prodTo (wayM (tB T) (tB T 0 2)) (cntL (tB T) (tB T 0 2)) - 1, by unfold FU; omega⟩
    have ho : S4.1 103 27 = iI (cntL (tB T) (tB T 0 2)) := y2.1.2.1.1
    have y1' : f_X10_mean_L49 FU 103 (iI i) y 0 1 S3 = _ := y1
    unfold f_X10_mean
    rw [bd_ok (M_isGiver_ok hV hM hb), if_neg (by decide), bd_ok (in_ok hb3), if_neg (by decide), bd_ok z1, bd_ok z2, bd_ok (M_placeT hV z3.1.2.1 hi8), hp2, if_neg hne, y1', hF, hF2, f_X10_nextWay_L2, ho, if_pos (by rw [iI_le (by omega) (by omega)]; omega)]
    unfold f_X10_nextWay_J50
    rw [ho, if_pos rfl, bd_ok rfl, f_X10_mean_L49, if_pos rfl, Int.zero_add, sumD_V]
    rfl
