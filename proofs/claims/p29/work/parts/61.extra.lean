theorem IE_47 {S S2 : St} {T : Tst} (h : IE S T) (hf : Fr P47 S S2) : IE S2 T := IE_scr h (hf.wk (fun _ _ => P47_PEs)) (ZE_47 (IE_Z h) hf)
theorem E_exTry {S : St} {T : Tst} {b : Nat} (hV : VT T) (hE : IE S T) (hb : b ≤ 9) : ∃ S1 S2 : St, f_X9_setGame 0 S = some ((), S1) ∧ f_X8_goThrough 79 47 0 (pI S1 47 4 (iI b)) = some ((), S2) ∧ S2.2.1 79 0 = lI (cntS (tB T) (tB T 0 2) (tB T 0 0) b (tS T) 0 0 0) ∧ IE S2 T ∧ Fr PEs S S2 := by
  obtain ⟨P, S1, p1, e1, e2, e3, e4, e5, e6, e7⟩ := E_setGame hE
  have hVB := VT_B hV
  obtain ⟨g1, g2, g3, g4, g5, g6, g7⟩ := e2
  have f1 : Fr P47 S1 (pI S1 47 4 (iI b)) := Fr.pI rfl
  have hG : GE (pI S1 47 4 (iI b)) 25 P (tS T) (tB T 0 0) b 0 (-1) := by
    refine ⟨g1, g2, ?_, ?_, ?_, ?_, ?_⟩
    · rw [pI_1, if_neg (by omega)]; exact g3
    · rw [pI_1, if_neg (by omega)]; exact g4
    · rw [pI_1, if_pos ⟨rfl, rfl⟩]
    · rw [pI_1, if_neg (by omega)]; exact g6
    · rw [pI_1, if_neg (by omega)]; exact g7
  obtain ⟨hB2, hC2⟩ := BC_47 p1 (Or.inl rfl) e3 e4 f1
  have hH := HW_T hV p1 (Or.inr rfl)
  have hH2 : HW (tB T) (tB T 0 2) 25 P (tS T) (tB T 0 0) b 0 0 (-1) 79 := by
    obtain ⟨a1, a2, a3, a4, a5, a6, a7, a8⟩ := hH
    exact ⟨a1, a2, a3, a4, a5, a6, hb, a8⟩
  obtain ⟨S2, q1, q2, q3, q4, q5, q6, q7⟩ := E_trial hH2 ⟨hG, hB2, hC2⟩ (IE_47 e6 f1)
  exact ⟨S1, S2, e1, q1, q2, q6, ((e7.wk (fun _ _ => P47_PEs)).tr (f1.wk (fun _ _ => P47_PEs))).tr q7⟩
def extraS (f : Nat → Int) (a all : Int) : Nat → Nat → Int
  | 0, _ => -4
  | m + 1, k => if f k * 10 < a * all then extraS f a all m (k + 1) else k
theorem ok_extra (x : Int32) : Okk (f_X9_extra 0 x) (f_X10_extra 103 x) := by
  apply Okk_scr
  intro S T hV hE
  have hVB := VT_B hV
  have hL := VT_L hV
  have hng : tB T 9 1 ≤ 8 := hVB.2.1.2.2.2
  have hcl := cntL_le (tB T) (tB T 0 2)
  by_cases hb : bad x 0 10
  · refine ⟨-1, S, ⟨?_, hE, Fr.rf⟩, fun S1 hM => ⟨S1, ?_, Fr.rf⟩⟩
    · unfold f_X9_extra; rw [bd_ok (within_bad hb)]; rfl
    · unfold f_X10_extra; rw [bd_ok (in_bad hb)]; rfl
  obtain ⟨a, ha, rfl⟩ := bad_in (m := 10) hb
  obtain ⟨f, hf⟩ : ∃ f : Nat → Int, f = fun b => cntS (tB T) (tB T 0 2) (tB T 0 0) b (tS T) 0 0 0 := ⟨_, rfl⟩
  have hfb : ∀ b, 0 ≤ f b ∧ f b ≤ (10 : Int) ^ cntL (tB T) (tB T 0 2) := fun b => by rw [hf]; exact cntS_bd hVB hL
  obtain ⟨t1, t2⟩ := ten_le (n := cntL (tB T) (tB T 0 2)) (by omega)
  obtain ⟨all, hall⟩ : ∃ all, all = (10 : Int) ^ cntL (tB T) (tB T 0 2) := ⟨_, rfl⟩
  rw [← hall] at t1 t2 hfb
  have hm : (a : Int) * all ≤ 10 * 100000000 := Int.mul_le_mul (by omega) t2 (by omega) (by omega)
  have hm0 : 0 ≤ (a : Int) * all := Int.mul_nonneg (by omega) (by omega)
  have keyE : ∀ (m N k : Nat) (S : St), k + m = 10 → m < N → IE S T → ∃ S2 : St, f_X9_extra_L14 N 0 (iI a) (iI k) S = some (iI (extraS f a all m k), S2) ∧ IE S2 T ∧ Fr PE S S2 := by
    intro m
    induction m with
    | zero =>
      intro N k S hk hN h1
      obtain ⟨N, rfl⟩ : ∃ k, N = k + 1 := ⟨N - 1, by omega⟩
      refine ⟨S, ?_, h1, Fr.rf⟩
      rw [f_X9_extra_L14, if_pos (by rw [show (9 : Int32) = iI 9 from rfl, iI_lt (by omega) (by omega)]; omega), iI_n4]; rfl
    | succ m ih =>
      intro N k S hk hN h1
      obtain ⟨N, rfl⟩ : ∃ k, N = k + 1 := ⟨N - 1, by omega⟩
      obtain ⟨S1, S2, q1, q2, q3, q4, q5⟩ := E_exTry (b := k) hV h1 (by omega)
      have q3' : S2.2.1 79 0 = lI (f k) := by rw [hf]; exact q3
      have hal := E_allWays hVB (IE_C q4)
      rw [← hall] at hal
      have hfk := hfb k
      rw [f_X9_extra_L14, if_neg (by rw [show (9 : Int32) = iI 9 from rfl, iI_lt (by omega) (by omega)]; omega), bd_ok q1, sq_k]
      dsimp only [Nat.reduceAdd]
      rw [bd_ok q2, bd_ok hal, q3', show (10 : Int64) = lI 10 from rfl, lI_mul, iI_l (by omega), lI_mul]
      unfold extraS
      by_cases hc : f k * 10 < a * all
      · rw [if_pos hc, if_pos (by rw [lI_lt (by omega) (by omega)]; exact hc), show iI k + (1 : Int32) = iI (k + 1 : Nat) from iI_add k 1]
        obtain ⟨S3, z1, z2, z3⟩ := ih N (k + 1) S2 (by omega) (by omega) q4
        exact ⟨S3, z1, z2, (q5.wk PEs_PE).tr z3⟩
      · rw [if_neg hc, if_neg (by rw [lI_lt (by omega) (by omega)]; exact hc)]
        exact ⟨S2, rfl, q4, q5.wk PEs_PE⟩
  obtain ⟨S2, z1, z2, z3⟩ := keyE 10 FU 0 S (by omega) (by unfold FU; omega) hE
  refine ⟨iI (extraS f a all 10 0), S2, ⟨?_, z2, z3⟩, fun S1 hM => ?_⟩
  · unfold f_X9_extra
    rw [bd_ok (within_ok hb), if_neg (by decide)]
    exact z1
  · obtain ⟨S2, e1, e2, e3⟩ := M_plainQ hM
    have rq0 : RQ (tB T) (tB T 0 2) 0 (-4) := Or.inl ⟨by omega, by omega, rfl⟩
    have hsh := hV.2.2.2.2.1
    have hbar : tB T 0 0 ≤ 60 := hVB.1.2.1
    have key : ∀ (m N k : Nat) (S : St) (e : Nat), k + m = 10 → m < N → MPl S (tB T) (tB T 0 2) (tB T 0 0) e (tS T) 0 (-4) → ∃ S2 : St, f_X10_extra_L20 N 103 (iI a) (iI k) S = some (iI (extraS f a all m k), S2) ∧ Fr PScr S S2 := by
      intro m
      induction m with
      | zero =>
        intro N k S e hk hN h1
        obtain ⟨N, rfl⟩ : ∃ k, N = k + 1 := ⟨N - 1, by omega⟩
        refine ⟨S, ?_, Fr.rf⟩
        rw [f_X10_extra_L20, if_pos (by rw [show (9 : Int32) = iI 9 from rfl, iI_lt (by omega) (by omega)]; omega), iI_n4]; rfl
      | succ m ih =>
        intro N k S e hk hN h1
        obtain ⟨N, rfl⟩ : ∃ k, N = k + 1 := ⟨N - 1, by omega⟩
        obtain ⟨S4, q1, q2, q3⟩ := M_trial (rq := 0) (what := 0) hVB hL hsh hbar (show k ≤ 9 by omega) (by omega) rq0 (by omega) (MPl_21 (b := k) h1)
        have q1' : f_X10_waysOf 103 0 (pI S 103 21 (iI k)) = some (lI (f k), S4) := by rw [cntM_S (Or.inl (by omega))] at q1; rw [hf]; exact q1
        have hal := M_allWays hVB q2.2.1
        rw [← hall] at hal
        have hfk := hfb k
        have fr := Fr.tr (Fr.pI (P := PScr) (S := S) (v := iI k) (Or.inl ⟨rfl, by omega⟩)) q3
        rw [f_X10_extra_L20, if_neg (by rw [show (9 : Int32) = iI 9 from rfl, iI_lt (by omega) (by omega)]; omega), sq_k, bd_ok q1', bd_ok hal, show (10 : Int64) = lI 10 from rfl, lI_mul, iI_l (by omega), lI_mul, Int.mul_comm 10 (f k)]
        unfold extraS
        by_cases hc : f k * 10 < a * all
        · rw [if_pos hc, if_pos (by rw [lI_lt (by omega) (by omega)]; exact hc), show iI k + (1 : Int32) = iI (k + 1 : Nat) from iI_add k 1]
          obtain ⟨S3, z1, z2⟩ := ih N (k + 1) S4 k (by omega) (by omega) (MPl_G q2)
          exact ⟨S3, z1, fr.tr z2⟩
        · rw [if_neg hc, if_neg (by rw [lI_lt (by omega) (by omega)]; exact hc)]
          exact ⟨S4, rfl, fr⟩
    obtain ⟨S3, z1, z2⟩ := key 10 FU 0 S2 _ (by omega) (by unfold FU; omega) e2
    refine ⟨S3, ?_, e3.tr z2⟩
    unfold f_X10_extra
    rw [bd_ok (in_ok hb), if_neg (by decide), bd_ok e1]
    exact z1
/-- the first of the greatest -/
def amS (f : Nat → Int) : Nat → Nat × Int
  | 0 => (0, -1)
  | k + 1 => if f k ≤ (amS f k).2 then amS f k else (k, f k)
theorem amS_bd {f : Nat → Int} {b : Int} (h : ∀ k, 0 ≤ f k ∧ f k ≤ b) : ∀ k, (amS f k).1 ≤ k ∧ -1 ≤ (amS f k).2 ∧ ((amS f k).2 ≤ b ∨ (amS f k).2 = -1)
  | 0 => ⟨Nat.le_refl _, Int.le_refl _, Or.inr rfl⟩
  | k + 1 => by
    unfold amS
    obtain ⟨h1, h2, h3⟩ := amS_bd h k
    have := h k
    by_cases hc : f k ≤ (amS f k).2
    · rw [if_pos hc]; exact ⟨by omega, h2, h3⟩
    · rw [if_neg hc]; exact ⟨by dsimp only; omega, by dsimp only; omega, Or.inl this.2⟩
theorem E_shTry {S : St} {T : Tst} {b : Nat} (hV : VT T) (hE : IE S T) (hb : b ≤ 2) : ∃ (P : Nat) (S1 S2 : St), (P = 5 ∨ P = 15) ∧ S.2.2 0 2 = P ∧ f_X1_set 47 P 25 (iI b) S = some ((), S1) ∧ f_X8_goThrough 79 47 0 S1 = some ((), S2) ∧ S2.2.1 79 0 = lI (cntS (tB T) (tB T 0 2) (tB T 0 0) (tB T 0 5) b 0 0 0) ∧ IE S2 T ∧ Fr PEs S S2 := by
  obtain ⟨P, p1, p2, p3⟩ := IE_P hE
  have hC := IE_C hE
  obtain ⟨S1, e1, e2, e3⟩ := E_set (c := 25) (sh := b) p1 p3
  obtain ⟨hB2, hC2⟩ := BC_47 p1 (Or.inl rfl) p3 hC e3
  have hH := HW_T hV p1 (Or.inr rfl)
  have hH2 : HW (tB T) (tB T 0 2) 25 P b (tB T 0 0) (tB T 0 5) 0 0 (-1) 79 := by
    obtain ⟨a1, a2, a3, a4, a5, a6⟩ := hH
    exact ⟨a1, a2, a3, a4, hb, a6⟩
  obtain ⟨S2, q1, q2, q3, q4, q5, q6, q7⟩ := E_trial hH2 ⟨e2, hB2, hC2⟩ (IE_47 hE e3)
  exact ⟨P, S1, S2, p1, p2, e1, q1, q2, q6, (e3.wk (fun _ _ => P47_PEs)).tr q7⟩
theorem ok_bestShow : Okk (f_X9_bestShow 0) (f_X10_bestShow 103) := by
  apply Okk_scr
  intro S T hV hE
  have hVB := VT_B hV
  have hL := VT_L hV
  have hng : tB T 9 1 ≤ 8 := hVB.2.1.2.2.2
  have hcl := cntL_le (tB T) (tB T 0 2)
  obtain ⟨f, hf⟩ : ∃ f : Nat → Int, f = fun b => cntS (tB T) (tB T 0 2) (tB T 0 0) (tB T 0 5) b 0 0 0 := ⟨_, rfl⟩
  obtain ⟨t1, t2⟩ := ten_le (n := cntL (tB T) (tB T 0 2)) (by omega)
  have hfb : ∀ b, 0 ≤ f b ∧ f b ≤ 100000000 := fun b => by
    have : 0 ≤ f b ∧ f b ≤ (10 : Int) ^ cntL (tB T) (tB T 0 2) := by rw [hf]; exact cntS_bd hVB hL
    omega
  have hab := amS_bd hfb
  have keyE : ∀ (m N k : Nat) (S : St), k + m = 3 → m < N → IE S T → ∃ S2 : St, f_X9_bestShow_L9 N 0 (iI (amS f k).1) (lI (amS f k).2) (iI k) S = some (iI (amS f 3).1, S2) ∧ IE S2 T ∧ Fr PE S S2 := by
    intro m
    induction m with
    | zero =>
      intro N k S hk hN h1
      obtain ⟨N, rfl⟩ : ∃ k, N = k + 1 := ⟨N - 1, by omega⟩
      have : k = 3 := by omega
      subst this
      refine ⟨S, ?_, h1, Fr.rf⟩
      rw [f_X9_bestShow_L9, if_pos (by rw [show (2 : Int32) = iI 2 from rfl, iI_lt (by omega) (by omega)]; omega)]
    | succ m ih =>
      intro N k S hk hN h1
      obtain ⟨N, rfl⟩ : ∃ k, N = k + 1 := ⟨N - 1, by omega⟩
      obtain ⟨P, S1, S2, p1, p2, q1, q2, q3, q4, q5⟩ := E_shTry (b := k) hV h1 (by omega)
      have q3' : S2.2.1 79 0 = lI (f k) := by rw [hf]; exact q3
      have hs : amS f (k + 1) = if f k ≤ (amS f k).2 then amS f k else (k, f k) := rfl
      have h3 := hab k
      have hfk := hfb k
      rw [f_X9_bestShow_L9, if_neg (by rw [show (2 : Int32) = iI 2 from rfl, iI_lt (by omega) (by omega)]; omega), p2, ck_pos (kdE_P p1)]
      dsimp only [Nat.reduceAdd]
      rw [bd_ok q1, bd_ok q2, q3', show iI k + (1 : Int32) = iI (k + 1 : Nat) from iI_add k 1]
      obtain ⟨S3, z1, z2, z3⟩ := ih N (k + 1) S2 (by omega) (by omega) q4
      refine ⟨S3, ?_, z2, (q5.wk PEs_PE).tr z3⟩
      by_cases hc : f k ≤ (amS f k).2
      · rw [if_pos (by rw [lI_le (by omega) (by omega)]; exact hc)]
        rw [hs, if_pos hc] at z1; exact z1
      · rw [if_neg (by rw [lI_le (by omega) (by omega)]; exact hc), sq_k]
        rw [hs, if_neg hc] at z1; exact z1
  obtain ⟨S2, z1, z2, z3⟩ := keyE 3 FU 0 S (by omega) (by unfold FU; omega) hE
  refine ⟨iI (amS f 3).1, S2, ⟨?_, z2, z3⟩, fun S1 hM => ?_⟩
  · unfold f_X9_bestShow
    exact z1
  · obtain ⟨S2, e1, e2, e3⟩ := M_plainQ hM
    have rq0 : RQ (tB T) (tB T 0 2) 0 (-4) := Or.inl ⟨by omega, by omega, rfl⟩
    have hbar : tB T 0 0 ≤ 60 := hVB.1.2.1
    have he : tB T 0 5 ≤ 9 := hVB.1.2.2.2.2.2.2.1
    have key : ∀ (m N k : Nat) (S : St) (sh : Nat), k + m = 3 → m < N → MPl S (tB T) (tB T 0 2) (tB T 0 0) (tB T 0 5) sh 0 (-4) → ∃ S2 : St, f_X10_bestShow_L13 N 103 (iI (amS f k).1) (lI (amS f k).2) (iI k) S = some (iI (amS f 3).1, S2) ∧ Fr PScr S S2 := by
      intro m
      induction m with
      | zero =>
        intro N k S e hk hN h1
        obtain ⟨N, rfl⟩ : ∃ k, N = k + 1 := ⟨N - 1, by omega⟩
        have : k = 3 := by omega
        subst this
        refine ⟨S, ?_, Fr.rf⟩
        rw [f_X10_bestShow_L13, if_pos (by rw [show (3 : Int32) = iI 3 from rfl, iI_le (by omega) (by omega)]; omega)]
      | succ m ih =>
        intro N k S e hk hN h1
        obtain ⟨N, rfl⟩ : ∃ k, N = k + 1 := ⟨N - 1, by omega⟩
        obtain ⟨S4, q1, q2, q3⟩ := M_trial (rq := 0) (what := 0) hVB hL (show k ≤ 2 by omega) hbar he (by omega) rq0 (by omega) (MPl_22 (b := k) h1)
        have q1' : f_X10_waysOf 103 0 (pI S 103 22 (iI k)) = some (lI (f k), S4) := by rw [cntM_S (Or.inl (by omega))] at q1; rw [hf]; exact q1
        have hs : amS f (k + 1) = if f k ≤ (amS f k).2 then amS f k else (k, f k) := rfl
        have h3 := hab k
        have hfk := hfb k
        have fr := Fr.tr (Fr.pI (P := PScr) (S := S) (v := iI k) (Or.inl ⟨rfl, by omega⟩)) q3
        obtain ⟨S3, z1, z2⟩ := ih N (k + 1) S4 k (by omega) (by omega) (MPl_G q2)
        refine ⟨S3, ?_, fr.tr z2⟩
        rw [f_X10_bestShow_L13, if_neg (by rw [show (3 : Int32) = iI 3 from rfl, iI_le (by omega) (by omega)]; omega), sq_k, bd_ok q1']
        unfold f_X10_bestShow_J45
        rw [show iI k + (1 : Int32) = iI (k + 1 : Nat) from iI_add k 1]
        by_cases hc : f k ≤ (amS f k).2
        · rw [if_pos (by rw [lI_le (by omega) (by omega)]; exact hc), if_pos (by rw [lI_le (by omega) (by omega)]; exact hc)]
          rw [hs, if_pos hc] at z1; exact z1
        · rw [if_neg (by rw [lI_le (by omega) (by omega)]; exact hc), if_neg (by rw [lI_le (by omega) (by omega)]; exact hc)]
          rw [hs, if_neg hc] at z1; exact z1
    obtain ⟨S3, z1, z2⟩ := key 3 FU 0 S2 _ (by omega) (by unfold FU; omega) e2
    refine ⟨S3, ?_, e3.tr z2⟩
    unfold f_X10_bestShow
    rw [bd_ok e1]
    exact z1
