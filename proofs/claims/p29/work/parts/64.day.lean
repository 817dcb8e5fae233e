/-! the best day -/
theorem ord_eq {B : Bd} {L L2 : Nat} (hn : cntL B L = cntL B L2) (ha : ∀ p, p < cntL B L → atL B L p = atL B L2 p) : ordL B L = ordL B L2 := by
  apply List.ext_getElem hn
  intro p h1 h2
  have := ha p h1
  unfold atL at this
  rw [List.getD_eq_getElem?_getD, List.getD_eq_getElem?_getD, List.getElem?_eq_getElem h1, List.getElem?_eq_getElem h2] at this
  exact this
theorem giftS_day {B : Bd} {e L L2 i w l r : Nat} : giftS B e (dayL B L i) i w l r = giftS B e (dayL B L2 i) i w l r := by
  unfold giftS
  by_cases h3 : B 1 (B 7 i) = 3
  · have h : dayL B L i = dayL B L2 i := by
      unfold dayL; rw [if_neg (by omega), if_neg (by omega)]
    rw [h]
  · rw [if_neg (show ¬ (B 1 (B 7 i) = 3 ∧ dayL B L i ≤ B 0 6) from fun z => h3 z.1), if_neg (show ¬ (B 1 (B 7 i) = 3 ∧ dayL B L2 i ≤ B 0 6) from fun z => h3 z.1)]
theorem playS_day {B : Bd} {L L2 bar e sh rq R : Nat} (h : ordL B L = ordL B L2) (w : Nat → Nat) : ∀ p, playS B L bar e sh rq R w p = playS B L2 bar e sh rq R w p
  | 0 => rfl
  | p + 1 => by
    have ha : atL B L p = atL B L2 p := by unfold atL; rw [h]
    have hn : cntL B L = cntL B L2 := by unfold cntL; rw [h]
    unfold playS
    rw [playS_day h w p, ha, hn]
    dsimp only
    rw [giftS_day (L := L) (L2 := L2)]
theorem cntS_day {B : Bd} {L L2 bar e sh rq R : Nat} (h : ordL B L = ordL B L2) : cntS B L bar e sh rq R 0 = cntS B L2 bar e sh rq R 0 := by
  have hn : cntL B L = cntL B L2 := by unfold cntL; rw [h]
  have hso : soL B L = soL B L2 := by funext p; unfold soL atL; rw [h]
  have hM : wayM B L = wayM B L2 := by unfold wayM; rw [hso]
  have hW : wayW B L = wayW B L2 := by unfold wayW; rw [hso]
  have hC : wayC B L = wayC B L2 := by unfold wayC; rw [hso]
  unfold cntS waysS
  rw [hn, hM]
  refine sumV_cong _ _ _ (fun v => ?_)
  have hb : isS B L bar e sh rq R 0 v = isS B L2 bar e sh rq R 0 v := by
    show builtS B L bar e sh rq R (wayW B L v) = builtS B L2 bar e sh rq R (wayW B L2 v)
    unfold builtS endS
    rw [hn, hW, playS_day h]
  have hp : wayP B L v = wayP B L2 v := by unfold wayP; rw [hn, hC]
  rw [hb, hp]
/-- what a last day comes to, by a tenth to the power of eight -/
def dayG (T : Tst) (d : Nat) : Int := cntS (tB T) d (tB T 0 0) (tB T 0 5) (tS T) 0 0 0
def dayF (T : Tst) (d : Nat) : Int := dayG T d * (10 : Int) ^ (8 - cntL (tB T) d)
theorem dayG_bd {T : Tst} (hV : VT T) (d : Nat) (hd : d ≤ 30) : 0 ≤ dayG T d ∧ dayG T d ≤ (10 : Int) ^ cntL (tB T) d := cntS_bd (VT_B hV) hd
theorem ten_mul {a b : Nat} (h : a + b = 8) : (10 : Int) ^ a * (10 : Int) ^ b = 100000000 := by
  rw [← Int.pow_add, h]; rfl
theorem dayF_bd {T : Tst} (hV : VT T) (d : Nat) (hd : d ≤ 30) : 0 ≤ dayF T d ∧ dayF T d ≤ 100000000 := by
  have hng : tB T 9 1 ≤ 8 := (VT_B hV).2.1.2.2.2
  have hcl := cntL_le (tB T) d
  obtain ⟨h1, h2⟩ := dayG_bd hV d hd
  obtain ⟨t1, t2⟩ := ten_le (n := 8 - cntL (tB T) d) (by omega)
  have hm := ten_mul (a := cntL (tB T) d) (b := 8 - cntL (tB T) d) (by omega)
  have h3 : dayG T d * (10 : Int) ^ (8 - cntL (tB T) d) ≤ (10 : Int) ^ cntL (tB T) d * (10 : Int) ^ (8 - cntL (tB T) d) := Int.mul_le_mul_of_nonneg_right h2 (by omega)
  have h4 : 0 ≤ dayG T d * (10 : Int) ^ (8 - cntL (tB T) d) := Int.mul_nonneg h1 (by omega)
  unfold dayF
  omega
/-- days compare as their odds do -/
theorem day_cmp {T : Tst} (hV : VT T) {d b : Nat} : dayG T d * (10 : Int) ^ cntL (tB T) b ≤ dayG T b * (10 : Int) ^ cntL (tB T) d ↔ dayF T d ≤ dayF T b := by
  have hng : tB T 9 1 ≤ 8 := (VT_B hV).2.1.2.2.2
  have hd := cntL_le (tB T) d
  have hb := cntL_le (tB T) b
  have md := ten_mul (a := cntL (tB T) d) (b := 8 - cntL (tB T) d) (by omega)
  have mb := ten_mul (a := cntL (tB T) b) (b := 8 - cntL (tB T) b) (by omega)
  obtain ⟨t1, t2⟩ := ten_le (n := 8 - cntL (tB T) d) (by omega)
  obtain ⟨t3, t4⟩ := ten_le (n := 8 - cntL (tB T) b) (by omega)
  unfold dayF
  generalize dayG T d = x at *
  generalize dayG T b = y at *
  generalize (10 : Int) ^ cntL (tB T) d = pd at *
  generalize (10 : Int) ^ (8 - cntL (tB T) d) = qd at *
  generalize (10 : Int) ^ cntL (tB T) b = pb at *
  generalize (10 : Int) ^ (8 - cntL (tB T) b) = qb at *
  have hq : 0 < qd * qb := Int.mul_pos (by omega) (by omega)
  have e1 : (x * pb) * (qd * qb) = x * qd * 100000000 := by
    rw [← mb]
    rw [Int.mul_assoc, Int.mul_assoc x qd (pb * qb), Int.mul_left_comm pb qd qb]
  have e2 : (y * pd) * (qd * qb) = y * qb * 100000000 := by
    rw [← md]
    rw [Int.mul_assoc, Int.mul_assoc y qb (pd * qd), ← Int.mul_assoc pd qd qb, Int.mul_comm (pd * qd) qb]
  constructor
  · intro h
    have := Int.mul_le_mul_of_nonneg_right h (Int.le_of_lt hq)
    rw [e1, e2] at this
    omega
  · intro h
    apply Int.le_of_mul_le_mul_right _ hq
    rw [e1, e2]
    omega
theorem amS_bdk {f : Nat → Int} {b : Int} : ∀ k, (∀ j, j < k → 0 ≤ f j ∧ f j ≤ b) → (amS f k).1 ≤ k ∧ -1 ≤ (amS f k).2 ∧ ((amS f k).2 ≤ b ∨ (amS f k).2 = -1)
  | 0, _ => ⟨Nat.le_refl _, Int.le_refl _, Or.inr rfl⟩
  | k + 1, h => by
    unfold amS
    obtain ⟨h1, h2, h3⟩ := amS_bdk k (fun j hj => h j (by omega))
    have := h k (by omega)
    by_cases hc : f k ≤ (amS f k).2
    · rw [if_pos hc]; exact ⟨by omega, h2, h3⟩
    · rw [if_neg hc]; exact ⟨by dsimp only; omega, by dsimp only; omega, Or.inl this.2⟩
theorem amS_at {f : Nat → Int} : ∀ k, (∀ j, j ≤ k → 0 ≤ f j) → (amS f (k + 1)).2 = f (amS f (k + 1)).1 ∧ (amS f (k + 1)).1 ≤ k
  | 0, h => by
    have h0 := h 0 (Nat.le_refl _)
    have e : amS f 1 = (0, f 0) := by
      show (if f 0 ≤ -1 then ((0, -1) : Nat × Int) else (0, f 0)) = _
      rw [if_neg (by omega)]
    rw [e]
    exact ⟨rfl, Nat.le_refl _⟩
  | k + 1, h => by
    obtain ⟨h1, h2⟩ := amS_at k (fun j hj => h j (by omega))
    have e : amS f (k + 1 + 1) = if f (k + 1) ≤ (amS f (k + 1)).2 then amS f (k + 1) else (k + 1, f (k + 1)) := rfl
    rw [e]
    by_cases hc : f (k + 1) ≤ (amS f (k + 1)).2
    · rw [if_pos hc]; exact ⟨h1, by omega⟩
    · rw [if_neg hc]; exact ⟨rfl, Nat.le_refl _⟩
theorem ok_bestDay : Okk (f_X9_bestDay 0) (f_X10_bestDay 103) := by
  apply Okk_scr
  intro S T hV hE
  have hVB := VT_B hV
  have hng : tB T 9 1 ≤ 8 := hVB.2.1.2.2.2
  have hbar : tB T 0 0 ≤ 60 := hVB.1.2.1
  have he : tB T 0 5 ≤ 9 := hVB.1.2.2.2.2.2.2.1
  have hab : ∀ k, k ≤ 31 → (amS (dayF T) k).1 ≤ k ∧ -1 ≤ (amS (dayF T) k).2 ∧ ((amS (dayF T) k).2 ≤ 100000000 ∨ (amS (dayF T) k).2 = -1) := fun k hk => amS_bdk k (fun j hj => dayF_bd hV j (by omega))
  have keyE : ∀ (m N k : Nat) (S : St), k + m = 31 → m < N → IE S T → (1 ≤ k → CE S 36 (tB T) (k - 1)) → ∃ S2 : St, f_X9_bestDay_L9 N 0 (iI (amS (dayF T) k).1) (lI (amS (dayF T) k).2) (iI k) S = some (iI (amS (dayF T) 31).1, S2) ∧ IE S2 T ∧ Fr PE S S2 := by
    intro m
    induction m with
    | zero =>
      intro N k S hk hN h1 _
      obtain ⟨N, rfl⟩ : ∃ k, N = k + 1 := ⟨N - 1, by omega⟩
      have : k = 31 := by omega
      subst this
      refine ⟨S, ?_, h1, Fr.rf⟩
      rw [f_X9_bestDay_L9, if_pos (by rw [show (30 : Int32) = iI 30 from rfl, iI_lt (by omega) (by omega)]; omega)]
    | succ m ih =>
      intro N k S hk hN h1 hC
      obtain ⟨N, rfl⟩ : ∃ k, N = k + 1 := ⟨N - 1, by omega⟩
      obtain ⟨P, p1, p2, p3⟩ := IE_P h1
      have hkd := kdE_P p1
      obtain ⟨S1, o, a1, a2, a3, a4, a5⟩ := E_arrange (L := k) hVB (by omega) p1 (Or.inr rfl) p3
      have f1 : Fr PEs S S1 := a5.wk (fun a k h => by unfold PEs; omega)
      have hz1 : ZE S1 := by
        have := IE_Z h1
        unfold ZE at this ⊢
        rw [a5.1 70 0 (by omega), a5.1 71 0 (by omega), a5.1 72 0 (by omega), a5.1 78 0 (by omega), a5.1 84 0 (by omega)]
        exact this
      have h2 : IE S1 T := IE_scr h1 f1 hz1
      have hB1 : BE S1 P (tB T) := BE_Pc p1 (Or.inr rfl) p3 a5
      have p4 : S1.2.2 0 2 = P := (a5.2.2 0 2 (by omega)).trans p2
      have hsh1 : S1.1 0 11 = iI (tS T) := (IE_has h2).2.2.2.1
      have hcl := cntL_le (tB T) k
      have hs : amS (dayF T) (k + 1) = if dayF T k ≤ (amS (dayF T) k).2 then amS (dayF T) k else (k, dayF T k) := rfl
      have h3 := hab k (by omega)
      have hfk := dayF_bd hV k (by omega)
      have e0 : iI k + (1 : Int32) = iI (k + 1 : Nat) := iI_add k 1
      -- the day tried
      have goJ : ∃ S2 : St, f_X9_bestDay_J44 0 (fun l1 l2 l4 S => f_X9_bestDay_L9 N 0 l1 l2 l4 S) (iI (amS (dayF T) k).1) (lI (amS (dayF T) k).2) (iI k) S1 = some (iI (amS (dayF T) 31).1, S2) ∧ IE S2 T ∧ Fr PE S1 S2 := by
        obtain ⟨S3, b1, b2, b3⟩ := E_set (c := 36) (sh := tS T) p1 hB1
        obtain ⟨hB3, hC3⟩ := BC_47 p1 (Or.inr rfl) hB1 a2 b3
        have hH : HW (tB T) k 36 P (tS T) (tB T 0 0) (tB T 0 5) 0 0 (-1) 79 := ⟨hVB, by omega, Or.inr rfl, p1, hV.2.2.2.2.1, ⟨hVB.1.1, hbar⟩, he, by omega, by omega, by omega, Or.inr rfl⟩
        obtain ⟨S4, q1, q2, q3, q4, q5, q6, q7⟩ := E_trial hH ⟨b2, hB3, hC3⟩ (IE_47 h2 b3)
        have hw := E_power (n := 8 - cntL (tB T) k) (S := S4) (by omega)
        have ha : f_X0_waysOfAbsent 36 S4 = some (lI ((10 : Int) ^ (8 - cntL (tB T) k)), S4) := by
          unfold f_X0_waysOfAbsent
          rw [q5.2.2.1, show (8 : Int32) = iI 8 from rfl, iI_sub, show ((8 : Int) - (cntL (tB T) k : Int)) = ((8 - cntL (tB T) k : Nat) : Int) by omega, bd_ok hw]
        have hq2 : S4.2.1 79 0 * lI ((10 : Int) ^ (8 - cntL (tB T) k)) = lI (dayF T k) := by rw [q2, lI_mul]; rfl
        obtain ⟨S5, z1, z2, z3⟩ := ih N (k + 1) S4 (by omega) (by omega) q6 (fun _ => by rw [Nat.add_sub_cancel]; exact q5.2.2)
        refine ⟨S5, ?_, z2, (((b3.wk (fun _ _ => P47_PEs)).tr q7).wk PEs_PE).tr z3⟩
        unfold f_X9_bestDay_J44
        rw [p4, ck_pos hkd, hsh1]
        dsimp only [Nat.reduceAdd]
        rw [bd_ok b1, bd_ok q1, bd_ok ha, hq2, sq_k, e0]
        by_cases hc : dayF T k ≤ (amS (dayF T) k).2
        · rw [if_pos (by rw [lI_le (by omega) (by omega)]; exact hc)]
          rw [hs, if_pos hc] at z1; exact z1
        · rw [if_neg (by rw [lI_le (by omega) (by omega)]; exact hc)]
          rw [hs, if_neg hc] at z1; exact z1
      have goJ2 : ∃ S2 : St, f_X9_bestDay_J44 0 (fun l1 l2 l4 S => f_X9_bestDay_L9 N 0 l1 l2 l4 S) (iI (amS (dayF T) k).1) (lI (amS (dayF T) k).2) (iI k) S1 = some (iI (amS (dayF T) 31).1, S2) ∧ IE S2 T ∧ Fr PE S S2 := by
        obtain ⟨S2, z1, z2, z3⟩ := goJ
        exact ⟨S2, z1, z2, (f1.wk PEs_PE).tr z3⟩
      have pre : ∀ R : Option (Int32 × St), (if iI k ≤ (0 : Int32) then f_X9_bestDay_J44 0 (fun l1 l2 l4 S => f_X9_bestDay_L9 N 0 l1 l2 l4 S) (iI (amS (dayF T) k).1) (lI (amS (dayF T) k).2) (iI k) S1 else if o = 0 then f_X9_bestDay_L9 N 0 (iI (amS (dayF T) k).1) (lI (amS (dayF T) k).2) (iI (k + 1 : Nat)) S1 else f_X9_bestDay_J44 0 (fun l1 l2 l4 S => f_X9_bestDay_L9 N 0 l1 l2 l4 S) (iI (amS (dayF T) k).1) (lI (amS (dayF T) k).2) (iI k) S1) = R → f_X9_bestDay_L9 (N + 1) 0 (iI (amS (dayF T) k).1) (lI (amS (dayF T) k).2) (iI k) S = R := by
        intro R hR
        rw [f_X9_bestDay_L9, if_neg (by rw [show (30 : Int32) = iI 30 from rfl, iI_lt (by omega) (by omega)]; omega), p2, ck_pos hkd]
        dsimp only [Nat.reduceAdd]
        rw [bd_ok a1, e0]
        exact hR
      by_cases hk0 : k = 0
      · obtain ⟨S2, z1, z2⟩ := goJ2
        exact ⟨S2, pre _ (by rw [if_pos (by rw [show (0 : Int32) = iI 0 from rfl, iI_le (by omega) (by omega)]; omega)]; exact z1), z2⟩
      by_cases ho : o = 0
      · obtain ⟨c1, c2⟩ := a4 ho
        obtain ⟨d1, d2⟩ := hC (by omega)
        have hclp := cntL_le (tB T) (k - 1)
        have hcn : cntL (tB T) (k - 1) = cntL (tB T) k := by
          rw [d1] at c1
          rw [iI_eq (by omega) (by omega)] at c1
          omega
        have hord : ordL (tB T) (k - 1) = ordL (tB T) k := by
          refine ord_eq hcn (fun p hp => ?_)
          have e1 := c2 p (by omega)
          rw [(d2 p hp).1] at e1
          have l1 := atL_lt hp
          have l2 := atL_lt (B := tB T) (L := k) (p := p) (by omega)
          rw [iI_eq (by omega) (by omega)] at e1
          omega
        have hff : dayF T k = dayF T (k - 1) := by
          unfold dayF dayG
          rw [cntS_day hord, hcn]
        have hge := amS_ge (f := dayF T) (k := k) (j := k - 1) (by omega)
        rw [if_pos (by rw [hff]; exact hge)] at hs
        obtain ⟨S3, y1, y2, y3⟩ := ih N (k + 1) S1 (by omega) (by omega) h2 (fun _ => by rw [Nat.add_sub_cancel]; exact a2)
        rw [hs] at y1
        exact ⟨S3, pre _ (by rw [if_neg (by rw [show (0 : Int32) = iI 0 from rfl, iI_le (by omega) (by omega)]; omega), if_pos ho]; exact y1), y2, (f1.wk PEs_PE).tr y3⟩
      · obtain ⟨S2, z1, z2⟩ := goJ2
        exact ⟨S2, pre _ (by rw [if_neg (by rw [show (0 : Int32) = iI 0 from rfl, iI_le (by omega) (by omega)]; omega), if_neg ho]; exact z1), z2⟩
  obtain ⟨S2, z1, z2, z3⟩ := keyE 31 FU 0 S (by omega) (by unfold FU; omega) hE (fun h => absurd h (by omega))
  refine ⟨iI (amS (dayF T) 31).1, S2, ⟨?_, z2, z3⟩, fun S1 hM => ?_⟩
  · unfold f_X9_bestDay
    exact z1
  · obtain ⟨S2, e1, e2, e3⟩ := M_plainQ hM
    have hsh := hV.2.2.2.2.1
    have step : ∀ (k : Nat) (S : St) (L : Nat), k ≤ 30 → MPl S (tB T) L (tB T 0 0) (tB T 0 5) (tS T) 0 (-4) → ∃ S4 : St, f_X10_waysOf 103 0 (pI S 103 20 (iI k)) = some (lI (dayG T k), S4) ∧ f_X10_allWays 103 S4 = some (lI ((10 : Int) ^ cntL (tB T) k), S4) ∧ MPl S4 (tB T) k (tB T 0 0) (tB T 0 5) (tS T) 0 (-4) ∧ Fr PScr S S4 := by
      intro k S L hk h1
      have rq0 : RQ (tB T) k 0 (-4) := Or.inl ⟨by omega, by omega, rfl⟩
      obtain ⟨S4, q1, q2, q3⟩ := M_trial (rq := 0) (what := 0) hVB hk hsh hbar he (by omega) rq0 (by omega) (MPl_20 (b := k) h1)
      have q1' : f_X10_waysOf 103 0 (pI S 103 20 (iI k)) = some (lI (dayG T k), S4) := by rw [cntM_S (Or.inl (by omega))] at q1; exact q1
      exact ⟨S4, q1', M_allWays hVB q2.2.1, MPl_G q2, Fr.tr (Fr.pI (P := PScr) (S := S) (v := iI k) (Or.inl ⟨rfl, by omega⟩)) q3⟩
    have key : ∀ (m N k : Nat) (S : St) (L : Nat), k + m = 30 → m < N → MPl S (tB T) L (tB T 0 0) (tB T 0 5) (tS T) 0 (-4) → ∃ S2 : St, f_X10_bestDay_L15 N 103 (iI (amS (dayF T) (k + 1)).1) (lI (dayG T (amS (dayF T) (k + 1)).1)) (lI ((10 : Int) ^ cntL (tB T) (amS (dayF T) (k + 1)).1)) (iI (k + 1 : Nat)) S = some (iI (amS (dayF T) 31).1, S2) ∧ Fr PScr S S2 := by
      intro m
      induction m with
      | zero =>
        intro N k S L hk hN h1
        obtain ⟨N, rfl⟩ : ∃ k, N = k + 1 := ⟨N - 1, by omega⟩
        have : k = 30 := by omega
        subst this
        refine ⟨S, ?_, Fr.rf⟩
        rw [f_X10_bestDay_L15, if_pos (by rw [show (30 : Int32) = iI 30 from rfl, iI_lt (by omega) (by omega)]; omega)]
      | succ m ih =>
        intro N k S L hk hN h1
        obtain ⟨N, rfl⟩ : ∃ k, N = k + 1 := ⟨N - 1, by omega⟩
        obtain ⟨S4, q1, q2, q3, q4⟩ := step (k + 1) S L (by omega) h1
        have hs : amS (dayF T) (k + 1 + 1) = if dayF T (k + 1) ≤ (amS (dayF T) (k + 1)).2 then amS (dayF T) (k + 1) else (k + 1, dayF T (k + 1)) := rfl
        obtain ⟨m1, m2⟩ := amS_at (f := dayF T) k (fun j hj => (dayF_bd hV j (by omega)).1)
        obtain ⟨b, hb⟩ : ∃ b, b = (amS (dayF T) (k + 1)).1 := ⟨_, rfl⟩
        rw [← hb] at m1 m2
        have hgb := dayG_bd hV b (by omega)
        have hgk := dayG_bd hV (k + 1) (by omega)
        have c1 := cntL_le (tB T) b
        have c2 := cntL_le (tB T) (k + 1)
        obtain ⟨t1, t2⟩ := ten_le (n := cntL (tB T) b) (by omega)
        obtain ⟨t3, t4⟩ := ten_le (n := cntL (tB T) (k + 1)) (by omega)
        have r1 : dayG T (k + 1) * (10 : Int) ^ cntL (tB T) b ≤ 100000000 * 100000000 := Int.mul_le_mul (by omega) t2 (by omega) (by omega)
        have r2 : dayG T b * (10 : Int) ^ cntL (tB T) (k + 1) ≤ 100000000 * 100000000 := Int.mul_le_mul (by omega) t4 (by omega) (by omega)
        have r3 : 0 ≤ dayG T (k + 1) * (10 : Int) ^ cntL (tB T) b := Int.mul_nonneg hgk.1 (by omega)
        have r4 : 0 ≤ dayG T b * (10 : Int) ^ cntL (tB T) (k + 1) := Int.mul_nonneg hgb.1 (by omega)
        obtain ⟨S3, z1, z2⟩ := ih N (k + 1) S4 (k + 1) (by omega) (by omega) q3
        refine ⟨S3, ?_, q4.tr z2⟩
        have e0 : iI (k + 1 : Nat) + (1 : Int32) = iI (k + 1 + 1 : Nat) := iI_add _ 1
        rw [← hb, f_X10_bestDay_L15, if_neg (by rw [show (30 : Int32) = iI 30 from rfl, iI_lt (by omega) (by omega)]; omega), sq_k, bd_ok q1, bd_ok q2, if_neg (by rw [show (0 : Int32) = iI 0 from rfl, iI_lt (by omega) (by omega)]; omega), lI_mul, lI_mul]
        unfold f_X10_bestDay_J58
        rw [e0]
        by_cases hc : dayF T (k + 1) ≤ dayF T b
        · rw [if_pos (by rw [lI_le (by omega) (by omega)]; exact (day_cmp hV).mpr hc)]
          rw [hs, m1, if_pos hc, ← hb] at z1; exact z1
        · rw [if_neg (by rw [lI_le (by omega) (by omega)]; exact fun z => hc ((day_cmp hV).mp z))]
          rw [hs, m1, if_neg hc] at z1; exact z1
    obtain ⟨S4, q1, q2, q3, q4⟩ := step 0 S2 _ (by omega) e2
    obtain ⟨F, hF⟩ : ∃ F, FU = F + 1 := FU_succ
    have h0 := dayF_bd hV 0 (by omega)
    have ha1 : amS (dayF T) 1 = (0, dayF T 0) := by
      show (if dayF T 0 ≤ -1 then ((0, -1) : Nat × Int) else (0, dayF T 0)) = _
      rw [if_neg (by omega)]
    obtain ⟨S3, z1, z2⟩ := key 30 F 0 S4 _ (by omega) (by unfold FU at hF; omega) q3
    rw [ha1] at z1
    refine ⟨S3, ?_, (e3.tr q4).tr z2⟩
    have q1' : f_X10_waysOf 103 0 (pI S2 103 20 0) = some (lI (dayG T 0), S4) := q1
    unfold f_X10_bestDay
    rw [bd_ok e1, hF, f_X10_bestDay_L15, if_neg (by decide), sq_k, bd_ok q1', bd_ok q2, if_pos (by decide)]
    unfold f_X10_bestDay_J58
    exact z1
