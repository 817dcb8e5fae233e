theorem plS_get {l : List Nat} {i p : Nat} (h : plS l i = (p : Int)) : p < l.length ∧ l.getD p 0 = i := by
  unfold plS at h
  by_cases hc : idxL l i < l.length
  · rw [if_pos hc] at h
    have hp : idxL l i = p := by omega
    refine ⟨by omega, ?_⟩
    have key : ∀ (l : List Nat) (p : Nat), idxL l i = p → p < l.length → l.getD p 0 = i := by
      intro l
      induction l with
      | nil => intro p _ h; exact absurd h (Nat.not_lt_zero _)
      | cons a t ih =>
        intro p h1 h2
        unfold idxL at h1
        by_cases ha : a = i
        · rw [if_pos ha] at h1; subst h1; simpa using ha
        · rw [if_neg ha] at h1
          subst h1
          have := ih _ rfl (by simpa using h2)
          simpa using this
    exact key l p hp (by omega)
  · rw [if_neg hc] at h; omega
theorem plS_ne {l : List Nat} {p : Nat} (hl : l.length ≤ 8) (hp : p < l.length) : iI (p : Int) ≠ (-4 : Int32) := by
  rw [iI_n4, Ne, iI_eq (by omega) (by omega)]; omega
theorem ok_evening (x y z : Int32) : Okk (f_X9_evening 0 x y z) (f_X10_evening 103 x y z) := by
  apply Okk_scr
  intro S T hV hE
  have hVB := VT_B hV
  have hng : tB T 9 1 ≤ 8 := hVB.2.1.2.2.2
  have hcl := cntL_le (tB T) (tB T 0 2)
  by_cases hb : bad x 0 9999
  · refine ⟨-1001, S, ⟨?_, hE, Fr.rf⟩, fun S1 hM => ⟨S1, ?_, Fr.rf⟩⟩
    · unfold f_X9_evening; rw [bd_ok (within_bad hb)]; rfl
    · unfold f_X10_evening; rw [bd_ok (in_bad hb)]; rfl
  by_cases hb2 : bad y 0 ((tB T 9 1 : Int) - 1)
  · refine ⟨-1001, S, ⟨?_, hE, Fr.rf⟩, fun S1 hM => ⟨S1, ?_, Fr.rf⟩⟩
    · unfold f_X9_evening; rw [bd_ok (within_ok hb), if_neg (by decide), bd_ok (E_isGiver_bad hV hE hb2)]; rfl
    · unfold f_X10_evening; rw [bd_ok (in_ok hb), if_neg (by decide), bd_ok (M_isGiver_bad hV hM hb2)]; rfl
  by_cases hb3 : bad z 0 1
  · refine ⟨-1001, S, ⟨?_, hE, Fr.rf⟩, fun S1 hM => ⟨S1, ?_, Fr.rf⟩⟩
    · unfold f_X9_evening; rw [bd_ok (within_ok hb), if_neg (by decide), bd_ok (E_isGiver_ok hV hE hb2), if_neg (by decide), bd_ok (within_bad hb3)]; rfl
    · unfold f_X10_evening; rw [bd_ok (in_ok hb), if_neg (by decide), bd_ok (M_isGiver_ok hV hM hb2), if_neg (by decide), bd_ok (in_bad hb3)]; rfl
  obtain ⟨i, hi, hi8, rfl⟩ := giver_nat hV hb2
  obtain ⟨t, ht, rfl⟩ := bad_in (m := 9999) hb
  have hpl := E_place25 (i := i) hV hE hi8
  rcases plS_cases (ordL (tB T) (tB T 0 2)) i with hp | ⟨p, hp1, hp2⟩
  · refine ⟨-1004, S, ⟨?_, hE, Fr.rf⟩, fun S1 hM => ?_⟩
    · unfold f_X9_evening
      rw [bd_ok (within_ok hb), if_neg (by decide), bd_ok (E_isGiver_ok hV hE hb2), if_neg (by decide), bd_ok (within_ok hb3), if_neg (by decide)]
      dsimp only [Nat.reduceAdd]
      rw [bd_ok hpl, hp, iI_n4, if_pos rfl]
    · obtain ⟨S2, e1, e2, e3, e4, e5⟩ := M_evening hV hM ht
      refine ⟨S2, ?_, e5⟩
      unfold f_X10_evening
      rw [bd_ok (in_ok hb), if_neg (by decide), bd_ok (M_isGiver_ok hV hM hb2), if_neg (by decide), bd_ok (in_ok hb3), if_neg (by decide), bd_ok e1, bd_ok (M_placeT hV e2.2.1 hi8), hp, iI_n4, if_pos rfl]
  · obtain ⟨hq1, hq2⟩ := plS_get hp2
    have hq2' : atL (tB T) (tB T 0 2) p = i := hq2
    have hpc : p < cntL (tB T) (tB T 0 2) := hp1
    have hne := plS_ne (ord_bounds hV (tB T 0 2)).1 hp1
    have hw := drawW_le (t := t) hVB (VT_L hV) hpc
    obtain ⟨P, S2, p1, e1, e2, e3, e4, e5⟩ := E_evening hV hE ht
    by_cases hz : z = 0
    · refine ⟨iI (giftP (tB T) (tB T 0 2) (tB T 0 0) (tB T 0 5) (tS T) 0 0 (drawW (tB T) (tB T 0 2) t) p), S2, ⟨?_, e4, e5⟩, fun S1 hM => ?_⟩
      · unfold f_X9_evening
        rw [bd_ok (within_ok hb), if_neg (by decide), bd_ok (E_isGiver_ok hV hE hb2), if_neg (by decide), bd_ok (within_ok hb3), if_neg (by decide)]
        dsimp only [Nat.reduceAdd]
        rw [bd_ok hpl, hp2, if_neg hne, bd_ok e1, if_pos hz, ob_iI (by omega), iI_nat (by omega), e3.2 p hpc]
      · obtain ⟨S2, e1, e2, e3, e4, e5⟩ := M_evening hV hM ht
        refine ⟨S2, ?_, e5⟩
        unfold f_X10_evening
        rw [bd_ok (in_ok hb), if_neg (by decide), bd_ok (M_isGiver_ok hV hM hb2), if_neg (by decide), bd_ok (in_ok hb3), if_neg (by decide), bd_ok e1, bd_ok (M_placeT hV e2.2.1 hi8), hp2, if_neg hne, if_pos hz, ob_iI (by omega), iI_nat (by omega), ← hq2']
        dsimp only [Nat.reduceAdd]
        rw [e3.2.2.1 p hpc]
    · refine ⟨iI (hasP (tB T) (tB T 0 2) (tB T 0 0) (tB T 0 5) (tS T) 0 0 (drawW (tB T) (tB T 0 2) t) p), S2, ⟨?_, e4, e5⟩, fun S1 hM => ?_⟩
      · unfold f_X9_evening
        rw [bd_ok (within_ok hb), if_neg (by decide), bd_ok (E_isGiver_ok hV hE hb2), if_neg (by decide), bd_ok (within_ok hb3), if_neg (by decide)]
        dsimp only [Nat.reduceAdd]
        rw [bd_ok hpl, hp2, if_neg hne, bd_ok e1, if_neg hz, bd_ok (E_drawn hVB (VT_L hV) e2.2.2 hpc ht), bd_ok (hasP_E hVB (VT_L hV) (Or.inl rfl) p1 e2 ⟨hVB.1.1, hVB.1.2.1⟩ hVB.1.2.2.2.2.2.2.1 (by omega) hpc (by omega) e3)]
      · obtain ⟨S2, e1, e2, e3, e4, e5⟩ := M_evening hV hM ht
        refine ⟨S2, ?_, e5⟩
        unfold f_X10_evening
        rw [bd_ok (in_ok hb), if_neg (by decide), bd_ok (M_isGiver_ok hV hM hb2), if_neg (by decide), bd_ok (in_ok hb3), if_neg (by decide), bd_ok e1, bd_ok (M_placeT hV e2.2.1 hi8), hp2, if_neg hne, if_neg hz, ← hq2', bd_ok (hasP_M hVB (VT_L hV) e2 ⟨hVB.1.1, hVB.1.2.1⟩ hVB.1.2.2.2.2.2.2.1 (by omega) hpc (by omega) e3 e4)]
theorem bI_ne {b : Bool} : (if bI b = 0 then (0 : Int32) else 1) = bI b := by cases b <;> rfl
theorem ok_whole (x y : Int32) : Okk (f_X9_whole 0 x y) (f_X10_whole 103 x y) := by
  apply Okk_scr
  intro S T hV hE
  have hVB := VT_B hV
  have hng : tB T 9 1 ≤ 8 := hVB.2.1.2.2.2
  have hcl := cntL_le (tB T) (tB T 0 2)
  by_cases hb : bad x 0 9999
  · refine ⟨-1, S, ⟨?_, hE, Fr.rf⟩, fun S1 hM => ⟨S1, ?_, Fr.rf⟩⟩
    · unfold f_X9_whole; rw [bd_ok (within_bad hb)]; rfl
    · unfold f_X10_whole; rw [bd_ok (in_bad hb)]; rfl
  by_cases hb3 : bad y 0 1
  · refine ⟨-1, S, ⟨?_, hE, Fr.rf⟩, fun S1 hM => ⟨S1, ?_, Fr.rf⟩⟩
    · unfold f_X9_whole; rw [bd_ok (within_ok hb), if_neg (by decide), bd_ok (within_bad hb3)]; rfl
    · unfold f_X10_whole; rw [bd_ok (in_ok hb), if_neg (by decide), bd_ok (in_bad hb3)]; rfl
  obtain ⟨t, ht, rfl⟩ := bad_in (m := 9999) hb
  obtain ⟨P, S2, p1, e1, e2, e3, e4, e5⟩ := E_evening hV hE ht
  by_cases hz : y = 0
  · refine ⟨iI (endS (tB T) (tB T 0 2) (tB T 0 0) (tB T 0 5) (tS T) 0 0 (drawW (tB T) (tB T 0 2) t)).1, S2, ⟨?_, e4, e5⟩, fun S1 hM => ?_⟩
    · unfold f_X9_whole
      rw [bd_ok (within_ok hb), if_neg (by decide), bd_ok (within_ok hb3), if_neg (by decide), bd_ok e1, if_pos hz]
      dsimp only [Nat.reduceAdd]
      rw [e2.2.2.1, ob_iI (by omega), iI_nat (by omega), (GP_1 e3 (Nat.le_refl _)).1]; rfl
    · obtain ⟨S2, e1, e2, e3, e4, e5⟩ := M_evening hV hM ht
      refine ⟨S2, ?_, e5⟩
      unfold f_X10_whole
      rw [bd_ok (in_ok hb), if_neg (by decide), bd_ok (in_ok hb3), if_neg (by decide), bd_ok e1, if_pos hz, e4]
  · refine ⟨bI (builtS (tB T) (tB T 0 2) (tB T 0 0) (tB T 0 5) (tS T) 0 0 (drawW (tB T) (tB T 0 2) t)), S2, ⟨?_, e4, e5⟩, fun S1 hM => ?_⟩
    · have hbt := E_built hVB (VT_L hV) (Or.inl rfl) p1 e2.1 e2.2.1 e2.2.2 hVB.1.2.1 (by omega) e3
      unfold f_X9_whole
      rw [bd_ok (within_ok hb), if_neg (by decide), bd_ok (within_ok hb3), if_neg (by decide), bd_ok e1, if_neg hz]
      dsimp only [Nat.reduceAdd]
      rw [bd_ok hbt]
      generalize builtS (tB T) (tB T 0 2) (tB T 0 0) (tB T 0 5) (tS T) 0 0 (drawW (tB T) (tB T 0 2) t) = b
      cases b <;> rfl
    · obtain ⟨S2, e1, e2, e3, e4, e5⟩ := M_evening hV hM ht
      refine ⟨S2, ?_, e5⟩
      have hbt := M_built hVB (VT_L hV) e2 hVB.1.2.1 (by omega) e3 e4
      unfold f_X10_whole
      rw [bd_ok (in_ok hb), if_neg (by decide), bd_ok (in_ok hb3), if_neg (by decide), bd_ok e1, if_neg hz, bd_ok hbt]
      generalize builtS (tB T) (tB T 0 2) (tB T 0 0) (tB T 0 5) (tS T) 0 0 (drawW (tB T) (tB T 0 2) t) = b
      cases b <;> rfl
/-! a told row of gifts -/
theorem maxTo_le {f : Nat → Nat} {b : Nat} : ∀ {n : Nat}, (∀ k, k < n → f k ≤ b) → maxTo f n ≤ b
  | 0, _ => Nat.zero_le _
  | n + 1, h => by
    unfold maxTo
    have h1 := maxTo_le (n := n) (fun k hk => h k (by omega))
    have h2 := h n (by omega)
    omega
theorem mostS_le {B : Bd} {s : Nat} (hV : VB B) (hs : s < B 9 0) : mostS B s ≤ 30 := maxTo_le (fun k hk => ((hV.2.2.1 s hs).2.2.2.2.2.2 k hk).1)
theorem i3k (x k : Nat) : (3 : Int32) * iI x + iI k = iI (3 * x + k : Nat) := by
  rw [show (3 : Int32) = iI 3 from rfl, iI_mul, iI_add]
  congr 1
/-- where the head behind is a loop, dsimp's sq makes the kernel unroll it: rw by this -/
theorem sq_k {α β : Type} (x : α) (k : α → β) : sq x k = k x := rfl
theorem mostS_k (B : Bd) (s : Nat) : maxTo (fun k => B 5 (3 * s + k)) (B 4 s) = mostS B s := rfl
theorem M_mostL {B : Bd} {i : Nat} {S : St} (hV : VB B) (hi : i < B 9 1) (hB : BM S B) : ∀ (m N k : Nat), k + m = B 4 (B 7 i) → m < N → f_X10_most_L12 N 103 (iI i) (iI (B 7 i)) (iI (maxTo (fun k => B 5 (3 * B 7 i + k)) k)) (iI k) S = some (iI (mostS B (B 7 i)), S) := by
  have hs : B 7 i < B 9 0 := (hV.2.2.2 i hi).1
  obtain ⟨v1, v2, v3, v4, v5, v6, v7⟩ := hV.2.2.1 _ hs
  have hs6 : B 9 0 ≤ 6 := hV.2.1.2.1
  have hng : B 9 1 ≤ 8 := hV.2.1.2.2.2
  obtain ⟨b1, b2, b3, b4, b5⟩ := hB.2.2.2.1 _ hs
  intro m
  induction m with
  | zero =>
    intro N k hk hN
    obtain ⟨N, rfl⟩ : ∃ k, N = k + 1 := ⟨N - 1, by omega⟩
    have : k = B 4 (B 7 i) := by omega
    rw [f_X10_most_L12, ob_iI (by omega), iI_nat (by omega)]
    dsimp only [Nat.reduceAdd]
    rw [b4, if_pos (by rw [iI_le (by omega) (by omega)]; omega), this, mostS_k]
  | succ m ih =>
    intro N k hk hN
    obtain ⟨N, rfl⟩ : ∃ k, N = k + 1 := ⟨N - 1, by omega⟩
    have hle : maxTo (fun k => B 5 (3 * B 7 i + k)) k ≤ 30 := maxTo_le (fun j hj => (v7 j (by omega)).1)
    have h5 := (v7 k (by omega)).1
    have hstep : maxTo (fun k => B 5 (3 * B 7 i + k)) (k + 1) = max (maxTo (fun k => B 5 (3 * B 7 i + k)) k) (B 5 (3 * B 7 i + k)) := rfl
    have hi2 := ih N (k + 1) (by omega) (by omega)
    rw [hstep] at hi2
    generalize maxTo (fun k => B 5 (3 * B 7 i + k)) k = mm at *
    rw [f_X10_most_L12, ob_iI (by omega), iI_nat (by omega)]
    dsimp only [sq, Nat.reduceAdd]
    rw [b4, if_neg (by rw [iI_le (by omega) (by omega)]; omega), i3k, ob_iI (by omega), iI_nat (by omega), (b5 k (by omega)).1, ob_iI (by omega), show iI k + (1 : Int32) = iI (k + 1 : Nat) from iI_add k 1]
    by_cases hc : B 5 (3 * B 7 i + k) ≤ mm
    · rw [if_pos (by rw [iI_le (by omega) (by omega)]; omega)]
      rw [Nat.max_eq_left hc] at hi2; exact hi2
    · rw [if_neg (by rw [iI_le (by omega) (by omega)]; omega)]
      rw [Nat.max_eq_right (by omega)] at hi2; exact hi2
theorem M_most {B : Bd} {i : Nat} {S : St} (hV : VB B) (hi : i < B 9 1) (hB : BM S B) : f_X10_most 103 (iI i) S = some (iI (mostS B (B 7 i)), S) := by
  have hs : B 7 i < B 9 0 := (hV.2.2.2 i hi).1
  obtain ⟨v1, v2, v3, v4, v5, v6, v7⟩ := hV.2.2.1 _ hs
  have hng : B 9 1 ≤ 8 := hV.2.1.2.2.2
  have hsk : S.1 116 i = iI (B 7 i) := (hB.2.2.2.2 _ hi).1
  have z := M_mostL hV hi hB (B 4 (B 7 i)) FU 0 (by omega) (by unfold FU; omega)
  rw [show maxTo (fun k => B 5 (3 * B 7 i + k)) 0 = 0 from rfl] at z
  unfold f_X10_most
  rw [ob_iI (by omega), iI_nat (by omega), sq_k, show (103 : Nat) + 13 = 116 from rfl, hsk]
  exact z
def judgeS (B : Bd) (L bar e sh : Nat) (R : Nat → Nat) : Nat → Nat → Nat → Int
  | 0, _, _ => -4
  | m + 1, p, g => if giftS B e (dayL B L (atL B L p)) (atL B L p) (mostS B (soL B L p)) (lackS sh bar g) (cntL B L - p) = R (atL B L p) then judgeS B L bar e sh R m (p + 1) (g + R (atL B L p)) else (atL B L p : Int)
theorem ok_judge : Okk (f_X9_judge 0) (f_X10_judge 103) := by
  apply Okk_scr
  intro S T hV hE
  have hVB := VT_B hV
  have hL := VT_L hV
  have hng : tB T 9 1 ≤ 8 := hVB.2.1.2.2.2
  have hs6 : tB T 9 0 ≤ 6 := hVB.2.1.2.1
  have hcl := cntL_le (tB T) (tB T 0 2)
  have hbar := hVB.1.2.1
  have he : tB T 0 5 ≤ 9 := hVB.1.2.2.2.2.2.2.1
  have hsh : tS T ≤ 2 := hV.2.2.2.2.1
  have hR := hV.2.2.2.1
  obtain ⟨P, S1, p1, e1, e2, e3, e4, e5, e6, e7⟩ := E_setGame hE
  refine ⟨iI (judgeS (tB T) (tB T 0 2) (tB T 0 0) (tB T 0 5) (tS T) (tR T) (cntL (tB T) (tB T 0 2)) 0 0), S1, ⟨?_, e6, e7.wk P47_PE⟩, fun S3 hM => ?_⟩
  · have t3 := (IE_has e6).2.2.1
    have key : ∀ (m N p g : Nat), p + m = cntL (tB T) (tB T 0 2) → m < N → g ≤ 30 * p → f_X9_judge_L8 N 0 (iI g) (iI p) S1 = some (iI (judgeS (tB T) (tB T 0 2) (tB T 0 0) (tB T 0 5) (tS T) (tR T) m p g), S1) := by
      intro m
      induction m with
      | zero =>
        intro N p g hp hN hg
        obtain ⟨N, rfl⟩ : ∃ k, N = k + 1 := ⟨N - 1, by omega⟩
        rw [f_X9_judge_L8]
        dsimp only [Nat.reduceAdd]
        rw [e4.1, if_pos (by rw [iI_le (by omega) (by omega)]; omega), iI_n4]; rfl
      | succ m ih =>
        intro N p g hp hN hg
        obtain ⟨N, rfl⟩ : ∃ k, N = k + 1 := ⟨N - 1, by omega⟩
        have hpc : p < cntL (tB T) (tB T 0 2) := by omega
        obtain ⟨f1, f2, f3, f4, f5, f6, f7, f8, f9, f10, f11⟩ := at_facts hVB hL hpc
        obtain ⟨x1, x2, x3, x4, x5, x6, x7, x8⟩ := e4.2 p hpc
        have hms := mostS_le hVB f4
        have hgl := gift_le (tB T) (tB T 0 5) (dayL (tB T) (tB T 0 2) (atL (tB T) (tB T 0 2) p)) (atL (tB T) (tB T 0 2) p) (mostS (tB T) (soL (tB T) (tB T 0 2) p)) (lackS (tS T) (tB T 0 0) g) (cntL (tB T) (tB T 0 2) - p)
        have f7' : tB T 2 (tB T 7 (atL (tB T) (tB T 0 2) p)) ≤ 30 := f7
        have hr := hR (atL (tB T) (tB T 0 2) p)
        rw [f_X9_judge_L8]
        dsimp only [sq, Nat.reduceAdd]
        rw [e4.1, if_neg (by rw [iI_le (by omega) (by omega)]; omega), ob_iI (by omega), iI_nat (by omega), ob_iI (by omega), show S1.1 26 p = iI (atL (tB T) (tB T 0 2) p) from x1, show S1.1 31 p = iI (mostS (tB T) (soL (tB T) (tB T 0 2) p)) from x6, bd_ok (E_giftAt hVB hL (Or.inl rfl) p1 e2 e3 e4 hsh hbar he hpc (by omega) (by omega)), ob_iI (by omega), iI_nat (by omega), t3 _ (by omega), ob_iI (by omega)]
        unfold judgeS
        by_cases hc : giftS (tB T) (tB T 0 5) (dayL (tB T) (tB T 0 2) (atL (tB T) (tB T 0 2) p)) (atL (tB T) (tB T 0 2) p) (mostS (tB T) (soL (tB T) (tB T 0 2) p)) (lackS (tS T) (tB T 0 0) g) (cntL (tB T) (tB T 0 2) - p) = tR T (atL (tB T) (tB T 0 2) p)
        · rw [if_pos hc, if_pos (by rw [hc]), show iI g + iI (tR T (atL (tB T) (tB T 0 2) p)) = iI (g + tR T (atL (tB T) (tB T 0 2) p) : Nat) from iI_add _ _, show iI p + (1 : Int32) = iI (p + 1 : Nat) from iI_add p 1]
          exact ih N (p + 1) _ (by omega) (by omega) (by omega)
        · rw [if_neg hc, if_neg (by rw [iI_eq (by omega) (by omega)]; omega)]
    unfold f_X9_judge
    rw [bd_ok e1]
    exact key _ FU 0 0 (by omega) (by unfold FU; omega) (by omega)
  · obtain ⟨S4, S5, q1, q2, q3, q4, q5, q6⟩ := M_start hV hM
    have hB := q3.2.2.1
    obtain ⟨pl1, pl2, pl3, pl4, pl5, pl6⟩ := q4
    have key : ∀ (m N p g : Nat), p + m = cntL (tB T) (tB T 0 2) → m < N → g ≤ 30 * p → f_X10_judge_L12 N 103 (iI g) (iI p) S5 = some (iI (judgeS (tB T) (tB T 0 2) (tB T 0 0) (tB T 0 5) (tS T) (tR T) m p g), S5) := by
      intro m
      have ho : S5.1 103 27 = iI (cntL (tB T) (tB T 0 2)) := q5.1
      induction m with
      | zero =>
        intro N p g hp hN hg
        obtain ⟨N, rfl⟩ : ∃ k, N = k + 1 := ⟨N - 1, by omega⟩
        rw [f_X10_judge_L12, ho, if_pos (by rw [iI_le (by omega) (by omega)]; omega), iI_n4]; rfl
      | succ m ih =>
        intro N p g hp hN hg
        obtain ⟨N, rfl⟩ : ∃ k, N = k + 1 := ⟨N - 1, by omega⟩
        have hpc : p < cntL (tB T) (tB T 0 2) := by omega
        obtain ⟨f1, f2, f3, f4, f5, f6, f7, f8, f9, f10, f11⟩ := at_facts hVB hL hpc
        have hms := mostS_le hVB f4
        have hll := lackS_le (tS T) (tB T 0 0) g
        have hok : S5.1 121 p = iI (atL (tB T) (tB T 0 2) p) := q5.2 p hpc
        have hsk : S5.1 116 (atL (tB T) (tB T 0 2) p) = iI (soL (tB T) (tB T 0 2) p) := (hB.2.2.2.2 _ f1).1
        obtain ⟨b1, b2, b3, b4, b5⟩ := hB.2.2.2.1 _ f4
        have hgl := gift_le (tB T) (tB T 0 5) (dayL (tB T) (tB T 0 2) (atL (tB T) (tB T 0 2) p)) (atL (tB T) (tB T 0 2) p) (mostS (tB T) (soL (tB T) (tB T 0 2) p)) (lackS (tS T) (tB T 0 0) g) (cntL (tB T) (tB T 0 2) - p)
        have f7' : tB T 2 (tB T 7 (atL (tB T) (tB T 0 2) p)) ≤ 30 := f7
        have hr := hR (atL (tB T) (tB T 0 2) p)
        have hgb := M_giftBy (k := tB T 1 (soL (tB T) (tB T 0 2) p)) (i := atL (tB T) (tB T 0 2) p) (w := mostS (tB T) (soL (tB T) (tB T 0 2) p)) (z := tB T 2 (soL (tB T) (tB T 0 2) p)) (l := lackS (tS T) (tB T 0 0) g) (r := cntL (tB T) (tB T 0 2) - p) hVB hL hB pl2 pl3 he f1 f6 (by omega) (by omega) (by omega) (by omega)
        have hgg : gB (tB T) (tB T 0 2) (tB T 0 5) (tB T 1 (soL (tB T) (tB T 0 2) p)) (atL (tB T) (tB T 0 2) p) (mostS (tB T) (soL (tB T) (tB T 0 2) p)) (tB T 2 (soL (tB T) (tB T 0 2) p)) (lackS (tS T) (tB T 0 0) g) (cntL (tB T) (tB T 0 2) - p) = giftS (tB T) (tB T 0 5) (dayL (tB T) (tB T 0 2) (atL (tB T) (tB T 0 2) p)) (atL (tB T) (tB T 0 2) p) (mostS (tB T) (soL (tB T) (tB T 0 2) p)) (lackS (tS T) (tB T 0 0) g) (cntL (tB T) (tB T 0 2) - p) := gB_gift _ _ _ _ _ _ _
        rw [hgg] at hgb
        rw [f_X10_judge_L12, ho, if_neg (by rw [iI_le (by omega) (by omega)]; omega), ob_iI (by omega), iI_nat (by omega)]
        dsimp only [sq, Nat.reduceAdd]
        rw [hok, ob_iI (by omega), iI_nat (by omega), hsk, ob_iI (by omega), iI_nat (by omega), bd_ok (M_most hVB f1 hB), ob_iI (by omega), pl1, bd_ok (M_lack pl4 hsh (by omega) (by omega)), ho, iI_sub, show ((cntL (tB T) (tB T 0 2) : Int) - p) = ((cntL (tB T) (tB T 0 2) - p : Nat) : Int) by omega, b1, b2, show tB T 7 (atL (tB T) (tB T 0 2) p) = soL (tB T) (tB T 0 2) p from rfl, bd_ok hgb, ob_iI (by omega), q3.2.2.2.1 _ (by omega), ob_iI (by omega)]
        unfold judgeS
        by_cases hc : giftS (tB T) (tB T 0 5) (dayL (tB T) (tB T 0 2) (atL (tB T) (tB T 0 2) p)) (atL (tB T) (tB T 0 2) p) (mostS (tB T) (soL (tB T) (tB T 0 2) p)) (lackS (tS T) (tB T 0 0) g) (cntL (tB T) (tB T 0 2) - p) = tR T (atL (tB T) (tB T 0 2) p)
        · rw [if_pos hc, if_pos (by rw [hc]), show iI g + iI (tR T (atL (tB T) (tB T 0 2) p)) = iI (g + tR T (atL (tB T) (tB T 0 2) p) : Nat) from iI_add _ _, show iI p + (1 : Int32) = iI (p + 1 : Nat) from iI_add p 1]
          exact ih N (p + 1) _ (by omega) (by omega) (by omega)
        · rw [if_neg hc, if_neg (by rw [iI_eq (by omega) (by omega)]; omega)]
    refine ⟨S5, ?_, q6⟩
    unfold f_X10_judge
    rw [bd_ok q1, bd_ok q2]
    exact key _ FU 0 0 (by omega) (by unfold FU; omega) (by omega)
