theorem IE_C {S : St} {T : Tst} (h : IE S T) : CE S 25 (tB T) (tB T 0 2) := by
  rcases h with h | h
  · exact h.2.2.2.2.1
  · exact h.2.2.2.2.1
def idxL : List Nat → Nat → Nat
  | [], _ => 0
  | a :: t, i => if a = i then 0 else idxL t i + 1
theorem idxL_at : ∀ {l : List Nat} {i p : Nat}, p < l.length → l.getD p 0 = i → (∀ q, q < p → l.getD q 0 ≠ i) → idxL l i = p
  | [], _, _, h, _, _ => absurd h (Nat.not_lt_zero _)
  | a :: t, i, 0, _, h, _ => by unfold idxL; rw [if_pos (by simpa using h)]
  | a :: t, i, p + 1, h, h1, h2 => by
    unfold idxL
    rw [if_neg (by simpa using h2 0 (by omega)), idxL_at (p := p) (by simpa using h) (by simpa using h1) (fun q hq => by simpa using h2 (q + 1) (by omega))]
theorem idxL_no : ∀ {l : List Nat} {i : Nat}, (∀ q, q < l.length → l.getD q 0 ≠ i) → idxL l i = l.length
  | [], _, _ => rfl
  | a :: t, i, h => by
    unfold idxL
    rw [if_neg (by simpa using h 0 (by simp)), idxL_no (fun q hq => by simpa using h (q + 1) (by simpa using hq))]
    rfl
/-- the answer of placeOf -/
def plS (l : List Nat) (i : Nat) : Int := if idxL l i < l.length then (idxL l i : Int) else -4
theorem plS_at {l : List Nat} {i p : Nat} (h1 : p < l.length) (h2 : l.getD p 0 = i) (h3 : ∀ q, q < p → l.getD q 0 ≠ i) : plS l i = p := by
  unfold plS; rw [idxL_at h1 h2 h3, if_pos h1]
theorem plS_no {l : List Nat} {i : Nat} (h : ∀ q, q < l.length → l.getD q 0 ≠ i) : plS l i = -4 := by
  unfold plS; rw [idxL_no h, if_neg (Nat.lt_irrefl _)]
theorem plS_cases (l : List Nat) (i : Nat) : plS l i = -4 ∨ ∃ p : Nat, p < l.length ∧ plS l i = p := by
  unfold plS
  by_cases h : idxL l i < l.length
  · rw [if_pos h]; exact Or.inr ⟨_, h, rfl⟩
  · rw [if_neg h]; exact Or.inl rfl
theorem E_place {c i : Nat} {l : List Nat} {S : St} (hl : l.length ≤ 8) (hb : ∀ p, p < l.length → l.getD p 0 < 100) (hi : i < 100) (h0 : S.1 c 0 = iI l.length) (h1 : ∀ p, p < l.length → S.1 (c + 1) p = iI (l.getD p 0)) : f_X0_placeOf c (iI i) S = some (iI (plS l i), S) := by
  have key : ∀ (m N p : Nat), p + m = l.length → m < N → (∀ q, q < p → l.getD q 0 ≠ i) → f_X0_placeOf_L2 N c (iI i) (iI p) S = some (iI (plS l i), S) := by
    intro m
    induction m with
    | zero =>
      intro N p hp hN hq
      obtain ⟨N, rfl⟩ : ∃ k, N = k + 1 := ⟨N - 1, by omega⟩
      rw [f_X0_placeOf_L2, h0, if_pos (by rw [iI_le (by omega) (by omega)]; omega), plS_no (fun q h => hq q (by omega)), iI_n4]
    | succ m ih =>
      intro N p hp hN hq
      obtain ⟨N, rfl⟩ : ∃ k, N = k + 1 := ⟨N - 1, by omega⟩
      have := hb p (by omega)
      rw [f_X0_placeOf_L2, h0, if_neg (by rw [iI_le (by omega) (by omega)]; omega), ob_iI (by omega), iI_nat (by omega), h1 p (by omega)]
      by_cases hc : l.getD p 0 = i
      · rw [if_pos (by rw [hc]), plS_at (by omega) hc hq]
      · rw [if_neg (by rw [iI_eq (by omega) (by omega)]; omega), show iI p + (1 : Int32) = iI (p + 1 : Nat) from iI_add p 1]
        exact ih N (p + 1) (by omega) (by omega) (fun q h => by
          by_cases e : q = p
          · rw [e]; exact hc
          · exact hq q (by omega))
  exact key l.length FU 0 (by omega) (by unfold FU; omega) (fun q h => absurd h (Nat.not_lt_zero _))
theorem M_place {i : Nat} {l : List Nat} {S : St} (hl : l.length ≤ 8) (hb : ∀ p, p < l.length → l.getD p 0 < 100) (hi : i < 100) (hO : OM S l) : f_X10_placeOf 103 (iI i) S = some (iI (plS l i), S) := by
  obtain ⟨h0, h1⟩ := hO
  have key : ∀ (m N p : Nat), p + m = l.length → m < N → (∀ q, q < p → l.getD q 0 ≠ i) → f_X10_placeOf_L2 N 103 (iI i) (iI p) S = some (iI (plS l i), S) := by
    intro m
    induction m with
    | zero =>
      intro N p hp hN hq
      obtain ⟨N, rfl⟩ : ∃ k, N = k + 1 := ⟨N - 1, by omega⟩
      rw [f_X10_placeOf_L2, h0, if_pos (by rw [iI_le (by omega) (by omega)]; omega), plS_no (fun q h => hq q (by omega)), iI_n4]
    | succ m ih =>
      intro N p hp hN hq
      obtain ⟨N, rfl⟩ : ∃ k, N = k + 1 := ⟨N - 1, by omega⟩
      have := hb p (by omega)
      rw [f_X10_placeOf_L2, h0, if_neg (by rw [iI_le (by omega) (by omega)]; omega), ob_iI (by omega), iI_nat (by omega)]
      dsimp only [Nat.reduceAdd]
      rw [h1 p (by omega)]
      by_cases hc : l.getD p 0 = i
      · rw [if_pos (by rw [hc]), plS_at (by omega) hc hq]
      · rw [if_neg (by rw [iI_eq (by omega) (by omega)]; omega), show iI p + (1 : Int32) = iI (p + 1 : Nat) from iI_add p 1]
        exact ih N (p + 1) (by omega) (by omega) (fun q h => by
          by_cases e : q = p
          · rw [e]; exact hc
          · exact hq q (by omega))
  exact key l.length FU 0 (by omega) (by unfold FU; omega) (fun q h => absurd h (Nat.not_lt_zero _))
theorem ord_bounds {T : Tst} (hV : VT T) (L : Nat) : (ordL (tB T) L).length ≤ 8 ∧ ∀ p, p < (ordL (tB T) L).length → (ordL (tB T) L).getD p 0 < 100 := by
  have hn : tB T 9 1 ≤ 8 := hV.2.2.1.2.1.2.2.2
  refine ⟨Nat.le_trans (cntL_le _ _) hn, fun p hp => ?_⟩
  have := atL_lt (B := tB T) (L := L) hp
  unfold atL at this
  omega
theorem E_place25 {S : St} {T : Tst} {i : Nat} (hV : VT T) (h : IE S T) (hi : i < 8) : f_X0_placeOf 25 (iI i) S = some (iI (plS (ordL (tB T) (tB T 0 2)) i), S) := by
  obtain ⟨b1, b2⟩ := ord_bounds hV (tB T 0 2)
  have hC := IE_C h
  exact E_place b1 b2 (by omega) hC.1 (fun p hp => (hC.2 p hp).1)
theorem M_placeT {S : St} {T : Tst} {i : Nat} (hV : VT T) (hO : OM S (ordL (tB T) (tB T 0 2))) (hi : i < 8) : f_X10_placeOf 103 (iI i) S = some (iI (plS (ordL (tB T) (tB T 0 2)) i), S) := by
  obtain ⟨b1, b2⟩ := ord_bounds hV (tB T 0 2)
  exact M_place b1 b2 (by omega) hO
/-- calls that change nothing that is seen -/
theorem Okk_ro {α : Type} {fE fM : St → Option (α × St)} (h : ∀ (S : St) (T : Tst), VT T → IE S T → ∃ v : α, fE S = some (v, S) ∧ ∀ S1 : St, IM S1 T → ∃ S2 : St, fM S1 = some (v, S2) ∧ Fr PScr S1 S2) : Okk fE fM := by
  apply Okk_of
  intro S T hV hE
  obtain ⟨v, h1, h2⟩ := h S T hV hE
  refine ⟨v, T, S, ⟨h1, hE, Fr.rf⟩, hV, rfl, fun S1 hM => ?_⟩
  obtain ⟨S2, h3, h4⟩ := h2 S1 hM
  exact ⟨S2, h3, IM_scr hM h4, h4.wk (fun _ _ => scr_PM)⟩
theorem ok_count (x : Int32) : Okk (f_X9_count 0 x) (f_X10_count 103 x) := by
  apply Okk_ro
  intro S T hV hE
  obtain ⟨t1, t2, t3, t4, t5, t6, t7⟩ := IE_has hE
  obtain ⟨P, p1, p2, p3⟩ := IE_P hE
  have hC := IE_C hE
  have hk := kdE_P p1
  by_cases h0 : x = 0
  · refine ⟨iI (tB T 9 1), ?_, fun S1 hM => ⟨S1, ?_, Fr.rf⟩⟩
    · unfold f_X9_count; rw [if_pos h0, p2, ck_pos hk, p3.2.2.1]
    · unfold f_X10_count; rw [if_pos h0, hM.2.2.1.2.2.1]
  by_cases h1 : x = 1
  · refine ⟨iI (cntL (tB T) (tB T 0 2)), ?_, fun S1 hM => ?_⟩
    · unfold f_X9_count; rw [if_neg h0, if_pos h1]
      dsimp only [Nat.reduceAdd]
      rw [hC.1]
    · obtain ⟨S2, S3, e1, e2, e3, e4, e5, e6⟩ := M_start hV hM
      refine ⟨S3, ?_, e6⟩
      unfold f_X10_count; rw [if_neg h0, if_pos h1, bd_ok e1, bd_ok e2, e5.1]; rfl
  by_cases h2 : x = 2
  · refine ⟨iI (tB T 9 0), ?_, fun S1 hM => ⟨S1, ?_, Fr.rf⟩⟩
    · unfold f_X9_count; rw [if_neg h0, if_neg h1, if_pos h2, p2, ck_pos hk, p3.2.1]
    · unfold f_X10_count; rw [if_neg h0, if_neg h1, if_pos h2, ← hM.2.2.1.2.1]; rfl
  by_cases h3 : x = 3
  · refine ⟨iI (tN T), ?_, fun S1 hM => ⟨S1, ?_, Fr.rf⟩⟩
    · unfold f_X9_count; rw [if_neg h0, if_neg h1, if_neg h2, if_pos h3, ← t1]
    · unfold f_X10_count; rw [if_neg h0, if_neg h1, if_neg h2, if_pos h3, hM.1]
  by_cases h4 : x = 4
  · refine ⟨iI (tK T), ?_, fun S1 hM => ⟨S1, ?_, Fr.rf⟩⟩
    · unfold f_X9_count; rw [if_neg h0, if_neg h1, if_neg h2, if_neg h3, if_pos h4, ← t5]
    · unfold f_X10_count; rw [if_neg h0, if_neg h1, if_neg h2, if_neg h3, if_pos h4, hM.2.2.2.2.2.1]
  by_cases h5 : x = 5
  · refine ⟨iI (tB T 0 0), ?_, fun S1 hM => ⟨S1, ?_, Fr.rf⟩⟩
    · unfold f_X9_count; rw [if_neg h0, if_neg h1, if_neg h2, if_neg h3, if_neg h4, if_pos h5, p2, ck_pos hk, p3.1.1]
    · unfold f_X10_count; rw [if_neg h0, if_neg h1, if_neg h2, if_neg h3, if_neg h4, if_pos h5, ← hM.2.2.1.1 0 (by omega)]; rfl
  by_cases h6 : x = 6
  · refine ⟨iI (tB T 0 2), ?_, fun S1 hM => ⟨S1, ?_, Fr.rf⟩⟩
    · unfold f_X9_count; rw [if_neg h0, if_neg h1, if_neg h2, if_neg h3, if_neg h4, if_neg h5, if_pos h6, p2, ck_pos hk, p3.1.2.2.1]
    · unfold f_X10_count; rw [if_neg h0, if_neg h1, if_neg h2, if_neg h3, if_neg h4, if_neg h5, if_pos h6, ← hM.2.2.1.1 2 (by omega)]; rfl
  · refine ⟨-1, ?_, fun S1 hM => ⟨S1, ?_, Fr.rf⟩⟩
    · unfold f_X9_count; rw [if_neg h0, if_neg h1, if_neg h2, if_neg h3, if_neg h4, if_neg h5, if_neg h6]
    · unfold f_X10_count; rw [if_neg h0, if_neg h1, if_neg h2, if_neg h3, if_neg h4, if_neg h5, if_neg h6]
theorem E_sortOf {S : St} {P i : Nat} {B : Bd} (hV : VB B) (h : BE S P B) (hi : i < B 9 1) : f_X6_sortOf (P + 1) (iI i) S = some (iI (B 7 i), S) := by
  have hn : B 9 1 ≤ 8 := hV.2.1.2.2.2
  unfold f_X6_sortOf
  rw [show (0 : Int32) = iI 0 from rfl, if_neg (by rw [iI_lt (by omega) (by omega)]; omega), h.2.2.1, if_neg (by rw [iI_le (by omega) (by omega)]; omega), ob_iI (by omega), iI_nat (by omega)]
  rw [show P + 1 + 7 = P + 8 from rfl, (h.2.2.2.2 i hi).1]
theorem ok_giver (x y : Int32) : Okk (f_X9_giver 0 x y) (f_X10_giver 103 x y) := by
  apply Okk_ro
  intro S T hV hE
  obtain ⟨P, p1, p2, p3⟩ := IE_P hE
  have hk := kdE_P p1
  have hC := IE_C hE
  have hVB := VT_B hV
  by_cases hb : bad x 0 ((tB T 9 1 : Int) - 1)
  · refine ⟨-1, ?_, fun S1 hM => ⟨S1, ?_, Fr.rf⟩⟩
    · unfold f_X9_giver; rw [bd_ok (E_isGiver_bad hV hE hb)]; rfl
    · unfold f_X10_giver; rw [bd_ok (M_isGiver_bad hV hM hb)]; rfl
  by_cases hb2 : bad y 0 3
  · refine ⟨-1, ?_, fun S1 hM => ⟨S1, ?_, Fr.rf⟩⟩
    · unfold f_X9_giver; rw [bd_ok (E_isGiver_ok hV hE hb), if_neg (by decide), bd_ok (within_bad hb2)]; rfl
    · unfold f_X10_giver; rw [bd_ok (M_isGiver_ok hV hM hb), if_neg (by decide), bd_ok (in_bad hb2)]; rfl
  obtain ⟨i, hi, hi8, rfl⟩ := giver_nat hV hb
  obtain ⟨n, hn, rfl⟩ := bad_in (m := 3) hb2
  have w := hVB.2.2.2 i hi
  have w2 := hVB.2.2.1 (tB T 7 i) w.1
  have hns : tB T 9 0 ≤ 6 := hVB.2.1.2.1
  have hL := VT_L hV
  have hE1 : ∀ k : Int32 → St → Option (Int32 × St), bd (f_X0_placeOf (0 + 25) (iI i) S) k = k (iI (plS (ordL (tB T) (tB T 0 2)) i)) S := fun k => bd_ok (E_place25 hV hE hi8)
  have hpl := plS_cases (ordL (tB T) (tB T 0 2)) i
  have hlen := (ord_bounds hV (tB T 0 2)).1
  obtain ⟨v, hv⟩ : ∃ v : Int32, v = (if n = 0 then iI (tB T 7 i) else if n = 1 then iI (tB T 1 (tB T 7 i)) else if plS (ordL (tB T) (tB T 0 2)) i = -4 then iI (-4) else if n = 2 then iI (dayL (tB T) (tB T 0 2) i) else iI (plS (ordL (tB T) (tB T 0 2)) i)) := ⟨_, rfl⟩
  have hat : ∀ p : Nat, p < (ordL (tB T) (tB T 0 2)).length → plS (ordL (tB T) (tB T 0 2)) i = p → atL (tB T) (tB T 0 2) p = i := by
    intro p hp h
    unfold plS at h
    by_cases hc : idxL (ordL (tB T) (tB T 0 2)) i < (ordL (tB T) (tB T 0 2)).length
    · rw [if_pos hc] at h
      have h' : idxL (ordL (tB T) (tB T 0 2)) i = p := by omega
      apply Classical.byContradiction
      intro hne
      have aux : ∀ {l : List Nat} {i : Nat}, idxL l i < l.length → l.getD (idxL l i) 0 = i := by
        intro l
        induction l with
        | nil => intro i h; exact absurd h (Nat.not_lt_zero _)
        | cons a t ih =>
          intro i h
          unfold idxL at h ⊢
          by_cases ha : a = i
          · rw [if_pos ha]; simpa using ha
          · rw [if_neg ha] at h ⊢
            simpa using ih (by simpa using h)
      have := aux hc
      rw [h'] at this
      exact hne this
    · rw [if_neg hc] at h; omega
  refine ⟨v, ?_, fun S1 hM => ?_⟩
  · unfold f_X9_giver
    rw [bd_ok (E_isGiver_ok hV hE hb), if_neg (by decide), bd_ok (within_ok hb2), if_neg (by decide), hE1]
    by_cases n0 : n = 0
    · rw [if_pos (by rw [show (0 : Int32) = iI 0 from rfl, iI_eq (by omega) (by omega)]; omega), p2, ck_pos hk, bd_ok (E_sortOf hVB p3 hi), hv, if_pos n0]
    rw [if_neg (by rw [show (0 : Int32) = iI 0 from rfl, iI_eq (by omega) (by omega)]; omega)]
    by_cases n1 : n = 1
    · rw [if_pos (by rw [show (1 : Int32) = iI 1 from rfl, iI_eq (by omega) (by omega)]; omega), p2, ck_pos hk, ck_pos hk, bd_ok (E_sortOf hVB p3 hi), ob_iI (by omega), iI_nat (by omega), show P + 1 + 1 = P + 2 from rfl, (p3.2.2.2.1 _ w.1).1, hv, if_neg n0, if_pos n1]
    rw [if_neg (by rw [show (1 : Int32) = iI 1 from rfl, iI_eq (by omega) (by omega)]; omega)]
    by_cases n2 : n = 2
    · rw [if_pos (by rw [show (2 : Int32) = iI 2 from rfl, iI_eq (by omega) (by omega)]; omega)]
      rcases hpl with hp | ⟨p, hp, hp2⟩
      · rw [hp, iI_n4, if_pos rfl, hv, if_neg n0, if_neg n1, if_pos hp]
      · rw [hp2, iI_n4, if_neg (by rw [iI_eq (by omega) (by omega)]; omega), ob_iI (by omega), iI_nat (by omega)]
        dsimp only [Nat.reduceAdd]
        rw [(hC.2 p hp).2.1, hat p hp hp2, hv, if_neg n0, if_neg n1, if_neg (by omega), if_pos n2]
    · rw [if_neg (by rw [show (2 : Int32) = iI 2 from rfl, iI_eq (by omega) (by omega)]; omega), hv, if_neg n0, if_neg n1]
      rcases hpl with hp | ⟨p, hp, hp2⟩
      · rw [hp, if_pos rfl]
      · rw [if_neg (by omega), if_neg n2]
  · obtain ⟨S2, S3, e1, e2, e3, e4, e5, e6⟩ := M_start hV hM
    refine ⟨S3, ?_, e6⟩
    have hB := e3.2.2.1
    unfold f_X10_giver
    rw [bd_ok (M_isGiver_ok hV hM hb), if_neg (by decide), bd_ok (in_ok hb2), if_neg (by decide), bd_ok e1, bd_ok e2]
    have hM1 : f_X10_placeOf 103 (iI i) S3 = some (iI (plS (ordL (tB T) (tB T 0 2)) i), S3) := M_placeT hV e5 hi8
    have hday := M_dayOf hVB hB e4.2.1 hi
    by_cases n2 : 2 ≤ n
    · rw [if_pos (by rw [show (2 : Int32) = iI 2 from rfl, iI_le (by omega) (by omega)]; omega), bd_ok hM1]
      rcases hpl with hp | ⟨p, hp, hp2⟩
      · rw [hp, iI_n4, if_pos rfl, hv, if_neg (by omega), if_neg (by omega), if_pos hp]
      · rw [hp2, iI_n4, if_neg (by rw [iI_eq (by omega) (by omega)]; omega)]
        by_cases n3 : n = 2
        · rw [if_pos (by rw [show (2 : Int32) = iI 2 from rfl, iI_eq (by omega) (by omega)]; omega), bd_ok hday, hv, if_neg (by omega), if_neg (by omega), if_neg (by omega), if_pos n3]
        · rw [if_neg (by rw [show (2 : Int32) = iI 2 from rfl, iI_eq (by omega) (by omega)]; omega), bd_ok hM1, hv, if_neg (by omega), if_neg (by omega), if_neg (by omega), if_neg n3]
    · rw [if_neg (by rw [show (2 : Int32) = iI 2 from rfl, iI_le (by omega) (by omega)]; omega)]
      dsimp only [Nat.reduceAdd]
      by_cases n0 : n = 0
      · rw [if_pos (by rw [show (0 : Int32) = iI 0 from rfl, iI_eq (by omega) (by omega)]; omega), ob_iI (by omega), iI_nat (by omega), (hB.2.2.2.2 i hi).1, hv, if_pos n0]
      · rw [if_neg (by rw [show (0 : Int32) = iI 0 from rfl, iI_eq (by omega) (by omega)]; omega), ob_iI (by omega), iI_nat (by omega), (hB.2.2.2.2 i hi).1, ob_iI (by omega), iI_nat (by omega), (hB.2.2.2.1 _ w.1).1, hv, if_neg n0, if_pos (by omega)]
