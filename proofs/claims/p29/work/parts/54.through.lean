theorem E_fillJ {c n : Nat} {v : Int64} (hn : lnT c = n) (h : n ≤ 1000) : ∀ (m N k : Nat) (S : St), k + m = n → m < N → (∀ j, j < k → S.2.1 c j = v) →
    ∃ S2 : St, f_J7_fill_d0a16_L6 N c v (iI k) (iI n) S = some ((), S2) ∧ (∀ j, j < n → S2.2.1 c j = v) ∧ Fr (fun a _ => a = c) S S2 := by
  intro m
  induction m with
  | zero =>
    intro N k S hk hN hj
    obtain ⟨N, rfl⟩ : ∃ k, N = k + 1 := ⟨N - 1, by omega⟩
    refine ⟨S, ?_, fun j h => hj j (by omega), Fr.rf⟩
    rw [f_J7_fill_d0a16_L6, if_pos (by rw [iI_le (by omega) (by omega)]; omega)]
  | succ m ih =>
    intro N k S hk hN hj
    obtain ⟨N, rfl⟩ : ∃ k, N = k + 1 := ⟨N - 1, by omega⟩
    obtain ⟨S2, e1, e2, e3⟩ := ih N (k + 1) (pJ S c k v) (by omega) (by omega) (fun j h => by
      rw [pJ_2]
      by_cases hc : j = k
      · rw [if_pos ⟨rfl, hc⟩]
      · rw [if_neg (fun z => hc z.2)]; exact hj j (by omega))
    have hw : ∀ q, (fun (a _ : Nat) => a = c) c q := fun _ => rfl
    refine ⟨S2, ?_, e2, (Fr.pJ (P := fun a _ => a = c) (hw k)).tr e3⟩
    rw [f_J7_fill_d0a16_L6, if_neg (by rw [iI_le (by omega) (by omega)]; omega), hn, ob_iI (by omega), iI_nat (by omega), sq_k, show iI k + (1 : Int32) = iI (k + 1 : Nat) from iI_add k 1]
    exact e1
theorem E_fillI {c n : Nat} {v : Int32} (hn : lnT c = n) (h : n ≤ 1000) : ∀ (m N k : Nat) (S : St), k + m = n → m < N → (∀ j, j < k → S.1 c j = v) →
    ∃ S2 : St, f_J7_fill_53178_L5 N c v (iI k) (iI n) S = some ((), S2) ∧ (∀ j, j < n → S2.1 c j = v) ∧ Fr (fun a _ => a = c) S S2 := by
  intro m
  induction m with
  | zero =>
    intro N k S hk hN hj
    obtain ⟨N, rfl⟩ : ∃ k, N = k + 1 := ⟨N - 1, by omega⟩
    refine ⟨S, ?_, fun j h => hj j (by omega), Fr.rf⟩
    rw [f_J7_fill_53178_L5, if_pos (by rw [iI_le (by omega) (by omega)]; omega)]
  | succ m ih =>
    intro N k S hk hN hj
    obtain ⟨N, rfl⟩ : ∃ k, N = k + 1 := ⟨N - 1, by omega⟩
    obtain ⟨S2, e1, e2, e3⟩ := ih N (k + 1) (pI S c k v) (by omega) (by omega) (fun j h => by
      rw [pI_1]
      by_cases hc : j = k
      · rw [if_pos ⟨rfl, hc⟩]
      · rw [if_neg (fun z => hc z.2)]; exact hj j (by omega))
    have hw : ∀ q, (fun (a _ : Nat) => a = c) c q := fun _ => rfl
    refine ⟨S2, ?_, e2, (Fr.pI (P := fun a _ => a = c) (hw k)).tr e3⟩
    rw [f_J7_fill_53178_L5, if_neg (by rw [iI_le (by omega) (by omega)]; omega), hn, ob_iI (by omega), iI_nat (by omega), sq_k, show iI k + (1 : Int32) = iI (k + 1 : Nat) from iI_add k 1]
    exact e1
theorem E_fillJ0 {c n : Nat} {v : Int64} {S : St} (hn : lnT c = n) (h : n ≤ 1000) : ∃ S2 : St, f_J7_fill_d0a16 c v S = some ((), S2) ∧ (∀ j, j < n → S2.2.1 c j = v) ∧ Fr (fun a _ => a = c) S S2 := by
  obtain ⟨S2, e1, e2, e3⟩ := E_fillJ (v := v) hn h n FU 0 S (by omega) (by unfold FU; omega) (fun j h => absurd h (Nat.not_lt_zero _))
  refine ⟨S2, ?_, e2, e3⟩
  unfold f_J7_fill_d0a16
  rw [hn, sq_k, iI_nI]
  exact e1
theorem E_fillI0 {c n : Nat} {v : Int32} {S : St} (hn : lnT c = n) (h : n ≤ 1000) : ∃ S2 : St, f_J7_fill_53178 c v S = some ((), S2) ∧ (∀ j, j < n → S2.1 c j = v) ∧ Fr (fun a _ => a = c) S S2 := by
  obtain ⟨S2, e1, e2, e3⟩ := E_fillI (v := v) hn h n FU 0 S (by omega) (by unfold FU; omega) (fun j h => absurd h (Nat.not_lt_zero _))
  refine ⟨S2, ?_, e2, e3⟩
  unfold f_J7_fill_53178
  rw [hn, sq_k, iI_nI]
  exact e1
def PCl (W a _ : Nat) : Prop := W ≤ a ∧ a ≤ W + 4
theorem E_wclear {S : St} {W : Nat} (hW : W = 73 ∨ W = 79) : ∃ S2 : St, f_X8_clear W S = some ((), S2) ∧ (∀ q, q < 5 → S2.2.1 W q = 0) ∧ (∀ p, p < 8 → S2.2.1 (W + 1) p = 0 ∧ S2.2.1 (W + 2) p = 0 ∧ S2.1 (W + 3) p = 0) ∧ S2.2.1 (W + 4) 0 = 1 ∧ Fr (PCl W) S S2 := by
  have l1 : lnT (W + 1) = 8 := by rcases hW with rfl | rfl <;> rfl
  have l2 : lnT (W + 2) = 8 := by rcases hW with rfl | rfl <;> rfl
  have l3 : lnT (W + 3) = 8 := by rcases hW with rfl | rfl <;> rfl
  obtain ⟨S0, hS0⟩ : ∃ S0, S0 = pJ (pJ (pJ (pJ (pJ S W 0 0) W 1 0) W 2 0) W 3 0) W 4 0 := ⟨_, rfl⟩
  have hw : ∀ q, PCl W W q := fun q => by unfold PCl; omega
  have f0 : Fr (PCl W) S S0 := by
    rw [hS0]
    exact ((((Fr.pJ (hw _)).tr (Fr.pJ (hw _))).tr (Fr.pJ (hw _))).tr (Fr.pJ (hw _))).tr (Fr.pJ (hw _))
  have z0 : ∀ q, q < 5 → S0.2.1 W q = 0 := fun q hq => by
    rw [hS0]
    rcases (show q = 0 ∨ q = 1 ∨ q = 2 ∨ q = 3 ∨ q = 4 by omega) with rfl | rfl | rfl | rfl | rfl <;> simp [pJ_2]
  obtain ⟨S1, a1, a2, a3⟩ := E_fillJ0 (v := 0) (S := S0) l1 (by omega)
  obtain ⟨S2, b1, b2, b3⟩ := E_fillJ0 (v := 0) (S := S1) l2 (by omega)
  obtain ⟨S3, c1, c2, c3⟩ := E_fillI0 (v := 0) (S := S2) l3 (by omega)
  refine ⟨pJ S3 (W + 4) 0 1, ?_, fun q hq => ?_, fun p hp => ⟨?_, ?_, ?_⟩, by rw [pJ_2, if_pos ⟨rfl, rfl⟩], ?_⟩
  · unfold f_X8_clear
    rw [sq_k, sq_k, sq_k, sq_k, sq_k, ← hS0, bd_ok a1, bd_ok b1, bd_ok c1, sq_k]
    rfl
  · rw [pJ_2, if_neg (by omega), c3.2.1 W q (by omega), b3.2.1 W q (by omega), a3.2.1 W q (by omega)]; exact z0 q hq
  · rw [pJ_2, if_neg (by omega), c3.2.1 (W + 1) p (by omega), b3.2.1 (W + 1) p (by omega)]; exact a2 p hp
  · rw [pJ_2, if_neg (by omega), c3.2.1 (W + 2) p (by omega)]; exact b2 p hp
  · rw [pJ_1]; exact c2 p hp
  · exact (((f0.tr (a3.wk (fun a k h => ⟨by omega, by omega⟩))).tr (b3.wk (fun a k h => ⟨by omega, by omega⟩))).tr (c3.wk (fun a k h => ⟨by omega, by omega⟩))).tr (Fr.pJ ⟨by omega, by omega⟩)
/-- all ways gone through -/
theorem E_through {S : St} {B : Bd} {L c P sh bar e R rq W : Nat} {rb : Int} (md : Bool) (hH : HW B L c P sh bar e R rq rb W) (hG : GA S B L c P sh bar e R rb) (hz : ZE S) :
    ∃ S2 : St, f_X8_goThrough W 47 (bI md) S = some ((), S2) ∧ (∀ q, q < 5 → S2.2.1 W q = lI (waysS B L (fA B L bar e sh rq R q))) ∧ (md = true → ∀ p, p < cntL B L → S2.2.1 (W + 1) p = lI (givesS B L bar e sh rq R p) ∧ S2.2.1 (W + 2) p = lI (hasS B L bar e sh rq R p)) ∧ GA S2 B L c P sh bar e R rb ∧ ZE S2 ∧ Fr (PWy W) S S2 := by
  have hn := cntL_le B L
  have hng : B 9 1 ≤ 8 := hH.1.2.1.2.2.2
  have hW := hH.2.2.2.2.2.2.2.2.2.2
  have hc := hH.2.2.1
  have hP := hH.2.2.2.1
  obtain ⟨S1, a1, a2, a3, a4, a5⟩ := E_wclear (S := S) hW
  have f1 : Fr (PWy W) S S1 := a5.wk (fun a k h => Or.inl h)
  have hZ : ∀ {S2 : St}, Fr (PWy W) S S2 → ZE S2 := fun {S2} h => by
    unfold ZE at hz ⊢
    rw [h.1 70 0 (by unfold PWy PPly; omega), h.1 71 0 (by unfold PWy PPly; omega), h.1 72 0 (by unfold PWy PPly; omega), h.1 78 0 (by unfold PWy PPly; omega), h.1 84 0 (by unfold PWy PPly; omega)]
    exact hz
  have hG1 := GA_fr hc hP hG f1 (PWy_68 hW)
  have hz5 : S1.1 (W + 5) 0 = 0 := by
    have := hZ f1
    rcases hW with rfl | rfl
    · exact this.2.2.2.1
    · exact this.2.2.2.2
  have hE1 : WE S1 B L c P sh bar e R rq rb W (fun _ => 0) 0 := by
    refine ⟨hG1, fun j hj => (a3 j (by omega)).2.2, fun q hq => ?_, GP_0 (hZ f1) _ _ _ _ _ _ _ _⟩
    have : q = 0 := by omega
    subst this
    exact ⟨a4, hz5⟩
  have hA1 : AE S1 (cntL B L) W (fun _ => 0) (fun _ => 0) (fun _ => 0) := ⟨a2, fun p hp => ⟨(a3 p (by omega)).1, (a3 p (by omega)).2.1⟩⟩
  have hNle : waysN (wayM B L) (cntL B L) 0 ≤ 6561 := by
    have h1 := waysN_le (wm := wayM B L) (m := cntL B L) (p := 0) (fun j _ h => by
      obtain ⟨f1, f2, f3, f4, f5, f6, f7, f8, f9, f10, f11⟩ := at_facts hH.1 hH.2.1 (show j < cntL B L by omega)
      exact f10)
    have h2 : 3 ^ cntL B L ≤ 3 ^ 8 := Nat.pow_le_pow_right (by omega) (by omega)
    have h3 : (3 : Nat) ^ 8 = 6561 := by decide
    omega
  obtain ⟨S2, q1, q2, q3, q4⟩ := E_sweep md hH (cntL B L) 0 (by omega) FU 0 0 S1 (fun _ => 0) _ _ _ (Nat.le_refl _) hE1 hA1 (fun _ _ => rfl) (fun j h => absurd h (Nat.not_lt_zero _)) (by unfold FU; omega) (by omega)
  have f2 := f1.tr q4
  refine ⟨S2, ?_, fun q hq => ?_, fun hmd p hp => ?_, q2.1, hZ f2, f2⟩
  · obtain ⟨F, hF⟩ : ∃ F, FU - cntL B L = F + 1 := ⟨FU - cntL B L - 1, by unfold FU; omega⟩
    obtain ⟨F2, hF2⟩ : ∃ F2, FU - waysN (wayM B L) (cntL B L) 0 = F2 + 1 := ⟨FU - waysN (wayM B L) (cntL B L) 0 - 1, by unfold FU; omega⟩
    unfold f_X8_goThrough f_X1_whoCome
    rw [bd_ok a1, hG1.1.2.1, ck_pos (kdE_c hc), bd_ok rfl, ck_pos (kdE_c hc), show (0 : Int32) = iI (0 : Nat) from rfl, q1, hF, hF2, f_X8_nextWay_L7, if_pos (by rw [show (0 : Int32) = iI 0 from rfl, iI_lt (by omega) (by omega)]; omega), bd_ok rfl, f_X8_goThrough_L15]
    by_cases h6 : (6561 : Int32) ≤ iI (0 + waysN (wayM B L) (cntL B L) 0 : Nat)
    · rw [if_pos h6]
    · rw [if_neg h6, if_pos (by decide)]
  · exact (q3.1 q hq).trans (congrArg lI (Int.zero_add _))
  · subst hmd
    refine ⟨(q3.2 p hp).1.trans (congrArg lI ((Int.zero_add _).trans ?_)), (q3.2 p hp).2.trans (congrArg lI ((Int.zero_add _).trans ?_))⟩
    · rfl
    · rfl
