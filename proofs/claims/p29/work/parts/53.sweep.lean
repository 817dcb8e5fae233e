theorem ppn_wy {W : Nat} (a k : Nat) (h : PPn W a k) : PWy W a k := by
  rcases h with h | h | h
  · exact Or.inl ⟨by omega, by omega⟩
  · exact Or.inr (Or.inl h)
  · exact Or.inr (Or.inr h)
theorem add_wy {W : Nat} (a k : Nat) (h : PAdd W a k) : PWy W a k := by unfold PAdd at h; unfold PWy; omega
theorem mn_wy {W : Nat} (a k : Nat) (h : PMn W a k) : PWy W a k := by unfold PMn at h; unfold PWy; omega
theorem bI_0 {b : Bool} (h : b = false) : bI b = 0 := by rw [h]; rfl
theorem E_leaf {S : St} {B : Bd} {L c P sh bar e R rq W : Nat} {rb : Int} {v : Nat → Nat} {A G H : Nat → Int} (md : Bool) (hH : HW B L c P sh bar e R rq rb W) (hE : WE S B L c P sh bar e R rq rb W v (cntL B L)) (hv : ∀ j, j < cntL B L → v j < wayM B L j) (hA : AE S (cntL B L) W A G H) (l5 : Int32) (kb : Nat → Int32 → Int32 → St → Option (Unit × St)) :
    ∃ S2 : St, leafE W c (bI md) kb l5 (iI (cntL B L)) S = f_X8_goThrough_J142 W 47 (bI md) kb c l5 S2 ∧ WE S2 B L c P sh bar e R rq rb W v (cntL B L) ∧ AE S2 (cntL B L) W (fun q => A q + fA B L bar e sh rq R q v) (fun p => G p + fG B L bar e sh rq R md p v) (fun p => H p + fH B L bar e sh rq R md p v) ∧ Fr (PWy W) S S2 := by
  obtain ⟨a1, a2⟩ := hA
  obtain ⟨S1, e1, e2, e3, e4⟩ := E_add hH hE hv a1
  have hE1 : WE S1 B L c P sh bar e R rq rb W v (cntL B L) := by
    obtain ⟨w1, w2, w3, w4⟩ := hE
    refine ⟨GA_fr hH.2.2.1 hH.2.2.2.1 w1 e3 (fun a k q => by unfold PAdd at q; rcases hH.2.2.2.2.2.2.2.2.2.2 with z | z <;> omega), by rw [e4]; exact w2, fun q hq => ?_, GP_row w4 (fun a _ _ => by rw [e4])⟩
    rw [e4, e3.2.1 (W + 4) q (by unfold PAdd; omega)]; exact w3 q hq
  have a2' : ∀ p, p < cntL B L → S1.2.1 (W + 1) p = lI (G p) ∧ S1.2.1 (W + 2) p = lI (H p) := fun p hp => by
    rw [e3.2.1 (W + 1) p (by unfold PAdd; omega), e3.2.1 (W + 2) p (by unfold PAdd; omega)]; exact a2 p hp
  unfold leafE
  rw [bd_ok e1]
  cases md
  · rw [if_pos (show bI false = 0 from rfl)]
    refine ⟨S1, rfl, hE1, ⟨e2, fun p hp => ?_⟩, e3.wk add_wy⟩
    exact ⟨(a2' p hp).1.trans (congrArg lI (Int.add_zero _).symm), (a2' p hp).2.trans (congrArg lI (Int.add_zero _).symm)⟩
  · rw [if_neg (show ¬ bI true = 0 by decide)]
    have hn := cntL_le B L
    have hng : B 9 1 ≤ 8 := hH.1.2.1.2.2.2
    obtain ⟨S2, q1, q2, q3, q4⟩ := E_means (G := G) (H := H) hH hv (cntL B L) FU 0 S1 (by omega) (by unfold FU; omega) hE1 (fun q hq => by rw [if_neg (Nat.not_lt_zero _), if_neg (Nat.not_lt_zero _), Int.add_zero, Int.add_zero]; exact a2' q hq)
    refine ⟨S2, ?_, ?_, ⟨fun q hq => ?_, q2⟩, (e3.wk add_wy).tr (q3.wk mn_wy)⟩
    · unfold f_X8_addMeans
      have q1' : f_X8_addMeans_L2 FU W 47 c 0 S1 = some ((), S2) := q1
      rw [bd_ok q1']
    · obtain ⟨w1, w2, w3, w4⟩ := hE1
      refine ⟨GA_fr hH.2.2.1 hH.2.2.2.1 w1 q3 (fun a k q => by unfold PMn at q; rcases hH.2.2.2.2.2.2.2.2.2.2 with z | z <;> omega), by rw [q4]; exact w2, fun q hq => ?_, GP_row w4 (fun a _ _ => by rw [q4])⟩
      rw [q4, q3.2.1 (W + 4) q (by unfold PMn; omega)]; exact w3 q hq
    · rw [q3.2.1 W q (by unfold PMn; omega)]; exact e2 q hq
theorem E_way {S : St} {B : Bd} {L c P sh bar e R rq W : Nat} {rb : Int} {v : Nat → Nat} {A G H : Nat → Int} (md : Bool) (hH : HW B L c P sh bar e R rq rb W) {l l5 N : Nat} (hl : l ≤ cntL B L) (hE : WE S B L c P sh bar e R rq rb W v l) (hv : ∀ j, j < cntL B L → v j < wayM B L j) (hA : AE S (cntL B L) W A G H) (h5 : l5 + 1 ≤ 6561) :
    ∃ S2 : St, f_X8_goThrough_L15 (N + 1) W 47 (bI md) c (iI l) (iI l5) S = bd (f_X8_nextWay_L7 FU W c (iI ((cntL B L : Int) - 1)) S2) (fun x S3 => f_X8_goThrough_L15 N W 47 (bI md) c x (iI (l5 + 1 : Nat)) S3) ∧ WE S2 B L c P sh bar e R rq rb W v (cntL B L) ∧ AE S2 (cntL B L) W (fun q => A q + fA B L bar e sh rq R q v) (fun p => G p + fG B L bar e sh rq R md p v) (fun p => H p + fH B L bar e sh rq R md p v) ∧ Fr (PWy W) S S2 := by
  have hn := cntL_le B L
  have hng : B 9 1 ≤ 8 := hH.1.2.1.2.2.2
  obtain ⟨S1, e1, e2, e3⟩ := E_playOn hH hv (bI md) (iI l5) (fun l3 l4 l5 S => f_X8_goThrough_L15 N W 47 (bI md) l3 l4 l5 S) (cntL B L - l) FU l S (by omega) (by unfold FU; omega) hE
  have hA1 : AE S1 (cntL B L) W A G H := by
    refine ⟨fun q hq => ?_, fun p hp => ?_⟩
    · rw [e3.2.1 W q (by unfold PPn PPly; rcases hH.2.2.2.2.2.2.2.2.2.2 with z | z <;> omega)]; exact hA.1 q hq
    · rw [e3.2.1 (W + 1) p (by unfold PPn PPly; rcases hH.2.2.2.2.2.2.2.2.2.2 with z | z <;> omega), e3.2.1 (W + 2) p (by unfold PPn PPly; rcases hH.2.2.2.2.2.2.2.2.2.2 with z | z <;> omega)]; exact hA.2 p hp
  obtain ⟨S2, q1, q2, q3, q4⟩ := E_leaf md hH e2 hv hA1 (iI l5) (fun l3 l4 l5 S => f_X8_goThrough_L15 N W 47 (bI md) l3 l4 l5 S)
  refine ⟨S2, ?_, q2, q3, (e3.wk ppn_wy).tr q4⟩
  rw [f_X8_goThrough_L15, if_neg (by rw [show (6561 : Int32) = iI 6561 from rfl, iI_le (by omega) (by omega)]; omega), if_neg (by rw [show (0 : Int32) = iI 0 from rfl, iI_lt (by omega) (by omega)]; omega), e1, q1]
  unfold f_X8_goThrough_J142 f_X8_nextWay
  rw [sq_k, q2.1.2.2.1, show iI (cntL B L) - (1 : Int32) = iI ((cntL B L : Int) - 1) from iI_sub _ 1, show iI l5 + (1 : Int32) = iI (l5 + 1 : Nat) from iI_add l5 1]
theorem sumFr_1 (f : Nat → Int) (k : Nat) : sumFr f k 1 = f k := Int.add_zero _
theorem ov_zero {v : Nat → Nat} {p : Nat} (h : v p = 0) : ovV v p 0 = v := by
  funext j; unfold ovV
  by_cases hj : j = p
  · rw [if_pos hj, hj, h]
  · rw [if_neg hj]
theorem E_sweep {B : Bd} {L c P sh bar e R rq W : Nat} {rb : Int} (md : Bool) (hH : HW B L c P sh bar e R rq rb W) : ∀ (m p : Nat), p + m = cntL B L → ∀ (N l l5 : Nat) (S : St) (v : Nat → Nat) (A G H : Nat → Int), l ≤ p → WE S B L c P sh bar e R rq rb W v l → AE S (cntL B L) W A G H → (∀ j, p ≤ j → v j = 0) → (∀ j, j < p → v j < wayM B L j) → waysN (wayM B L) m p ≤ N → l5 + waysN (wayM B L) m p ≤ 6561 →
    ∃ S2 : St, f_X8_goThrough_L15 N W 47 (bI md) c (iI l) (iI l5) S = bd (f_X8_nextWay_L7 (FU - m) W c (iI ((p : Int) - 1)) S2) (fun x S3 => f_X8_goThrough_L15 (N - waysN (wayM B L) m p) W 47 (bI md) c x (iI (l5 + waysN (wayM B L) m p : Nat)) S3) ∧ WE S2 B L c P sh bar e R rq rb W v p ∧ AE S2 (cntL B L) W (fun q => A q + sumV (wayM B L) (fA B L bar e sh rq R q) m p v) (fun q => G q + sumV (wayM B L) (fG B L bar e sh rq R md q) m p v) (fun q => H q + sumV (wayM B L) (fH B L bar e sh rq R md q) m p v) ∧ Fr (PWy W) S S2 := by
  have hn := cntL_le B L
  have hng : B 9 1 ≤ 8 := hH.1.2.1.2.2.2
  intro m
  induction m with
  | zero =>
    intro p hp N l l5 S v A G H hl hE hA hz hv hN h5
    obtain ⟨N, rfl⟩ : ∃ k, N = k + 1 := ⟨N - 1, by unfold waysN at hN; omega⟩
    have : p = cntL B L := by omega
    subst this
    have h5' : l5 + 1 ≤ 6561 := h5
    obtain ⟨S2, e1, e2, e3, e4⟩ := E_way (N := N) md hH hl hE hv hA h5'
    exact ⟨S2, e1, e2, e3, e4⟩
  | succ m ih =>
    intro p hp
    have hpc : p < cntL B L := by omega
    have hM : 1 ≤ wayM B L p ∧ wayM B L p ≤ 3 := by
      obtain ⟨f1, f2, f3, f4, f5, f6, f7, f8, f9, f10, f11⟩ := at_facts hH.1 hH.2.1 hpc
      exact ⟨f9, f10⟩
    -- from the choice k at p on
    have inner : ∀ (r k : Nat), k + (r + 1) = wayM B L p → ∀ (N l l5 : Nat) (S : St) (v : Nat → Nat) (A G H : Nat → Int), l ≤ p → WE S B L c P sh bar e R rq rb W (ovV v p k) l → AE S (cntL B L) W A G H → (∀ j, p ≤ j → v j = 0) → (∀ j, j < p → v j < wayM B L j) → (r + 1) * waysN (wayM B L) m (p + 1) ≤ N → l5 + (r + 1) * waysN (wayM B L) m (p + 1) ≤ 6561 →
        ∃ S2 : St, f_X8_goThrough_L15 N W 47 (bI md) c (iI l) (iI l5) S = bd (f_X8_nextWay_L7 (FU - (m + 1)) W c (iI ((p : Int) - 1)) S2) (fun x S3 => f_X8_goThrough_L15 (N - (r + 1) * waysN (wayM B L) m (p + 1)) W 47 (bI md) c x (iI (l5 + (r + 1) * waysN (wayM B L) m (p + 1) : Nat)) S3) ∧ WE S2 B L c P sh bar e R rq rb W v p ∧ AE S2 (cntL B L) W (fun q => A q + sumFr (fun k => sumV (wayM B L) (fA B L bar e sh rq R q) m (p + 1) (ovV v p k)) k (r + 1)) (fun q => G q + sumFr (fun k => sumV (wayM B L) (fG B L bar e sh rq R md q) m (p + 1) (ovV v p k)) k (r + 1)) (fun q => H q + sumFr (fun k => sumV (wayM B L) (fH B L bar e sh rq R md q) m (p + 1) (ovV v p k)) k (r + 1)) ∧ Fr (PWy W) S S2 := by
      intro r
      induction r with
      | zero =>
        intro k hk N l l5 S v A G H hl hE hA hz hv hN h5
        rw [Nat.zero_add, Nat.one_mul] at hN h5 ⊢
        simp only [sumFr_1]
        obtain ⟨S1, e1, e2, e3, e4⟩ := ih (p + 1) (by omega) N l l5 S (ovV v p k) A G H (by omega) hE hA (fun j hj => by unfold ovV; rw [if_neg (by omega)]; exact hz j (by omega)) (fun j hj => by
          unfold ovV
          by_cases hc : j = p
          · rw [if_pos hc, hc]; omega
          · rw [if_neg hc]; exact hv j (by omega)) hN h5
        have hd : S1.1 (W + 3) p = iI k := by rw [e2.2.1 p hpc]; unfold ovV; rw [if_pos rfl]
        have hc7 : S1.1 (c + 7) p = iI (wayM B L p) := (e2.1.2.2.2 p hpc).2.2.2.2.2.2.1
        have hcW : c + 7 ≠ W + 3 := by rcases hH.2.2.1 with rfl | rfl <;> rcases hH.2.2.2.2.2.2.2.2.2.2 with rfl | rfl <;> omega
        have hdig : (pI S1 (W + 3) p (iI (k + 1 : Nat))).1 (W + 3) p = iI (k + 1 : Nat) := by rw [pI_1, if_pos ⟨rfl, rfl⟩]
        obtain ⟨F, hF1, hF2⟩ : ∃ F, FU - m = F + 1 ∧ FU - (m + 1) = F := ⟨FU - (m + 1), by unfold FU; omega, rfl⟩
        obtain ⟨S9, hS9⟩ : ∃ S9, S9 = pI (pI S1 (W + 3) p (iI (k + 1 : Nat))) (W + 3) p 0 := ⟨_, rfl⟩
        have f9 : Fr (fun a _ => a = W + 3) S1 S9 := by
          have hw : ∀ q, (fun (a _ : Nat) => a = W + 3) (W + 3) q := fun _ => rfl
          rw [hS9]
          exact (Fr.pI (P := fun a _ => a = W + 3) (hw p)).tr (Fr.pI (P := fun a _ => a = W + 3) (hw p))
        refine ⟨S9, ?_, ?_, ⟨fun q hq => ?_, fun q hq => ?_⟩, e4.tr (f9.wk (fun a k h => Or.inl ⟨by omega, by omega⟩))⟩
        · rw [e1, hF1, hF2, show (((p + 1 : Nat) : Int) - 1) = (p : Int) by omega, f_X8_nextWay_L7, if_neg (by rw [show (0 : Int32) = iI 0 from rfl, iI_lt (by omega) (by omega)]; omega), ob_iI (by omega), ob_iI (by omega), iI_nat (by omega), hd, show iI k + (1 : Int32) = iI (k + 1 : Nat) from iI_add k 1, sq_k, ob_iI (by omega), ob_iI (by omega), pI_row hcW, hc7, hdig, if_pos (by rw [iI_le (by omega) (by omega)]; omega), ob_iI (by omega), sq_k, ← hS9, iI_n1, iI_add, show ((p : Int) + -1) = (p : Int) - 1 by omega]
        · refine WE_dig (p := p) hH.2.2.2.2.2.2.2.2.2.2 hH.2.2.1 hH.2.2.2.1 e2 (by omega) (fun j hj => by unfold ovV; rw [if_neg (by omega)]) S9 f9 (fun j hj => ?_)
          rw [hS9, pI_1, pI_1]
          by_cases hc : j = p
          · rw [if_pos ⟨rfl, hc⟩, hc, hz p (Nat.le_refl _)]; rfl
          · rw [if_neg (fun z => hc z.2), if_neg (fun z => hc z.2), e2.2.1 j hj]; unfold ovV; rw [if_neg hc]
        · rw [f9.2.1 W q (by omega)]; exact e3.1 q hq
        · rw [f9.2.1 (W + 1) q (by omega), f9.2.1 (W + 2) q (by omega)]; exact e3.2 q hq
      | succ r ihr =>
        intro k hk N l l5 S v A G H hl hE hA hz hv hN h5
        rw [Nat.succ_mul] at hN h5 ⊢
        obtain ⟨S1, e1, e2, e3, e4⟩ := ih (p + 1) (by omega) N l l5 S (ovV v p k) A G H (by omega) hE hA (fun j hj => by unfold ovV; rw [if_neg (by omega)]; exact hz j (by omega)) (fun j hj => by
          unfold ovV
          by_cases hc : j = p
          · rw [if_pos hc, hc]; omega
          · rw [if_neg hc]; exact hv j (by omega)) (by omega) (by omega)
        have hd : S1.1 (W + 3) p = iI k := by rw [e2.2.1 p hpc]; unfold ovV; rw [if_pos rfl]
        have hc7 : S1.1 (c + 7) p = iI (wayM B L p) := (e2.1.2.2.2 p hpc).2.2.2.2.2.2.1
        have hcW : c + 7 ≠ W + 3 := by rcases hH.2.2.1 with rfl | rfl <;> rcases hH.2.2.2.2.2.2.2.2.2.2 with rfl | rfl <;> omega
        have hdig : (pI S1 (W + 3) p (iI (k + 1 : Nat))).1 (W + 3) p = iI (k + 1 : Nat) := by rw [pI_1, if_pos ⟨rfl, rfl⟩]
        obtain ⟨F, hF1, hF2⟩ : ∃ F, FU - m = F + 1 ∧ FU - (m + 1) = F := ⟨FU - (m + 1), by unfold FU; omega, rfl⟩
        obtain ⟨S4, hS4⟩ : ∃ S4, S4 = pI S1 (W + 3) p (iI (k + 1 : Nat)) := ⟨_, rfl⟩
        have f4 : Fr (fun a _ => a = W + 3) S1 S4 := by
          have hw : ∀ q, (fun (a _ : Nat) => a = W + 3) (W + 3) q := fun _ => rfl
          rw [hS4]
          exact Fr.pI (P := fun a _ => a = W + 3) (hw p)
        have hE4 : WE S4 B L c P sh bar e R rq rb W (ovV v p (k + 1)) p := by
          refine WE_dig (p := p) hH.2.2.2.2.2.2.2.2.2.2 hH.2.2.1 hH.2.2.2.1 e2 (by omega) (fun j hj => by unfold ovV; rw [if_neg (by omega), if_neg (by omega)]) S4 f4 (fun j hj => ?_)
          rw [hS4, pI_1]
          by_cases hc : j = p
          · rw [if_pos ⟨rfl, hc⟩]; unfold ovV; rw [if_pos hc]
          · rw [if_neg (fun z => hc z.2), e2.2.1 j hj]; unfold ovV; rw [if_neg hc, if_neg hc]
        have hA4 : AE S4 (cntL B L) W (fun q => A q + sumV (wayM B L) (fA B L bar e sh rq R q) m (p + 1) (ovV v p k)) (fun q => G q + sumV (wayM B L) (fG B L bar e sh rq R md q) m (p + 1) (ovV v p k)) (fun q => H q + sumV (wayM B L) (fH B L bar e sh rq R md q) m (p + 1) (ovV v p k)) := by
          refine ⟨fun q hq => ?_, fun q hq => ?_⟩
          · rw [f4.2.1 W q (by omega)]; exact e3.1 q hq
          · rw [f4.2.1 (W + 1) q (by omega), f4.2.1 (W + 2) q (by omega)]; exact e3.2 q hq
        obtain ⟨S2, q1, q2, q3, q4⟩ := ihr (k + 1) (by omega) (N - waysN (wayM B L) m (p + 1)) p (l5 + waysN (wayM B L) m (p + 1)) S4 v _ _ _ (Nat.le_refl _) hE4 hA4 hz hv (by omega) (by omega)
        refine ⟨S2, ?_, q2, ⟨fun q hq => ?_, fun q hq => ?_⟩, (e4.tr (f4.wk (fun a k h => Or.inl ⟨by omega, by omega⟩))).tr q4⟩
        · rw [e1, hF1, show (((p + 1 : Nat) : Int) - 1) = (p : Int) by omega, f_X8_nextWay_L7, if_neg (by rw [show (0 : Int32) = iI 0 from rfl, iI_lt (by omega) (by omega)]; omega), ob_iI (by omega), ob_iI (by omega), iI_nat (by omega), hd, show iI k + (1 : Int32) = iI (k + 1 : Nat) from iI_add k 1, sq_k, ob_iI (by omega), ob_iI (by omega), pI_row hcW, hc7, hdig, if_neg (by rw [iI_le (by omega) (by omega)]; omega), bd_ok rfl, ← hS4, q1]
          rw [show N - waysN (wayM B L) m (p + 1) - (r + 1) * waysN (wayM B L) m (p + 1) = N - ((r + 1) * waysN (wayM B L) m (p + 1) + waysN (wayM B L) m (p + 1)) by omega, show l5 + waysN (wayM B L) m (p + 1) + (r + 1) * waysN (wayM B L) m (p + 1) = l5 + ((r + 1) * waysN (wayM B L) m (p + 1) + waysN (wayM B L) m (p + 1)) by omega]
        · exact (q3.1 q hq).trans (congrArg lI (Int.add_assoc _ _ _))
        · exact ⟨(q3.2 q hq).1.trans (congrArg lI (Int.add_assoc _ _ _)), (q3.2 q hq).2.trans (congrArg lI (Int.add_assoc _ _ _))⟩
    intro N l l5 S v A G H hl hE hA hz hv hN h5
    have hov := ov_zero (hz p (Nat.le_refl _))
    have hW1 : waysN (wayM B L) (m + 1) p = (wayM B L p - 1 + 1) * waysN (wayM B L) m (p + 1) := by
      rw [Nat.sub_add_cancel hM.1]; rfl
    rw [hW1] at hN h5 ⊢
    obtain ⟨S2, q1, q2, q3, q4⟩ := inner (wayM B L p - 1) 0 (by omega) N l l5 S v A G H hl (by rw [hov]; exact hE) hA hz hv hN h5
    refine ⟨S2, q1, q2, ?_, q4⟩
    rw [Nat.sub_add_cancel hM.1] at q3
    simp only [sumFr_0] at q3
    exact q3
