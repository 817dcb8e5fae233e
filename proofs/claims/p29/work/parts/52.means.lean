theorem GA_row {S S2 : St} {B : Bd} {L c P sh bar e R : Nat} {rb : Int} (h : GA S B L c P sh bar e R rb) (h1 : S2.1 = S.1) (h2 : S2.2.2 = S.2.2) : GA S2 B L c P sh bar e R rb := by
  obtain ⟨a, b, d⟩ := h
  exact ⟨GE_row a (by rw [h1]) (fun k => by rw [h2]), BE_row b (fun j _ => by rw [h1]), CE_row d (fun j _ => by rw [h1])⟩
def PMn (W a k : Nat) : Prop := a = W + 1 ∨ a = W + 2
theorem E_means {B : Bd} {L c P sh bar e R rq W : Nat} {rb : Int} {v : Nat → Nat} {G H : Nat → Int} (hH : HW B L c P sh bar e R rq rb W) (hv : ∀ j, j < cntL B L → v j < wayM B L j) : ∀ (m N p : Nat) (S : St), p + m = cntL B L → m < N → WE S B L c P sh bar e R rq rb W v (cntL B L) →
    (∀ q, q < cntL B L → S.2.1 (W + 1) q = lI (G q + if q < p then fG B L bar e sh rq R true q v else 0) ∧ S.2.1 (W + 2) q = lI (H q + if q < p then fH B L bar e sh rq R true q v else 0)) →
    ∃ S2 : St, f_X8_addMeans_L2 N W 47 c (iI p) S = some ((), S2) ∧ (∀ q, q < cntL B L → S2.2.1 (W + 1) q = lI (G q + fG B L bar e sh rq R true q v) ∧ S2.2.1 (W + 2) q = lI (H q + fH B L bar e sh rq R true q v)) ∧ Fr (PMn W) S S2 ∧ S2.1 = S.1 := by
  intro m
  obtain ⟨hV, hL, hc, hP, hsh, hbar, he, hR, hrb, hrq, hW⟩ := hH
  have hn := cntL_le B L
  have hng : B 9 1 ≤ 8 := hV.2.1.2.2.2
  induction m with
  | zero =>
    intro N p S hp hN hE hs
    obtain ⟨N, rfl⟩ : ∃ k, N = k + 1 := ⟨N - 1, by omega⟩
    refine ⟨S, ?_, fun q hq => ?_, Fr.rf, rfl⟩
    · rw [f_X8_addMeans_L2, hE.1.2.2.1, if_pos (by rw [iI_le (by omega) (by omega)]; omega)]
    · have := hs q hq
      rw [if_pos (by omega), if_pos (by omega)] at this; exact this
  | succ m ih =>
    intro N p S hp hN hE hs
    obtain ⟨N, rfl⟩ : ∃ k, N = k + 1 := ⟨N - 1, by omega⟩
    have hpc : p < cntL B L := by omega
    obtain ⟨w1, w2, w3, w4, w5⟩ := way_facts hV hL hpc (hv p hpc)
    obtain ⟨f1, f2, f3, f4, f5, f6, f7, f8, f9, f10, f11⟩ := at_facts hV hL hpc
    have hgl : giftP B L bar e sh rq R (wayW B L v) p ≤ B 2 (soL B L p) := gift_le B e _ _ _ _ _
    have hE' := hE
    obtain ⟨hG, hd, hpr, hGP⟩ := hE'
    have hx8 : S.1 (c + 8) (3 * p + v p) = iI (wayW B L v p) := ((hG.2.2.2 p hpc).2.2.2.2.2.2.2 (v p) (hv p hpc)).1
    have s1 := (hpr (cntL B L) (Nat.le_refl _)).1
    have hbd := hasP_bd (rq := rq) (bar := bar) (sh := sh) (w := wayW B L v) hV hL hR he hpc (by omega)
    have s1' : S.2.1 (W + 4) (cntL B L) = lI (wayP B L v) := s1
    have hsp := hs p hpc
    rw [if_neg (Nat.lt_irrefl p), if_neg (Nat.lt_irrefl p), Int.add_zero, Int.add_zero] at hsp
    obtain ⟨S9, hS9⟩ : ∃ S9, S9 = pJ S (W + 1) p (lI (G p + wayP B L v * giftP B L bar e sh rq R (wayW B L v) p)) := ⟨_, rfl⟩
    obtain ⟨S16, hS16⟩ : ∃ S16, S16 = pJ S9 (W + 2) p (lI (H p + wayP B L v * hasP B L bar e sh rq R (wayW B L v) p)) := ⟨_, rfl⟩
    have r9 : S9.1 = S.1 := by rw [hS9]; rfl
    have r9' : S9.2.2 = S.2.2 := by rw [hS9]; rfl
    have r16 : S16.1 = S.1 := by rw [hS16]; exact r9
    have r16' : S16.2.2 = S.2.2 := by rw [hS16]; exact r9'
    have l16 : ∀ a k, S16.2.1 a k = if a = W + 2 ∧ k = p then lI (H p + wayP B L v * hasP B L bar e sh rq R (wayW B L v) p) else if a = W + 1 ∧ k = p then lI (G p + wayP B L v * giftP B L bar e sh rq R (wayW B L v) p) else S.2.1 a k := fun a k => by
      rw [hS16, pJ_2, hS9, pJ_2]
    have hE16 : WE S16 B L c P sh bar e R rq rb W v (cntL B L) := by
      refine ⟨GA_row hG r16 r16', by rw [r16]; exact hd, fun q hq => ?_, GP_row hGP (fun a _ _ => by rw [r16])⟩
      rw [r16, l16, if_neg (by omega), if_neg (by omega)]; exact hpr q hq
    obtain ⟨S2, e1, e2, e3, e4⟩ := ih N (p + 1) S16 (by omega) (by omega) hE16 (fun q hq => by
      by_cases hc : q = p
      · subst hc
        have a1 : S16.2.1 (W + 1) q = lI (G q + fG B L bar e sh rq R true q v) := by rw [l16, if_neg (by omega), if_pos ⟨rfl, rfl⟩]; rfl
        have a2 : S16.2.1 (W + 2) q = lI (H q + fH B L bar e sh rq R true q v) := by rw [l16, if_pos ⟨rfl, rfl⟩]; rfl
        rw [a1, a2, if_pos (show q < q + 1 by omega), if_pos (show q < q + 1 by omega)]
        exact ⟨rfl, rfl⟩
      · have a1 : S16.2.1 (W + 1) q = S.2.1 (W + 1) q := by rw [l16, if_neg (by omega), if_neg (by omega)]
        have a2 : S16.2.1 (W + 2) q = S.2.1 (W + 2) q := by rw [l16, if_neg (by omega), if_neg (by omega)]
        rw [a1, a2]
        have := hs q hq
        by_cases h : q < p
        · rw [if_pos h, if_pos h] at this
          rw [if_pos (show q < p + 1 by omega), if_pos (show q < p + 1 by omega)]; exact this
        · rw [if_neg h, if_neg h] at this
          rw [if_neg (show ¬ q < p + 1 by omega), if_neg (show ¬ q < p + 1 by omega)]; exact this)
    refine ⟨S2, ?_, e2, Fr.tr ?_ e3, e4.trans r16⟩
    · rw [f_X8_addMeans_L2, hG.2.2.1, if_neg (by rw [iI_le (by omega) (by omega)]; omega), ob_iI (by omega), iI_nat (by omega), hd p hpc, show (iI p * (3 : Int32)) + iI (v p) = iI (3 * p + v p : Nat) by rw [show (3 : Int32) = iI 3 from rfl, iI_mul, iI_add]; congr 1; omega, ob_iI (by omega), iI_nat (by omega), hx8, sq_k, ob_iI (by omega), ob_iI (by omega), ob_iI (by omega), ob_iI (by omega), iI_nat (by omega), hsp.1, s1']
      rw [show S.1 (47 + 22) p = iI (giftP B L bar e sh rq R (wayW B L v) p) from hGP.2 p hpc, iI_l (by omega), lI_mul, lI_add, ← hS9, sq_k, ob_iI (by omega), r9, hG.2.2.1, ob_iI (by omega), iI_nat (by omega)]
      rw [bd_ok (hasP_E hV hL hc hP (GA_row hG r9 r9') hbar he hR hpc (by omega) (GP_row hGP (fun a _ _ => by rw [r9]))), ob_iI (by omega)]
      have q1 : S9.2.1 (W + 2) p = lI (H p) := by rw [hS9, pJ_2, if_neg (by omega)]; exact hsp.2
      have q2 : S9.2.1 (W + 4) (cntL B L) = lI (wayP B L v) := by rw [hS9, pJ_2, if_neg (by omega)]; exact s1'
      rw [q1, q2, iI_l (by omega), lI_mul, lI_add, ← hS16, sq_k, show iI p + (1 : Int32) = iI (p + 1 : Nat) from iI_add p 1]
      exact e1
    · refine ⟨fun a k _ => by rw [r16], fun a k h => ?_, fun a k _ => by rw [r16']⟩
      unfold PMn at h
      rw [l16, if_neg (by omega), if_neg (by omega)]
/-- what comes behind the last place of a way -/
def leafE (W c : Nat) (a2 : Int32) (kb : Nat → Int32 → Int32 → St → Option (Unit × St)) (l5 n : Int32) (S : St) : Option (Unit × St) := bd (f_X8_add W 47 n S) fun _ S5 => if a2 = 0 then f_X8_goThrough_J142 W 47 a2 kb c l5 S5 else bd (f_X8_addMeans W 47 c S5) fun _ S9 => f_X8_goThrough_J142 W 47 a2 kb c l5 S9
def PPn (W a k : Nat) : Prop := (a = W + 4) ∨ (a = W + 5 ∧ k ≠ 0) ∨ PPly a k
theorem PPn_68 {W : Nat} (hW : W = 73 ∨ W = 79) (a k : Nat) (h : PPn W a k) : 68 ≤ a := by unfold PPn PPly at h; omega
theorem E_playOn {B : Bd} {L c P sh bar e R rq W : Nat} {rb : Int} {v : Nat → Nat} (hH : HW B L c P sh bar e R rq rb W) (hv : ∀ j, j < cntL B L → v j < wayM B L j) (a2 l5 : Int32) (kb : Nat → Int32 → Int32 → St → Option (Unit × St)) : ∀ (m N l : Nat) (S : St), l + m = cntL B L → m < N → WE S B L c P sh bar e R rq rb W v l →
    ∃ S2 : St, f_X8_goThrough_L32 N W 47 a2 kb c l5 (iI l) S = leafE W c a2 kb l5 (iI (cntL B L)) S2 ∧ WE S2 B L c P sh bar e R rq rb W v (cntL B L) ∧ Fr (PPn W) S S2 := by
  intro m
  obtain ⟨hV, hL, hc, hP, hsh, hbar, he, hR, hrb, hrq, hW⟩ := hH
  have hn := cntL_le B L
  have hng : B 9 1 ≤ 8 := hV.2.1.2.2.2
  induction m with
  | zero =>
    intro N l S hp hN hE
    obtain ⟨N, rfl⟩ : ∃ k, N = k + 1 := ⟨N - 1, by omega⟩
    have : l = cntL B L := by omega
    subst this
    refine ⟨S, ?_, hE, Fr.rf⟩
    rw [f_X8_goThrough_L32, hE.1.2.2.1, if_pos (by rw [iI_le (by omega) (by omega)]; omega)]
    rfl
  | succ m ih =>
    intro N l S hp hN hE
    obtain ⟨N, rfl⟩ : ∃ k, N = k + 1 := ⟨N - 1, by omega⟩
    have hpc : l < cntL B L := by omega
    obtain ⟨w1, w2, w3, w4, w5⟩ := way_facts hV hL hpc (hv l hpc)
    obtain ⟨hG, hd, hpr, hGP⟩ := hE
    obtain ⟨x8, x9⟩ := (hG.2.2.2 l hpc).2.2.2.2.2.2.2 (v l) (hv l hpc)
    have x8' : S.1 (c + 8) (3 * l + v l) = iI (wayW B L v l) := x8
    have x9' : S.1 (c + 9) (3 * l + v l) = iI (wayC B L v l) := x9
    obtain ⟨s1, s2⟩ := hpr l (Nat.le_refl _)
    obtain ⟨S17, hS17⟩ : ∃ S17, S17 = pJ S (W + 4) (l + 1) (lI (prodTo (wayC B L v) (l + 1) : Nat)) := ⟨_, rfl⟩
    obtain ⟨S21, hS21⟩ : ∃ S21, S21 = pI S17 (W + 5) (l + 1) (iI (natTo (wayW B L v) (l + 1) : Nat)) := ⟨_, rfl⟩
    have r17 : S17.1 = S.1 := by rw [hS17]; rfl
    have f1 : Fr (PPn W) S S17 := by rw [hS17]; exact Fr.pJ (Or.inl rfl)
    have f2 : Fr (PPn W) S17 S21 := by rw [hS21]; exact Fr.pI (Or.inr (Or.inl ⟨rfl, by omega⟩))
    have r21 : ∀ a, a ≠ W + 5 → S21.1 a = S.1 a := fun a ha => by rw [hS21, pI_row ha, r17]
    have hG21 := GA_fr hc hP hG (f1.tr f2) (PPn_68 hW)
    have hGP21 := GP_row hGP (S2 := S21) (fun a h1 h2 => r21 a (by omega))
    obtain ⟨S3, e1, e2, e3⟩ := E_play hV hL hc hP hG21.1 hG21.2.1 hG21.2.2 hsh hbar.2 he hR hrb hrq hpc (by omega) hGP21
    have f3 : Fr (PPn W) S21 S3 := e3.wk (fun a k h => Or.inr (Or.inr h))
    have hE3 : WE S3 B L c P sh bar e R rq rb W v (l + 1) := by
      refine ⟨GA_fr hc hP hG21 e3 ply_68, fun j hj => ?_, fun q hq => ?_, e2⟩
      · rw [e3.1 (W + 3) j (by unfold PPly; omega), r21 (W + 3) (by omega)]; exact hd j hj
      · rw [e3.2.1 (W + 4) q (by unfold PPly; omega), e3.1 (W + 5) q (by unfold PPly; omega), hS21, pI_1, show (pI S17 (W + 5) (l + 1) (iI (natTo (wayW B L v) (l + 1) : Nat))).2.1 (W + 4) q = S17.2.1 (W + 4) q from rfl, hS17, pJ_2, pJ_1]
        by_cases hq2 : q = l + 1
        · rw [if_pos ⟨rfl, hq2⟩, if_pos ⟨rfl, hq2⟩, hq2]; exact ⟨rfl, rfl⟩
        · rw [if_neg (fun z => hq2 z.2), if_neg (fun z => hq2 z.2)]; exact hpr q (by omega)
    obtain ⟨S4, e4, e5, e6⟩ := ih N (l + 1) S3 (by omega) (by omega) hE3
    refine ⟨S4, ?_, e5, ((f1.tr f2).tr f3).tr e6⟩
    have q1 : prodTo (wayC B L v) l * wayC B L v l = prodTo (wayC B L v) (l + 1) := rfl
    have q2 : natTo (wayW B L v) l + wayW B L v l = natTo (wayW B L v) (l + 1) := rfl
    rw [f_X8_goThrough_L32, hG.2.2.1, if_neg (by rw [iI_le (by omega) (by omega)]; omega), ob_iI (by omega), iI_nat (by omega), hd l hpc, show (iI l * (3 : Int32)) + iI (v l) = iI (3 * l + v l : Nat) by rw [show (3 : Int32) = iI 3 from rfl, iI_mul, iI_add]; congr 1; omega, sq_k, ob_iI (by omega), ob_iI (by omega), show iI l + (1 : Int32) = iI (l + 1 : Nat) from iI_add l 1, ob_iI (by omega), iI_nat (by omega), iI_nat (by omega)]
    rw [s1, x9', iI_l (by omega), lI_mul, ← Int.natCast_mul, q1, ← hS17, sq_k, ob_iI (by omega), ob_iI (by omega), ob_iI (by omega), r17, s2, x8', iI_add, ← Int.natCast_add, q2, ← hS21, sq_k, ob_iI (by omega), r21 (c + 8) (by omega), x8', bd_ok e1]
    exact e4
