def PEs (a _ : Nat) : Prop := 36 ≤ a ∧ a ≤ 98 ∧ ¬ (73 ≤ a ∧ a ≤ 75)
theorem IEp_scr {P Q : Nat} {S S2 : St} {T : Tst} (hPQ : (P = 5 ∧ Q = 15) ∨ (P = 15 ∧ Q = 5)) (h : IEp P Q S T) (hf : Fr PEs S S2) (hz : ZE S2) : IEp P Q S2 T := by
  obtain ⟨⟨hp1, hp2, -⟩, t1, t2, hBE, hCE, t3, t4, t5, t6, t7⟩ := h
  have r : ∀ a, a < 36 ∨ 98 < a → S2.1 a = S.1 a := fun a ha => funext fun k => hf.1 a k (by unfold PEs; omega)
  refine ⟨⟨?_, ?_, hz⟩, ?_, ?_, ?_, ?_, ?_, ?_, ?_, ?_, ?_⟩
  · rw [hf.2.2 0 2 (by unfold PEs; omega)]; exact hp1
  · rw [hf.2.2 0 3 (by unfold PEs; omega)]; exact hp2
  · rw [r 1 (by omega)]; exact t1
  · rw [r 2 (by omega)]; exact t2
  · unfold BE at hBE ⊢
    have q : ∀ j, j ≤ 9 → S2.1 (P + j) = S.1 (P + j) := fun j hj => r _ (by omega)
    have r0 := q 0 (by omega)
    rw [Nat.add_zero] at r0
    rw [r0, q 1 (by omega), q 2 (by omega), q 3 (by omega), q 4 (by omega), q 5 (by omega), q 6 (by omega), q 7 (by omega), q 8 (by omega), q 9 (by omega)]
    exact hBE
  · unfold CE at hCE ⊢
    rw [r 25 (by omega), r (25 + 1) (by omega), r (25 + 2) (by omega), r (25 + 3) (by omega), r (25 + 4) (by omega), r (25 + 5) (by omega), r (25 + 6) (by omega), r (25 + 7) (by omega), r (25 + 8) (by omega), r (25 + 9) (by omega)]
    exact hCE
  · rw [r 99 (by omega)]; exact t3
  · rw [r 0 (by omega)]; exact t4
  · rw [r 100 (by omega)]; exact t5
  · rw [r 101 (by omega), r 102 (by omega)]; exact t6
  · have j : ∀ a k, a < 36 ∨ (73 ≤ a ∧ a ≤ 75) → S2.2.1 a k = S.2.1 a k := fun a k ha => hf.2.1 a k (by unfold PEs; omega)
    unfold KE at t7 ⊢
    rw [r 0 (by omega), j 73 0 (by omega), j 73 1 (by omega), j 73 2 (by omega), j 73 3 (by omega), j 73 4 (by omega), j 0 17 (by omega), j 0 18 (by omega)]
    refine ⟨?_, t7.2.1, t7.2.2⟩
    rcases t7.1 with z | z
    · exact Or.inl z
    · exact Or.inr ⟨z.1, fun p hp => by rw [j 74 p (by omega), j 75 p (by omega)]; exact z.2 p hp⟩
theorem IE_scr {S S2 : St} {T : Tst} (h : IE S T) (hf : Fr PEs S S2) (hz : ZE S2) : IE S2 T := by
  rcases h with h | h
  · exact Or.inl (IEp_scr (Or.inl ⟨rfl, rfl⟩) h hf hz)
  · exact Or.inr (IEp_scr (Or.inr ⟨rfl, rfl⟩) h hf hz)
def P47 (a _ : Nat) : Prop := a = 47
/-- the game as set for those who come -/
theorem E_setGame {S : St} {T : Tst} (h : IE S T) : ∃ (P : Nat) (S2 : St), (P = 5 ∨ P = 15) ∧ f_X9_setGame 0 S = some ((), S2) ∧ GE S2 25 P (tS T) (tB T 0 0) (tB T 0 5) 0 (-1) ∧ BE S2 P (tB T) ∧ CE S2 25 (tB T) (tB T 0 2) ∧ ZE S2 ∧ IE S2 T ∧ Fr P47 S S2 := by
  obtain ⟨P, p1, p2, p3⟩ := IE_P h
  have hC := IE_C h
  have hZ := IE_Z h
  obtain ⟨t1, t2, t3, t4, t5, t6, t7⟩ := IE_has h
  have hk := kdE_P p1
  obtain ⟨S2, hS2⟩ : ∃ S2, S2 = pI (pI (pI (pI (pI (pR (pR S 47 0 P) 47 1 25) 47 2 (iI (tS T))) 47 3 (iI (tB T 0 0))) 47 4 (iI (tB T 0 5))) 47 5 0) 47 6 (-1) := ⟨_, rfl⟩
  have hf : Fr P47 S S2 := by
    rw [hS2]
    have hw : ∀ k, P47 47 k := fun _ => rfl
    exact ((((((Fr.pR (hw _)).tr (Fr.pR (hw _))).tr (Fr.pI (hw _))).tr (Fr.pI (hw _))).tr (Fr.pI (hw _))).tr (Fr.pI (hw _))).tr (Fr.pI (hw _))
  have r : ∀ a, a ≠ 47 → S2.1 a = S.1 a := fun a ha => funext fun k => hf.1 a k (by unfold P47; exact ha)
  have hz2 : ZE S2 := by
    unfold ZE at hZ ⊢
    rw [r 70 (by omega), r 71 (by omega), r 72 (by omega), r 78 (by omega), r 84 (by omega)]; exact hZ
  have hE2 := IE_scr h (hf.wk (fun a k e => by unfold P47 at e; unfold PEs; omega)) hz2
  refine ⟨P, S2, p1, ?_, ?_, ?_, IE_C hE2, hz2, hE2, hf⟩
  · unfold f_X9_setGame f_X1_set
    rw [p2, ck_pos hk, t4]
    dsimp only [sq, Nat.reduceAdd, bd]
    have q0 : (pI (pR (pR S 47 0 P) 47 1 25) 47 2 (iI (tS T))).2.2 47 0 = P := by
      rw [pI_2, pR_3, if_neg (by omega), pR_3, if_pos ⟨rfl, rfl⟩]
    have q1 : (pI (pR (pR S 47 0 P) 47 1 25) 47 2 (iI (tS T))).1 P 0 = iI (tB T 0 0) := by
      rw [pI_row (by omega), pR_1, pR_1]; exact p3.1.1
    rw [q0, ck_pos hk, q1]
    have q2 : (pI (pI (pR (pR S 47 0 P) 47 1 25) 47 2 (iI (tS T))) 47 3 (iI (tB T 0 0))).2.2 47 0 = P := q0
    have q3 : (pI (pI (pR (pR S 47 0 P) 47 1 25) 47 2 (iI (tS T))) 47 3 (iI (tB T 0 0))).1 P 5 = iI (tB T 0 5) := by
      rw [pI_row (by omega), pI_row (by omega), pR_1, pR_1]; exact p3.1.2.2.2.2.2.1
    rw [q2, ck_pos hk, q3, hS2]
  · rw [hS2]
    refine ⟨?_, ?_, ?_, ?_, ?_, ?_, ?_⟩
    · rw [pI_2, pI_2, pI_2, pI_2, pI_2, pR_3, if_neg (by omega), pR_3, if_pos ⟨rfl, rfl⟩]
    · rw [pI_2, pI_2, pI_2, pI_2, pI_2, pR_3, if_pos ⟨rfl, rfl⟩]
    · rw [pI_1, if_neg (by omega), pI_1, if_neg (by omega), pI_1, if_neg (by omega), pI_1, if_neg (by omega), pI_1, if_pos ⟨rfl, rfl⟩]
    · rw [pI_1, if_neg (by omega), pI_1, if_neg (by omega), pI_1, if_neg (by omega), pI_1, if_pos ⟨rfl, rfl⟩]
    · rw [pI_1, if_neg (by omega), pI_1, if_neg (by omega), pI_1, if_pos ⟨rfl, rfl⟩]
    · rw [pI_1, if_neg (by omega), pI_1, if_pos ⟨rfl, rfl⟩]; rfl
    · rw [pI_1, if_pos ⟨rfl, rfl⟩, iI_n1]
  · unfold BE at p3 ⊢
    have q : ∀ j, j ≤ 9 → S2.1 (P + j) = S.1 (P + j) := fun j hj => r _ (by omega)
    have r0 := q 0 (by omega)
    rw [Nat.add_zero] at r0
    rw [r0, q 1 (by omega), q 2 (by omega), q 3 (by omega), q 4 (by omega), q 5 (by omega), q 6 (by omega), q 7 (by omega), q 8 (by omega), q 9 (by omega)]
    exact p3
theorem E_built {S : St} {B : Bd} {L c P sh bar e R rq : Nat} {rb : Int} {w : Nat → Nat} (hV : VB B) (hL : L ≤ 30) (hc : c = 25 ∨ c = 36) (hP : P = 5 ∨ P = 15) (hG : GE S c P sh bar e R rb) (hB : BE S P B) (hC : CE S c B L) (hbar : bar ≤ 60) (hR : R ≤ 99) (hGP : GP S B L bar e sh rq R w (cntL B L)) :
    f_X1_isBuilt 47 S = some (bI (builtS B L bar e sh rq R w), S) := by
  have hn := cntL_le B L
  have hng : B 9 1 ≤ 8 := hV.2.1.2.2.2
  obtain ⟨g1, g2, g3, g4, g5, g6, g7⟩ := hG
  obtain ⟨a1, a2, a3⟩ := GP_1 hGP (Nat.le_refl _)
  obtain ⟨b1, b2, b3⟩ := playS_le hV hL bar e sh rq R hR w (cntL B L) (Nat.le_refl _)
  have b1' : (playS B L bar e sh rq R w (cntL B L)).1 ≤ 400 := by
    by_cases hq : rq ≤ cntL B L
    · rw [if_pos hq] at b1; omega
    · rw [if_neg hq] at b1; omega
  have hnd : S.1 P 1 = iI (B 0 1) := hB.1.2.1
  have vn : B 0 1 ≤ 8 := hV.1.2.2.1
  unfold f_X1_isBuilt
  rw [g2, ck_pos (kdE_c hc), hC.1, ob_iI (by omega), iI_nat (by omega)]
  dsimp only [Nat.reduceAdd]
  rw [a1, g4]
  have hdef : builtS B L bar e sh rq R w = decide (bar ≤ (playS B L bar e sh rq R w (cntL B L)).1 ∧ B 0 1 ≤ (playS B L bar e sh rq R w (cntL B L)).2.1) := rfl
  by_cases h1 : bar ≤ (playS B L bar e sh rq R w (cntL B L)).1
  · rw [if_neg (by rw [iI_lt (by omega) (by omega)]; omega), ck_pos (kdE_c hc), ob_iI (by omega), g1, ck_pos (kdE_P hP), a2, hnd]
    by_cases h2 : B 0 1 ≤ (playS B L bar e sh rq R w (cntL B L)).2.1
    · rw [if_neg (by rw [iI_lt (by omega) (by omega)]; omega), hdef, decide_eq_true ⟨h1, h2⟩]; rfl
    · rw [if_pos (by rw [iI_lt (by omega) (by omega)]; omega), hdef, decide_eq_false (fun q => h2 q.2)]; rfl
  · rw [if_pos (by rw [iI_lt (by omega) (by omega)]; omega), hdef, decide_eq_false (fun q => h1 q.1)]; rfl
theorem M_built {S : St} {B : Bd} {L bar e sh R rq : Nat} {D : Int} {w : Nat → Nat} (hV : VB B) (hL : L ≤ 30) (hG : MG S B L bar e sh R D) (hbar : bar ≤ 60) (hR : R ≤ 99) (hP : MP S B L bar e sh rq R w (cntL B L)) (hg : S.1 103 32 = iI (endS B L bar e sh rq R w).1) :
    f_X10_isBuilt 103 S = some (bI (builtS B L bar e sh rq R w), S) := by
  have hn := cntL_le B L
  have hng : B 9 1 ≤ 8 := hV.2.1.2.2.2
  obtain ⟨hB, -, g1, -⟩ := hG
  obtain ⟨n1, n2, n3, n4⟩ := hP
  obtain ⟨b1, b2, b3⟩ := playS_le hV hL bar e sh rq R hR w (cntL B L) (Nat.le_refl _)
  have b1' : (endS B L bar e sh rq R w).1 ≤ 400 := by
    show (playS B L bar e sh rq R w (cntL B L)).1 ≤ 400
    by_cases hq : rq ≤ cntL B L
    · rw [if_pos hq] at b1; omega
    · rw [if_neg hq] at b1; omega
  have vn : B 0 1 ≤ 8 := hV.1.2.2.1
  have hnd := hB.1 1 (by omega)
  unfold f_X10_isBuilt
  rw [show Int32.toNatClampNeg 1 = 1 from rfl]
  dsimp only [Nat.reduceAdd]
  rw [hg, g1, n2, hnd]
  have hdef : builtS B L bar e sh rq R w = decide (bar ≤ (endS B L bar e sh rq R w).1 ∧ B 0 1 ≤ (playS B L bar e sh rq R w (cntL B L)).2.1) := rfl
  by_cases h1 : bar ≤ (endS B L bar e sh rq R w).1
  · rw [if_neg (by rw [iI_lt (by omega) (by omega)]; omega)]
    by_cases h2 : B 0 1 ≤ (playS B L bar e sh rq R w (cntL B L)).2.1
    · rw [if_neg (by rw [iI_lt (by omega) (by omega)]; omega), hdef, decide_eq_true ⟨h1, h2⟩]; rfl
    · rw [if_pos (by rw [iI_lt (by omega) (by omega)]; omega), hdef, decide_eq_false (fun q => h2 q.2)]; rfl
  · rw [if_pos (by rw [iI_lt (by omega) (by omega)]; omega), hdef, decide_eq_false (fun q => h1 q.1)]; rfl
