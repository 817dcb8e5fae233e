/-! trials: other bars, days, extras, showings -/
theorem P47_PEs {a k : Nat} (h : P47 a k) : PEs a k := by unfold P47 at h; unfold PEs; omega
theorem E_set {S : St} {B : Bd} {P c sh : Nat} (hP : P = 5 ∨ P = 15) (hB : BE S P B) : ∃ S2 : St, f_X1_set 47 P c (iI sh) S = some ((), S2) ∧ GE S2 c P sh (B 0 0) (B 0 5) 0 (-1) ∧ Fr P47 S S2 := by
  have hk := kdE_P hP
  obtain ⟨S2, hS2⟩ : ∃ S2, S2 = pI (pI (pI (pI (pI (pR (pR S 47 0 P) 47 1 c) 47 2 (iI sh)) 47 3 (iI (B 0 0))) 47 4 (iI (B 0 5))) 47 5 0) 47 6 (-1) := ⟨_, rfl⟩
  have hw : ∀ k, P47 47 k := fun _ => rfl
  refine ⟨S2, ?_, ?_, ?_⟩
  · unfold f_X1_set
    dsimp only [sq]
    have q0 : (pI (pR (pR S 47 0 P) 47 1 c) 47 2 (iI sh)).2.2 47 0 = P := by
      rw [pI_2, pR_3, if_neg (by omega), pR_3, if_pos ⟨rfl, rfl⟩]
    have q1 : (pI (pR (pR S 47 0 P) 47 1 c) 47 2 (iI sh)).1 P 0 = iI (B 0 0) := by
      rw [pI_row (by omega), pR_1, pR_1]; exact hB.1.1
    rw [q0, ck_pos hk, q1]
    have q2 : (pI (pI (pR (pR S 47 0 P) 47 1 c) 47 2 (iI sh)) 47 3 (iI (B 0 0))).2.2 47 0 = P := q0
    have q3 : (pI (pI (pR (pR S 47 0 P) 47 1 c) 47 2 (iI sh)) 47 3 (iI (B 0 0))).1 P 5 = iI (B 0 5) := by
      rw [pI_row (by omega), pI_row (by omega), pR_1, pR_1]; exact hB.1.2.2.2.2.2.1
    rw [q2, ck_pos hk, q3, hS2]
  · rw [hS2]
    refine ⟨?_, ?_, ?_, ?_, ?_, ?_, ?_⟩
    · rw [pI_2, pI_2, pI_2, pI_2, pI_2, pR_3, if_neg (by omega), pR_3, if_pos ⟨rfl, rfl⟩]
    · rw [pI_2, pI_2, pI_2, pI_2, pI_2, pR_3, if_pos ⟨rfl, rfl⟩]
    · rw [pI_1, if_neg (by omega), pI_1, if_neg (by omega), pI_1, if_neg (by omega), pI_1, if_neg (by omega), pI_1, if_pos ⟨rfl, rfl⟩]
    · rw [pI_1, if_neg (by omega), pI_1, if_neg (by omega), pI_1, if_neg (by omega), pI_1, if_pos ⟨rfl, rfl⟩]
    · rw [pI_1, if_neg (by omega), pI_1, if_neg (by omega), pI_1, if_pos ⟨rfl, rfl⟩]
    · rw [pI_1, if_neg (by omega), pI_1, if_pos ⟨rfl, rfl⟩]; rfl
    · rw [pI_1, if_pos ⟨rfl, rfl⟩, iI_n1]
  · rw [hS2]
    exact ((((((Fr.pR (hw _)).tr (Fr.pR (hw _))).tr (Fr.pI (hw _))).tr (Fr.pI (hw _))).tr (Fr.pI (hw _))).tr (Fr.pI (hw _))).tr (Fr.pI (hw _))
theorem ZE_47 {S S2 : St} (h : ZE S) (hf : Fr P47 S S2) : ZE S2 := by
  unfold ZE at h ⊢
  rw [hf.1 70 0 (by unfold P47; omega), hf.1 71 0 (by unfold P47; omega), hf.1 72 0 (by unfold P47; omega), hf.1 78 0 (by unfold P47; omega), hf.1 84 0 (by unfold P47; omega)]
  exact h
theorem BC_47 {S S2 : St} {B : Bd} {P c L : Nat} (hP : P = 5 ∨ P = 15) (hc : c = 25 ∨ c = 36) (hB : BE S P B) (hC : CE S c B L) (hf : Fr P47 S S2) : BE S2 P B ∧ CE S2 c B L := by
  have r : ∀ a, a ≠ 47 → S2.1 a = S.1 a := fun a ha => funext fun k => hf.1 a k (by unfold P47; omega)
  exact ⟨BE_row hB (fun j hj => r _ (by omega)), CE_row hC (fun j hj => r _ (by omega))⟩
theorem E_trial {S : St} {T : Tst} {L c P sh bar e R rq : Nat} {rb : Int} (hH : HW (tB T) L c P sh bar e R rq rb 79) (hG : GA S (tB T) L c P sh bar e R rb) (hE : IE S T) : ∃ S2 : St, f_X8_goThrough 79 47 0 S = some ((), S2) ∧ S2.2.1 79 0 = lI (cntS (tB T) L bar e sh rq R 0) ∧ S2.2.1 79 1 = lI (cntS (tB T) L bar e sh rq R 1) ∧ S2.2.1 79 2 = lI (cntS (tB T) L bar e sh rq R 2) ∧ GA S2 (tB T) L c P sh bar e R rb ∧ IE S2 T ∧ Fr PEs S S2 := by
  obtain ⟨S2, q1, q2, q3, q4, q5, q6⟩ := E_through false hH hG (IE_Z hE)
  have f : Fr PEs S S2 := q6.wk (fun a k h => by unfold PWy PPly at h; unfold PEs; omega)
  exact ⟨S2, q1, q2 0 (by omega), q2 1 (by omega), q2 2 (by omega), q4, IE_scr hE f q5, f⟩
def MPl (S : St) (B : Bd) (L bar e sh R : Nat) (D : Int) : Prop := BM S B ∧ S.1 103 19 = iI bar ∧ S.1 103 20 = iI L ∧ S.1 103 21 = iI e ∧ S.1 103 22 = iI sh ∧ S.1 103 23 = iI R ∧ S.1 103 24 = iI D
theorem MPl_G {S : St} {B : Bd} {L bar e sh R : Nat} {D : Int} (h : MG S B L bar e sh R D) : MPl S B L bar e sh R D := ⟨h.1, h.2.2⟩
theorem BM_102 {S : St} {B : Bd} {k : Nat} {x : Int32} (h : BM S B) (hk : 19 ≤ k) : BM (pI S 103 k x) B := BM_of h (fun a h1 h2 => pI_row (by omega)) (by rw [pI_1, if_neg (by omega)])
theorem MPl_19 {S : St} {B : Bd} {L bar e sh R b : Nat} {D : Int} (h : MPl S B L bar e sh R D) : MPl (pI S 103 19 (iI b)) B L b e sh R D := by
  obtain ⟨h1, h2, h3, h4, h5, h6, h7⟩ := h
  refine ⟨BM_102 h1 (by omega), ?_, ?_, ?_, ?_, ?_, ?_⟩
  · rw [pI_1, if_pos ⟨rfl, rfl⟩]
  all_goals (rw [pI_1, if_neg (by omega)]; assumption)
theorem MPl_20 {S : St} {B : Bd} {L bar e sh R b : Nat} {D : Int} (h : MPl S B L bar e sh R D) : MPl (pI S 103 20 (iI b)) B b bar e sh R D := by
  obtain ⟨h1, h2, h3, h4, h5, h6, h7⟩ := h
  refine ⟨BM_102 h1 (by omega), ?_, ?_, ?_, ?_, ?_, ?_⟩
  · rw [pI_1, if_neg (by omega)]; assumption
  · rw [pI_1, if_pos ⟨rfl, rfl⟩]
  all_goals (rw [pI_1, if_neg (by omega)]; assumption)
theorem MPl_21 {S : St} {B : Bd} {L bar e sh R b : Nat} {D : Int} (h : MPl S B L bar e sh R D) : MPl (pI S 103 21 (iI b)) B L bar b sh R D := by
  obtain ⟨h1, h2, h3, h4, h5, h6, h7⟩ := h
  refine ⟨BM_102 h1 (by omega), ?_, ?_, ?_, ?_, ?_, ?_⟩
  · rw [pI_1, if_neg (by omega)]; assumption
  · rw [pI_1, if_neg (by omega)]; assumption
  · rw [pI_1, if_pos ⟨rfl, rfl⟩]
  all_goals (rw [pI_1, if_neg (by omega)]; assumption)
theorem MPl_22 {S : St} {B : Bd} {L bar e sh R b : Nat} {D : Int} (h : MPl S B L bar e sh R D) : MPl (pI S 103 22 (iI b)) B L bar e b R D := by
  obtain ⟨h1, h2, h3, h4, h5, h6, h7⟩ := h
  refine ⟨BM_102 h1 (by omega), ?_, ?_, ?_, ?_, ?_, ?_⟩
  · rw [pI_1, if_neg (by omega)]; assumption
  · rw [pI_1, if_neg (by omega)]; assumption
  · rw [pI_1, if_neg (by omega)]; assumption
  · rw [pI_1, if_pos ⟨rfl, rfl⟩]
  all_goals (rw [pI_1, if_neg (by omega)]; assumption)
theorem M_trial {S : St} {B : Bd} {L bar e sh rq R what : Nat} {D : Int} (hV : VB B) (hL : L ≤ 30) (hsh : sh ≤ 2) (hbar : bar ≤ 60) (he : e ≤ 9) (hR : R ≤ 99) (hrq : RQ B L rq D) (hw : what ≤ 5) (h : MPl S B L bar e sh R D) : ∃ S2 : St, f_X10_waysOf 103 (iI what) S = some (lI (cntM B L bar e sh rq R what), S2) ∧ MG S2 B L bar e sh R D ∧ Fr PScr S S2 :=
  M_waysOf hV hL hsh hbar he hR hrq hw h.1 h.2.1 h.2.2.1 h.2.2.2.1 h.2.2.2.2.1 h.2.2.2.2.2.1 h.2.2.2.2.2.2
theorem M_plainQ {S : St} {T : Tst} (hM : IM S T) : ∃ S1 : St, f_X10_plain 103 S = some ((), S1) ∧ MPl S1 (tB T) (tB T 0 2) (tB T 0 0) (tB T 0 5) (tS T) 0 (-4) ∧ Fr PScr S S1 := by
  obtain ⟨S1, e1, ⟨q1, q2, q3, q4, q5, q6⟩, e3⟩ := M_plain hM
  have f := e3.wk (fun _ _ => pl_scr)
  exact ⟨S1, e1, ⟨(IM_scr hM f).2.2.1, q1, q2, q3, q4, q5, q6⟩, f⟩
theorem wrongS_bd {B : Bd} {sh b : Nat} (hV : VB B) : 0 ≤ wrongS B sh b ∧ wrongS B sh b ≤ 200000000 := by
  have hL : B 0 2 ≤ 30 := hV.1.2.2.2.1
  have hng : B 9 1 ≤ 8 := hV.2.1.2.2.2
  have hcl := cntL_le B (B 0 2)
  obtain ⟨t1, t2⟩ := ten_le (n := cntL B (B 0 2)) (by omega)
  obtain ⟨a1, a2⟩ := cntS_bd (bar := b) (e := B 0 5) (sh := sh) (rq := 0) (R := 0) (what := 1) hV hL
  obtain ⟨b1, b2⟩ := cntS_bd (bar := b) (e := B 0 5) (sh := sh) (rq := 0) (R := 0) (what := 2) hV hL
  unfold wrongS
  omega
theorem bestS_bd (f : Nat → Int) : ∀ k, 1 ≤ bestS f k ∧ bestS f k ≤ k + 1
  | 0 => ⟨Nat.le_refl _, Nat.le_refl _⟩
  | k + 1 => by
    unfold bestS
    have := bestS_bd f k
    by_cases h : f (k + 2) < f (bestS f k)
    · rw [if_pos h]; omega
    · rw [if_neg h]; omega
/-- one bar tried by the class -/
theorem E_barTry {S : St} {T : Tst} {b : Nat} (hV : VT T) (hE : IE S T) (hb : 1 ≤ b ∧ b ≤ 60) : ∃ S1 S2 : St, f_X9_setGame 0 S = some ((), S1) ∧ f_X8_goThrough 79 47 0 (pI S1 47 3 (iI b)) = some ((), S2) ∧ S2.2.1 79 1 + S2.2.1 79 2 = lI (wrongS (tB T) (tS T) b) ∧ IE S2 T ∧ Fr PEs S S2 := by
  obtain ⟨P, S1, p1, e1, e2, e3, e4, e5, e6, e7⟩ := E_setGame hE
  have hVB := VT_B hV
  obtain ⟨g1, g2, g3, g4, g5, g6, g7⟩ := e2
  have f1 : Fr P47 S1 (pI S1 47 3 (iI b)) := Fr.pI rfl
  have hG : GE (pI S1 47 3 (iI b)) 25 P (tS T) b (tB T 0 5) 0 (-1) := by
    refine ⟨g1, g2, ?_, ?_, ?_, ?_, ?_⟩
    · rw [pI_1, if_neg (by omega)]; exact g3
    · rw [pI_1, if_pos ⟨rfl, rfl⟩]
    · rw [pI_1, if_neg (by omega)]; exact g5
    · rw [pI_1, if_neg (by omega)]; exact g6
    · rw [pI_1, if_neg (by omega)]; exact g7
  obtain ⟨hB2, hC2⟩ := BC_47 p1 (Or.inl rfl) e3 e4 f1
  have hH := HW_T hV p1 (Or.inr rfl)
  have hH2 : HW (tB T) (tB T 0 2) 25 P (tS T) b (tB T 0 5) 0 0 (-1) 79 := by
    obtain ⟨a1, a2, a3, a4, a5, a6, a7⟩ := hH
    exact ⟨a1, a2, a3, a4, a5, hb, a7⟩
  obtain ⟨S2, q1, q2, q3, q4, q5, q6, q7⟩ := E_trial hH2 ⟨hG, hB2, hC2⟩ (IE_scr e6 (f1.wk (fun _ _ => P47_PEs)) (ZE_47 e5 f1))
  refine ⟨S1, S2, e1, q1, ?_, q6, ((e7.wk (fun _ _ => P47_PEs)).tr (f1.wk (fun _ _ => P47_PEs))).tr q7⟩
  rw [q3, q4, lI_add]; rfl
theorem ok_bestBar (x : Int32) : Okk (f_X9_bestBar 0 x) (f_X10_bestBar 103 x) := by
  apply Okk_scr
  intro S T hV hE
  have hVB := VT_B hV
  by_cases hb : bad x 0 1
  · refine ⟨-1, S, ⟨?_, hE, Fr.rf⟩, fun S1 hM => ⟨S1, ?_, Fr.rf⟩⟩
    · unfold f_X9_bestBar; rw [bd_ok (within_bad hb)]; rfl
    · unfold f_X10_bestBar; rw [bd_ok (in_bad hb)]; rfl
  have hbs := bestS_bd (wrongS (tB T) (tS T))
  have hwb := fun b => wrongS_bd (sh := tS T) (b := b) hVB
  -- the class
  have keyE : ∀ (m N k : Nat) (S : St), k + m = 59 → m < N → IE S T → S.1 0 14 = 0 → S.1 0 16 = iI (bestS (wrongS (tB T) (tS T)) k) → S.2.1 0 17 = lI (wrongS (tB T) (tS T) (bestS (wrongS (tB T) (tS T)) k)) →
      ∃ S2 : St, f_X9_findBestBar_L2 N 0 (iI (k + 2 : Nat)) S = some ((), S2) ∧ IE S2 T ∧ S2.1 0 16 = iI (bestS (wrongS (tB T) (tS T)) 59) ∧ S2.2.1 0 17 = lI (wrongS (tB T) (tS T) (bestS (wrongS (tB T) (tS T)) 59)) ∧ Fr PE S S2 := by
    intro m
    induction m with
    | zero =>
      intro N k S hk hN h1 h2 h3 h4
      obtain ⟨N, rfl⟩ : ∃ k, N = k + 1 := ⟨N - 1, by omega⟩
      have : k = 59 := by omega
      subst this
      refine ⟨S, ?_, h1, h3, h4, Fr.rf⟩
      rw [f_X9_findBestBar_L2, if_pos (by rw [show (60 : Int32) = iI 60 from rfl, iI_lt (by omega) (by omega)]; omega)]
    | succ m ih =>
      intro N k S hk hN h1 h2 h3 h4
      obtain ⟨N, rfl⟩ : ∃ k, N = k + 1 := ⟨N - 1, by omega⟩
      obtain ⟨S1, S8, q1, q2, q3, q4, q5⟩ := E_barTry (b := k + 2) hV h1 (by omega)
      have hs : bestS (wrongS (tB T) (tS T)) (k + 1) = if wrongS (tB T) (tS T) (k + 2) < wrongS (tB T) (tS T) (bestS (wrongS (tB T) (tS T)) k) then k + 2 else bestS (wrongS (tB T) (tS T)) k := rfl
      have h2' : S8.1 0 14 = 0 := by rw [q5.1 0 14 (by unfold PEs; omega)]; exact h2
      have h3' : S8.1 0 16 = iI (bestS (wrongS (tB T) (tS T)) k) := by rw [q5.1 0 16 (by unfold PEs; omega)]; exact h3
      have h4' : S8.2.1 0 17 = lI (wrongS (tB T) (tS T) (bestS (wrongS (tB T) (tS T)) k)) := by rw [q5.2.1 0 17 (by unfold PEs; omega)]; exact h4
      have hw1 := hwb (k + 2)
      have hw2 := hwb (bestS (wrongS (tB T) (tS T)) k)
      rw [f_X9_findBestBar_L2, if_neg (by rw [show (60 : Int32) = iI 60 from rfl, iI_lt (by omega) (by omega)]; omega), bd_ok q1, sq_k]
      dsimp only [Nat.reduceAdd]
      rw [bd_ok q2, sq_k, q3, if_neg (by rw [show (1 : Int32) = iI 1 from rfl, iI_eq (by omega) (by omega)]; omega), h4', show iI (k + 2 : Nat) + (1 : Int32) = iI (k + 1 + 2 : Nat) from iI_add _ 1]
      by_cases hc : wrongS (tB T) (tS T) (k + 2) < wrongS (tB T) (tS T) (bestS (wrongS (tB T) (tS T)) k)
      · rw [if_pos hc] at hs
        rw [if_neg (by rw [lI_le (by omega) (by omega)]; omega)]
        obtain ⟨S9, hS9⟩ : ∃ S9, S9 = pJ (pI S8 0 16 (iI (k + 2 : Nat))) 0 17 (lI (wrongS (tB T) (tS T) (k + 2))) := ⟨_, rfl⟩
        have f9 : Fr PEt S8 S9 := by rw [hS9]; exact (Fr.pI (Or.inr ⟨rfl, by omega⟩)).tr (Fr.pJ (Or.inr ⟨rfl, by omega⟩))
        have r9 : ∀ a, a ≠ 0 → S9.1 a = S8.1 a := fun a ha => by rw [hS9, pJ_1, pI_row ha]
        have h2'' : S9.1 0 14 = 0 := by rw [hS9, pJ_1, pI_1, if_neg (by omega)]; exact h2'
        have hz9 : ZE S9 := by
          have := IE_Z q4
          unfold ZE at this ⊢
          rw [r9 70 (by omega), r9 71 (by omega), r9 72 (by omega), r9 78 (by omega), r9 84 (by omega)]; exact this
        have hk9 : KE S9 (tB T) (tS T) := by
          obtain ⟨-, -, -, -, -, -, k7⟩ := IE_has q4
          have j : ∀ a k, a ≠ 0 → S9.2.1 a k = S8.2.1 a k := fun a k ha => by rw [hS9, pJ_2, if_neg (by omega), pI_2]
          have s15 : S9.1 0 13 = S8.1 0 13 := by rw [hS9, pJ_1, pI_1, if_neg (by omega)]
          have s17 : S9.1 0 15 = S8.1 0 15 := by rw [hS9, pJ_1, pI_1, if_neg (by omega)]
          have l20 : S9.2.1 0 18 = S8.2.1 0 18 := by rw [hS9, pJ_2, if_neg (by omega), pI_2]
          unfold KE at k7 ⊢
          rw [h2'', s15, s17, l20, j 73 0 (by omega), j 73 1 (by omega), j 73 2 (by omega), j 73 3 (by omega), j 73 4 (by omega)]
          refine ⟨?_, Or.inl rfl, k7.2.2⟩
          rcases k7.1 with z | z
          · exact Or.inl z
          · exact Or.inr ⟨z.1, fun p hp => by rw [j 74 p (by omega), j 75 p (by omega)]; exact z.2 p hp⟩
        obtain ⟨S2, z1, z2, z3, z4, z5⟩ := ih N (k + 1) S9 (by omega) (by omega) (IE_scr2 q4 f9 hz9 hk9) h2'' (by rw [hS9, pJ_1, pI_1, if_pos ⟨rfl, rfl⟩, hs]) (by rw [hS9, pJ_2, if_pos ⟨rfl, rfl⟩, hs])
        refine ⟨S2, ?_, z2, z3, z4, ((q5.wk PEs_PE).tr (f9.wk (fun a k h => by unfold PEt at h; unfold PE; omega))).tr z5⟩
        unfold f_X9_findBestBar_J62
        rw [sq_k, sq_k, ← hS9, show iI (k + 2 : Nat) + (1 : Int32) = iI (k + 1 + 2 : Nat) from iI_add _ 1]
        exact z1
      · rw [if_neg hc] at hs
        rw [if_pos (by rw [lI_le (by omega) (by omega)]; omega)]
        obtain ⟨S2, z1, z2, z3, z4, z5⟩ := ih N (k + 1) S8 (by omega) (by omega) q4 h2' (by rw [hs]; exact h3') (by rw [hs]; exact h4')
        exact ⟨S2, z1, z2, z3, z4, (q5.wk PEs_PE).tr z5⟩
  have hM : ∀ S1 : St, IM S1 T → ∃ S2 : St, f_X10_bestBar 103 x S1 = some (if x = 0 then lI (bestS (wrongS (tB T) (tS T)) 59) else lI (wrongS (tB T) (tS T) (bestS (wrongS (tB T) (tS T)) 59)), S2) ∧ Fr PScr S1 S2 := by
    intro S1 hM
    obtain ⟨S2, e1, e2, e3⟩ := M_plainQ hM
    have rq0 : RQ (tB T) (tB T 0 2) 0 (-4) := Or.inl ⟨by omega, by omega, rfl⟩
    have hL := VT_L hV
    have hsh := hV.2.2.2.2.1
    have he : tB T 0 5 ≤ 9 := hVB.1.2.2.2.2.2.2.1
    have key : ∀ (m N k : Nat) (S : St) (bar : Nat), k + m = 59 → m < N → MPl S (tB T) (tB T 0 2) bar (tB T 0 5) (tS T) 0 (-4) → ∃ S2 : St, f_X10_bestBar_L25 N 103 x (iI (bestS (wrongS (tB T) (tS T)) k)) (lI (wrongS (tB T) (tS T) (bestS (wrongS (tB T) (tS T)) k))) (iI (k + 2 : Nat)) S = some (if x = 0 then lI (bestS (wrongS (tB T) (tS T)) 59) else lI (wrongS (tB T) (tS T) (bestS (wrongS (tB T) (tS T)) 59)), S2) ∧ Fr PScr S S2 := by
      intro m
      induction m with
      | zero =>
        intro N k S bar hk hN h1
        obtain ⟨N, rfl⟩ : ∃ k, N = k + 1 := ⟨N - 1, by omega⟩
        have : k = 59 := by omega
        subst this
        have := hbs 59
        refine ⟨S, ?_, Fr.rf⟩
        rw [f_X10_bestBar_L25, if_pos (by rw [show (60 : Int32) = iI 60 from rfl, iI_lt (by omega) (by omega)]; omega)]
        by_cases hx : x = 0
        · rw [if_pos hx, if_pos hx, iI_l (by omega)]
        · rw [if_neg hx, if_neg hx]
      | succ m ih =>
        intro N k S bar hk hN h1
        obtain ⟨N, rfl⟩ : ∃ k, N = k + 1 := ⟨N - 1, by omega⟩
        obtain ⟨S4, q1, q2, q3⟩ := M_trial (rq := 0) (what := 3) hVB hL hsh (show k + 2 ≤ 60 by omega) he (by omega) rq0 (by omega) (MPl_19 (b := k + 2) h1)
        have q1' : f_X10_waysOf 103 3 (pI S 103 19 (iI (k + 2 : Nat))) = some (lI (wrongS (tB T) (tS T) (k + 2)), S4) := by rw [cntM_3] at q1; exact q1
        have hs : bestS (wrongS (tB T) (tS T)) (k + 1) = if wrongS (tB T) (tS T) (k + 2) < wrongS (tB T) (tS T) (bestS (wrongS (tB T) (tS T)) k) then k + 2 else bestS (wrongS (tB T) (tS T)) k := rfl
        have hw1 := hwb (k + 2)
        have hw2 := hwb (bestS (wrongS (tB T) (tS T)) k)
        have hb1 := hbs k
        obtain ⟨S5, z1, z2⟩ := ih N (k + 1) S4 (k + 2) (by omega) (by omega) (MPl_G q2)
        refine ⟨S5, ?_, (Fr.tr (Fr.pI (Or.inl ⟨rfl, by omega⟩)) q3).tr z2⟩
        rw [f_X10_bestBar_L25, if_neg (by rw [show (60 : Int32) = iI 60 from rfl, iI_lt (by omega) (by omega)]; omega), sq_k, bd_ok q1', if_neg (by rw [show (0 : Int32) = iI 0 from rfl, iI_eq (by omega) (by omega)]; omega), show iI (k + 2 : Nat) + (1 : Int32) = iI (k + 1 + 2 : Nat) from iI_add _ 1]
        by_cases hc : wrongS (tB T) (tS T) (k + 2) < wrongS (tB T) (tS T) (bestS (wrongS (tB T) (tS T)) k)
        · rw [if_pos hc] at hs
          rw [if_neg (by rw [lI_le (by omega) (by omega)]; omega)]
          rw [hs] at z1; exact z1
        · rw [if_neg hc] at hs
          rw [if_pos (by rw [lI_le (by omega) (by omega)]; omega)]
          rw [hs] at z1; exact z1
    obtain ⟨S4, q1, q2, q3⟩ := M_trial (rq := 0) (what := 3) hVB hL hsh (show 1 ≤ 60 by omega) he (by omega) rq0 (by omega) (MPl_19 (b := 1) e2)
    have q1' : f_X10_waysOf 103 3 (pI S2 103 19 1) = some (lI (wrongS (tB T) (tS T) 1), S4) := by rw [cntM_3] at q1; exact q1
    obtain ⟨F, hF⟩ : ∃ F, FU = F + 1 := FU_succ
    obtain ⟨S5, z1, z2⟩ := key 59 F 0 S4 1 (by omega) (by unfold FU at hF; omega) (MPl_G q2)
    refine ⟨S5, ?_, (e3.tr (Fr.tr (Fr.pI (Or.inl ⟨rfl, by omega⟩)) q3)).tr z2⟩
    unfold f_X10_bestBar
    rw [bd_ok (in_ok hb), if_neg (by decide), bd_ok e1, hF, f_X10_bestBar_L25, if_neg (by decide), sq_k, bd_ok q1', if_pos rfl]
    exact z1
  have fin : ∀ S9 : St, S9.1 0 16 = iI (bestS (wrongS (tB T) (tS T)) 59) → S9.2.1 0 17 = lI (wrongS (tB T) (tS T) (bestS (wrongS (tB T) (tS T)) 59)) → f_X9_bestBar_J29 0 x S9 = some (if x = 0 then lI (bestS (wrongS (tB T) (tS T)) 59) else lI (wrongS (tB T) (tS T) (bestS (wrongS (tB T) (tS T)) 59)), S9) := by
    intro S9 h1 h2
    have := hbs 59
    unfold f_X9_bestBar_J29
    by_cases hx : x = 0
    · rw [if_pos hx, if_pos hx, h1, iI_l (by omega)]
    · rw [if_neg hx, if_neg hx, h2]
  obtain ⟨-, -, -, -, -, -, t7⟩ := IE_has hE
  by_cases h16 : S.1 0 14 = 0
  · -- the first bar
    obtain ⟨S1, S8, q1, q2, q3, q4, q5⟩ := E_barTry (b := 1) hV hE (by omega)
    obtain ⟨F, hF⟩ : ∃ F, FU = F + 1 := FU_succ
    obtain ⟨S9, hS9⟩ : ∃ S9, S9 = pJ (pI S8 0 16 (iI (1 : Nat))) 0 17 (lI (wrongS (tB T) (tS T) 1)) := ⟨_, rfl⟩
    have h2' : S8.1 0 14 = 0 := by rw [q5.1 0 14 (by unfold PEs; omega)]; exact h16
    have f9 : Fr PEt S8 S9 := by rw [hS9]; exact (Fr.pI (Or.inr ⟨rfl, by omega⟩)).tr (Fr.pJ (Or.inr ⟨rfl, by omega⟩))
    have r9 : ∀ a, a ≠ 0 → S9.1 a = S8.1 a := fun a ha => by rw [hS9, pJ_1, pI_row ha]
    have h2'' : S9.1 0 14 = 0 := by rw [hS9, pJ_1, pI_1, if_neg (by omega)]; exact h2'
    have hz9 : ZE S9 := by
      have := IE_Z q4
      unfold ZE at this ⊢
      rw [r9 70 (by omega), r9 71 (by omega), r9 72 (by omega), r9 78 (by omega), r9 84 (by omega)]; exact this
    have hk9 : KE S9 (tB T) (tS T) := by
      obtain ⟨-, -, -, -, -, -, k7⟩ := IE_has q4
      have j : ∀ a k, a ≠ 0 → S9.2.1 a k = S8.2.1 a k := fun a k ha => by rw [hS9, pJ_2, if_neg (by omega), pI_2]
      have s15 : S9.1 0 13 = S8.1 0 13 := by rw [hS9, pJ_1, pI_1, if_neg (by omega)]
      have s17 : S9.1 0 15 = S8.1 0 15 := by rw [hS9, pJ_1, pI_1, if_neg (by omega)]
      have l20 : S9.2.1 0 18 = S8.2.1 0 18 := by rw [hS9, pJ_2, if_neg (by omega), pI_2]
      unfold KE at k7 ⊢
      rw [h2'', s15, s17, l20, j 73 0 (by omega), j 73 1 (by omega), j 73 2 (by omega), j 73 3 (by omega), j 73 4 (by omega)]
      refine ⟨?_, Or.inl rfl, k7.2.2⟩
      rcases k7.1 with z | z
      · exact Or.inl z
      · exact Or.inr ⟨z.1, fun p hp => by rw [j 74 p (by omega), j 75 p (by omega)]; exact z.2 p hp⟩
    obtain ⟨S2, z1, z2, z3, z4, z5⟩ := keyE 59 F 0 S9 (by omega) (by unfold FU at hF; omega) (IE_scr2 q4 f9 hz9 hk9) h2'' (by rw [hS9, pJ_1, pI_1, if_pos ⟨rfl, rfl⟩]; rfl) (by rw [hS9, pJ_2, if_pos ⟨rfl, rfl⟩]; rfl)
    obtain ⟨S10, hS10⟩ : ∃ S10, S10 = pI S2 0 14 1 := ⟨_, rfl⟩
    have f10 : Fr PEt S2 S10 := by rw [hS10]; exact Fr.pI (Or.inr ⟨rfl, by omega⟩)
    have r10 : ∀ a, a ≠ 0 → S10.1 a = S2.1 a := fun a ha => by rw [hS10, pI_row ha]
    have h18 : S10.1 0 16 = iI (bestS (wrongS (tB T) (tS T)) 59) := by rw [hS10, pI_1, if_neg (by omega)]; exact z3
    have h19 : S10.2.1 0 17 = lI (wrongS (tB T) (tS T) (bestS (wrongS (tB T) (tS T)) 59)) := by rw [hS10]; exact z4
    have hz10 : ZE S10 := by
      have := IE_Z z2
      unfold ZE at this ⊢
      rw [r10 70 (by omega), r10 71 (by omega), r10 72 (by omega), r10 78 (by omega), r10 84 (by omega)]; exact this
    have hk10 : KE S10 (tB T) (tS T) := by
      obtain ⟨-, -, -, -, -, -, k7⟩ := IE_has z2
      refine ⟨?_, Or.inr ⟨h18, h19⟩, ?_⟩
      · rw [hS10, pI_1, if_neg (by omega), pI_2]; exact k7.1
      · rw [hS10, pI_1, if_neg (by omega), pI_2]; exact k7.2.2
    refine ⟨_, S10, ⟨?_, IE_scr2 z2 f10 hz10 hk10, (((q5.wk PEs_PE).tr (f9.wk (fun a k h => by unfold PEt at h; unfold PE; omega))).tr z5).tr (f10.wk (fun a k h => by unfold PEt at h; unfold PE; omega))⟩, hM⟩
    unfold f_X9_bestBar f_X9_findBestBar
    rw [bd_ok (within_ok hb), if_neg (by decide), if_pos h16, hF, f_X9_findBestBar_L2, if_neg (by decide), bd_ok q1, sq_k]
    dsimp only [Nat.reduceAdd]
    have q2' : f_X8_goThrough 79 47 0 (pI S1 47 3 1) = some ((), S8) := q2
    rw [bd_ok q2', sq_k, q3, if_pos rfl]
    unfold f_X9_findBestBar_J62
    have z1' : f_X9_findBestBar_L2 F 0 (1 + 1) S9 = some ((), S2) := z1
    have hS9' : pJ (pI S8 0 16 1) 0 17 (lI (wrongS (tB T) (tS T) 1)) = S9 := hS9.symm
    rw [sq_k, sq_k, hS9', bd_ok z1', sq_k, ← hS10]
    exact fin S10 h18 h19
  · refine ⟨_, S, ⟨?_, hE, Fr.rf⟩, hM⟩
    unfold f_X9_bestBar
    rw [bd_ok (within_ok hb), if_neg (by decide), if_neg h16]
    rcases t7.2.1 with z | z
    · exact absurd z h16
    · exact fin S z.1 z.2
