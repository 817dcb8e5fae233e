theorem IEp_rd {P Q : Nat} {S S2 : St} {T : Tst} (hPQ : (P = 5 ∧ Q = 15) ∨ (P = 15 ∧ Q = 5)) (h : IEp P Q S T) (hf : Fr (PRE Q) S S2) : IEp P Q S2 T := by
  obtain ⟨⟨hp1, hp2, hz⟩, t1, t2, hBE, hCE, t3, t4, t5, t6, t7⟩ := h
  have np : ∀ a k, (a ≤ 2 ∨ (P ≤ a ∧ a ≤ P + 9) ∨ 25 ≤ a) → ¬ PRE Q a k := fun a k ha => by unfold PRE PQ; omega
  have r : ∀ a, (a ≤ 2 ∨ (P ≤ a ∧ a ≤ P + 9) ∨ 25 ≤ a) → S2.1 a = S.1 a := fun a ha => funext fun k => hf.1 a k (np a k ha)
  have rj : ∀ a, (a ≤ 2 ∨ (P ≤ a ∧ a ≤ P + 9) ∨ 25 ≤ a) → S2.2.1 a = S.2.1 a := fun a ha => funext fun k => hf.2.1 a k (np a k ha)
  refine ⟨⟨?_, ?_, ?_⟩, ?_, ?_, BE_row hBE (fun j hj => r _ (by omega)), CE_row hCE (fun j hj => r _ (by omega)), ?_, ?_, ?_, ?_, ?_⟩
  · rw [hf.2.2 0 2 (np 0 2 (by omega))]; exact hp1
  · rw [hf.2.2 0 3 (np 0 3 (by omega))]; exact hp2
  · unfold ZE at hz ⊢
    rw [r 70 (by omega), r 71 (by omega), r 72 (by omega), r 78 (by omega), r 84 (by omega)]; exact hz
  · rw [r 1 (by omega)]; exact t1
  · rw [r 2 (by omega)]; exact t2
  · rw [r 99 (by omega)]; exact t3
  · rw [r 0 (by omega)]; exact t4
  · rw [r 100 (by omega)]; exact t5
  · rw [r 101 (by omega), r 102 (by omega)]; exact t6
  · unfold KE at t7 ⊢
    rw [r 0 (by omega), rj 0 (by omega), rj 73 (by omega), rj 74 (by omega), rj 75 (by omega)]; exact t7
theorem IE_TE {S : St} {T : Tst} (hV : VT T) (h : IE S T) : TE S (tT T) (tN T) := by
  obtain ⟨t1, t2, -⟩ := IE_has h
  exact ⟨hV.1, hV.2.1, t1, t2⟩
/-- the two plans -/
theorem IE_PQ {S : St} {T : Tst} (h : IE S T) : ∃ P Q, ((P = 5 ∧ Q = 15) ∨ (P = 15 ∧ Q = 5)) ∧ IEp P Q S T := by
  rcases h with h | h
  · exact ⟨5, 15, Or.inl ⟨rfl, rfl⟩, h⟩
  · exact ⟨15, 5, Or.inr ⟨rfl, rfl⟩, h⟩
theorem IE_of3 {P Q : Nat} {S : St} {T : Tst} (hPQ : (P = 5 ∧ Q = 15) ∨ (P = 15 ∧ Q = 5)) (h : IEp P Q S T) : IE S T := by
  rcases hPQ with ⟨rfl, rfl⟩ | ⟨rfl, rfl⟩
  · exact Or.inl h
  · exact Or.inr h
theorem E_readT {S : St} {T : Tst} (hV : VT T) (hE : IE S T) : ∃ (P Q : Nat) (S2 : St), ((P = 5 ∧ Q = 15) ∨ (P = 15 ∧ Q = 5)) ∧ S.2.2 0 3 = Q ∧ f_X3_read 3 1 Q S = some (iI (rdS (tN T) (rdB (tT T) (tN T))), S2) ∧ IEp P Q S2 T ∧ ((rdB (tT T) (tN T)).2.2 = true → BE S2 Q (rdB (tT T) (tN T)).2.1 ∧ VB0 (rdB (tT T) (tN T)).2.1) ∧ Fr PE S S2 := by
  obtain ⟨P, Q, hPQ, h⟩ := IE_PQ hE
  have hQ : Q = 5 ∨ Q = 15 := by omega
  obtain ⟨S2, y1, y2, y3⟩ := E_read hQ (IE_TE hV hE)
  exact ⟨P, Q, S2, hPQ, h.1.2.1, y1, IEp_rd hPQ h y2, y3, y2.wk (fun a k z => by unfold PRE PQ at z; unfold PE; omega)⟩
/-! lay -/
theorem VB_of {B : Bd} (hV : VB0 B) (hw : whB B = true) (h0 : B 9 0 ≠ 0) : VB B := by
  obtain ⟨ha, ⟨b1, b2, b3⟩, b4, b5, b6⟩ := hV
  have hw2 : ∀ s, s < B 9 0 → natTo (fun k => B 6 (3 * s + k)) (B 4 s) = 10 := fun s hs => of_decide_eq_true ((allFr_iff _ _ _).mp hw s (Nat.zero_le _) (by omega))
  have h91 : 1 ≤ B 9 1 := by
    rw [b3]
    have h1 := natTo_le_of (f := B 10) (show 1 ≤ B 9 0 by omega)
    have h2 : natTo (B 10) 1 = 0 + B 10 0 := rfl
    have h3 := (b4 0 (by omega)).2.2.2.2.1
    omega
  refine ⟨ha, ⟨by omega, b1, h91, b2⟩, fun s hs => ?_, b5⟩
  obtain ⟨a1, a2, a3, a4, a5, a6, a7, a8, a9⟩ := b4 s hs
  have h10 := hw2 s hs
  have h4 : 1 ≤ B 4 s := by
    by_cases hc : B 4 s = 0
    · rw [hc] at h10
      have h11 : (0 : Nat) = 10 := h10
      omega
    · omega
  exact ⟨a1, a2, a3, h4, a4, h10, a9⟩
def setLay (T : Tst) (B : Bd) : Tst := (T.1, B, (fun _ => 0), 0, 0, tKr T, tKs T)
theorem rdS_n4 {n : Nat} {r : Nat × Bd × Bool} : rdS n r = -4 ↔ r.2.2 = true ∧ whB r.2.1 = true := by
  unfold rdS
  by_cases h1 : r.2.2 = true
  · rw [if_pos h1]
    by_cases h2 : whB r.2.1 = true
    · rw [if_pos h2]; exact ⟨fun _ => ⟨h1, h2⟩, fun _ => rfl⟩
    · rw [if_neg h2]; exact ⟨fun z => absurd z (by omega), fun z => absurd z.2 h2⟩
  · rw [if_neg h1]; exact ⟨fun z => absurd z (by omega), fun z => absurd z.1 h1⟩
theorem parS_le {t : Nat → Nat} {n : Nat} : ∀ (f q : Nat) (B : Bd), q ≤ n → VB0 B → (parS t n f q B).1 ≤ n
  | 0, q, B, h, _ => h
  | f + 1, q, B, h, hV => by
    unfold parS
    by_cases hn : n ≤ q
    · rw [if_pos hn]; exact h
    · rw [if_neg hn]
      cases hit : itemS t n q B with
      | none => exact h
      | some r =>
        obtain ⟨k1, k2, k3⟩ := itemS_bd (q2 := r.1) (B2 := r.2) (by omega) hV hit
        exact parS_le f r.1 r.2 k2 k3
theorem rdS_bd {t : Nat → Nat} {n : Nat} (hn : n ≤ 300) : -4 ≤ rdS n (rdB t n) ∧ rdS n (rdB t n) ≤ 300 := by
  have h := parS_le (t := t) (n := n) n 0 clrB (Nat.zero_le _) clrB_V
  have h' : (rdB t n).1 ≤ n := h
  unfold rdS
  by_cases h1 : (rdB t n).2.2 = true
  · rw [if_pos h1]
    by_cases h2 : whB (rdB t n).2.1 = true
    · rw [if_pos h2]; omega
    · rw [if_neg h2]; omega
  · rw [if_neg h1]; omega
/-- the class lays what was read -/
theorem E_lay {P Q : Nat} {S : St} {T : Tst} {B : Bd} (hPQ : (P = 5 ∧ Q = 15) ∨ (P = 15 ∧ Q = 5)) (hE : IEp P Q S T) (hB : BE S Q B) (hVB : VB B) :
    ∃ (S9 : St), (sq (pR S 0 2 (S.2.2 0 3)) fun S10 => sq (pR S10 0 3 (S.2.2 0 2)) fun S11 => ck (kdE (S11.2.2 0 2) = 2) (ck (kdE (S11.2.2 0 2) = 2) (bd (f_X0_arrange 25 (S11.2.2 0 2) (S11.1 (S11.2.2 0 2) 2) S11) fun x14 S15 => bd (f_J7_fill_53178 99 (0 : Int32) S15) fun _ S17 => sq (pI S17 0 11 (0 : Int32)) fun S20 => sq (pI S20 100 0 (0 : Int32)) fun S21 => sq (pI S21 0 15 (0 : Int32)) fun S22 => bd (f_X9_forgetWays 0 S22) fun _ S23 => ck (kdE (S23.2.2 0 2) = 2) (some ((S23.1 ((S23.2.2 0 2) + 1) 1), S23))))) = some (iI (B 9 1), S9) ∧ IEp Q P S9 (setLay T B) ∧ Fr PE S S9 := by
  obtain ⟨⟨hp1, hp2, hz⟩, t1, t2, hBE, hCE, t3, t4, t5, t6, t7⟩ := hE
  have hQ : Q = 5 ∨ Q = 15 := by omega
  have hL : B 0 2 ≤ 30 := hVB.1.2.2.2.1
  obtain ⟨S1, hS1⟩ : ∃ S1, S1 = pR (pR S 0 2 Q) 0 3 P := ⟨_, rfl⟩
  have r1 : S1.1 = S.1 := by rw [hS1]; rfl
  have q2 : S1.2.2 0 2 = Q := by rw [hS1, pR_3, if_neg (by omega), pR_3, if_pos ⟨rfl, rfl⟩]
  have q3 : S1.2.2 0 3 = P := by rw [hS1, pR_3, if_pos ⟨rfl, rfl⟩]
  have w0 : ∀ k, PE 0 k := fun k => by unfold PE; omega
  have f1 : Fr PE S S1 := by rw [hS1]; exact (Fr.pR (w0 2)).tr (Fr.pR (w0 3))
  have hB1 : BE S1 Q B := BE_row hB (fun j hj => by rw [r1])
  obtain ⟨S2, o, a1, a2, a3, a4, a5⟩ := E_arrange (L := B 0 2) hVB hL hQ (Or.inl rfl) hB1
  obtain ⟨S3, b1, b2, b3⟩ := E_fillI0 (c := 99) (n := 8) (v := 0) (S := S2) rfl (by omega)
  obtain ⟨S9, hS9⟩ : ∃ S9, S9 = pI (pI (pI (pI (pI S3 0 11 0) 100 0 0) 0 15 0) 0 13 0) 0 14 0 := ⟨_, rfl⟩
  have r9 : ∀ a, (a ≠ 0 ∧ a ≠ 100) → S9.1 a = S3.1 a := fun a ha => by rw [hS9, pI_row ha.1, pI_row ha.1, pI_row ha.1, pI_row ha.2, pI_row ha.1]
  have r3 : ∀ a, a ≠ 99 → S3.1 a = S2.1 a := fun a ha => funext fun k => b3.1 a k ha
  have r2 : ∀ a, (a < 25 ∨ 35 < a) → S2.1 a = S1.1 a := fun a ha => funext fun k => a5.1 a k (by omega)
  have rr : ∀ a, (a ≠ 0 ∧ a ≠ 100) → a ≠ 99 → (a < 25 ∨ 35 < a) → S9.1 a = S.1 a := fun a h1 h2 h3 => by rw [r9 a h1, r3 a h2, r2 a h3, r1]
  have p2 : S9.2.2 0 2 = Q := by
    have e : S9.2 = S3.2 := by rw [hS9]; rfl
    rw [e, b3.2.2 0 2 (by omega), a5.2.2 0 2 (by omega)]; exact q2
  have p3 : S9.2.2 0 3 = P := by
    have e : S9.2 = S3.2 := by rw [hS9]; rfl
    rw [e, b3.2.2 0 3 (by omega), a5.2.2 0 3 (by omega)]; exact q3
  have hB9 : BE S9 Q B := BE_row hB (fun j hj => rr _ (by omega) (by omega) (by omega))
  have hC9 : CE S9 25 B (B 0 2) := CE_row a2 (fun j hj => by rw [r9 _ (by omega), r3 _ (by omega)])
  have hw25 : ∀ a k, (25 ≤ a ∧ a ≤ 25 + 10) → PE a k := fun a k h => by unfold PE; omega
  have hw99 : ∀ a k, (a = 99) → PE a k := fun a k h => by unfold PE; omega
  refine ⟨S9, ?_, ⟨⟨p2, p3, ?_⟩, ?_, ?_, hB9, hC9, fun i hi => ?_, ?_, ?_, fun j hj => absurd hj (Nat.not_lt_zero _), ?_⟩, ?_⟩
  · rw [hp1, hp2, sq_k, sq_k, ← hS1, q2, ck_pos (kdE_P hQ), ck_pos (kdE_P hQ), hB1.1.2.2.1, bd_ok a1, bd_ok b1, sq_k, sq_k, sq_k]
    unfold f_X9_forgetWays
    rw [sq_k, sq_k, bd_ok rfl, ← hS9, p2, ck_pos (kdE_P hQ), hB9.2.2.1]
  · unfold ZE at hz ⊢
    rw [rr 70 (by omega) (by omega) (by omega), rr 71 (by omega) (by omega) (by omega), rr 72 (by omega) (by omega) (by omega), rr 78 (by omega) (by omega) (by omega), rr 84 (by omega) (by omega) (by omega)]; exact hz
  · rw [rr 1 (by omega) (by omega) (by omega)]; exact t1
  · rw [rr 2 (by omega) (by omega) (by omega)]; exact t2
  · rw [r9 99 (by omega), b2 i hi]; rfl
  · rw [hS9, pI_1, if_neg (by omega), pI_1, if_neg (by omega), pI_1, if_neg (by omega), pI_1, if_neg (by omega), pI_1, if_pos ⟨rfl, rfl⟩]; rfl
  · rw [hS9, pI_1, if_neg (by omega), pI_1, if_neg (by omega), pI_1, if_neg (by omega), pI_1, if_pos ⟨rfl, rfl⟩]; rfl
  · refine ⟨Or.inl ?_, Or.inl ?_, Or.inl ?_⟩
    · rw [hS9, pI_1, if_neg (by omega), pI_1, if_pos ⟨rfl, rfl⟩]
    · rw [hS9, pI_1, if_pos ⟨rfl, rfl⟩]
    · rw [hS9, pI_1, if_neg (by omega), pI_1, if_neg (by omega), pI_1, if_pos ⟨rfl, rfl⟩]
  · have f9 : Fr PE S3 S9 := by
      rw [hS9]
      exact ((((Fr.pI (w0 _)).tr (Fr.pI (show PE 100 0 by unfold PE; omega))).tr (Fr.pI (w0 _))).tr (Fr.pI (w0 _))).tr (Fr.pI (w0 _))
    exact ((f1.tr (a5.wk hw25)).tr (b3.wk hw99)).tr f9
