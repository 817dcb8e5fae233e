/-! calls that ask nothing of the ways -/
/-- the class's half: a call answers, what is seen afterwards is as T2 tells, on the same board -/
def OkB {α : Type} (fE : St → Option (α × St)) : Prop := ∀ (S : St) (T : Tst), VT T → IE S T → ∃ (v : α) (T2 : Tst) (S1 : St), fE S = some (v, S1) ∧ VT T2 ∧ IE S1 T2 ∧ tB T2 = tB T
def Okk {α : Type} (fE _fM : St → Option (α × St)) : Prop := OkB fE
theorem Okk_of {α : Type} {fE fM : St → Option (α × St)} (h : ∀ (S : St) (T : Tst), VT T → IE S T → ∃ (v : α) (T2 : Tst) (S1 : St), (fE S = some (v, S1) ∧ IE S1 T2 ∧ Fr PE S S1) ∧ VT T2 ∧ tB T2 = tB T ∧ ∀ S1 : St, IM S1 T → ∃ S2 : St, fM S1 = some (v, S2) ∧ IM S2 T2 ∧ Fr PM S1 S2) : Okk fE fM := by
  intro S T hV hE
  obtain ⟨v, T2, S1, ⟨h1, h2, h3⟩, h4, h5, h6⟩ := h S T hV hE
  exact ⟨v, T2, S1, h1, h4, h2, h5⟩
/-- a number out of its bounds -/
def bad (x : Int32) (lo hi : Int) : Prop := x.toInt < lo ∨ hi < x.toInt
theorem bad_in {x : Int32} {m : Nat} (h : ¬ bad x 0 m) : ∃ n : Nat, n ≤ m ∧ x = iI n := by
  unfold bad at h
  refine ⟨x.toInt.toNat, by omega, ?_⟩
  rw [← iI_of x, iI_of x]
  have : ((x.toInt.toNat : Nat) : Int) = x.toInt := by omega
  rw [this, iI_of]
theorem sp_within {x a b : Int32} {S : St} : f_X9_isWithin x a b S = some (if x.toInt < a.toInt ∨ b.toInt < x.toInt then (0 : Int32) else 1, S) := by
  unfold f_X9_isWithin
  by_cases h1 : x < a
  · rw [if_pos h1, if_pos (Or.inl (Int32.lt_iff_toInt_lt.mp h1))]
  · rw [if_neg h1]
    by_cases h2 : b < x
    · rw [if_pos h2, if_pos (Or.inr (Int32.lt_iff_toInt_lt.mp h2))]
    · rw [if_neg h2, if_neg]
      rintro (h | h)
      · exact h1 (Int32.lt_iff_toInt_lt.mpr h)
      · exact h2 (Int32.lt_iff_toInt_lt.mpr h)
theorem sp_in {x a b : Int64} {S : St} : f_X10_in x a b S = some (if x.toInt < a.toInt ∨ b.toInt < x.toInt then (0 : Int32) else 1, S) := by
  unfold f_X10_in
  by_cases h1 : x < a
  · rw [if_pos h1, if_pos (Or.inl (Int64.lt_iff_toInt_lt.mp h1))]
  · rw [if_neg h1]
    by_cases h2 : b < x
    · rw [if_pos h2, if_pos (Or.inr (Int64.lt_iff_toInt_lt.mp h2))]
    · rw [if_neg h2, if_neg]
      rintro (h | h)
      · exact h1 (Int64.lt_iff_toInt_lt.mpr h)
      · exact h2 (Int64.lt_iff_toInt_lt.mpr h)
theorem within_bad {x a b : Int32} {S : St} (h : bad x a.toInt b.toInt) : f_X9_isWithin x a b S = some (0, S) := by unfold bad at h; rw [sp_within, if_pos h]
theorem within_ok {x a b : Int32} {S : St} (h : ¬ bad x a.toInt b.toInt) : f_X9_isWithin x a b S = some (1, S) := by unfold bad at h; rw [sp_within, if_neg h]
theorem in_bad {x : Int32} {a b : Int64} {S : St} (h : bad x a.toInt b.toInt) : f_X10_in (Int32.toInt64 x) a b S = some (0, S) := by unfold bad at h; rw [sp_in, Int32.toInt_toInt64, if_pos h]
theorem in_ok {x : Int32} {a b : Int64} {S : St} (h : ¬ bad x a.toInt b.toInt) : f_X10_in (Int32.toInt64 x) a b S = some (1, S) := by unfold bad at h; rw [sp_in, Int32.toInt_toInt64, if_neg h]
theorem pI_row {S : St} {c k a : Nat} {v : Int32} (h : a ≠ c) : (pI S c k v).1 a = S.1 a := up2_ne _ _ _ h
theorem IEp_of {P Q : Nat} {S S2 : St} {T T2 : Tst} (hPQ : (P = 5 ∧ Q = 15) ∨ (P = 15 ∧ Q = 5)) (h : IEp P Q S T) (hrow : ∀ a, 3 ≤ a → a < 99 → S2.1 a = S.1 a) (hR : S2.2.2 = S.2.2) (hB : tB T2 = tB T)
    (t1 : S2.1 1 1 = iI (tN T2)) (t2 : ∀ k, k < tN T2 → S2.1 2 k = iI (tT T2 k)) (t3 : ∀ i, i < 8 → S2.1 99 i = iI (tR T2 i)) (t4 : S2.1 0 11 = iI (tS T2)) (t5 : S2.1 100 0 = iI (tK T2))
    (t6 : ∀ j, j < tK T2 → S2.1 102 j = iI (tKs T2 j) ∧ ∀ i, i < 8 → S2.1 101 (8 * j + i) = iI (tKr T2 j i)) (t7 : KE S2 (tB T) (tS T2)) : IEp P Q S2 T2 := by
  obtain ⟨⟨hp1, hp2, hz⟩, -, -, hBE, hCE, -, -, -, -, -⟩ := h
  unfold IEp
  rw [hB, hR]
  refine ⟨⟨hp1, hp2, ?_⟩, t1, t2, ?_, ?_, t3, t4, t5, t6, t7⟩
  · unfold ZE at hz ⊢
    rw [hrow 70 (by omega) (by omega), hrow 71 (by omega) (by omega), hrow 72 (by omega) (by omega), hrow 78 (by omega) (by omega), hrow 84 (by omega) (by omega)]
    exact hz
  · unfold BE at hBE ⊢
    have r : ∀ j, j ≤ 9 → S2.1 (P + j) = S.1 (P + j) := fun j hj => hrow _ (by omega) (by omega)
    have r0 := r 0 (by omega)
    rw [Nat.add_zero] at r0
    rw [r0, r 1 (by omega), r 2 (by omega), r 3 (by omega), r 4 (by omega), r 5 (by omega), r 6 (by omega), r 7 (by omega), r 8 (by omega), r 9 (by omega)]
    exact hBE
  · unfold CE at hCE ⊢
    have r : ∀ j, j ≤ 9 → S2.1 (25 + j) = S.1 (25 + j) := fun j hj => hrow _ (by omega) (by omega)
    have r0 := r 0 (by omega)
    rw [Nat.add_zero] at r0
    rw [r0, r 1 (by omega), r 2 (by omega), r 3 (by omega), r 4 (by omega), r 5 (by omega), r 6 (by omega), r 7 (by omega), r 8 (by omega), r 9 (by omega)]
    exact hCE
theorem IE_of2 {S S2 : St} {T T2 : Tst} (h : IE S T) (hrow : ∀ a, 3 ≤ a → a < 99 → S2.1 a = S.1 a) (hR : S2.2.2 = S.2.2) (hB : tB T2 = tB T)
    (t1 : S2.1 1 1 = iI (tN T2)) (t2 : ∀ k, k < tN T2 → S2.1 2 k = iI (tT T2 k)) (t3 : ∀ i, i < 8 → S2.1 99 i = iI (tR T2 i)) (t4 : S2.1 0 11 = iI (tS T2)) (t5 : S2.1 100 0 = iI (tK T2))
    (t6 : ∀ j, j < tK T2 → S2.1 102 j = iI (tKs T2 j) ∧ ∀ i, i < 8 → S2.1 101 (8 * j + i) = iI (tKr T2 j i)) (t7 : KE S2 (tB T) (tS T2)) : IE S2 T2 := by
  rcases h with h | h
  · exact Or.inl (IEp_of (Or.inl ⟨rfl, rfl⟩) h hrow hR hB t1 t2 t3 t4 t5 t6 t7)
  · exact Or.inr (IEp_of (Or.inr ⟨rfl, rfl⟩) h hrow hR hB t1 t2 t3 t4 t5 t6 t7)
/-- what IE says, but for the board and who come -/
theorem IE_has {S : St} {T : Tst} (h : IE S T) : S.1 1 1 = iI (tN T) ∧ (∀ k, k < tN T → S.1 2 k = iI (tT T k)) ∧ (∀ i, i < 8 → S.1 99 i = iI (tR T i)) ∧ S.1 0 11 = iI (tS T) ∧ S.1 100 0 = iI (tK T) ∧ (∀ j, j < tK T → S.1 102 j = iI (tKs T j) ∧ ∀ i, i < 8 → S.1 101 (8 * j + i) = iI (tKr T j i)) ∧ KE S (tB T) (tS T) := by
  rcases h with h | h
  · obtain ⟨-, a1, a2, -, -, a3, a4, a5, a6, a7⟩ := h; exact ⟨a1, a2, a3, a4, a5, a6, a7⟩
  · obtain ⟨-, a1, a2, -, -, a3, a4, a5, a6, a7⟩ := h; exact ⟨a1, a2, a3, a4, a5, a6, a7⟩
theorem KE_of {S S2 : St} {B : Bd} {sh : Nat} (h : KE S B sh) (h1 : ∀ k, 13 ≤ k → S2.1 0 k = S.1 0 k) (h2 : S2.2.1 = S.2.1) : KE S2 B sh := by
  unfold KE at h ⊢
  rw [h1 13 (by omega), h1 14 (by omega), h1 15 (by omega), h1 16 (by omega), h2]
  exact h
theorem KE_off {S S2 : St} {B : Bd} {sh sh2 : Nat} (h : KE S B sh) (h1 : S2.1 0 13 = 0) (h2 : S2.1 0 14 = 0) (h3 : S2.1 0 15 = S.1 0 15) (h4 : S2.2.1 = S.2.1) : KE S2 B sh2 := by
  unfold KE at h ⊢
  rw [h1, h2, h3, h4]
  exact ⟨Or.inl rfl, Or.inl rfl, h.2.2⟩
def setS (T : Tst) (n : Nat) : Tst := (T.1, T.2.1, T.2.2.1, n, T.2.2.2.2)
def setR (T : Tst) (i n : Nat) : Tst := (T.1, T.2.1, (fun j => if j = i then n else T.2.2.1 j), T.2.2.2)
def setN (T : Tst) (n : Nat) : Tst := ((n, T.1.2), T.2)
theorem ok_show (x : Int32) : Okk (f_X9_show 0 x) (f_X10_show 103 x) := by
  apply Okk_of
  intro S T hV hE
  obtain ⟨t1, t2, t3, t4, t5, t6, t7⟩ := IE_has hE
  by_cases hb : bad x 0 2
  · refine ⟨-1, T, S, ⟨?_, hE, Fr.rf⟩, hV, rfl, fun S1 hM => ⟨S1, ?_, hM, Fr.rf⟩⟩
    · unfold f_X9_show; rw [bd_ok (within_bad hb)]; rfl
    · unfold f_X10_show; rw [bd_ok (in_bad hb)]; rfl
  · obtain ⟨n, hn, rfl⟩ := bad_in (m := 2) hb
    refine ⟨iI (tS T), setS T n, pI (pI (pI S 0 11 (iI n)) 0 13 0) 0 14 0, ⟨?_, ?_, ?_⟩, ?_, rfl, fun S1 hM => ⟨pI S1 118 0 (iI n), ?_, ?_, ?_⟩⟩
    · unfold f_X9_show; rw [bd_ok (within_ok hb), ← t4]; rfl
    · refine IE_of2 hE (fun a h1 h2 => ?_) rfl rfl ?_ ?_ ?_ ?_ ?_ ?_ ?_
      · rw [pI_row (by omega), pI_row (by omega), pI_row (by omega)]
      · rw [pI_row (by omega), pI_row (by omega), pI_row (by omega)]; exact t1
      · rw [pI_row (by omega), pI_row (by omega), pI_row (by omega)]; exact t2
      · rw [pI_row (by omega), pI_row (by omega), pI_row (by omega)]; exact t3
      · simp [pI_1, setS, tS]
      · simp only [pI_1]; exact t5
      · rw [pI_row (by omega), pI_row (by omega), pI_row (by omega), pI_row (by omega), pI_row (by omega), pI_row (by omega)]; exact t6
      · exact KE_off t7 (by simp [pI_1]) (by simp [pI_1]) (by simp [pI_1]) rfl
    · exact ((Fr.pI (by unfold PE; omega)).tr (Fr.pI (by unfold PE; omega))).tr (Fr.pI (by unfold PE; omega))
    · obtain ⟨v1, v2, v3, v4, v5, v6, v7, v8⟩ := hV
      exact ⟨v1, v2, v3, v4, hn, v6, v7, v8⟩
    · unfold f_X10_show; rw [bd_ok (in_ok hb)]
      obtain ⟨-, -, -, -, m5, -⟩ := hM
      rw [← m5]; rfl
    · obtain ⟨m1, m2, m3, m4, m5, m6, m7⟩ := hM
      refine ⟨m1, m2, ?_, m4, by simp [pI_1, setS, tS], m6, fun j hj => ⟨?_, (m7 j hj).2⟩⟩
      · unfold BM at m3 ⊢; exact m3
      · rw [pI_1, if_neg (by omega)]; exact (m7 j hj).1
    · exact Fr.pI (by unfold PM; omega)
