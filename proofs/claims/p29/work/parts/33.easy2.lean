theorem BM_of {S S2 : St} {B : Bd} (h : BM S B) (hr : ∀ a, 105 ≤ a → a ≤ 117 → S2.1 a = S.1 a) (h13 : S2.1 103 13 = S.1 103 13) : BM S2 B := by
  unfold BM at h ⊢
  rw [hr 105 (by omega) (by omega), hr 106 (by omega) (by omega), hr 108 (by omega) (by omega), hr 109 (by omega) (by omega), hr 112 (by omega) (by omega), hr 113 (by omega) (by omega), hr 114 (by omega) (by omega), hr 115 (by omega) (by omega), hr 116 (by omega) (by omega), hr 117 (by omega) (by omega), h13]
  exact h
theorem IE_P {S : St} {T : Tst} (h : IE S T) : ∃ P, (P = 5 ∨ P = 15) ∧ S.2.2 0 2 = P ∧ BE S P (tB T) := by
  rcases h with h | h
  · exact ⟨5, Or.inl rfl, h.1.1, h.2.2.2.1⟩
  · exact ⟨15, Or.inr rfl, h.1.1, h.2.2.2.1⟩
theorem kdE_P {P : Nat} (h : P = 5 ∨ P = 15) : kdE P = 2 := by rcases h with rfl | rfl <;> rfl
theorem E_isGiver_bad {S : St} {T : Tst} {x : Int32} (hV : VT T) (h : IE S T) (hb : bad x 0 ((tB T 9 1 : Int) - 1)) : f_X9_isGiver 0 x S = some (0, S) := by
  obtain ⟨P, h1, h2, h3⟩ := IE_P h
  have hg : S.1 (P + 1) 1 = iI (tB T 9 1) := h3.2.2.1
  have hn : tB T 9 1 ≤ 8 := hV.2.2.1.2.1.2.2.2
  unfold f_X9_isGiver
  by_cases hx : x < 0
  · rw [if_pos hx]
  · rw [if_neg hx, h2, ck_pos (kdE_P h1), hg, if_pos]
    have hx' : ¬ x.toInt < 0 := fun q => hx (Int32.lt_iff_toInt_lt.mpr q)
    unfold bad at hb
    rw [← iI_of x, iI_le (by omega) (iI_range x)]; omega
theorem E_isGiver_ok {S : St} {T : Tst} {x : Int32} (hV : VT T) (h : IE S T) (hb : ¬ bad x 0 ((tB T 9 1 : Int) - 1)) : f_X9_isGiver 0 x S = some (1, S) := by
  obtain ⟨P, h1, h2, h3⟩ := IE_P h
  have hg : S.1 (P + 1) 1 = iI (tB T 9 1) := h3.2.2.1
  have hn : tB T 9 1 ≤ 8 := hV.2.2.1.2.1.2.2.2
  unfold bad at hb
  unfold f_X9_isGiver
  rw [if_neg (fun q => hb (Or.inl (Int32.lt_iff_toInt_lt.mp q))), h2, ck_pos (kdE_P h1), hg, if_neg]
  rw [← iI_of x, iI_le (by omega) (iI_range x)]; omega
theorem M_isGiver_bad {S : St} {T : Tst} {x : Int32} (hV : VT T) (h : IM S T) (hb : bad x 0 ((tB T 9 1 : Int) - 1)) : f_X10_isGiver 103 x S = some (0, S) := by
  have hg : S.1 103 13 = iI (tB T 9 1) := h.2.2.1.2.2.1
  have hn : tB T 9 1 ≤ 8 := hV.2.2.1.2.1.2.2.2
  unfold f_X10_isGiver
  have e : Int64.toInt (Int32.toInt64 (S.1 103 13 - 1)) = (tB T 9 1 : Int) - 1 := by
    rw [hg, show (1 : Int32) = iI 1 from rfl, iI_sub, Int32.toInt_toInt64, iI_toInt (by omega)]
  have hb2 : bad x (Int64.toInt 0) (Int64.toInt (Int32.toInt64 (S.1 103 13 - 1))) := by rw [e]; exact hb
  rw [bd_ok (in_bad hb2)]; rfl
theorem M_isGiver_ok {S : St} {T : Tst} {x : Int32} (hV : VT T) (h : IM S T) (hb : ¬ bad x 0 ((tB T 9 1 : Int) - 1)) : f_X10_isGiver 103 x S = some (1, S) := by
  have hg : S.1 103 13 = iI (tB T 9 1) := h.2.2.1.2.2.1
  have hn : tB T 9 1 ≤ 8 := hV.2.2.1.2.1.2.2.2
  unfold f_X10_isGiver
  have e : Int64.toInt (Int32.toInt64 (S.1 103 13 - 1)) = (tB T 9 1 : Int) - 1 := by
    rw [hg, show (1 : Int32) = iI 1 from rfl, iI_sub, Int32.toInt_toInt64, iI_toInt (by omega)]
  have hb2 : ¬ bad x (Int64.toInt 0) (Int64.toInt (Int32.toInt64 (S.1 103 13 - 1))) := by rw [e]; exact hb
  rw [bd_ok (in_ok hb2)]; rfl
theorem giver_nat {T : Tst} {x : Int32} (hV : VT T) (hb : ¬ bad x 0 ((tB T 9 1 : Int) - 1)) : ∃ i : Nat, i < tB T 9 1 ∧ i < 8 ∧ x = iI i := by
  have hn : tB T 9 1 ≤ 8 := hV.2.2.1.2.1.2.2.2
  have h1 : 1 ≤ tB T 9 1 := hV.2.2.1.2.1.2.2.1
  obtain ⟨i, h2, h3⟩ := bad_in (x := x) (m := tB T 9 1 - 1) (by unfold bad at hb ⊢; omega)
  exact ⟨i, by omega, by omega, h3⟩
theorem ok_wipe : Okk (f_X9_wipe 0) (f_X10_wipe 103) := by
  apply Okk_of
  intro S T hV hE
  obtain ⟨t1, t2, t3, t4, t5, t6, t7⟩ := IE_has hE
  refine ⟨iI (tN T), setN T 0, pI S 1 1 0, ⟨?_, ?_, Fr.pI (by unfold PE; omega)⟩, ?_, rfl, fun S1 hM => ⟨pI S1 103 0 0, ?_, ?_, Fr.pI (by unfold PM; omega)⟩⟩
  · unfold f_X9_wipe; rw [← t1]; rfl
  · refine IE_of2 hE (fun a h1 h2 => pI_row (by omega)) rfl rfl (by simp [pI_1, setN, tN]; rfl) (fun k hk => absurd hk (by simp [setN, tN])) ?_ ?_ ?_ ?_ ?_
    · rw [pI_row (by omega)]; exact t3
    · rw [pI_row (by omega)]; exact t4
    · rw [pI_row (by omega)]; exact t5
    · rw [pI_row (by omega), pI_row (by omega)]; exact t6
    · exact KE_of t7 (fun k _ => by rw [pI_row (by omega)]) rfl
  · obtain ⟨v1, v2, v3⟩ := hV
    exact ⟨by simp [setN, tN], fun k hk => absurd hk (by simp [setN, tN]), v3⟩
  · unfold f_X10_wipe; rw [← hM.1]; rfl
  · obtain ⟨m1, m2, m3, m4, m5, m6, m7⟩ := hM
    refine ⟨by simp [pI_1, setN, tN]; rfl, fun k hk => absurd hk (by simp [setN, tN]), ?_, m4, m5, by simp only [pI_1]; exact m6, m7⟩
    exact BM_of m3 (fun a h1 h2 => pI_row (by omega)) (by simp [pI_1])
theorem ok_row (x y : Int32) : Okk (f_X9_row 0 x y) (f_X10_row 103 x y) := by
  apply Okk_of
  intro S T hV hE
  obtain ⟨t1, t2, t3, t4, t5, t6, t7⟩ := IE_has hE
  by_cases hb : bad x 0 ((tB T 9 1 : Int) - 1)
  · refine ⟨-1, T, S, ⟨?_, hE, Fr.rf⟩, hV, rfl, fun S1 hM => ⟨S1, ?_, hM, Fr.rf⟩⟩
    · unfold f_X9_row; rw [bd_ok (E_isGiver_bad hV hE hb)]; rfl
    · unfold f_X10_row; rw [bd_ok (M_isGiver_bad hV hM hb)]; rfl
  by_cases hb2 : bad y 0 30
  · refine ⟨-1, T, S, ⟨?_, hE, Fr.rf⟩, hV, rfl, fun S1 hM => ⟨S1, ?_, hM, Fr.rf⟩⟩
    · unfold f_X9_row; rw [bd_ok (E_isGiver_ok hV hE hb), if_neg (by decide), bd_ok (within_bad hb2)]; rfl
    · unfold f_X10_row; rw [bd_ok (M_isGiver_ok hV hM hb), if_neg (by decide), bd_ok (in_bad hb2)]; rfl
  obtain ⟨i, hi, hi8, rfl⟩ := giver_nat hV hb
  obtain ⟨n, hn, rfl⟩ := bad_in (m := 30) hb2
  refine ⟨iI (tR T i), setR T i n, pI S 99 i (iI n), ⟨?_, ?_, Fr.pI (by unfold PE; omega)⟩, ?_, rfl, fun S1 hM => ⟨pI S1 119 i (iI n), ?_, ?_, Fr.pI (by unfold PM; omega)⟩⟩
  · unfold f_X9_row
    rw [bd_ok (E_isGiver_ok hV hE hb), if_neg (by decide), bd_ok (within_ok hb2), if_neg (by decide), ob_iI (by omega), iI_nat (by omega)]
    dsimp only [sq, Nat.reduceAdd]
    rw [ob_iI (by omega), t3 i hi8]
  · refine IE_of2 hE (fun a h1 h2 => pI_row (by omega)) rfl rfl ?_ ?_ ?_ ?_ ?_ ?_ ?_
    · rw [pI_row (by omega)]; exact t1
    · rw [pI_row (by omega)]; exact t2
    · intro j hj
      rw [pI_1]
      by_cases hji : j = i
      · subst hji; simp [setR, tR]
      · rw [if_neg (fun q => hji q.2), t3 j hj]; simp [setR, tR, hji]
    · rw [pI_row (by omega)]; exact t4
    · rw [pI_row (by omega)]; exact t5
    · rw [pI_row (by omega), pI_row (by omega)]; exact t6
    · exact KE_of t7 (fun k _ => by rw [pI_row (by omega)]) rfl
  · obtain ⟨v1, v2, v3, v4, v5⟩ := hV
    refine ⟨v1, v2, v3, fun j => ?_, v5⟩
    show (if j = i then n else T.2.2.1 j) ≤ 30
    by_cases hji : j = i
    · rw [if_pos hji]; exact hn
    · rw [if_neg hji]; exact v4 j
  · unfold f_X10_row
    rw [bd_ok (M_isGiver_ok hV hM hb), if_neg (by decide), bd_ok (in_ok hb2), if_neg (by decide), ob_iI (by omega), iI_nat (by omega)]
    dsimp only [sq, Nat.reduceAdd]
    rw [ob_iI (by omega), hM.2.2.2.1 i hi8]
  · obtain ⟨m1, m2, m3, m4, m5, m6, m7⟩ := hM
    refine ⟨m1, m2, m3, fun j hj => ?_, m5, m6, fun j hj => ⟨(m7 j hj).1, fun k hk => ?_⟩⟩
    · rw [pI_1]
      by_cases hji : j = i
      · subst hji; simp [setR, tR]
      · rw [if_neg (fun q => hji q.2), m4 j hj]; simp [setR, tR, hji]
    · rw [pI_1, if_neg (by omega)]; exact (m7 j hj).2 k hk
