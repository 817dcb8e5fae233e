theorem keepM (k : Nat) (hk : 1 ≤ k ∧ k ≤ 2) : ∀ (m N : Nat) (S : St) (l : Nat), l + m = 8 → m < N → S.1 103 18 = iI k → ∃ S2 : St, f_X10_keep_L38 N 103 (iI l) S = some (iI k, S2) ∧ (∀ j, S2.1 119 j = if 8 * k + l ≤ j ∧ j < 8 * k + 8 then S.1 119 (j - 8 * k) else S.1 119 j) ∧ (∀ a, a ≠ 119 → S2.1 a = S.1 a) ∧ S2.2 = S.2 := by
  intro m
  induction m with
  | zero =>
    intro N S l h0 hN h1
    obtain ⟨N, rfl⟩ : ∃ k, N = k + 1 := ⟨N - 1, by omega⟩
    refine ⟨S, ?_, fun j => by rw [if_neg (by omega)], fun _ _ => rfl, rfl⟩
    rw [f_X10_keep_L38, show (8 : Int32) = iI 8 from rfl, if_pos (by rw [iI_le (by omega) (by omega)]; omega), h1]
  | succ m ih =>
    intro N S l h0 hN h1
    obtain ⟨N, rfl⟩ : ∃ k, N = k + 1 := ⟨N - 1, by omega⟩
    obtain ⟨S2, e1, e2, e3, e4⟩ := ih N (pI S 119 (8 * k + l) (S.1 119 l)) (l + 1) (by omega) (by omega) (by rw [pI_row (by omega)]; exact h1)
    refine ⟨S2, ?_, ?_, ?_, ?_⟩
    · rw [f_X10_keep_L38, show (8 : Int32) = iI 8 from rfl, if_neg (by rw [iI_le (by omega) (by omega)]; omega), h1, iI_mul, iI_add, ob_iI (by omega), ob_iI (by omega), iI_nat (by omega), iI_clamp (by omega)]
      dsimp only [sq, Nat.reduceAdd]
      rw [show ((8 : Int) * k + l).toNat = 8 * k + l by omega, show iI l + (1 : Int32) = iI (l + 1 : Nat) from iI_add l 1]
      exact e1
    · intro j
      rw [e2 j]
      by_cases hj : j = 8 * k + l
      · subst hj
        rw [if_neg (by omega), pI_1, if_pos ⟨rfl, rfl⟩, if_pos (by omega), show 8 * k + l - 8 * k = l by omega]
      · by_cases hj2 : 8 * k + (l + 1) ≤ j ∧ j < 8 * k + 8
        · rw [if_pos hj2, if_pos (by omega), pI_1, if_neg (by omega)]
        · rw [if_neg hj2, if_neg (by omega), pI_1, if_neg (by omega)]
    · intro a h; rw [e3 a h, pI_row h]
    · rw [e4]; rfl
theorem backM (k : Nat) (hk : 1 ≤ k ∧ k ≤ 2) : ∀ (m N : Nat) (S : St) (l : Nat), l + m = 8 → m < N → S.1 103 18 = iI k → ∃ S2 : St, f_X10_back_L27 N 103 (iI l) S = some (iI (k - 1 : Nat), S2) ∧ (∀ j, S2.1 119 j = if l ≤ j ∧ j < 8 then S.1 119 (8 * k + j) else S.1 119 j) ∧ (∀ a, a ≠ 119 → a ≠ 103 → S2.1 a = S.1 a) ∧ (∀ j, S2.1 103 j = if j = 18 then iI (k - 1 : Nat) else S.1 103 j) ∧ S2.2 = S.2 := by
  intro m
  induction m with
  | zero =>
    intro N S l h0 hN h1
    obtain ⟨N, rfl⟩ : ∃ k, N = k + 1 := ⟨N - 1, by omega⟩
    refine ⟨pI S 103 18 (iI (k - 1 : Nat)), ?_, fun j => by rw [if_neg (by omega), pI_row (by omega)], fun a h2 h3 => by rw [pI_row h3], fun j => by rw [pI_1]; by_cases hj : j = 18 <;> simp [hj], rfl⟩
    rw [f_X10_back_L27, show (8 : Int32) = iI 8 from rfl, if_pos (by rw [iI_le (by omega) (by omega)]; omega), h1]
    dsimp only [sq]
    rw [show iI k - (1 : Int32) = iI (k - 1 : Nat) by rw [show (1 : Int32) = iI 1 from rfl, iI_sub]; congr 1; omega, pI_1, if_pos ⟨rfl, rfl⟩]
  | succ m ih =>
    intro N S l h0 hN h1
    obtain ⟨N, rfl⟩ : ∃ k, N = k + 1 := ⟨N - 1, by omega⟩
    obtain ⟨S2, e1, e2, e3, e5, e4⟩ := ih N (pI S 119 l (S.1 119 (8 * k + l))) (l + 1) (by omega) (by omega) (by rw [pI_row (by omega)]; exact h1)
    refine ⟨S2, ?_, ?_, ?_, ?_, ?_⟩
    · rw [f_X10_back_L27, show (8 : Int32) = iI 8 from rfl, if_neg (by rw [iI_le (by omega) (by omega)]; omega), h1, iI_mul, iI_add, ob_iI (by omega), ob_iI (by omega), iI_nat (by omega), iI_clamp (by omega)]
      dsimp only [sq, Nat.reduceAdd]
      rw [show ((8 : Int) * k + l).toNat = 8 * k + l by omega, show iI l + (1 : Int32) = iI (l + 1 : Nat) from iI_add l 1]
      exact e1
    · intro j
      rw [e2 j]
      by_cases hj : j = l
      · subst hj
        rw [if_neg (by omega), pI_1, if_pos ⟨rfl, rfl⟩, if_pos (by omega)]
      · by_cases hj2 : l + 1 ≤ j ∧ j < 8
        · rw [if_pos hj2, if_pos (by omega), pI_1, if_neg (by omega)]
        · rw [if_neg hj2, if_neg (by omega), pI_1, if_neg (by omega)]
    · intro a h h2; rw [e3 a h h2, pI_row h]
    · intro j; rw [e5 j, pI_row (by omega)]
    · rw [e4]; rfl
def setK (T : Tst) : Tst := (T.1, T.2.1, tR T, tS T, tK T + 1, (fun j i => if j = tK T then tR T i else tKr T j i), (fun j => if j = tK T then tS T else tKs T j))
def setBk (T : Tst) : Tst := (T.1, T.2.1, tKr T (tK T - 1), tKs T (tK T - 1), tK T - 1, tKr T, tKs T)
theorem E_put {S : St} {k : Nat} {x : Int32} (hk : k ≤ 1) (h : S.1 100 0 = iI k) : f_X5_put 100 99 x S = some (1, pI (pI (pRow S 101 (va_cpy (S.1 99) (S.1 101) 0 (8 * k) 8)) 102 k x) 100 0 (iI (k + 1 : Nat))) := by
  unfold f_X5_put
  rw [h, show (8 : Int32) = iI 8 from rfl, show (2 : Int32) = iI 2 from rfl, show (0 : Int32) = iI 0 from rfl, if_neg (by rw [iI_lt (by omega) (by omega)]; omega), if_neg (by rw [iI_le (by omega) (by omega)]; omega), if_pos (show iI 8 ≤ nI (lnT 99) from by decide +kernel), iI_mul]
  have hc : Int32.toNatClampNeg (iI (k * 8)) = 8 * k := by rw [iI_clamp (by omega)]; omega
  have hc8 : Int32.toNatClampNeg (iI 8) = 8 := rfl
  have hc0 : Int32.toNatClampNeg (iI 0) = 0 := rfl
  rw [hc, hc8, hc0, ck_pos (by refine ⟨by decide, ?_, by decide, by decide, by omega⟩; rw [iI_lt (by omega) (by omega)]; omega)]
  dsimp only [sq, Nat.reduceAdd]
  rw [pRow_1, if_neg (by omega), h, ob_iI (by omega), iI_nat (by omega), pI_row (by omega), pRow_1, if_neg (by omega), h, show iI k + (1 : Int32) = iI (k + 1 : Nat) from iI_add _ 1]
theorem E_putF {S : St} {x : Int32} (h : S.1 100 0 = iI 2) : f_X5_put 100 99 x S = some (0, S) := by
  unfold f_X5_put
  rw [h, if_neg (by decide), if_pos (by decide)]
theorem E_takeInto {S : St} {k : Nat} (hk : k ≤ 1) (h : S.1 100 0 = iI (k + 1 : Nat)) : f_X5_takeInto 100 99 S = some (S.1 102 k, pRow (pI S 100 0 (iI k)) 99 (va_cpy (S.1 101) (S.1 99) (8 * k) 0 8)) := by
  unfold f_X5_takeInto
  rw [h, show (8 : Int32) = iI 8 from rfl, show (2 : Int32) = iI 2 from rfl, show (1 : Int32) = iI 1 from rfl, if_neg (by rw [iI_lt (by omega) (by omega)]; omega), if_neg (by rw [iI_lt (by omega) (by omega)]; omega), if_pos (show iI 8 ≤ nI (lnT 99) from by decide +kernel), iI_sub]
  dsimp only [sq, Nat.reduceAdd]
  rw [show ((k + 1 : Nat) : Int) - 1 = k by omega, pI_1, if_pos ⟨rfl, rfl⟩, iI_mul]
  have hc : Int32.toNatClampNeg (iI (k * 8)) = 8 * k := by rw [iI_clamp (by omega)]; omega
  have hc8 : Int32.toNatClampNeg (iI 8) = 8 := rfl
  have hc0 : Int32.toNatClampNeg 0 = 0 := rfl
  rw [hc, hc8, hc0, ck_pos (by refine ⟨?_, by decide, by decide, by omega, by decide⟩; rw [show (0 : Int32) = iI 0 from rfl, iI_lt (by omega) (by omega)]; omega)]
  rw [pI_row (by omega), pI_row (by omega), pRow_1, if_neg (by omega), pI_1, if_pos ⟨rfl, rfl⟩, ob_iI (by omega), iI_nat (by omega), pRow_1, if_neg (by omega), pI_row (by omega)]
theorem ok_keep : Okk (f_X9_keep 0) (f_X10_keep 103) := by
  apply Okk_of
  intro S T hV hE
  obtain ⟨t1, t2, t3, t4, t5, t6, t7⟩ := IE_has hE
  have hV' := hV
  obtain ⟨v1, v2, v3, v4, v5, v6, v7, v8⟩ := hV'
  by_cases hk : tK T = 2
  · refine ⟨-3, T, S, ⟨?_, hE, Fr.rf⟩, hV, rfl, fun S1 hM => ⟨S1, ?_, hM, Fr.rf⟩⟩
    · unfold f_X9_keep
      dsimp only [Nat.reduceAdd]
      rw [bd_ok (E_putF (by rw [t5, hk]; rfl)), if_pos rfl]
    · unfold f_X10_keep
      rw [hM.2.2.2.2.2.1, hk, if_pos (by decide)]
  have hk1 : tK T ≤ 1 := by omega
  refine ⟨iI (tK T + 1 : Nat), setK T, pI (pI (pRow S 101 (va_cpy (S.1 99) (S.1 101) 0 (8 * tK T) 8)) 102 (tK T) (iI (tS T))) 100 0 (iI (tK T + 1 : Nat)), ⟨?_, ?_, ?_⟩, ?_, rfl, fun S1 hM => ?_⟩
  · unfold f_X9_keep
    dsimp only [Nat.reduceAdd]
    rw [t4, bd_ok (E_put hk1 t5), if_neg (by decide), pI_1, if_pos ⟨rfl, rfl⟩]
  · refine IE_of2 hE (fun a h1 h2 => ?_) rfl rfl ?_ ?_ ?_ ?_ ?_ (fun j hj => ⟨?_, fun i hi => ?_⟩) ?_
    · rw [pI_row (by omega), pI_row (by omega), pRow_1, if_neg (by omega)]
    · rw [pI_row (by omega), pI_row (by omega), pRow_1, if_neg (by omega)]; exact t1
    · rw [pI_row (by omega), pI_row (by omega), pRow_1, if_neg (by omega)]; exact t2
    · rw [pI_row (by omega), pI_row (by omega), pRow_1, if_neg (by omega)]; exact t3
    · rw [pI_1, if_neg (by omega), pI_row (by omega), pRow_1, if_neg (by omega)]; exact t4
    · rw [pI_1, if_pos ⟨rfl, rfl⟩]; rfl
    · have hj' : j < tK T + 1 := hj
      rw [pI_row (by omega), pI_1]
      show _ = iI ((if j = tK T then tS T else tKs T j : Nat) : Int)
      by_cases hc : j = tK T
      · rw [if_pos ⟨rfl, hc⟩, if_pos hc]
      · rw [if_neg (fun q => hc q.2), if_neg hc, pRow_1, if_neg (by omega)]; exact (t6 j (by omega)).1
    · have hj' : j < tK T + 1 := hj
      rw [pI_row (by omega), pI_row (by omega), pRow_1, if_pos rfl]
      show _ = iI ((if j = tK T then tR T i else tKr T j i : Nat) : Int)
      by_cases hc : j = tK T
      · rw [if_pos hc, pk_cpy_in (by omega) (by omega), show 0 + (8 * j + i - 8 * tK T) = i by omega]; exact t3 i hi
      · rw [if_neg hc, pk_cpy_out (by omega)]; exact (t6 j (by omega)).2 i hi
    · exact KE_of t7 (fun k hk => by rw [pI_1, if_neg (by omega), pI_row (by omega), pRow_1, if_neg (by omega)]) rfl
  · refine Fr_rows (fun a k h => ?_) rfl
    have h' : ¬ a < 103 := h
    rw [pI_row (by omega), pI_row (by omega), pRow_1, if_neg (by omega)]
  · refine ⟨v1, v2, v3, v4, v5, ?_, fun j i => ?_, fun j => ?_⟩
    · show tK T + 1 ≤ 2; omega
    · show (if j = tK T then tR T i else tKr T j i) ≤ 30
      by_cases hc : j = tK T
      · rw [if_pos hc]; exact v4 i
      · rw [if_neg hc]; exact v7 j i
    · show (if j = tK T then tS T else tKs T j) ≤ 2
      by_cases hc : j = tK T
      · rw [if_pos hc]; exact v5
      · rw [if_neg hc]; exact v8 j
  · obtain ⟨m1, m2, m3, m4, m5, m6, m7⟩ := hM
    obtain ⟨S3, e1, e2, e3, e4⟩ := keepM (tK T + 1) (by omega) 8 FU (pI (pI S1 103 18 (iI (tK T + 1 : Nat))) 118 (tK T + 1) (S1.1 118 0)) 0 rfl (by unfold FU; omega) (by rw [pI_row (by omega), pI_1, if_pos ⟨rfl, rfl⟩])
    refine ⟨S3, ?_, ⟨?_, ?_, ?_, fun i hi => ?_, ?_, ?_, fun j hj => ⟨?_, fun i hi => ?_⟩⟩, ?_⟩
    · unfold f_X10_keep
      rw [m6, show (2 : Int32) = iI 2 from rfl, if_neg (by rw [iI_eq (by omega) (by omega)]; omega)]
      dsimp only [sq, Nat.reduceAdd]
      rw [show iI (tK T) + (1 : Int32) = iI (tK T + 1 : Nat) from iI_add _ 1, pI_1, if_pos ⟨rfl, rfl⟩, ob_iI (by omega), iI_nat (by omega), pI_row (by omega)]
      exact e1
    · rw [e3 103 (by omega), pI_row (by omega), pI_1, if_neg (by omega)]; exact m1
    · rw [e3 104 (by omega), pI_row (by omega), pI_row (by omega)]; exact m2
    · exact BM_of m3 (fun a h1 h2 => by rw [e3 a (by omega), pI_row (by omega), pI_row (by omega)]) (by rw [e3 103 (by omega), pI_row (by omega), pI_1, if_neg (by omega)])
    · rw [e2 i, if_neg (by omega), pI_row (by omega), pI_row (by omega)]; exact m4 i hi
    · rw [e3 118 (by omega), pI_1, if_neg (by omega), pI_row (by omega)]; exact m5
    · rw [e3 103 (by omega), pI_row (by omega), pI_1, if_pos ⟨rfl, rfl⟩]; rfl
    · have hj' : j < tK T + 1 := hj
      rw [e3 118 (by omega), pI_1]
      show _ = iI ((if j = tK T then tS T else tKs T j : Nat) : Int)
      by_cases hc : j = tK T
      · rw [if_pos ⟨rfl, by omega⟩, if_pos hc]; exact m5
      · rw [if_neg (by omega), if_neg hc, pI_row (by omega)]; exact (m7 j (by omega)).1
    · have hj' : j < tK T + 1 := hj
      rw [e2, pI_row (by omega), pI_row (by omega)]
      show _ = iI ((if j = tK T then tR T i else tKr T j i : Nat) : Int)
      by_cases hc : j = tK T
      · rw [if_pos (by omega), if_pos hc, show 8 * (j + 1) + i - 8 * (tK T + 1) = i by omega]; exact m4 i hi
      · rw [if_neg (by omega), if_neg hc]; exact (m7 j (by omega)).2 i hi
    · refine Fr_rows (fun a k h => ?_) (by rw [e4]; rfl)
      have h' : ¬ 103 ≤ a := h
      rw [e3 a (by omega), pI_row (by omega), pI_row (by omega)]
set_option maxRecDepth 100000 in
theorem ok_back : Okk (f_X9_back 0) (f_X10_back 103) := by
  apply Okk_of
  intro S T hV hE
  obtain ⟨t1, t2, t3, t4, t5, t6, t7⟩ := IE_has hE
  have hV' := hV
  obtain ⟨v1, v2, v3, v4, v5, v6, v7, v8⟩ := hV'
  by_cases hk : tK T = 0
  · refine ⟨-2, T, S, ⟨?_, hE, Fr.rf⟩, hV, rfl, fun S1 hM => ⟨S1, ?_, hM, Fr.rf⟩⟩
    · unfold f_X9_back
      dsimp only [Nat.reduceAdd]
      rw [t5, hk, if_neg (by decide)]
    · unfold f_X10_back
      rw [hM.2.2.2.2.2.1, hk, if_pos (by decide)]
  obtain ⟨k, hk1⟩ : ∃ k, tK T = k + 1 := ⟨tK T - 1, by omega⟩
  have hk2 : k ≤ 1 := by omega
  refine ⟨iI k, setBk T, pI (pI (pI (pRow (pI S 100 0 (iI k)) 99 (va_cpy (S.1 101) (S.1 99) (8 * k) 0 8)) 0 11 (iI (tKs T k))) 0 13 0) 0 14 0, ⟨?_, ?_, ?_⟩, ?_, rfl, fun S1 hM => ?_⟩
  · unfold f_X9_back
    dsimp only [Nat.reduceAdd]
    rw [if_pos (show (1 : Int32) ≤ S.1 100 0 from by rw [t5, hk1, show (1 : Int32) = iI 1 from rfl, iI_le (by omega) (by omega)]; omega), bd_ok (E_takeInto hk2 (by rw [t5, hk1])), (t6 k (by omega)).1]
    unfold f_X9_forgetWays
    dsimp only [sq, bd]
    rw [pI_row (by omega), pI_row (by omega), pI_row (by omega), pRow_1, if_neg (by omega), pI_1, if_pos ⟨rfl, rfl⟩]
  · refine IE_of2 hE (fun a h1 h2 => ?_) rfl rfl ?_ ?_ (fun i hi => ?_) ?_ ?_ (fun j hj => ⟨?_, fun i hi => ?_⟩) ?_
    · rw [pI_row (by omega), pI_row (by omega), pI_row (by omega), pRow_1, if_neg (by omega), pI_row (by omega)]
    · rw [pI_row (by omega), pI_row (by omega), pI_row (by omega), pRow_1, if_neg (by omega), pI_row (by omega)]; exact t1
    · rw [pI_row (by omega), pI_row (by omega), pI_row (by omega), pRow_1, if_neg (by omega), pI_row (by omega)]; exact t2
    · rw [pI_row (by omega), pI_row (by omega), pI_row (by omega), pRow_1, if_pos rfl, pk_cpy_in (by omega) (by omega), show 8 * k + (i - 0) = 8 * k + i by omega, (t6 k (by omega)).2 i hi]
      show _ = iI (tKr T (tK T - 1) i)
      rw [show tK T - 1 = k by omega]
    · rw [pI_1, if_neg (by omega), pI_1, if_neg (by omega), pI_1, if_pos ⟨rfl, rfl⟩]
      show _ = iI (tKs T (tK T - 1))
      rw [show tK T - 1 = k by omega]
    · rw [pI_1, if_neg (by omega), pI_1, if_neg (by omega), pI_1, if_neg (by omega), pRow_1, if_neg (by omega), pI_1, if_pos ⟨rfl, rfl⟩]
      show _ = iI ((tK T - 1 : Nat) : Int)
      rw [show tK T - 1 = k by omega]
    · have hj' : j < tK T - 1 := hj
      rw [pI_row (by omega), pI_row (by omega), pI_row (by omega), pRow_1, if_neg (by omega), pI_row (by omega)]; exact (t6 j (by omega)).1
    · have hj' : j < tK T - 1 := hj
      rw [pI_row (by omega), pI_row (by omega), pI_row (by omega), pRow_1, if_neg (by omega), pI_row (by omega)]; exact (t6 j (by omega)).2 i hi
    · exact KE_off t7 (by simp [pI_1]) (by simp [pI_1]) (by rw [pI_1, if_neg (by omega), pI_1, if_neg (by omega), pI_1, if_neg (by omega), pRow_1, if_neg (by omega), pI_1, if_neg (by omega)]) rfl
  · refine Fr_rows (fun a k h => ?_) rfl
    have h' : ¬ a < 103 := h
    rw [pI_row (by omega), pI_row (by omega), pI_row (by omega), pRow_1, if_neg (by omega), pI_row (by omega)]
  · refine ⟨v1, v2, v3, fun i => v7 _ i, v8 _, ?_, v7, v8⟩
    show tK T - 1 ≤ 2; omega
  · obtain ⟨m1, m2, m3, m4, m5, m6, m7⟩ := hM
    obtain ⟨S3, e1, e2, e3, e5, e4⟩ := backM (k + 1) (by omega) 8 FU (pI S1 118 0 (S1.1 118 (k + 1))) 0 rfl (by unfold FU; omega) (by rw [pI_row (by omega), m6, hk1])
    refine ⟨S3, ?_, ⟨?_, ?_, ?_, fun i hi => ?_, ?_, ?_, fun j hj => ⟨?_, fun i hi => ?_⟩⟩, ?_⟩
    · unfold f_X10_back
      rw [m6, hk1, show (0 : Int32) = iI 0 from rfl, if_neg (by rw [iI_eq (by omega) (by omega)]; omega), ob_iI (by omega), iI_nat (by omega)]
      dsimp only [sq, Nat.reduceAdd]
      exact e1
    · rw [e5 0, if_neg (by omega), pI_row (by omega)]; exact m1
    · rw [e3 104 (by omega) (by omega), pI_row (by omega)]; exact m2
    · exact BM_of m3 (fun a h1 h2 => by rw [e3 a (by omega) (by omega), pI_row (by omega)]) (by rw [e5 13, if_neg (by omega), pI_row (by omega)])
    · rw [e2 i, if_pos (by omega), pI_row (by omega), (m7 k (by omega)).2 i hi]
      show _ = iI (tKr T (tK T - 1) i)
      rw [show tK T - 1 = k by omega]
    · rw [e3 118 (by omega) (by omega), pI_1, if_pos ⟨rfl, rfl⟩, (m7 k (by omega)).1]
      show _ = iI (tKs T (tK T - 1))
      rw [show tK T - 1 = k by omega]
    · rw [e5 18, if_pos rfl]
      show _ = iI ((tK T - 1 : Nat) : Int)
      rw [show tK T - 1 = k by omega, show k + 1 - 1 = k by omega]
    · have hj' : j < tK T - 1 := hj
      rw [e3 118 (by omega) (by omega), pI_1, if_neg (by omega)]; exact (m7 j (by omega)).1
    · have hj' : j < tK T - 1 := hj
      rw [e2, if_neg (by omega), pI_row (by omega)]; exact (m7 j (by omega)).2 i hi
    · refine Fr_rows (fun a q h => ?_) (by rw [e4]; rfl)
      have h' : ¬ 103 ≤ a := h
      rw [e3 a (by omega) (by omega), pI_row (by omega)]
