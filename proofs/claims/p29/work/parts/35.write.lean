theorem putE (a1 : Int32) (v : Int64) : ∀ (m N : Nat) (S : St) (len : Nat), m < N → S.1 1 1 = iI len → len + m ≤ 300 → ∃ S2 : St, f_X7_put_L19 N 1 a1 v (iI ((m : Int) - 1)) S = some (1, S2) ∧ S2.1 1 1 = iI (len + m : Nat) ∧ (∀ j, S2.1 2 j = if len ≤ j ∧ j < len + m then byE v (iI (len + m - 1 - j : Nat)) else S.1 2 j) ∧ (∀ a, a ≠ 1 → a ≠ 2 → S2.1 a = S.1 a) ∧ S2.2 = S.2 := by
  intro m
  induction m with
  | zero =>
    intro N S len hN h1 h2
    obtain ⟨N, rfl⟩ : ∃ k, N = k + 1 := ⟨N - 1, by omega⟩
    refine ⟨S, ?_, by simpa using h1, fun j => by rw [if_neg (by omega)], fun _ _ _ => rfl, rfl⟩
    rw [f_X7_put_L19, if_pos (by decide)]
  | succ m ih =>
    intro N S len hN h1 h2
    obtain ⟨N, rfl⟩ : ∃ k, N = k + 1 := ⟨N - 1, by omega⟩
    have q1 : iI (((m + 1 : Nat) : Int) - 1) = iI m := by congr 1; omega
    have q2 : iI m + (-1 : Int32) = iI ((m : Int) - 1) := by rw [iI_n1, iI_add]; rfl
    obtain ⟨S2, e1, e2, e3, e4, e5⟩ := ih N (pI (pI S 2 len (byE v (iI m))) 1 1 (iI (len + 1 : Nat))) (len + 1) (by omega) (by simp [pI_1]) (by omega)
    refine ⟨S2, ?_, ?_, ?_, ?_, ?_⟩
    · rw [f_X7_put_L19, q1, if_neg (by rw [show (0 : Int32) = iI 0 from rfl, iI_lt (by omega) (by omega)]; omega), h1, ob_iI (by omega), iI_nat (by omega)]
      dsimp only [sq, Nat.reduceAdd]
      rw [q2, pI_row (by omega), h1, show iI len + (1 : Int32) = iI (len + 1 : Nat) from iI_add len 1]
      exact e1
    · rw [e2]; congr 1; omega
    · intro j
      rw [e3 j, pI_row (show (2 : Nat) ≠ 1 by omega), pI_1]
      by_cases hj : j = len
      · subst hj
        rw [if_neg (by omega), if_pos ⟨rfl, rfl⟩, if_pos (by omega)]
        congr 2; omega
      · by_cases hj2 : len + 1 ≤ j ∧ j < len + 1 + m
        · rw [if_pos hj2, if_pos (by omega)]; congr 2; omega
        · rw [if_neg hj2, if_neg (by omega), if_neg (by omega)]
    · intro a h3 h4; rw [e4 a h3 h4, pI_row h3, pI_row h4]
    · rw [e5]; rfl
theorem putM (a1 : Int32) (v : Int64) : ∀ (m N : Nat) (S : St) (len : Nat), m < N → S.1 103 0 = iI len → len + m ≤ 300 → ∃ S2 : St, f_X10_write_L34 N 103 a1 v (iI ((m : Int) - 1)) S = some (iI (len + m : Nat), S2) ∧ S2.1 103 0 = iI (len + m : Nat) ∧ (∀ j, S2.1 104 j = if len ≤ j ∧ j < len + m then byM v (iI (len + m - 1 - j : Nat)) else S.1 104 j) ∧ (∀ k, k ≠ 0 → S2.1 103 k = S.1 103 k) ∧ (∀ a, a ≠ 103 → a ≠ 104 → S2.1 a = S.1 a) ∧ S2.2 = S.2 := by
  intro m
  induction m with
  | zero =>
    intro N S len hN h1 h2
    obtain ⟨N, rfl⟩ : ∃ k, N = k + 1 := ⟨N - 1, by omega⟩
    refine ⟨S, ?_, by simpa using h1, fun j => by rw [if_neg (by omega)], fun _ _ => rfl, fun _ _ _ => rfl, rfl⟩
    rw [f_X10_write_L34, if_pos (by decide), h1]; rfl
  | succ m ih =>
    intro N S len hN h1 h2
    obtain ⟨N, rfl⟩ : ∃ k, N = k + 1 := ⟨N - 1, by omega⟩
    have q1 : iI (((m + 1 : Nat) : Int) - 1) = iI m := by congr 1; omega
    have q2 : iI m + (-1 : Int32) = iI ((m : Int) - 1) := by rw [iI_n1, iI_add]; rfl
    obtain ⟨S2, e1, e2, e3, e6, e4, e5⟩ := ih N (pI (pI S 104 len (byM v (iI m))) 103 0 (iI (len + 1 : Nat))) (len + 1) (by omega) (by simp [pI_1]) (by omega)
    have ea : len + 1 + m = len + (m + 1) := by omega
    rw [ea] at e1 e2
    refine ⟨S2, ?_, e2, ?_, ?_, ?_, ?_⟩
    · rw [f_X10_write_L34, q1, if_neg (by rw [show (0 : Int32) = iI 0 from rfl, iI_lt (by omega) (by omega)]; omega), h1, ob_iI (by omega), iI_nat (by omega)]
      dsimp only [sq, Nat.reduceAdd]
      rw [q2, pI_row (by omega), h1, show iI len + (1 : Int32) = iI (len + 1 : Nat) from iI_add len 1]
      exact e1
    · intro j
      rw [e3 j, pI_row (show (104 : Nat) ≠ 103 by omega), pI_1]
      by_cases hj : j = len
      · subst hj
        rw [if_neg (by omega), if_pos ⟨rfl, rfl⟩, if_pos (by omega)]
        congr 2; omega
      · by_cases hj2 : len + 1 ≤ j ∧ j < len + 1 + m
        · rw [if_pos hj2, if_pos (by omega)]; congr 2; omega
        · rw [if_neg hj2, if_neg (by omega), if_neg (by omega)]
    · intro k hk; rw [e6 k hk, pI_1, if_neg (by omega), pI_row (by omega)]
    · intro a h3 h4; rw [e4 a h3 h4, pI_row h3, pI_row h4]
    · rw [e5]; rfl
theorem Fr_rows {P : Nat → Nat → Prop} {S S2 : St} (h : ∀ a k, ¬ P a k → S2.1 a k = S.1 a k) (h2 : S2.2 = S.2) : Fr P S S2 := ⟨h, fun a k _ => by rw [h2], fun a k _ => by rw [h2]⟩
def setW (T : Tst) (n : Nat) (v : Int64) : Tst := ((tN T + n, fun j => if tN T ≤ j ∧ j < tN T + n then byN v (tN T + n - 1 - j) else tT T j), T.2)
theorem ok_write (x : Int32) (v : Int64) : Okk (f_X9_write 0 x v) (f_X10_write 103 x v) := by
  apply Okk_of
  intro S T hV hE
  obtain ⟨t1, t2, t3, t4, t5, t6, t7⟩ := IE_has hE
  have hV' := hV
  obtain ⟨v1, v2, v3⟩ := hV'
  by_cases hb : bad x 1 8
  · refine ⟨-1, T, S, ⟨?_, hE, Fr.rf⟩, hV, rfl, fun S1 hM => ⟨S1, ?_, hM, Fr.rf⟩⟩
    · unfold f_X9_write; rw [bd_ok (within_bad hb)]; rfl
    · unfold f_X10_write; rw [bd_ok (in_bad hb)]; rfl
  obtain ⟨n, hn, rfl⟩ := bad_in (x := x) (m := 8) (by unfold bad at hb ⊢; omega)
  have hn1 : 1 ≤ n := by
    unfold bad at hb; rw [iI_toInt (by omega)] at hb; omega
  by_cases hf : tN T + n ≤ 300
  · obtain ⟨S1, e1, e2, e3, e4, e5⟩ := putE (iI n) v n FU S (tN T) (by unfold FU; omega) t1 hf
    refine ⟨iI (tN T + n : Nat), setW T n v, S1, ⟨?_, ?_, ?_⟩, ?_, rfl, fun S2 hM => ?_⟩
    · unfold f_X9_write
      rw [bd_ok (within_ok hb), if_neg (by decide)]
      have : f_X7_put (0 + 1) (iI n) v S = some (1, S1) := by
        show f_X7_put 1 (iI n) v S = some (1, S1)
        unfold f_X7_put
        rw [t1, iI_add, show (300 : Int32) = iI 300 from rfl, if_pos (by rw [iI_le (by omega) (by omega)]; omega)]
        dsimp only [sq]
        rw [show (1 : Int32) = iI 1 from rfl, iI_sub]
        exact e1
      rw [bd_ok this, if_neg (by decide)]
      show some (S1.1 1 1, S1) = _
      rw [e2]
    · refine IE_of2 hE (fun a h1 h2 => e4 a (by omega) (by omega)) (by rw [e5]) rfl e2 (fun k hk => ?_) ?_ ?_ ?_ ?_ ?_
      · have hk' : k < tN T + n := hk
        rw [e3 k]
        show _ = iI ((if tN T ≤ k ∧ k < tN T + n then byN v (tN T + n - 1 - k) else tT T k : Nat) : Int)
        by_cases hc : tN T ≤ k ∧ k < tN T + n
        · rw [if_pos hc, if_pos hc]; exact (byN_lt v _).1
        · rw [if_neg hc, if_neg hc]; exact t2 k (by omega)
      · rw [e4 99 (by omega) (by omega)]; exact t3
      · rw [e4 0 (by omega) (by omega)]; exact t4
      · rw [e4 100 (by omega) (by omega)]; exact t5
      · rw [e4 101 (by omega) (by omega), e4 102 (by omega) (by omega)]; exact t6
      · exact KE_of t7 (fun k _ => by rw [e4 0 (by omega) (by omega)]) (by rw [e5])
    · exact Fr_rows (fun a k h => by rw [e4 a (by unfold PE at h; omega) (by unfold PE at h; omega)]) e5
    · refine ⟨hf, fun k hk => ?_, v3⟩
      show (if tN T ≤ k ∧ k < tN T + n then byN v (tN T + n - 1 - k) else tT T k) < 256
      by_cases hc : tN T ≤ k ∧ k < tN T + n
      · rw [if_pos hc]; exact (byN_lt v _).2
      · rw [if_neg hc]; exact v2 k (by have : k < tN T + n := hk; omega)
    · obtain ⟨m1, m2, m3, m4, m5, m6, m7⟩ := hM
      obtain ⟨S3, e1, e2, e3, e6, e4, e5⟩ := putM (iI n) v n FU S2 (tN T) (by unfold FU; omega) m1 hf
      refine ⟨S3, ?_, ⟨e2, fun k hk => ?_, ?_, ?_, ?_, ?_, ?_⟩, ?_⟩
      · unfold f_X10_write
        rw [bd_ok (in_ok hb), if_neg (by decide), m1, iI_add, show (300 : Int32) = iI 300 from rfl, if_pos (by rw [iI_le (by omega) (by omega)]; omega)]
        dsimp only [sq]
        rw [show (1 : Int32) = iI 1 from rfl, iI_sub]
        exact e1
      · have hk' : k < tN T + n := hk
        rw [e3 k]
        show _ = iI ((if tN T ≤ k ∧ k < tN T + n then byN v (tN T + n - 1 - k) else tT T k : Nat) : Int)
        by_cases hc : tN T ≤ k ∧ k < tN T + n
        · rw [if_pos hc, if_pos hc, ← by_eq v _ (by omega)]; exact (byN_lt v _).1
        · rw [if_neg hc, if_neg hc]; exact m2 k (by omega)
      · exact BM_of m3 (fun a h1 h2 => e4 a (by omega) (by omega)) (e6 13 (by omega))
      · rw [e4 119 (by omega) (by omega)]; exact m4
      · rw [e4 118 (by omega) (by omega)]; exact m5
      · rw [e6 18 (by omega)]; exact m6
      · rw [e4 118 (by omega) (by omega), e4 119 (by omega) (by omega)]; exact m7
      · exact Fr_rows (fun a k h => by rw [e4 a (by unfold PM at h; omega) (by unfold PM at h; omega)]) e5
  · refine ⟨-3, T, S, ⟨?_, hE, Fr.rf⟩, hV, rfl, fun S1 hM => ⟨S1, ?_, hM, Fr.rf⟩⟩
    · unfold f_X9_write
      rw [bd_ok (within_ok hb), if_neg (by decide)]
      have : f_X7_put (0 + 1) (iI n) v S = some (0, S) := by
        show f_X7_put 1 (iI n) v S = some (0, S)
        unfold f_X7_put
        rw [t1, iI_add, show (300 : Int32) = iI 300 from rfl, if_neg (by rw [iI_le (by omega) (by omega)]; omega)]
      rw [bd_ok this]; rfl
    · unfold f_X10_write
      rw [bd_ok (in_ok hb), if_neg (by decide), hM.1, iI_add, show (300 : Int32) = iI 300 from rfl, if_neg (by rw [iI_le (by omega) (by omega)]; omega)]
