/-! texts read: the class -/
def whB (B : Bd) : Bool := allFr (fun s => decide (natTo (fun k => B 6 (3 * s + k)) (B 4 s) = 10)) 0 (B 9 0)
def rdS (n : Nat) (r : Nat × Bd × Bool) : Int := if r.2.2 = true then (if whB r.2.1 = true then -4 else (n : Int)) else (r.1 : Int)
def clrB : Bd := fun a b => if a = 0 then (if b = 0 then 20 else if b = 2 then 9 else if b = 3 then 20 else 0) else 0
theorem clrB_V : VB0 clrB := by
  refine ⟨?_, ⟨?_, ?_, ?_⟩, fun s hs => absurd hs (Nat.not_lt_zero _), fun s hs => absurd hs (Nat.not_lt_zero _), fun s hs => absurd hs (Nat.not_lt_zero _)⟩
  · unfold VBa clrB; decide
  · exact Nat.zero_le _
  · exact Nat.zero_le _
  · rfl
theorem E_numbersOf {l : Nat} (hl : l < 256) (S : St) : f_X3_numbersOf (iI l) S = some (iI (manyS l : Nat), S) := by
  unfold f_X3_numbersOf manyS
  by_cases h1 : l = 98
  · subst h1; rfl
  rw [if_neg (show ¬ iI l = (98 : Int32) by rw [show (98 : Int32) = iI 98 from rfl, iI_eq (by omega) (by omega)]; omega), if_neg h1]
  by_cases h2 : l = 99
  · subst h2; rfl
  rw [if_neg (show ¬ iI l = (99 : Int32) by rw [show (99 : Int32) = iI 99 from rfl, iI_eq (by omega) (by omega)]; omega), if_neg h2]
  by_cases h3 : l = 100
  · subst h3; rfl
  rw [if_neg (show ¬ iI l = (100 : Int32) by rw [show (100 : Int32) = iI 100 from rfl, iI_eq (by omega) (by omega)]; omega), if_neg h3]
  by_cases h4 : l = 101
  · subst h4; rfl
  rw [if_neg (show ¬ iI l = (101 : Int32) by rw [show (101 : Int32) = iI 101 from rfl, iI_eq (by omega) (by omega)]; omega), if_neg h4]
  by_cases h5 : l = 103
  · subst h5; rfl
  rw [if_neg (show ¬ iI l = (103 : Int32) by rw [show (103 : Int32) = iI 103 from rfl, iI_eq (by omega) (by omega)]; omega), if_neg h5]
  by_cases h6 : l = 111
  · subst h6; rfl
  rw [if_neg (show ¬ iI l = (111 : Int32) by rw [show (111 : Int32) = iI 111 from rfl, iI_eq (by omega) (by omega)]; omega), if_neg h6]
  by_cases h7 : l = 112
  · subst h7; rfl
  rw [if_neg (show ¬ iI l = (112 : Int32) by rw [show (112 : Int32) = iI 112 from rfl, iI_eq (by omega) (by omega)]; omega), if_neg h7]
  by_cases h8 : l = 115
  · subst h8; rfl
  rw [if_neg (show ¬ iI l = (115 : Int32) by rw [show (115 : Int32) = iI 115 from rfl, iI_eq (by omega) (by omega)]; omega), if_neg h8]
  by_cases h9 : l = 116
  · subst h9; rfl
  rw [if_neg (show ¬ iI l = (116 : Int32) by rw [show (116 : Int32) = iI 116 from rfl, iI_eq (by omega) (by omega)]; omega), if_neg h9]
  by_cases h10 : l = 119
  · subst h10; rfl
  rw [if_neg (show ¬ iI l = (119 : Int32) by rw [show (119 : Int32) = iI 119 from rfl, iI_eq (by omega) (by omega)]; omega), if_neg h10]
  rfl
theorem many_in {l : Nat} (h : manyS l ≠ 0) : l = 98 ∨ l = 99 ∨ l = 100 ∨ l = 101 ∨ l = 103 ∨ l = 111 ∨ l = 112 ∨ l = 115 ∨ l = 116 ∨ l = 119 := by
  apply Classical.byContradiction
  intro hc
  apply h
  unfold manyS
  rw [if_neg (by omega), if_neg (by omega), if_neg (by omega), if_neg (by omega), if_neg (by omega), if_neg (by omega), if_neg (by omega), if_neg (by omega), if_neg (by omega), if_neg (by omega)]
theorem many_le (l : Nat) : manyS l ≤ 5 := by
  by_cases h : manyS l = 0
  · omega
  · rcases many_in h with rfl | rfl | rfl | rfl | rfl | rfl | rfl | rfl | rfl | rfl <;> decide
theorem E_takeI {S : St} {Q l : Nat} {B : Bd} {v : Nat → Nat} (hQ : Q = 5 ∨ Q = 15) (hV : VB0 B) (hB : BE S Q B) (hl : manyS l ≠ 0) (hv : ∀ j, j < manyS l → S.1 4 j = iI (v j)) (h9 : ∀ j, v j ≤ 999) : RT (takeS l v B) Q S (f_X3_take 3 (iI l) Q S) := by
  rcases many_in hl with rfl | rfl | rfl | rfl | rfl | rfl | rfl | rfl | rfl | rfl
  · exact E_t98 hQ hB hv h9
  · exact E_t99 hQ hB hv h9
  · exact E_t100 hQ hB hv h9
  · exact E_t101 hQ hB hv h9
  · exact E_t103 hQ hV hB hv h9
  · exact E_t111 hQ hB hv h9
  · exact E_t112 hQ hB hv h9
  · exact E_t115 hQ hB hv h9
  · exact E_t116 hQ hV hB hv h9
  · exact E_t119 hQ hV hB hv h9
def PRE (Q a k : Nat) : Prop := a = 3 ∨ a = 4 ∨ PQ Q a k
theorem PRE_3 {Q a k : Nat} (hQ : Q = 5 ∨ Q = 15) (h : PRE Q a k) : 3 ≤ a := by unfold PRE PQ at h; omega
/-- whether each sort's tenths are ten together -/
theorem E_areWhole {S : St} {Q : Nat} {B : Bd} (hV : VB0 B) (hB : BE S Q B) : f_X6_areWhole (Q + 1) S = some (bI (whB B), S) := by
  have h6 := hV.2.1.1
  have key14 : ∀ (kb : Int32 → St → Option (Int32 × St)) (s : Nat), s < B 9 0 → ∀ (m N k : Nat), k + m = B 4 s → m < N → f_X6_areWhole_L14 N (Q + 1) kb (iI s) (iI (natTo (fun k => B 6 (3 * s + k)) k)) (iI k) S = if natTo (fun k => B 6 (3 * s + k)) (B 4 s) = 10 then kb (iI (s + 1 : Nat)) S else some (0, S) := by
    intro kb s hs m
    obtain ⟨b1, b2, b3, b4, b5, b6, b7, b8, b9⟩ := hV.2.2.1 s hs
    obtain ⟨z1, z2, z3, z4, z5⟩ := hB.2.2.2.1 s hs
    induction m with
    | zero =>
      intro N k hk hN
      obtain ⟨N, rfl⟩ : ∃ k, N = k + 1 := ⟨N - 1, by omega⟩
      have hke : k = B 4 s := by omega
      have hb : natTo (fun k => B 6 (3 * s + k)) (B 4 s) ≤ 10 * B 4 s := natTo_bd2 (fun j hj => (b9 j hj).2.2)
      rw [f_X6_areWhole_L14, ob_iI (by omega), iI_nat (by omega), show Q + 1 + 4 = Q + 5 from rfl, z4, if_pos (by rw [iI_le (by omega) (by omega)]; omega), hke, show iI s + (1 : Int32) = iI (s + 1 : Nat) from iI_add s 1, show (10 : Int32) = iI 10 from rfl]
      by_cases hc : natTo (fun k => B 6 (3 * s + k)) (B 4 s) = 10
      · rw [if_pos hc, if_pos (by rw [hc]; rfl)]
      · rw [if_neg hc, if_neg (by rw [iI_eq (by omega) (by omega)]; omega)]
    | succ m ih =>
      intro N k hk hN
      obtain ⟨N, rfl⟩ : ∃ k, N = k + 1 := ⟨N - 1, by omega⟩
      have x1 : iI s * (3 : Int32) + iI k = iI (3 * s + k : Nat) := by rw [show (3 : Int32) = iI 3 from rfl, iI_mul, iI_add]; congr 1; omega
      rw [f_X6_areWhole_L14, ob_iI (by omega), iI_nat (by omega), show Q + 1 + 4 = Q + 5 from rfl, z4, if_neg (by rw [iI_le (by omega) (by omega)]; omega), x1, ob_iI (by omega), iI_nat (by omega), show Q + 1 + 6 = Q + 7 from rfl, (z5 k (by omega)).2, iI_add, sq_k, show iI k + (1 : Int32) = iI (k + 1 : Nat) from iI_add k 1]
      exact ih N (k + 1) (by omega) (by omega)
  have key2 : ∀ (m N s : Nat), s + m = B 9 0 → m < N → f_X6_areWhole_L2 N (Q + 1) (iI s) S = some (bI (allFr (fun s => decide (natTo (fun k => B 6 (3 * s + k)) (B 4 s) = 10)) s m), S) := by
    intro m
    induction m with
    | zero =>
      intro N s hs hN
      obtain ⟨N, rfl⟩ : ∃ k, N = k + 1 := ⟨N - 1, by omega⟩
      rw [f_X6_areWhole_L2, hB.2.1, if_pos (by rw [iI_le (by omega) (by omega)]; omega)]
      rfl
    | succ m ih =>
      intro N s hs hN
      obtain ⟨N, rfl⟩ : ∃ k, N = k + 1 := ⟨N - 1, by omega⟩
      have hb4 := (hV.2.2.1 s (by omega)).2.2.2.1
      have z : f_X6_areWhole_L14 FU (Q + 1) (fun l1 S => f_X6_areWhole_L2 N (Q + 1) l1 S) (iI s) 0 0 S = _ := key14 (fun l1 S => f_X6_areWhole_L2 N (Q + 1) l1 S) s (by omega) (B 4 s) FU 0 (by omega) (by unfold FU; omega)
      rw [f_X6_areWhole_L2, hB.2.1, if_neg (by rw [iI_le (by omega) (by omega)]; omega), z]
      have e : allFr (fun s => decide (natTo (fun k => B 6 (3 * s + k)) (B 4 s) = 10)) s (m + 1) = (decide (natTo (fun k => B 6 (3 * s + k)) (B 4 s) = 10) && allFr (fun s => decide (natTo (fun k => B 6 (3 * s + k)) (B 4 s) = 10)) (s + 1) m) := rfl
      rw [e]
      by_cases hc : natTo (fun k => B 6 (3 * s + k)) (B 4 s) = 10
      · rw [if_pos hc, decide_eq_true hc, Bool.true_and]
        exact ih N (s + 1) (by omega) (by omega)
      · rw [if_neg hc, decide_eq_false hc, Bool.false_and]; rfl
  unfold f_X6_areWhole
  exact key2 (B 9 0) FU 0 (Nat.zero_add _) (by unfold FU; omega)
theorem E_readL {Q : Nat} {t : Nat → Nat} {n : Nat} (hQ : Q = 5 ∨ Q = 15) : ∀ (f N q i : Nat) (B : Bd) (S : St), n ≤ q + f → f < N → q ≤ n → i ≤ q → TE S t n → VB0 B → BE S Q B → S.1 3 1 = iI q →
    ∃ S2 : St, f_X3_read_L11 N 3 1 Q (iI i) S = some (iI (rdS n (parS t n f q B)), S2) ∧ Fr (PRE Q) S S2 ∧ ((parS t n f q B).2.2 = true → BE S2 Q (parS t n f q B).2.1 ∧ VB0 (parS t n f q B).2.1) := by
  have stop : ∀ (N q i : Nat) (B : Bd) (S : St), n ≤ q → q ≤ n → TE S t n → VB0 B → BE S Q B → S.1 3 1 = iI q → f_X3_read_L11 (N + 1) 3 1 Q (iI i) S = some (iI (rdS n (q, B, true)), S) := by
    intro N q i B S h1 h2 hT hV hB h31
    have h300 := hT.1
    have j : f_X3_read_J85 3 1 Q S = some (iI (rdS n (q, B, true)), S) := by
      unfold f_X3_read_J85
      rw [bd_ok (E_areWhole hV hB), hT.2.2.1]
      have e : rdS n (q, B, true) = if whB B = true then -4 else (n : Int) := rfl
      rw [e]
      cases whB B
      · rw [if_pos (by decide)]; rfl
      · rw [if_neg (by decide), iI_n4]; rfl
    rw [f_X3_read_L11, hT.2.2.1, h31, j]
    by_cases hc : (300 : Int32) ≤ iI i
    · rw [if_pos hc]
    · rw [if_neg hc, if_pos (by rw [iI_le (by omega) (by omega)]; omega)]
  intro f
  induction f with
  | zero =>
    intro N q i B S hn hN hq hi hT hV hB h31
    obtain ⟨N, rfl⟩ : ∃ k, N = k + 1 := ⟨N - 1, by omega⟩
    exact ⟨S, stop N q i B S (by omega) hq hT hV hB h31, Fr.rf, fun _ => ⟨hB, hV⟩⟩
  | succ f ih =>
    intro N q i B S hn hN hq hi hT hV hB h31
    obtain ⟨N, rfl⟩ : ∃ k, N = k + 1 := ⟨N - 1, by omega⟩
    have h300 := hT.1
    have ep : parS t n (f + 1) q B = if n ≤ q then (q, B, true) else match itemS t n q B with
      | none => (q, B, false)
      | some r => parS t n f r.1 r.2 := rfl
    by_cases hnq : n ≤ q
    · rw [ep, if_pos hnq]
      exact ⟨S, stop N q i B S hnq hq hT hV hB h31, Fr.rf, fun _ => ⟨hB, hV⟩⟩
    rw [ep, if_neg hnq]
    have hl := hT.2.1 q (by omega)
    have hby := E_byteAt (q := q) hT (by omega)
    rw [if_pos (by omega)] at hby
    have w3 : ∀ k, PRE Q 3 k := fun _ => Or.inl rfl
    obtain ⟨S1, hS1⟩ : ∃ S1, S1 = pI S 3 1 (iI (q + 1 : Nat)) := ⟨_, rfl⟩
    have f1 : Fr (PRE Q) S S1 := by rw [hS1]; exact Fr.pI (w3 1)
    have hT1 : TE S1 t n := TE_fr hT f1 (fun a k z => PRE_3 hQ z)
    have h311 : S1.1 3 1 = iI (q + 1 : Nat) := by rw [hS1, pI_1, if_pos ⟨rfl, rfl⟩]
    have pre : ∀ R : Option (Int32 × St), (bd (f_X3_readNumbers 3 1 (iI (manyS (t q) : Nat)) S1) fun x15 S16 => if x15 = 0 then some (iI q, S16) else bd (f_X3_take 3 (iI (t q)) Q S16) fun x19 S20 => if x19 = 0 then some (iI q, S20) else f_X3_read_L11 N 3 1 Q (iI (i + 1 : Nat)) S20) = R → f_X3_read_L11 (N + 1) 3 1 Q (iI i) S = R := by
      intro R hR
      rw [f_X3_read_L11, show (300 : Int32) = iI 300 from rfl, if_neg (by rw [iI_le (by omega) (by omega)]; omega), hT.2.2.1, h31, if_neg (by rw [iI_le (by omega) (by omega)]; omega), sq_k, bd_ok hby, h31, show iI q + (1 : Int32) = iI (q + 1 : Nat) from iI_add q 1, sq_k, ← hS1, bd_ok (E_numbersOf hl S1), show iI i + (1 : Int32) = iI (i + 1 : Nat) from iI_add i 1]
      exact hR
    have hno : ∀ S2 : St, Fr (PRE Q) S S2 → itemS t n q B = none → (∃ R, R = some (iI q, S2) ∧ f_X3_read_L11 (N + 1) 3 1 Q (iI i) S = R) → ∃ S2 : St, f_X3_read_L11 (N + 1) 3 1 Q (iI i) S = some (iI (rdS n (match itemS t n q B with
      | none => (q, B, false)
      | some r => parS t n f r.1 r.2)), S2) ∧ Fr (PRE Q) S S2 ∧ ((match itemS t n q B with
      | none => (q, B, false)
      | some r => parS t n f r.1 r.2).2.2 = true → BE S2 Q (match itemS t n q B with
      | none => (q, B, false)
      | some r => parS t n f r.1 r.2).2.1 ∧ VB0 (match itemS t n q B with
      | none => (q, B, false)
      | some r => parS t n f r.1 r.2).2.1) := by
      intro S2 hf hi2 ⟨R, hR, hR2⟩
      rw [hi2]
      exact ⟨S2, by rw [hR2, hR]; rfl, hf, fun z => absurd z (show ¬ (false = true) by decide)⟩
    have hm5 := many_le (t q)
    by_cases hm0 : manyS (t q) = 0
    · refine hno S1 f1 (by unfold itemS; rw [if_pos hm0]) ⟨_, ?_, pre _ rfl⟩
      have : f_X3_readNumbers 3 1 (iI (manyS (t q) : Nat)) S1 = some (0, S1) := by
        unfold f_X3_readNumbers
        rw [hm0, if_pos (by decide)]
      rw [this, bd_ok rfl, if_pos rfl]
    have hrn : f_X3_readNumbers 3 1 (iI (manyS (t q) : Nat)) S1 = f_X3_readNumbers_L14 FU 3 1 (iI (manyS (t q) : Nat)) 0 S1 := by
      unfold f_X3_readNumbers
      rw [show (1 : Int32) = iI 1 from rfl, if_neg (by rw [iI_lt (by omega) (by omega)]; omega), show (5 : Int32) = iI 5 from rfl, if_pos (by rw [iI_le (by omega) (by omega)]; omega)]
    obtain ⟨S3, b, z1, z2, z3, z4⟩ := E_numbers (t := t) (n := n) hm5 (manyS (t q)) FU (q + 1) (fun _ => 0) S1 (Nat.le_refl _) (by unfold FU; omega) (by omega) h311 hT1 (fun j hj => absurd hj (by omega))
    rw [Nat.sub_self] at z1
    have z1' : f_X3_readNumbers 3 1 (iI (manyS (t q) : Nat)) S1 = some (bI b, S3) := hrn.trans z1
    have f3 : Fr (PRE Q) S S3 := f1.tr (z2.wk (fun a k h => by rcases h with h | h; exact Or.inl h; exact Or.inr (Or.inl h)))
    have hB3 : BE S3 Q B := BE_row hB (fun j hj => funext fun k => by
      rw [z2.1 _ k (by unfold P34; omega), hS1, pI_row (by omega)])
    cases hf : figS t n (manyS (t q)) (manyS (t q)) (q + 1) (fun _ => 0) with
    | none =>
      refine hno S3 f3 (by unfold itemS; rw [if_neg hm0, hf]) ⟨_, ?_, pre _ rfl⟩
      rw [z1', bd_ok rfl, z3 hf, if_pos (by decide)]
    | some r =>
      obtain ⟨hb, h313, hv⟩ := z4 r.1 r.2 hf
      obtain ⟨g1, g2, g3⟩ := figS_bd (q2 := r.1) (vs2 := r.2) hf
      obtain ⟨S4, b4, y1, y2, y3, y4⟩ := E_takeI (v := r.2) hQ hV hB3 hm0 hv (g3 (fun _ => Nat.zero_le _))
      have f4 : Fr (PRE Q) S S4 := f3.tr (y2.wk (fun a k h => Or.inr (Or.inr h)))
      cases ht : takeS (t q) r.2 B with
      | none =>
        refine hno S4 f4 (by unfold itemS; rw [if_neg hm0, hf]; dsimp only; rw [ht]) ⟨_, ?_, pre _ rfl⟩
        rw [z1', bd_ok rfl, hb, if_neg (by decide), y1, bd_ok rfl, y3 ht, if_pos (by decide)]
      | some B2 =>
        obtain ⟨hb4, hB4⟩ := y4 B2 ht
        have hit : itemS t n q B = some (r.1, B2) := by unfold itemS; rw [if_neg hm0, hf]; dsimp only; rw [ht]
        obtain ⟨k1, k2, k3⟩ := itemS_bd (by omega) hV hit
        obtain ⟨S5, x1, x2, x3⟩ := ih N r.1 (i + 1) B2 S4 (by omega) (by omega) k2 (by omega) (TE_fr hT f4 (fun a k z => PRE_3 hQ z)) k3 hB4 (by rw [y2.1 3 1 (by unfold PQ; omega)]; exact h313)
        rw [hit]
        refine ⟨S5, pre _ ?_, f4.tr x2, x3⟩
        rw [z1', bd_ok rfl, hb, if_neg (by decide), y1, bd_ok rfl, hb4, if_neg (by decide)]
        exact x1
/-- what reading a text comes to -/
def rdB (t : Nat → Nat) (n : Nat) : Nat × Bd × Bool := parS t n n 0 clrB
theorem E_read {S : St} {Q : Nat} {t : Nat → Nat} {n : Nat} (hQ : Q = 5 ∨ Q = 15) (hT : TE S t n) : ∃ S2 : St, f_X3_read 3 1 Q S = some (iI (rdS n (rdB t n)), S2) ∧ Fr (PRE Q) S S2 ∧ ((rdB t n).2.2 = true → BE S2 Q (rdB t n).2.1 ∧ VB0 (rdB t n).2.1) := by
  have h300 := hT.1
  obtain ⟨S1, hS1⟩ : ∃ S1, S1 = pI (pI (pI (pI (pI (pI (pI (pI (pI (pI (pI (pI S Q 0 20) Q 1 0) Q 2 9) Q 3 20) Q 4 0) Q 5 0) Q 6 0) Q 9 0) Q 7 0) Q 8 0) (Q + 1) 0 0) (Q + 1) 1 0 := ⟨_, rfl⟩
  have hc : f_X2_clear Q S = some ((), S1) := by
    unfold f_X2_clear f_X6_clear
    rw [sq_k, sq_k, sq_k, sq_k, sq_k, sq_k, sq_k, sq_k, sq_k, sq_k, sq_k, sq_k, bd_ok rfl, hS1]
  have w : ∀ k, PQ Q Q k := fun k => PQ_Q Q k
  have w1 : ∀ k, PQ Q (Q + 1) k := fun k => ⟨by omega, by omega⟩
  have f1 : Fr (PQ Q) S S1 := by
    rw [hS1]
    exact (((((((((((Fr.pI (w _)).tr (Fr.pI (w _))).tr (Fr.pI (w _))).tr (Fr.pI (w _))).tr (Fr.pI (w _))).tr (Fr.pI (w _))).tr (Fr.pI (w _))).tr (Fr.pI (w _))).tr (Fr.pI (w _))).tr (Fr.pI (w _))).tr (Fr.pI (w1 _))).tr (Fr.pI (w1 _))
  have hB1 : BE S1 Q clrB := by
    refine ⟨?_, ?_, ?_, fun s hs => absurd hs (Nat.not_lt_zero _), fun s hs => absurd hs (Nat.not_lt_zero _)⟩
    · rw [hS1, pI_row (show Q ≠ Q + 1 by omega), pI_row (show Q ≠ Q + 1 by omega)]
      refine ⟨?_, ?_, ?_, ?_, ?_, ?_, ?_, ?_, ?_, ?_⟩ <;> (simp [pI_1, clrB]; try rfl)
    · rw [hS1, pI_1, if_neg (by omega), pI_1, if_pos ⟨rfl, rfl⟩]; rfl
    · rw [hS1, pI_1, if_pos ⟨rfl, rfl⟩]; rfl
  have w3 : ∀ k, PRE Q 3 k := fun _ => Or.inl rfl
  have f2 : Fr (PRE Q) S (pI S1 3 1 0) := (f1.wk (fun a k h => Or.inr (Or.inr h))).tr (Fr.pI (w3 1))
  have hB2 : BE (pI S1 3 1 0) Q clrB := BE_row hB1 (fun j hj => by rw [pI_row (by omega)])
  obtain ⟨S2, y1, y2, y3⟩ := E_readL (t := t) (n := n) hQ n FU 0 0 clrB (pI S1 3 1 0) (by omega) (by unfold FU; omega) (Nat.zero_le _) (Nat.le_refl _) (TE_fr hT f2 (fun a k z => PRE_3 hQ z)) clrB_V hB2 (by rw [pI_1, if_pos ⟨rfl, rfl⟩]; rfl)
  refine ⟨S2, ?_, f2.tr y2, y3⟩
  unfold f_X3_read
  rw [bd_ok hc, sq_k]
  exact y1
