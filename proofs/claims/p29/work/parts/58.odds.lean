theorem E_power {n : Nat} {S : St} (hn : n ≤ 8) : f_X0_power (iI n) S = some (lI ((10 : Int) ^ n), S) := by
  have key : ∀ (m N k : Nat), k + m = n → m < N → f_X0_power_L4 N (iI n) (lI ((10 : Int) ^ k)) (iI k) S = some (lI ((10 : Int) ^ n), S) := by
    intro m
    induction m with
    | zero =>
      intro N k hk hN
      obtain ⟨N, rfl⟩ : ∃ k, N = k + 1 := ⟨N - 1, by omega⟩
      have : k = n := by omega
      subst this
      rw [f_X0_power_L4, if_pos (by rw [iI_le (by omega) (by omega)]; omega)]
    | succ m ih =>
      intro N k hk hN
      obtain ⟨N, rfl⟩ : ∃ k, N = k + 1 := ⟨N - 1, by omega⟩
      rw [f_X0_power_L4, if_neg (by rw [iI_le (by omega) (by omega)]; omega), sq_k, show (10 : Int64) = lI 10 from rfl, lI_mul, ← Int.pow_succ, show iI k + (1 : Int32) = iI (k + 1 : Nat) from iI_add k 1]
      exact ih N (k + 1) (by omega) (by omega)
  have z := key n FU 0 (by omega) (by unfold FU; omega)
  rw [Int.pow_zero] at z
  unfold f_X0_power
  exact z
theorem E_allWays {S : St} {c L : Nat} {B : Bd} (hV : VB B) (hC : CE S c B L) : f_X0_allWays c S = some (lI ((10 : Int) ^ cntL B L), S) := by
  have hn := cntL_le B L
  have hng : B 9 1 ≤ 8 := hV.2.1.2.2.2
  unfold f_X0_allWays
  rw [hC.1, bd_ok (E_power (by omega))]
theorem M_allWays {S : St} {B : Bd} {L : Nat} (hV : VB B) (hO : OM S (ordL B L)) : f_X10_allWays 103 S = some (lI ((10 : Int) ^ cntL B L), S) := by
  have hn := cntL_le B L
  have hng : B 9 1 ≤ 8 := hV.2.1.2.2.2
  have ho : S.1 103 27 = iI (cntL B L) := hO.1
  have key : ∀ (m N k : Nat), k + m = cntL B L → m < N → f_X10_allWays_L4 N 103 (lI ((10 : Int) ^ k)) (iI k) S = some (lI ((10 : Int) ^ cntL B L), S) := by
    intro m
    induction m with
    | zero =>
      intro N k hk hN
      obtain ⟨N, rfl⟩ : ∃ k, N = k + 1 := ⟨N - 1, by omega⟩
      have : k = cntL B L := by omega
      subst this
      rw [f_X10_allWays_L4, ho, if_pos (by rw [iI_le (by omega) (by omega)]; omega)]
    | succ m ih =>
      intro N k hk hN
      obtain ⟨N, rfl⟩ : ∃ k, N = k + 1 := ⟨N - 1, by omega⟩
      rw [f_X10_allWays_L4, ho, if_neg (by rw [iI_le (by omega) (by omega)]; omega), sq_k, show (10 : Int64) = lI 10 from rfl, lI_mul, ← Int.pow_succ, show iI k + (1 : Int32) = iI (k + 1 : Nat) from iI_add k 1]
      exact ih N (k + 1) (by omega) (by omega)
  have z := key (cntL B L) FU 0 (by omega) (by unfold FU; omega)
  rw [Int.pow_zero] at z
  unfold f_X10_allWays
  exact z
def gcdF : Nat → Nat → Nat → Nat
  | 0, a, _ => a
  | n + 1, a, b => if b = 0 then a else gcdF n b (a % b)
/-- the loop that ends by itself within n steps -/
def gcdE : Nat → Nat → Nat → Prop
  | 0, _, b => b = 0
  | n + 1, a, b => b = 0 ∨ gcdE n b (a % b)
theorem gcdE_mono : ∀ (n a b : Nat), gcdE n a b → gcdE (n + 1) a b
  | 0, _, _, h => Or.inl h
  | n + 1, a, b, h => by
    rcases h with h | h
    · exact Or.inl h
    · exact Or.inr (gcdE_mono n _ _ h)
theorem gcdE_of : ∀ (k a b : Nat), b < 2 ^ k → gcdE (2 * k) a b
  | 0, a, b, h => by
    have : (2 : Nat) ^ 0 = 1 := rfl
    show b = 0; omega
  | k + 1, a, b, h => by
    show gcdE (2 * k + 1 + 1) a b
    by_cases hb : b = 0
    · exact Or.inl hb
    · refine Or.inr ?_
      by_cases hr : a % b = 0
      · exact Or.inl hr
      · refine Or.inr (gcdE_of k _ _ ?_)
        have h1 : a % b < b := Nat.mod_lt _ (by omega)
        have h2 : b % (a % b) < a % b := Nat.mod_lt _ (by omega)
        have h3 : b = (a % b) * (b / (a % b)) + b % (a % b) := (Nat.div_add_mod b (a % b)).symm
        have h4 : 1 ≤ b / (a % b) := (Nat.one_le_div_iff (by omega)).mpr (by omega)
        have h5 : a % b * 1 ≤ a % b * (b / (a % b)) := Nat.mul_le_mul_left _ h4
        have h6 : (2 : Nat) ^ (k + 1) = 2 ^ k * 2 := Nat.pow_succ _ _
        generalize a % b * (b / (a % b)) = q at *
        omega
theorem gcdF_pos : ∀ (n a b : Nat), (0 < a ∨ 0 < b) → gcdE n a b → 0 < gcdF n a b
  | 0, a, b, h, he => by
    have : b = 0 := he
    show 0 < a; omega
  | n + 1, a, b, h, he => by
    show 0 < if b = 0 then a else gcdF n b (a % b)
    by_cases hb : b = 0
    · rw [if_pos hb]; omega
    · rw [if_neg hb]
      rcases he with he | he
      · exact absurd he hb
      · exact gcdF_pos n b (a % b) (Or.inl (by omega)) he
theorem gcdF_le : ∀ (n a b : Nat), gcdF n a b ≤ a ∨ gcdF n a b ≤ b
  | 0, a, b => Or.inl (Nat.le_refl _)
  | n + 1, a, b => by
    show (if b = 0 then a else gcdF n b (a % b)) ≤ a ∨ (if b = 0 then a else gcdF n b (a % b)) ≤ b
    by_cases hb : b = 0
    · rw [if_pos hb]; exact Or.inl (Nat.le_refl _)
    · rw [if_neg hb]
      rcases gcdF_le n b (a % b) with h | h
      · exact Or.inr h
      · exact Or.inl (Nat.le_trans h (Nat.mod_le _ _))
theorem E_gcd {S : St} : ∀ (n N a b l : Nat), gcdE n a b → n < N → l + n < 100 → a < 9000000000000000000 → b < 9000000000000000000 → f_X9_greatestPart_L3 N (lI a) (lI b) (iI l) S = f_X9_greatestPart_J32 (lI (gcdF n a b)) S := by
  intro n
  induction n with
  | zero =>
    intro N a b l he hN hl ha hb
    obtain ⟨N, rfl⟩ : ∃ k, N = k + 1 := ⟨N - 1, by omega⟩
    have : b = 0 := he
    subst this
    rw [f_X9_greatestPart_L3, if_neg (by rw [show (100 : Int32) = iI 100 from rfl, iI_le (by omega) (by omega)]; omega), if_pos (show lI ((0 : Nat) : Int) = 0 from rfl)]; rfl
  | succ n ih =>
    intro N a b l he hN hl ha hb
    obtain ⟨N, rfl⟩ : ∃ k, N = k + 1 := ⟨N - 1, by omega⟩
    rw [f_X9_greatestPart_L3, if_neg (by rw [show (100 : Int32) = iI 100 from rfl, iI_le (by omega) (by omega)]; omega)]
    unfold gcdF
    by_cases h0 : b = 0
    · rw [if_pos h0, if_pos (by rw [h0]; rfl)]
    · have hm : a % b < b := Nat.mod_lt _ (by omega)
      rw [if_neg h0, if_neg (by rw [show (0 : Int64) = lI 0 from rfl, lI_eq (by omega) (by omega)]; omega), ck_pos (by rw [show (0 : Int64) = lI 0 from rfl, lI_eq (by omega) (by omega)]; omega), lI_rem (by omega) (by omega), sq_k, ← Int.natCast_emod, show iI l + (1 : Int32) = iI (l + 1 : Nat) from iI_add l 1]
      rcases he with he | he
      · exact absurd he h0
      · exact ih N b (a % b) (l + 1) he (by omega) (by omega) (by omega) (by omega)
theorem M_gcd {S : St} {x y : Int64} : ∀ (n N a b : Nat), gcdE n a b → n < N → a < 9000000000000000000 → b < 9000000000000000000 → f_X10_common_L6 N x y (lI a) (lI b) S = some (lI (gcdF n a b), S) := by
  intro n
  induction n with
  | zero =>
    intro N a b he hN ha hb
    obtain ⟨N, rfl⟩ : ∃ k, N = k + 1 := ⟨N - 1, by omega⟩
    have : b = 0 := he
    subst this
    rw [f_X10_common_L6, if_pos (show lI ((0 : Nat) : Int) = 0 from rfl)]; rfl
  | succ n ih =>
    intro N a b he hN ha hb
    obtain ⟨N, rfl⟩ : ∃ k, N = k + 1 := ⟨N - 1, by omega⟩
    rw [f_X10_common_L6]
    unfold gcdF
    by_cases h0 : b = 0
    · rw [if_pos h0, if_pos (by rw [h0]; rfl)]
    · have hm : a % b < b := Nat.mod_lt _ (by omega)
      rw [if_neg h0, if_neg (by rw [show (0 : Int64) = lI 0 from rfl, lI_eq (by omega) (by omega)]; omega), ck_pos (by rw [show (0 : Int64) = lI 0 from rfl, lI_eq (by omega) (by omega)]; omega), lI_rem (by omega) (by omega), sq_k, ← Int.natCast_emod]
      rcases he with he | he
      · exact absurd he h0
      · exact ih N b (a % b) he (by omega) (by omega) (by omega)
def gcdT (a b : Nat) : Nat := gcdF (2 * 27) a b
theorem gcd_end {a b : Nat} (hb : 1 ≤ b ∧ b ≤ 100000000) : gcdE (2 * 27) a b := by
  have h2 : (100000000 : Nat) < 2 ^ 27 := by decide
  exact gcdE_of 27 a b (by omega)
theorem gcd_bd {a b : Nat} (ha : a ≤ 100000000) (hb : 1 ≤ b ∧ b ≤ 100000000) : 1 ≤ gcdT a b ∧ gcdT a b ≤ 100000000 := by
  have hp := gcdF_pos (2 * 27) a b (Or.inr (by omega)) (gcd_end hb)
  have hl : gcdF (2 * 27) a b ≤ 100000000 := by rcases gcdF_le (2 * 27) a b with h | h <;> omega
  exact ⟨hp, hl⟩
theorem E_gcdT {S : St} {a b : Nat} (ha : a ≤ 100000000) (hb : 1 ≤ b ∧ b ≤ 100000000) : f_X9_greatestPart (lI a) (lI b) S = some (lI (gcdT a b), S) := by
  obtain ⟨g1, g2⟩ := gcd_bd ha hb
  unfold f_X9_greatestPart
  have z := E_gcd (S := S) (2 * 27) FU a b 0 (gcd_end hb) (by unfold FU; omega) (by omega) (by omega) (by omega)
  refine z.trans ?_
  rw [show gcdF (2 * 27) a b = gcdT a b from rfl]
  unfold f_X9_greatestPart_J32
  rw [if_neg (by rw [show (0 : Int64) = lI 0 from rfl, lI_eq (by omega) (by omega)]; omega)]
theorem M_gcdT {S : St} {a b : Nat} (ha : a ≤ 100000000) (hb : 1 ≤ b ∧ b ≤ 100000000) : f_X10_common (lI a) (lI b) S = some (lI (gcdT a b), S) := by
  unfold f_X10_common
  exact M_gcd (2 * 27) FU a b (gcd_end hb) (by unfold FU; omega) (by omega) (by omega)
theorem M_ways0 {S : St} {T : Tst} {what : Nat} (hV : VT T) (hM : IM S T) (hw : what ≤ 5) : ∃ S1 S2 : St, f_X10_plain 103 S = some ((), S1) ∧ f_X10_waysOf 103 (iI what) S1 = some (lI (cntM (tB T) (tB T 0 2) (tB T 0 0) (tB T 0 5) (tS T) 0 0 what), S2) ∧ MG S2 (tB T) (tB T 0 2) (tB T 0 0) (tB T 0 5) (tS T) 0 (-4) ∧ Fr PScr S S2 := by
  have hVB := VT_B hV
  obtain ⟨S1, e1, ⟨q1, q2, q3, q4, q5, q6⟩, e3⟩ := M_plain hM
  have hM1 := IM_scr hM (e3.wk (fun _ _ => pl_scr))
  obtain ⟨S2, z1, z2, z3⟩ := M_waysOf (what := what) (rq := 0) hVB (VT_L hV) hV.2.2.2.2.1 hVB.1.2.1 hVB.1.2.2.2.2.2.2.1 (show 0 ≤ 99 by omega) (Or.inl ⟨by omega, by omega, rfl⟩) hw hM1.2.2.1 q1 q2 q3 q4 q5 q6
  exact ⟨S1, S2, e1, z1, z2, (e3.wk (fun _ _ => pl_scr)).tr z3⟩
theorem ok_odds (x : Int32) : Okk (f_X9_odds 0 x) (f_X10_odds 103 x) := by
  apply Okk_scr
  intro S T hV hE
  have hVB := VT_B hV
  have hL := VT_L hV
  have hng : tB T 9 1 ≤ 8 := hVB.2.1.2.2.2
  have hcl := cntL_le (tB T) (tB T 0 2)
  by_cases hb : bad x 0 2
  · refine ⟨-1, S, ⟨?_, hE, Fr.rf⟩, fun S1 hM => ⟨S1, ?_, Fr.rf⟩⟩
    · unfold f_X9_odds; rw [bd_ok (within_bad hb)]; rfl
    · unfold f_X10_odds; rw [bd_ok (in_bad hb)]; rfl
  obtain ⟨S2, e1, e2, e3, e4⟩ := E_stand hV hE
  obtain ⟨c1, c2⟩ := cntS_bd (bar := tB T 0 0) (e := tB T 0 5) (sh := tS T) (rq := 0) (R := 0) (what := 0) hVB hL
  obtain ⟨t1, t2⟩ := ten_le (n := cntL (tB T) (tB T 0 2)) (by omega)
  obtain ⟨a, ha⟩ : ∃ a : Nat, (a : Int) = cntS (tB T) (tB T 0 2) (tB T 0 0) (tB T 0 5) (tS T) 0 0 0 := ⟨(cntS (tB T) (tB T 0 2) (tB T 0 0) (tB T 0 5) (tS T) 0 0 0).toNat, by omega⟩
  obtain ⟨b, hb2⟩ : ∃ b : Nat, (b : Int) = (10 : Int) ^ cntL (tB T) (tB T 0 2) := ⟨((10 : Int) ^ cntL (tB T) (tB T 0 2)).toNat, by omega⟩
  have hk := e4.1.1
  rw [← ha] at hk
  have hal := E_allWays hVB (IE_C e2)
  rw [← hb2] at hal
  obtain ⟨g1, g2⟩ := gcd_bd (a := a) (b := b) (by omega) (by omega)
  have hgz : ¬ lI (gcdT a b) = 0 := by rw [show (0 : Int64) = lI 0 from rfl, lI_eq (by omega) (by omega)]; omega
  refine ⟨if x = 0 then lI a else if x = 1 then lI (a / gcdT a b : Nat) else lI (b / gcdT a b : Nat), S2, ⟨?_, e2, e3⟩, fun S1 hM => ?_⟩
  · unfold f_X9_odds
    rw [bd_ok (within_ok hb), if_neg (by decide), bd_ok e1, ck_pos (show kdE 73 = 8 from rfl), sq_k, hk]
    by_cases h0 : x = 0
    · rw [if_pos h0, if_pos h0]
    rw [if_neg h0, if_neg h0]
    dsimp only [Nat.reduceAdd]
    rw [bd_ok hal, bd_ok (E_gcdT (by omega) (by omega))]
    by_cases h1 : x = 1
    · rw [if_pos h1, if_pos h1, ck_pos hgz, lI_div (by omega) (by omega), ← Int.natCast_ediv]
    · rw [if_neg h1, if_neg h1, ck_pos hgz, lI_div (by omega) (by omega), ← Int.natCast_ediv]
  · obtain ⟨S3, S4, z1, z2, z3, z4⟩ := M_ways0 (what := 0) hV hM (by omega)
    rw [cntM_S (Or.inl (by omega)), ← ha] at z2
    have hal := M_allWays hVB z3.2.1
    rw [← hb2] at hal
    refine ⟨S4, ?_, z4⟩
    have z2' : f_X10_waysOf 103 0 S3 = some (lI a, S4) := z2
    unfold f_X10_odds
    rw [bd_ok (in_ok hb), if_neg (by decide), bd_ok z1, bd_ok z2', bd_ok hal, bd_ok (M_gcdT (by omega) (by omega))]
    by_cases h0 : x = 0
    · rw [if_pos h0, if_pos h0]
    rw [if_neg h0, if_neg h0]
    by_cases h1 : x = 1
    · rw [if_pos h1, if_pos h1, ck_pos hgz, lI_div (by omega) (by omega), ← Int.natCast_ediv]
    · rw [if_neg h1, if_neg h1, bd_ok hal, ck_pos hgz, lI_div (by omega) (by omega), ← Int.natCast_ediv]
theorem ok_wrong (x : Int32) : Okk (f_X9_wrong 0 x) (f_X10_wrong 103 x) := by
  apply Okk_scr
  intro S T hV hE
  by_cases hb : bad x 0 1
  · refine ⟨-1, S, ⟨?_, hE, Fr.rf⟩, fun S1 hM => ⟨S1, ?_, Fr.rf⟩⟩
    · unfold f_X9_wrong; rw [bd_ok (within_bad hb)]; rfl
    · unfold f_X10_wrong; rw [bd_ok (in_bad hb)]; rfl
  obtain ⟨S2, e1, e2, e3, e4⟩ := E_stand hV hE
  obtain ⟨n, hn, rfl⟩ := bad_in (m := 1) hb
  refine ⟨lI (cntS (tB T) (tB T 0 2) (tB T 0 0) (tB T 0 5) (tS T) 0 0 (n + 1)), S2, ⟨?_, e2, e3⟩, fun S1 hM => ?_⟩
  · unfold f_X9_wrong
    rw [bd_ok (within_ok hb), if_neg (by decide), bd_ok e1, ck_pos (show kdE 73 = 8 from rfl)]
    rcases (show n = 0 ∨ n = 1 by omega) with rfl | rfl
    · rw [if_pos (by decide), e4.1.2.1]
    · rw [if_neg (by decide), e4.1.2.2.1]
  · obtain ⟨S3, S4, z1, z2, z3, z4⟩ := M_ways0 (what := n + 1) hV hM (by omega)
    rw [cntM_S (Or.inl (by omega))] at z2
    refine ⟨S4, ?_, z4⟩
    unfold f_X10_wrong
    rw [bd_ok (in_ok hb), if_neg (by decide), bd_ok z1, show iI n + (1 : Int32) = iI (n + 1 : Nat) from iI_add n 1, bd_ok z2]
theorem ok_two (x : Int32) : Okk (f_X9_two 0 x) (f_X10_two 103 x) := by
  apply Okk_scr
  intro S T hV hE
  have hVB := VT_B hV
  obtain ⟨P, p1, p2, p3⟩ := IE_P hE
  have hk := kdE_P p1
  have h7 : S.1 P 7 = iI (tB T 0 8) := p3.1.2.2.2.2.2.2.2.2.1
  have v8 : tB T 0 8 ≤ 60 := hVB.1.2.2.2.2.2.2.2.2.2.1
  by_cases hb : bad x 0 2
  · refine ⟨-1, S, ⟨?_, hE, Fr.rf⟩, fun S1 hM => ⟨S1, ?_, Fr.rf⟩⟩
    · unfold f_X9_two; rw [bd_ok (within_bad hb)]; rfl
    · unfold f_X10_two; rw [bd_ok (in_bad hb)]; rfl
  by_cases h8 : tB T 0 8 = 0
  · refine ⟨-2, S, ⟨?_, hE, Fr.rf⟩, fun S1 hM => ⟨S1, ?_, Fr.rf⟩⟩
    · unfold f_X9_two; rw [bd_ok (within_ok hb), if_neg (by decide), p2, ck_pos hk, h7, h8, if_pos (show iI ((0 : Nat) : Int) = 0 from rfl)]
    · unfold f_X10_two
      rw [bd_ok (in_ok hb), if_neg (by decide), show Int32.toNatClampNeg 8 = 8 from rfl, show (103 : Nat) + 2 = 105 from rfl, hM.2.2.1.1 8 (by omega), h8, if_pos (show iI ((0 : Nat) : Int) = 0 from rfl)]
  obtain ⟨S2, e1, e2, e3, e4⟩ := E_stand hV hE
  obtain ⟨n, hn, rfl⟩ := bad_in (m := 2) hb
  have hne : ¬ iI (tB T 0 8) = 0 := by rw [show (0 : Int32) = iI 0 from rfl, iI_eq (by omega) (by omega)]; omega
  refine ⟨lI (cntS (tB T) (tB T 0 2) (tB T 0 0) (tB T 0 5) (tS T) 0 0 (if n = 0 then 0 else 3 + n)), S2, ⟨?_, e2, e3⟩, fun S1 hM => ?_⟩
  · unfold f_X9_two
    rw [bd_ok (within_ok hb), if_neg (by decide), p2, ck_pos hk, h7, if_neg hne, bd_ok e1, ck_pos (show kdE 73 = 8 from rfl)]
    rcases (show n = 0 ∨ n = 1 ∨ n = 2 by omega) with rfl | rfl | rfl
    · rw [if_pos (by decide), e4.1.1]; rfl
    · rw [if_neg (by decide), if_pos (by decide), e4.1.2.2.2.1]; rfl
    · rw [if_neg (by decide), if_neg (by decide), e4.1.2.2.2.2]; rfl
  · have hw : (if n = 0 then 0 else 3 + n) ≤ 5 := by
      by_cases h : n = 0
      · rw [if_pos h]; omega
      · rw [if_neg h]; omega
    obtain ⟨S3, S4, z1, z2, z3, z4⟩ := M_ways0 (what := if n = 0 then 0 else 3 + n) hV hM hw
    have hw2 : (if n = 0 then 0 else 3 + n) ≤ 2 ∨ (((if n = 0 then 0 else 3 + n) = 4 ∨ (if n = 0 then 0 else 3 + n) = 5) ∧ 0 < tB T 0 8) := by
      by_cases h : n = 0
      · rw [if_pos h]; exact Or.inl (by omega)
      · rw [if_neg h]; exact Or.inr ⟨by omega, by omega⟩
    rw [cntM_S hw2] at z2
    refine ⟨S4, ?_, z4⟩
    unfold f_X10_two f_X10_two_J46
    rw [bd_ok (in_ok hb), if_neg (by decide), show Int32.toNatClampNeg 8 = 8 from rfl, show (103 : Nat) + 2 = 105 from rfl, hM.2.2.1.1 8 (by omega), if_neg hne, bd_ok z1]
    by_cases h : n = 0
    · subst h
      have z2' : f_X10_waysOf 103 0 S3 = _ := z2
      rw [if_pos (by decide), bd_ok z2']
    · rw [if_neg h] at z2 ⊢
      rw [if_neg (by rw [show (0 : Int32) = iI 0 from rfl, iI_eq (by omega) (by omega)]; omega), show (3 : Int32) + iI n = iI (3 + n : Nat) from iI_add 3 n, bd_ok z2]
