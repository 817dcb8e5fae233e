/-! lay: the reference -/
def BM0 (S : St) (B : Bd) : Prop := (∀ k, k < 10 → S.1 105 k = iI (B 0 k)) ∧ S.1 106 0 = iI (B 9 0) ∧
  ∀ s, s < B 9 0 → S.1 107 s = iI (B 10 s) ∧ S.1 108 s = iI (B 1 s) ∧ S.1 109 s = iI (B 2 s) ∧ S.1 110 s = iI (B 11 s) ∧ S.1 111 s = iI (B 12 s) ∧ S.1 112 s = iI (B 3 s) ∧ S.1 113 s = iI (B 4 s) ∧ ∀ k, k < B 4 s → S.1 114 (3 * s + k) = iI (B 5 (3 * s + k)) ∧ S.1 115 (3 * s + k) = iI (B 6 (3 * s + k))
def PLg (a k : Nat) : Prop := (a = 103 ∧ k = 13) ∨ a = 116 ∨ a = 117
theorem M_layGivers {S : St} {B : Bd} (hV : VBb B) (hB : BM0 S B) : ∃ S2 : St, f_X10_layGivers 103 S = (bd (f_X10_plain 103 S2) fun _ S11 => some ((), S11)) ∧ BM S2 B ∧ Fr PLg S S2 := by
  obtain ⟨⟨v1, v2, v3⟩, v4, v5, v6⟩ := hV
  obtain ⟨h1, h2, h3⟩ := hB
  have key19 : ∀ (kb : Int32 → St → Option (Unit × St)) (s : Nat), s < B 9 0 → ∀ (m N k : Nat) (S1 : St), k + m = B 10 s → m < N → Fr PLg S S1 → S1.1 103 13 = iI (natTo (B 10) s + k : Nat) → (∀ i, i < natTo (B 10) s + k → S1.1 116 i = iI (B 7 i) ∧ S1.1 117 i = iI (B 8 i)) →
      ∃ S2 : St, f_X10_layGivers_L19 N 103 kb (iI s) (iI k) S1 = kb (iI (s + 1 : Nat)) S2 ∧ Fr PLg S S2 ∧ S2.1 103 13 = iI (natTo (B 10) (s + 1) : Nat) ∧ ∀ i, i < natTo (B 10) (s + 1) → S2.1 116 i = iI (B 7 i) ∧ S2.1 117 i = iI (B 8 i) := by
    intro kb s hs m
    obtain ⟨a1, a2, a3, a4, a5, a6, a7, a8, a9⟩ := v4 s hs
    obtain ⟨z1, z2, z3, z4, z5, z6, z7, z8⟩ := h3 s hs
    have hle : natTo (B 10) (s + 1) ≤ B 9 1 := by rw [v3]; exact natTo_le_of (by omega)
    have hs1 : natTo (B 10) (s + 1) = natTo (B 10) s + B 10 s := rfl
    induction m with
    | zero =>
      intro N k S1 hk hN hf h13 hg
      obtain ⟨N, rfl⟩ : ∃ k, N = k + 1 := ⟨N - 1, by omega⟩
      have y1 : S1.1 107 s = iI (B 10 s) := (hf.1 107 s (by unfold PLg; omega)).trans z1
      have hke : k = B 10 s := by omega
      rw [hke, ← hs1] at h13 hg
      refine ⟨S1, ?_, hf, h13, hg⟩
      rw [f_X10_layGivers_L19, ob_iI (by omega), iI_nat (by omega)]
      dsimp only [Nat.reduceAdd]
      rw [y1, if_pos (by rw [iI_le (by omega) (by omega)]; omega), show iI s + (1 : Int32) = iI (s + 1 : Nat) from iI_add s 1]
    | succ m ih =>
      intro N k S1 hk hN hf h13 hg
      obtain ⟨N, rfl⟩ : ∃ k, N = k + 1 := ⟨N - 1, by omega⟩
      have y1 : S1.1 107 s = iI (B 10 s) := (hf.1 107 s (by unfold PLg; omega)).trans z1
      have y4 : S1.1 110 s = iI (B 11 s) := (hf.1 110 s (by unfold PLg; omega)).trans z4
      have y5 : S1.1 111 s = iI (B 12 s) := (hf.1 111 s (by unfold PLg; omega)).trans z5
      obtain ⟨g, hgd⟩ : ∃ g, g = natTo (B 10) s + k := ⟨_, rfl⟩
      rw [← hgd] at h13 hg
      obtain ⟨w1, w2⟩ := v6 s hs k (by omega)
      rw [← hgd] at w1 w2
      have hg8 : g < 8 := by omega
      have p1 : PLg 116 g := Or.inr (Or.inl rfl)
      have p2 : PLg 117 g := Or.inr (Or.inr rfl)
      have p3 : PLg 103 13 := Or.inl ⟨rfl, rfl⟩
      obtain ⟨S3, hS3⟩ : ∃ S3, S3 = pI (pI (pI S1 116 g (iI s)) 117 g (iI (B 11 s + k * B 12 s : Nat))) 103 13 (iI (g + 1 : Nat)) := ⟨_, rfl⟩
      have f3 : Fr PLg S S3 := by rw [hS3]; exact ((hf.tr (Fr.pI p1)).tr (Fr.pI p2)).tr (Fr.pI p3)
      have x1 : iI (B 11 s) + iI k * iI (B 12 s) = iI (B 11 s + k * B 12 s : Nat) := by rw [iI_mul, iI_add]; congr 1
      obtain ⟨S2, q1, q2, q3, q4⟩ := ih N (k + 1) S3 (by omega) (by omega) f3 (by rw [hS3, pI_1, if_pos ⟨rfl, rfl⟩]; congr 2; omega) (fun i hi => by
        rw [hS3, pI_row (show (116 : Nat) ≠ 103 by omega), pI_row (show (117 : Nat) ≠ 103 by omega), pI_row (show (116 : Nat) ≠ 117 by omega), pI_1, pI_1, pI_row (show (117 : Nat) ≠ 116 by omega)]
        by_cases hc : i = g
        · rw [if_pos ⟨rfl, hc⟩, if_pos ⟨rfl, hc⟩, hc, w1, w2]; exact ⟨rfl, rfl⟩
        · rw [if_neg (fun z => hc z.2), if_neg (fun z => hc z.2)]; exact hg i (by omega))
      refine ⟨S2, ?_, q2, q3, q4⟩
      rw [f_X10_layGivers_L19, ob_iI (by omega), iI_nat (by omega)]
      dsimp only [Nat.reduceAdd]
      rw [y1, if_neg (by rw [iI_le (by omega) (by omega)]; omega), h13, ob_iI (by omega), iI_nat (by omega), sq_k, ob_iI (by omega), ob_iI (by omega), pI_row (show (103 : Nat) ≠ 116 by omega), h13, ob_iI (by omega), iI_nat (by omega), pI_row (show (110 : Nat) ≠ 116 by omega), pI_row (show (111 : Nat) ≠ 116 by omega), y4, y5, x1, sq_k, pI_row (show (103 : Nat) ≠ 117 by omega), pI_row (show (103 : Nat) ≠ 116 by omega), h13, show iI g + (1 : Int32) = iI (g + 1 : Nat) from iI_add g 1, sq_k, ← hS3, show iI k + (1 : Int32) = iI (k + 1 : Nat) from iI_add k 1]
      exact q1
  have key7 : ∀ (m N s : Nat) (S1 : St), s + m = B 9 0 → m < N → Fr PLg S S1 → S1.1 103 13 = iI (natTo (B 10) s : Nat) → (∀ i, i < natTo (B 10) s → S1.1 116 i = iI (B 7 i) ∧ S1.1 117 i = iI (B 8 i)) →
      ∃ S2 : St, f_X10_layGivers_L7 N 103 (iI s) S1 = (bd (f_X10_plain 103 S2) fun _ S11 => some ((), S11)) ∧ BM S2 B ∧ Fr PLg S S2 := by
    intro m
    induction m with
    | zero =>
      intro N s S1 hs hN hf h13 hg
      obtain ⟨N, rfl⟩ : ∃ k, N = k + 1 := ⟨N - 1, by omega⟩
      have y0 : S1.1 106 0 = iI (B 9 0) := (hf.1 106 0 (by unfold PLg; omega)).trans h2
      have hse : s = B 9 0 := by omega
      rw [hse, ← v3] at h13 hg
      have c : ∀ a k, ¬ PLg a k → S1.1 a k = S.1 a k := hf.1
      refine ⟨S1, ?_, ⟨fun k hk => (c 105 k (by unfold PLg; omega)).trans (h1 k hk), y0, h13, fun s hs => ?_, hg⟩, hf⟩
      · rw [f_X10_layGivers_L7]
        dsimp only [Nat.reduceAdd]
        rw [cl0, y0, if_pos (by rw [iI_le (by omega) (by omega)]; omega)]
      · obtain ⟨z1, z2, z3, z4, z5, z6, z7, z8⟩ := h3 s hs
        exact ⟨(c 108 s (by unfold PLg; omega)).trans z2, (c 109 s (by unfold PLg; omega)).trans z3, (c 112 s (by unfold PLg; omega)).trans z6, (c 113 s (by unfold PLg; omega)).trans z7, fun k hk => ⟨(c 114 _ (by unfold PLg; omega)).trans (z8 k hk).1, (c 115 _ (by unfold PLg; omega)).trans (z8 k hk).2⟩⟩
    | succ m ih =>
      intro N s S1 hs hN hf h13 hg
      obtain ⟨N, rfl⟩ : ∃ k, N = k + 1 := ⟨N - 1, by omega⟩
      have y0 : S1.1 106 0 = iI (B 9 0) := (hf.1 106 0 (by unfold PLg; omega)).trans h2
      have hb8 := (v4 s (by omega)).2.2.2.2.2.1
      obtain ⟨S3, q1, q2, q3, q4⟩ := key19 (fun l1 S => f_X10_layGivers_L7 N 103 l1 S) s (by omega) (B 10 s) FU 0 S1 (by omega) (by unfold FU; omega) hf h13 hg
      obtain ⟨S2, x1, x2, x3⟩ := ih N (s + 1) S3 (by omega) (by omega) q2 q3 q4
      refine ⟨S2, ?_, x2, x3⟩
      rw [f_X10_layGivers_L7]
      dsimp only [Nat.reduceAdd]
      rw [cl0, y0, if_neg (by rw [iI_le (by omega) (by omega)]; omega)]
      exact q1.trans x1
  have p3 : PLg 103 13 := Or.inl ⟨rfl, rfl⟩
  obtain ⟨S2, x1, x2, x3⟩ := key7 (B 9 0) FU 0 (pI S 103 13 0) (by omega) (by unfold FU; omega) (Fr.pI p3) (by rw [pI_1, if_pos ⟨rfl, rfl⟩]; rfl) (fun i hi => absurd hi (Nat.not_lt_zero _))
  refine ⟨S2, ?_, x2, x3⟩
  unfold f_X10_layGivers
  rw [sq_k]
  exact x1
def cp1 (S : St) (a s d : Nat) : St := pI S a s (S.1 a (d + s))
theorem cp1_1 (S : St) (a s d b k : Nat) : (cp1 S a s d).1 b k = if b = a ∧ k = s then S.1 a (d + s) else S.1 b k := pI_1 _ _ _ _ _ _
theorem cp1_2 (S : St) (a s d : Nat) : (cp1 S a s d).2 = S.2 := rfl
def cp7 (S : St) (s : Nat) : St := cp1 (cp1 (cp1 (cp1 (cp1 (cp1 (cp1 S 107 s 6) 108 s 6) 109 s 6) 110 s 6) 111 s 6) 112 s 6) 113 s 6
theorem cp7_1 (S : St) (s b k : Nat) : (cp7 S s).1 b k = if (107 ≤ b ∧ b ≤ 113) ∧ k = s then S.1 b (6 + s) else S.1 b k := by
  unfold cp7
  by_cases hk : k = s
  · subst hk
    by_cases hb : 107 ≤ b ∧ b ≤ 113
    · rw [if_pos ⟨hb, rfl⟩]
      rcases (show b = 107 ∨ b = 108 ∨ b = 109 ∨ b = 110 ∨ b = 111 ∨ b = 112 ∨ b = 113 by omega) with rfl | rfl | rfl | rfl | rfl | rfl | rfl <;> simp [cp1_1]
    · rw [if_neg (fun z => hb z.1), cp1_1, if_neg (by omega), cp1_1, if_neg (by omega), cp1_1, if_neg (by omega), cp1_1, if_neg (by omega), cp1_1, if_neg (by omega), cp1_1, if_neg (by omega), cp1_1, if_neg (by omega)]
  · rw [if_neg (fun z => hk z.2), cp1_1, if_neg (fun z => hk z.2), cp1_1, if_neg (fun z => hk z.2), cp1_1, if_neg (fun z => hk z.2), cp1_1, if_neg (fun z => hk z.2), cp1_1, if_neg (fun z => hk z.2), cp1_1, if_neg (fun z => hk z.2), cp1_1, if_neg (fun z => hk z.2)]
def cp2 (S : St) (s : Nat) : St := cp1 (cp1 S 114 s 18) 115 s 18
theorem cp2_1 (S : St) (s b k : Nat) : (cp2 S s).1 b k = if (114 ≤ b ∧ b ≤ 115) ∧ k = s then S.1 b (18 + s) else S.1 b k := by
  unfold cp2
  by_cases hk : k = s
  · subst hk
    by_cases hb : 114 ≤ b ∧ b ≤ 115
    · rw [if_pos ⟨hb, rfl⟩]
      rcases (show b = 114 ∨ b = 115 by omega) with rfl | rfl <;> simp [cp1_1]
    · rw [if_neg (fun z => hb z.1), cp1_1, if_neg (by omega), cp1_1, if_neg (by omega)]
  · rw [if_neg (fun z => hk z.2), cp1_1, if_neg (fun z => hk z.2), cp1_1, if_neg (fun z => hk z.2)]
/-- what lay copies and clears, but for the givers -/
def PCy (a k : Nat) : Prop := (a = 105 ∧ k < 10) ∨ (a = 106 ∧ k = 0) ∨ (107 ≤ a ∧ a ≤ 113 ∧ k < 6) ∨ (114 ≤ a ∧ a ≤ 115 ∧ k < 18) ∨ (a = 119 ∧ k < 8)
theorem M_L227 : ∀ (m N k : Nat) (S : St), k + m = 8 → m < N → (∀ j, j < k → S.1 119 j = 0) → ∃ S2 : St, f_X10_lay_L227 N 103 (iI k) S = (bd (f_X10_layGivers 103 (pI (pI S2 118 0 0) 103 18 0)) fun _ S4 => some ((S4.1 103 13), S4)) ∧ (∀ j, j < 8 → S2.1 119 j = 0) ∧ Fr (fun a k => a = 119 ∧ k < 8) S S2 := by
  intro m
  induction m with
  | zero =>
    intro N k S hk hN hj
    obtain ⟨N, rfl⟩ : ∃ k, N = k + 1 := ⟨N - 1, by omega⟩
    refine ⟨S, ?_, fun j h => hj j (by omega), Fr.rf⟩
    rw [f_X10_lay_L227, show (8 : Int32) = iI 8 from rfl, if_pos (by rw [iI_le (by omega) (by omega)]; omega)]
    dsimp only [Nat.reduceAdd]
    rw [cl0, sq_k, sq_k]
  | succ m ih =>
    intro N k S hk hN hj
    obtain ⟨N, rfl⟩ : ∃ k, N = k + 1 := ⟨N - 1, by omega⟩
    have hw : (fun (a k : Nat) => a = 119 ∧ k < 8) 119 k := ⟨rfl, by omega⟩
    obtain ⟨S2, y1, y2, y3⟩ := ih N (k + 1) (pI S 119 k 0) (by omega) (by omega) (fun j h => by
      rw [pI_1]
      by_cases hc : j = k
      · rw [if_pos ⟨rfl, hc⟩]
      · rw [if_neg (fun z => hc z.2)]; exact hj j (by omega))
    refine ⟨S2, ?_, y2, (Fr.pI (P := fun a k => a = 119 ∧ k < 8) hw).tr y3⟩
    rw [f_X10_lay_L227, show (8 : Int32) = iI 8 from rfl, if_neg (by rw [iI_le (by omega) (by omega)]; omega), ob_iI (by omega), iI_nat (by omega)]
    dsimp only [Nat.reduceAdd]
    rw [sq_k, show iI k + (1 : Int32) = iI (k + 1 : Nat) from iI_add k 1]
    exact y1
theorem M_L183 {S0 : St} : ∀ (m N k : Nat) (S : St), k + m = 18 → m < N → (∀ b j, S.1 b j = if (114 ≤ b ∧ b ≤ 115) ∧ j < k then S0.1 b (18 + j) else S0.1 b j) → S.2 = S0.2 → ∃ S2 : St, f_X10_lay_L183 N 103 (iI k) S = f_X10_lay_L227 FU 103 0 S2 ∧ (∀ b j, S2.1 b j = if (114 ≤ b ∧ b ≤ 115) ∧ j < 18 then S0.1 b (18 + j) else S0.1 b j) ∧ S2.2 = S0.2 := by
  intro m
  induction m with
  | zero =>
    intro N k S hk hN hj h2
    obtain ⟨N, rfl⟩ : ∃ k, N = k + 1 := ⟨N - 1, by omega⟩
    have hke : k = 18 := by omega
    subst hke
    refine ⟨S, ?_, hj, h2⟩
    rw [f_X10_lay_L183, show (18 : Int32) = iI 18 from rfl, if_pos (by rw [iI_le (by omega) (by omega)]; omega)]
  | succ m ih =>
    intro N k S hk hN hj h2
    obtain ⟨N, rfl⟩ : ∃ k, N = k + 1 := ⟨N - 1, by omega⟩
    obtain ⟨S2, y1, y2, y3⟩ := ih N (k + 1) (cp2 S k) (by omega) (by omega) (fun b j => by
      rw [cp2_1]
      by_cases hb : 114 ≤ b ∧ b ≤ 115
      · by_cases hc : j = k
        · rw [if_pos ⟨hb, hc⟩, if_pos ⟨hb, by omega⟩, hj, if_neg (by omega), hc]
        · rw [if_neg (fun z => hc z.2), hj]
          by_cases hlt : j < k
          · rw [if_pos ⟨hb, hlt⟩, if_pos ⟨hb, by omega⟩]
          · rw [if_neg (fun z => hlt z.2), if_neg (by omega)]
      · rw [if_neg (fun z => hb z.1), hj, if_neg (fun z => hb z.1), if_neg (fun z => hb z.1)]) (by rw [← h2]; rfl)
    refine ⟨S2, ?_, y2, y3⟩
    have x1 : (18 : Int32) + iI k = iI (18 + k : Nat) := by rw [show (18 : Int32) = iI 18 from rfl, iI_add]; congr 1
    rw [f_X10_lay_L183, show (18 : Int32) = iI 18 from rfl, if_neg (by rw [iI_le (by omega) (by omega)]; omega), ← show (18 : Int32) = iI 18 from rfl, x1, ob_iI (by omega), ob_iI (by omega), iI_nat (by omega), iI_nat (by omega)]
    dsimp only [Nat.reduceAdd]
    rw [sq_k, ob_iI (by omega), ob_iI (by omega), sq_k, show iI k + (1 : Int32) = iI (k + 1 : Nat) from iI_add k 1]
    exact y1
theorem M_L64 {S0 : St} : ∀ (m N k : Nat) (S : St), k + m = 6 → m < N → (∀ b j, S.1 b j = if (107 ≤ b ∧ b ≤ 113) ∧ j < k then S0.1 b (6 + j) else S0.1 b j) → S.2 = S0.2 → ∃ S2 : St, f_X10_lay_L64 N 103 (iI k) S = f_X10_lay_L183 FU 103 0 S2 ∧ (∀ b j, S2.1 b j = if (107 ≤ b ∧ b ≤ 113) ∧ j < 6 then S0.1 b (6 + j) else S0.1 b j) ∧ S2.2 = S0.2 := by
  intro m
  induction m with
  | zero =>
    intro N k S hk hN hj h2
    obtain ⟨N, rfl⟩ : ∃ k, N = k + 1 := ⟨N - 1, by omega⟩
    have hke : k = 6 := by omega
    subst hke
    refine ⟨S, ?_, hj, h2⟩
    rw [f_X10_lay_L64, show (6 : Int32) = iI 6 from rfl, if_pos (by rw [iI_le (by omega) (by omega)]; omega)]
  | succ m ih =>
    intro N k S hk hN hj h2
    obtain ⟨N, rfl⟩ : ∃ k, N = k + 1 := ⟨N - 1, by omega⟩
    obtain ⟨S2, y1, y2, y3⟩ := ih N (k + 1) (cp7 S k) (by omega) (by omega) (fun b j => by
      rw [cp7_1]
      by_cases hb : 107 ≤ b ∧ b ≤ 113
      · by_cases hc : j = k
        · rw [if_pos ⟨hb, hc⟩, if_pos ⟨hb, by omega⟩, hj, if_neg (by omega), hc]
        · rw [if_neg (fun z => hc z.2), hj]
          by_cases hlt : j < k
          · rw [if_pos ⟨hb, hlt⟩, if_pos ⟨hb, by omega⟩]
          · rw [if_neg (fun z => hlt z.2), if_neg (by omega)]
      · rw [if_neg (fun z => hb z.1), hj, if_neg (fun z => hb z.1), if_neg (fun z => hb z.1)]) (by rw [← h2]; rfl)
    refine ⟨S2, ?_, y2, y3⟩
    have x1 : (6 : Int32) + iI k = iI (6 + k : Nat) := by rw [show (6 : Int32) = iI 6 from rfl, iI_add]; congr 1
    have o1' : ∀ y : Option (Int32 × St), ob (iI (6 + k : Nat)) 12 y = y := fun y => ob_iI (by omega)
    have o2' : ∀ y : Option (Int32 × St), ob (iI k) 12 y = y := fun y => ob_iI (by omega)
    rw [f_X10_lay_L64, show (6 : Int32) = iI 6 from rfl, if_neg (by rw [iI_le (by omega) (by omega)]; omega), ← show (6 : Int32) = iI 6 from rfl, x1, o1', o2', iI_nat (by omega), iI_nat (by omega)]
    dsimp only [Nat.reduceAdd]
    rw [sq_k, o1', o2', sq_k, o1', o2', sq_k, o1', o2', sq_k, o1', o2', sq_k, o1', o2', sq_k, o1', o2', sq_k, show iI k + (1 : Int32) = iI (k + 1 : Nat) from iI_add k 1]
    exact y1
theorem M_L23 {S0 : St} : ∀ (m N k : Nat) (S : St), k + m = 10 → m < N → (∀ b j, S.1 b j = if b = 105 ∧ j < k then S0.1 b (10 + j) else S0.1 b j) → S.2 = S0.2 → ∃ S2 : St, f_X10_lay_L23 N 103 (iI k) S = f_X10_lay_L64 FU 103 0 (pI S2 106 0 (S0.1 106 1)) ∧ (∀ b j, S2.1 b j = if b = 105 ∧ j < 10 then S0.1 b (10 + j) else S0.1 b j) ∧ S2.2 = S0.2 := by
  intro m
  induction m with
  | zero =>
    intro N k S hk hN hj h2
    obtain ⟨N, rfl⟩ : ∃ k, N = k + 1 := ⟨N - 1, by omega⟩
    have hke : k = 10 := by omega
    subst hke
    refine ⟨S, ?_, hj, h2⟩
    rw [f_X10_lay_L23, show (10 : Int32) = iI 10 from rfl, if_pos (by rw [iI_le (by omega) (by omega)]; omega)]
    dsimp only [Nat.reduceAdd]
    rw [cl0, cl1, hj 106 1, if_neg (by omega), sq_k]
  | succ m ih =>
    intro N k S hk hN hj h2
    obtain ⟨N, rfl⟩ : ∃ k, N = k + 1 := ⟨N - 1, by omega⟩
    obtain ⟨S2, y1, y2, y3⟩ := ih N (k + 1) (cp1 S 105 k 10) (by omega) (by omega) (fun b j => by
      rw [cp1_1]
      by_cases hb : b = 105
      · by_cases hc : j = k
        · rw [if_pos ⟨hb, hc⟩, if_pos ⟨hb, by omega⟩, hj, if_neg (by omega), hc, hb]
        · rw [if_neg (fun z => hc z.2), hj]
          by_cases hlt : j < k
          · rw [if_pos ⟨hb, hlt⟩, if_pos ⟨hb, by omega⟩]
          · rw [if_neg (fun z => hlt z.2), if_neg (by omega)]
      · rw [if_neg (fun z => hb z.1), hj, if_neg (fun z => hb z.1), if_neg (fun z => hb z.1)]) (by rw [← h2]; rfl)
    refine ⟨S2, ?_, y2, y3⟩
    have x1 : (10 : Int32) + iI k = iI (10 + k : Nat) := by rw [show (10 : Int32) = iI 10 from rfl, iI_add]; congr 1
    rw [f_X10_lay_L23, show (10 : Int32) = iI 10 from rfl, if_neg (by rw [iI_le (by omega) (by omega)]; omega), ← show (10 : Int32) = iI 10 from rfl, x1, ob_iI (by omega), ob_iI (by omega), iI_nat (by omega), iI_nat (by omega)]
    dsimp only [Nat.reduceAdd]
    rw [sq_k, show iI k + (1 : Int32) = iI (k + 1 : Nat) from iI_add k 1]
    exact y1
theorem M_lay {S : St} {T : Tst} {B : Bd} (hV : VT T) (hM : IM S T) (hB : BM1 S B) (hVB : VB0 B) : ∃ S2 : St, f_X10_lay_L23 FU 103 0 S = some (iI (B 9 1), S2) ∧ IM S2 (setLay T B) ∧ Fr PM S S2 := by
  obtain ⟨m1, m2, -, m4, m5, m6, m7⟩ := hM
  obtain ⟨⟨v1, v2, v3⟩, v4, v5, v6⟩ := hVB.2
  obtain ⟨S1, a1, a2, a3⟩ := M_L23 (S0 := S) 10 FU 0 S (by omega) (by unfold FU; omega) (fun b j => by rw [if_neg (by omega)]) rfl
  obtain ⟨S3, b1, b2, b3⟩ := M_L64 (S0 := pI S1 106 0 (S.1 106 1)) 6 FU 0 _ (by omega) (by unfold FU; omega) (fun b j => by rw [if_neg (by omega)]) rfl
  obtain ⟨S4, c1, c2, c3⟩ := M_L183 (S0 := S3) 18 FU 0 S3 (by omega) (by unfold FU; omega) (fun b j => by rw [if_neg (by omega)]) rfl
  obtain ⟨S5, d1, d2, d3⟩ := M_L227 8 FU 0 S4 (by omega) (by unfold FU; omega) (fun j hj => absurd hj (Nat.not_lt_zero _))
  obtain ⟨S6, hS6⟩ : ∃ S6, S6 = pI (pI S5 118 0 0) 103 18 0 := ⟨_, rfl⟩
  have s52 : S4.2 = S.2 := by rw [c3, b3, pI_2, a3]
  -- what each cell holds now
  have e4 : ∀ b j, S4.1 b j = if b = 105 ∧ j < 10 then S.1 105 (10 + j) else if b = 106 ∧ j = 0 then S.1 106 1 else if (107 ≤ b ∧ b ≤ 113) ∧ j < 6 then S.1 b (6 + j) else if (114 ≤ b ∧ b ≤ 115) ∧ j < 18 then S.1 b (18 + j) else S.1 b j := by
    intro b j
    rw [c2]
    by_cases h1 : (114 ≤ b ∧ b ≤ 115) ∧ j < 18
    · rw [if_pos h1, b2, if_neg (by omega), pI_1, if_neg (by omega), a2, if_neg (by omega), if_neg (by omega), if_neg (by omega), if_neg (by omega), if_pos h1]
    · rw [if_neg h1, b2]
      by_cases h2 : (107 ≤ b ∧ b ≤ 113) ∧ j < 6
      · rw [if_pos h2, pI_1, if_neg (by omega), a2, if_neg (by omega), if_neg (by omega), if_neg (by omega), if_pos h2]
      · rw [if_neg h2, pI_1]
        by_cases h3 : b = 106 ∧ j = 0
        · rw [if_pos h3, if_neg (by omega), if_pos h3]
        · rw [if_neg h3, a2]
          by_cases h4 : b = 105 ∧ j < 10
          · rw [if_pos h4, if_pos h4, h4.1]
          · rw [if_neg h4, if_neg h4, if_neg h3, if_neg h2, if_neg h1]
  have e6 : ∀ b j, b ≠ 103 → b ≠ 118 → b ≠ 119 → S6.1 b j = S4.1 b j := fun b j h1 h2 h3 => by
    rw [hS6, pI_row h1, pI_row h2, d3.1 b j (fun z => h3 z.1)]
  have hb0 : BM0 S6 B := by
    obtain ⟨h1, h2, h3⟩ := hB
    refine ⟨fun k hk => ?_, ?_, fun s hs => ?_⟩
    · rw [e6 105 k (by omega) (by omega) (by omega), e4, if_pos ⟨rfl, hk⟩]; exact h1 k hk
    · rw [e6 106 0 (by omega) (by omega) (by omega), e4, if_neg (by omega), if_pos ⟨rfl, rfl⟩]; exact h2
    · obtain ⟨z1, z2, z3, z4, z5, z6, z7, z8⟩ := h3 s hs
      have b4 := (v4 s hs).2.2.2.1
      have t : ∀ a, 107 ≤ a → a ≤ 113 → S6.1 a s = S.1 a (6 + s) := fun a h1 h2 => by
        rw [e6 a s (by omega) (by omega) (by omega), e4, if_neg (by omega), if_neg (by omega), if_pos ⟨⟨h1, h2⟩, by omega⟩]
      rw [t 107 (by omega) (by omega), t 108 (by omega) (by omega), t 109 (by omega) (by omega), t 110 (by omega) (by omega), t 111 (by omega) (by omega), t 112 (by omega) (by omega), t 113 (by omega) (by omega)]
      refine ⟨z1, z2, z3, z4, z5, z6, z7, fun k hk => ?_⟩
      have u : ∀ a, 114 ≤ a → a ≤ 115 → S6.1 a (3 * s + k) = S.1 a (18 + 3 * s + k) := fun a h1 h2 => by
        rw [e6 a _ (by omega) (by omega) (by omega), e4, if_neg (by omega), if_neg (by omega), if_neg (by omega), if_pos ⟨⟨h1, h2⟩, by omega⟩, Nat.add_assoc]
      rw [u 114 (by omega) (by omega), u 115 (by omega) (by omega)]
      exact z8 k hk
  obtain ⟨S7, g1, g2, g3⟩ := M_layGivers hVB.2 hb0
  have hI7 : IM S7 (setLay T B) := by
    have w : ∀ a k, ¬ PLg a k → S7.1 a k = S6.1 a k := g3.1
    refine ⟨?_, fun k hk => ?_, g2, fun i hi => ?_, ?_, ?_, fun j hj => absurd hj (Nat.not_lt_zero _)⟩
    · rw [w 103 0 (by unfold PLg; omega), hS6, pI_1, if_neg (by omega), pI_row (by omega), d3.1 103 0 (by omega), e4, if_neg (by omega), if_neg (by omega), if_neg (by omega), if_neg (by omega)]; exact m1
    · rw [w 104 k (by unfold PLg; omega), e6 104 k (by omega) (by omega) (by omega), e4, if_neg (by omega), if_neg (by omega), if_neg (by omega), if_neg (by omega)]; exact m2 k hk
    · rw [w 119 i (by unfold PLg; omega), hS6, pI_row (by omega), pI_row (by omega), d2 i hi]; rfl
    · rw [w 118 0 (by unfold PLg; omega), hS6, pI_row (by omega), pI_1, if_pos ⟨rfl, rfl⟩]; rfl
    · rw [w 103 18 (by unfold PLg; omega), hS6, pI_1, if_pos ⟨rfl, rfl⟩]; rfl
  obtain ⟨S8, h1, h2, h3⟩ := M_plain hI7
  have hf8 := h3.wk (fun _ _ => pl_scr)
  refine ⟨S8, ?_, IM_scr hI7 hf8, ?_⟩
  · have a1' : f_X10_lay_L23 FU 103 0 S = _ := a1
    have b1' : f_X10_lay_L64 FU 103 0 (pI S1 106 0 (S.1 106 1)) = _ := b1
    have c1' : f_X10_lay_L183 FU 103 0 S3 = _ := c1
    have d1' : f_X10_lay_L227 FU 103 0 S4 = _ := d1
    have e13 : S8.1 103 13 = iI (B 9 1) := by
      rw [hf8.1 103 13 (by unfold PScr; omega)]; exact g2.2.2.1
    rw [a1', b1', c1', d1', ← hS6, g1, h1, bd_ok rfl, bd_ok rfl, e13]
  · have f4 : Fr PM S S4 := Fr_rows (fun a k h => by
      have h' : ¬ 103 ≤ a := h
      rw [e4, if_neg (by omega), if_neg (by omega), if_neg (by omega), if_neg (by omega)]) s52
    have f5 : Fr PM S4 S5 := d3.wk (fun a k h => by unfold PM; omega)
    have w117 : PM 118 0 := by unfold PM; omega
    have w102 : PM 103 18 := by unfold PM; omega
    have f6 : Fr PM S5 S6 := by rw [hS6]; exact (Fr.pI w117).tr (Fr.pI w102)
    have f7 : Fr PM S6 S7 := g3.wk (fun a k h => by unfold PLg at h; unfold PM; omega)
    exact (((f4.tr f5).tr f6).tr f7).tr (hf8.wk (fun _ _ => scr_PM))
theorem ok_lay : Okk (f_X9_lay 0) (f_X10_lay 103) := by
  apply Okk_of
  intro S T hV hE
  obtain ⟨P, Q, S2, hPQ, h3, y1, y2, y3, y4⟩ := E_readT hV hE
  have hQ : Q = 5 ∨ Q = 15 := by omega
  have hP : P = 5 ∨ P = 15 := by omega
  have hrb := rdS_bd (t := tT T) (n := tN T) hV.1
  have hE2 := IE_of3 hPQ y2
  have pre : ∀ R : Option (Int32 × St), (if iI (rdS (tN T) (rdB (tT T) (tN T))) = (-4 : Int32) then ck (kdE (S2.2.2 0 3) = 2) (if (S2.1 ((S2.2.2 0 3) + 1) 0) = 0 then some ((-2 : Int32), S2) else ck (kdE (S2.2.2 0 2) = 2) (ck (kdE (S2.2.2 0 3) = 2) (sq (pR S2 0 2 (S2.2.2 0 3)) fun S10 => sq (pR S10 0 3 (S2.2.2 0 2)) fun S11 => ck (kdE (S11.2.2 0 2) = 2) (ck (kdE (S11.2.2 0 2) = 2) (bd (f_X0_arrange 25 (S11.2.2 0 2) (S11.1 (S11.2.2 0 2) 2) S11) fun x14 S15 => bd (f_J7_fill_53178 99 (0 : Int32) S15) fun _ S17 => sq (pI S17 0 11 (0 : Int32)) fun S20 => sq (pI S20 100 0 (0 : Int32)) fun S21 => sq (pI S21 0 15 (0 : Int32)) fun S22 => bd (f_X9_forgetWays 0 S22) fun _ S23 => ck (kdE (S23.2.2 0 2) = 2) (some ((S23.1 ((S23.2.2 0 2) + 1) 1), S23))))))) else some ((-2 : Int32), S2)) = R → f_X9_lay 0 S = R := by
    intro R hR
    unfold f_X9_lay
    rw [h3, ck_pos (kdE_P hQ)]
    dsimp only [Nat.reduceAdd]
    rw [bd_ok y1]
    exact hR
  have q3 : S2.2.2 0 3 = Q := y2.1.2.1
  have q2 : S2.2.2 0 2 = P := y2.1.1
  have preM : ∀ S1 : St, IM S1 T → ∃ S4 : St, f_X10_lay 103 S1 = (if iI (rdS (tN T) (rdB (tT T) (tN T))) = (-4 : Int32) then if S4.1 106 1 = 0 then some ((-2 : Int32), S4) else f_X10_lay_L23 FU 103 0 S4 else some ((-2 : Int32), S4)) ∧ IM S4 T ∧ Fr PM S1 S4 ∧ ((rdB (tT T) (tN T)).2.2 = true → BM1 S4 (rdB (tT T) (tN T)).2.1) := by
    intro S1 hM
    obtain ⟨S4, z1, z2, z3⟩ := M_readAll (IM_TM hV hM)
    refine ⟨S4, ?_, IM_rd hV hM z2, z2.wk (fun _ _ => PRd_PM), z3⟩
    unfold f_X10_lay
    rw [bd_ok z1]
    rfl
  by_cases h4 : rdS (tN T) (rdB (tT T) (tN T)) = -4
  · obtain ⟨k1, k2⟩ := rdS_n4.mp h4
    obtain ⟨hB, hVB0⟩ := y3 k1
    obtain ⟨B, hBd⟩ : ∃ B, B = (rdB (tT T) (tN T)).2.1 := ⟨_, rfl⟩
    rw [← hBd] at hB hVB0 k2
    have h6 := hVB0.2.1.1
    rw [h4] at pre preM
    by_cases h0 : B 9 0 = 0
    · refine ⟨-2, T, S2, ⟨pre _ ?_, hE2, y4⟩, hV, fun S1 hM => ?_⟩
      · rw [iI_n4, if_pos rfl, q3, ck_pos (kdE_P hQ), hB.2.1, h0, if_pos (show iI ((0 : Nat) : Int) = 0 from rfl)]
      · obtain ⟨S4, z1, z2, z3, z4⟩ := preM S1 hM
        have hb1 := z4 k1
        rw [← hBd] at hb1
        refine ⟨S4, ?_, z2, z3⟩
        rw [z1, iI_n4, if_pos rfl, hb1.2.1, h0, if_pos (show iI ((0 : Nat) : Int) = 0 from rfl)]
    · have hVB := VB_of hVB0 k2 h0
      obtain ⟨S9, x1, x2, x3⟩ := E_lay hPQ y2 hB hVB
      have hne : ¬ iI (B 9 0) = (0 : Int32) := by rw [show (0 : Int32) = iI 0 from rfl, iI_eq (by omega) (by omega)]; omega
      refine ⟨iI (B 9 1), setLay T B, S9, ⟨pre _ ?_, IE_of3 (by omega) x2, y4.tr x3⟩, ?_, fun S1 hM => ?_⟩
      · rw [iI_n4, if_pos rfl, ck_pos (by rw [q3]; exact kdE_P hQ), show S2.1 (S2.2.2 0 3 + 1) 0 = iI (B 9 0) by rw [q3]; exact hB.2.1, if_neg hne, ck_pos (by rw [q2]; exact kdE_P hP), ck_pos (by rw [q3]; exact kdE_P hQ)]
        exact x1
      · exact ⟨hV.1, hV.2.1, hVB, fun i => Nat.zero_le _, Nat.zero_le _, Nat.zero_le _, hV.2.2.2.2.2.2.1, hV.2.2.2.2.2.2.2⟩
      · obtain ⟨S4, z1, z2, z3, z4⟩ := preM S1 hM
        have hb1 := z4 k1
        rw [← hBd] at hb1
        obtain ⟨S5, w1, w2, w3⟩ := M_lay hV z2 hb1 hVB0
        refine ⟨S5, ?_, w2, z3.tr w3⟩
        rw [z1, iI_n4, if_pos rfl, hb1.2.1, if_neg hne]
        exact w1
  · have hne : ¬ iI (rdS (tN T) (rdB (tT T) (tN T))) = (-4 : Int32) := by rw [iI_n4, iI_eq (by omega) (by omega)]; exact h4
    refine ⟨-2, T, S2, ⟨pre _ (by rw [if_neg hne]), hE2, y4⟩, hV, fun S1 hM => ?_⟩
    obtain ⟨S4, z1, z2, z3, z4⟩ := preM S1 hM
    refine ⟨S4, ?_, z2, z3⟩
    rw [z1, if_neg hne]
