/-! gifts at rest by which it fails: the class -/
def hasR (B : Bd) (i s m g o : Nat) : Int := if B 0 0 ≤ s - g + o ∧ B 0 1 ≤ m - o1 g + o1 o then (mostS B (B 7 i) : Int) - o else if 0 < o then (B 0 4 : Int) else 0
def ownR (B : Bd) (g : Nat) : Int := if 0 < g then (B 0 4 : Int) else 0
theorem atRest_iff {B : Bd} {i s m g : Nat} : atRest B i s m g = true ↔ ∀ o, o ≤ mostG B i → o = g ∨ hasR B i s m g o ≤ ownR B g := by
  have e : atRest B i s m g = (List.range (mostG B i + 1)).all (fun o => decide (o = g) || decide (hasR B i s m g o ≤ ownR B g)) := rfl
  rw [e, List.all_eq_true]
  constructor
  · intro h o ho
    have := h o (List.mem_range.mpr (by omega))
    rcases Bool.or_eq_true _ _ ▸ this with z | z
    · exact Or.inl (of_decide_eq_true z)
    · exact Or.inr (of_decide_eq_true z)
  · intro h o ho
    have := h o (by have := List.mem_range.mp ho; omega)
    rw [Bool.or_eq_true]
    rcases this with z | z
    · exact Or.inl (decide_eq_true z)
    · exact Or.inr (decide_eq_true z)
/-- from which gift on one is at rest -/
def lowR (B : Bd) (i s m : Nat) : Nat := if B 0 1 ≤ m then (max 1 (min ((mostG B i : Int) - ((B 0 0 : Int) - s) + 1) ((mostS B (B 7 i) : Int) - ((B 0 0 : Int) - s) - B 0 4))).toNat else 1
theorem rest_low {B : Bd} {i s m g : Nat} (hs : s < B 0 0) (hg : 1 ≤ g) (hgm : g ≤ mostG B i) (hgs : g ≤ s) (hm : 1 ≤ m) : atRest B i s m g = true ↔ lowR B i s m ≤ g := by
  rw [atRest_iff]
  have og : o1 g = 1 := if_pos (by omega)
  have ow : ownR B g = (B 0 4 : Int) := if_pos (by omega)
  unfold lowR
  by_cases hn : B 0 1 ≤ m
  · rw [if_pos hn, ow]
    have key : (∀ o, o ≤ mostG B i → o = g ∨ hasR B i s m g o ≤ (B 0 4 : Int)) ↔ (mostG B i < g + (B 0 0 - s) ∨ (mostS B (B 7 i) : Int) - (g + (B 0 0 - s) : Nat) ≤ B 0 4) := by
      constructor
      · intro h
        by_cases hc : mostG B i < g + (B 0 0 - s)
        · exact Or.inl hc
        · rcases h (g + (B 0 0 - s)) (by omega) with z | z
          · omega
          · unfold hasR at z
            have oo : o1 (g + (B 0 0 - s)) = 1 := if_pos (by omega)
            rw [og, oo, if_pos (by omega)] at z
            exact Or.inr z
      · intro h o ho
        right
        unfold hasR
        rw [og]
        by_cases h0 : 0 < o
        · have oo : o1 o = 1 := if_pos h0
          rw [oo]
          by_cases hb : B 0 0 ≤ s - g + o ∧ B 0 1 ≤ m - 1 + 1
          · rw [if_pos hb]; omega
          · rw [if_neg hb, if_pos h0]; omega
        · have oo : o1 o = 0 := if_neg h0
          rw [oo, if_neg (by omega), if_neg h0]; omega
    rw [key]; omega
  · rw [if_neg hn]
    refine ⟨fun _ => hg, fun _ o ho => Or.inr ?_⟩
    unfold hasR
    rw [og, ow]
    have oo : o1 o ≤ 1 := by unfold o1; by_cases q : 0 < o <;> simp [q]
    rw [if_neg (by omega)]
    by_cases h0 : 0 < o
    · rw [if_pos h0]; omega
    · rw [if_neg h0]; omega
def canR (B : Bd) (i s m : Nat) : Prop := B 0 1 ≤ m + 1 ∧ B 0 0 - s ≤ mostG B i ∧ B 0 0 - s < mostS B (B 7 i)
def mtfR (B : Bd) (i s m : Nat) : Nat := if B 0 1 ≤ m + 1 then min (mostG B i) (B 0 0 - s - 1) else mostG B i
theorem rest_none {B : Bd} {i s m : Nat} (hs : s < B 0 0) : atRest B i s m 0 = true ↔ ¬ canR B i s m ∧ (B 0 4 = 0 ∨ mtfR B i s m < 1) := by
  rw [atRest_iff]
  have og : o1 0 = 0 := rfl
  have ow : ownR B 0 = 0 := rfl
  unfold canR mtfR
  rw [ow]
  have has1 : ∀ o, 0 < o → hasR B i s m 0 o = if B 0 0 ≤ s + o ∧ B 0 1 ≤ m + 1 then (mostS B (B 7 i) : Int) - o else (B 0 4 : Int) := fun o ho => by
    unfold hasR
    have oo : o1 o = 1 := if_pos ho
    rw [og, oo, if_pos ho, Nat.sub_zero, Nat.sub_zero]
  constructor
  · intro h
    refine ⟨fun ⟨h1, h2, h3⟩ => ?_, ?_⟩
    · rcases h (B 0 0 - s) h2 with z | z
      · omega
      · rw [has1 _ (by omega), if_pos ⟨by omega, h1⟩] at z
        omega
    · by_cases hp : B 0 4 = 0
      · exact Or.inl hp
      · right
        apply Classical.byContradiction
        intro hc
        by_cases hn : B 0 1 ≤ m + 1
        · rw [if_pos hn] at hc
          rcases h 1 (by omega) with z | z
          · omega
          · rw [has1 1 (by omega), if_neg (by omega)] at z
            omega
        · rw [if_neg hn] at hc
          rcases h 1 (by omega) with z | z
          · omega
          · rw [has1 1 (by omega), if_neg (fun q => hn q.2)] at z
            omega
  · rintro ⟨h1, h2⟩ o ho
    by_cases h0 : 0 < o
    · right
      rw [has1 o h0]
      by_cases hb : B 0 0 ≤ s + o ∧ B 0 1 ≤ m + 1
      · rw [if_pos hb]
        apply Classical.byContradiction
        intro hc
        exact h1 ⟨hb.2, by omega, by omega⟩
      · rw [if_neg hb]
        rcases h2 with h2 | h2
        · omega
        · by_cases hn : B 0 1 ≤ m + 1
          · rw [if_pos hn] at h2; omega
          · rw [if_neg hn] at h2; omega
    · exact Or.inl (by omega)
theorem lowR_bd {B : Bd} {i s m : Nat} (hs : s < B 0 0) : 1 ≤ lowR B i s m ∧ lowR B i s m ≤ mostG B i + 1 := by
  unfold lowR
  by_cases hn : B 0 1 ≤ m
  · rw [if_pos hn]; omega
  · rw [if_neg hn]; omega
theorem E_lowAt {S : St} {B : Bd} {L p s m : Nat} (hV : VB B) (hL : L ≤ 30) (h : RE S B L) (hp : p < cntL B L) (hs : s < B 0 0) (hm : m ≤ 8) : f_X4_lowestAtRest 85 (iI p) (iI s) (iI m) S = some (iI (lowR B (atL B L p) s m), S) := by
  have hbar : B 0 0 ≤ 60 := hV.1.2.1
  have hneed : B 0 1 ≤ 8 := hV.1.2.2.1
  have hpen : B 0 4 ≤ 9 := hV.1.2.2.2.2.2.1
  have h0k : kdE 25 = 0 := kdE_c (Or.inl rfl)
  have hn := cntL_le B L
  have hng : B 9 1 ≤ 8 := hV.2.1.2.2.2
  obtain ⟨g1, g2, g3⟩ := mostG_le hV (atL_lt hp)
  have x6 := (h.2.2.2.2.1.2 p hp).2.2.2.2.2.1
  have hso : soL B L p = B 7 (atL B L p) := rfl
  rw [hso] at x6
  unfold f_X4_lowestAtRest lowR
  dsimp only [Nat.reduceAdd]
  rw [h.2.2.1, h.2.1, h.2.2.2.1]
  by_cases hc : B 0 1 ≤ m
  · rw [if_pos (by rw [iI_le (by omega) (by omega)]; omega), if_pos hc, iI_sub, sq_k, ob_iI (by omega), iI_nat (by omega), h.2.2.2.2.2 p hp, iI_sub, show (1 : Int32) = iI 1 from rfl, iI_add, sq_k, h.1, ck_pos h0k, ob_iI (by omega), x6, iI_sub, iI_sub, sq_k, imin_iI (by omega) (by omega), imax_iI (by omega) (by omega)]
    congr 3
    omega
  · rw [if_neg (by rw [iI_le (by omega) (by omega)]; omega), if_neg hc]; rfl
theorem E_noneAt {S : St} {B : Bd} {L p s m : Nat} (hV : VB B) (hL : L ≤ 30) (h : RE S B L) (hp : p < cntL B L) (hs : s < B 0 0) (hm : m ≤ 8) : f_X4_isNoneAtRest 85 (iI p) (iI s) (iI m) S = some (bI (atRest B (atL B L p) s m 0), S) := by
  have hbar : B 0 0 ≤ 60 := hV.1.2.1
  have hneed : B 0 1 ≤ 8 := hV.1.2.2.1
  have hpen : B 0 4 ≤ 9 := hV.1.2.2.2.2.2.1
  have h0k : kdE 25 = 0 := kdE_c (Or.inl rfl)
  have hn := cntL_le B L
  have hng : B 9 1 ≤ 8 := hV.2.1.2.2.2
  obtain ⟨g1, g2, g3⟩ := mostG_le hV (atL_lt hp)
  have x6 := (h.2.2.2.2.1.2 p hp).2.2.2.2.2.1
  have hso : soL B L p = B 7 (atL B L p) := rfl
  rw [hso] at x6
  have x97 := h.2.2.2.2.2 p hp
  obtain ⟨r, hr⟩ : ∃ r, r = atRest B (atL B L p) s m 0 := ⟨_, rfl⟩
  have hri := rest_none (i := atL B L p) (m := m) hs
  rw [← hr] at hri ⊢
  have fin : ∀ t : Nat, t ≤ 100 → (¬ canR B (atL B L p) s m) → t = mtfR B (atL B L p) s m → f_X4_isNoneAtRest_J96 85 (iI p) (iI s) (iI m) (iI t) S = some (bI r, S) := by
    intro t ht hcan hte
    unfold f_X4_isNoneAtRest_J96
    rw [h.2.2.2.1]
    by_cases h0 : B 0 4 = 0
    · rw [if_pos (by rw [h0]; rfl)]
      have : r = true := hri.mpr ⟨hcan, Or.inl h0⟩
      rw [this]; rfl
    · rw [if_neg (by rw [show (0 : Int32) = iI 0 from rfl, iI_eq (by omega) (by omega)]; omega)]
      by_cases h1 : 1 ≤ t
      · rw [if_pos (by rw [show (1 : Int32) = iI 1 from rfl, iI_le (by omega) (by omega)]; omega)]
        have : r = false := by
          cases hrr : r
          · rfl
          · have := (hri.mp hrr).2; omega
        rw [this]; rfl
      · rw [if_neg (by rw [show (1 : Int32) = iI 1 from rfl, iI_le (by omega) (by omega)]; omega)]
        have : r = true := hri.mpr ⟨hcan, Or.inr (by omega)⟩
        rw [this]; rfl
  have j69 : ∀ b : Bool, (b = true ↔ B 0 1 ≤ m + 1) → (¬ canR B (atL B L p) s m) → f_X4_isNoneAtRest_J69 85 (iI p) (iI s) (iI m) (iI ((B 0 0 : Int) - s)) (bI b) S = some (bI r, S) := by
    intro b hb hcan
    unfold f_X4_isNoneAtRest_J69
    dsimp only [Nat.reduceAdd]
    rw [iI_nat (by omega), x97]
    cases b
    · have hnb : ¬ B 0 1 ≤ m + 1 := fun z => absurd (hb.mpr z) (by decide)
      rw [if_pos (by decide), ob_iI (by omega)]
      exact fin _ (by omega) hcan (by unfold mtfR; rw [if_neg hnb])
    · have hyb : B 0 1 ≤ m + 1 := hb.mp rfl
      rw [if_neg (by decide), ob_iI (by omega), show (1 : Int32) = iI 1 from rfl, iI_sub, imin_iI (by omega) (by omega), show (min (mostG B (atL B L p) : Int) ((B 0 0 : Int) - s - 1)) = ((min (mostG B (atL B L p)) (B 0 0 - s - 1) : Nat) : Int) by omega]
      exact fin _ (by omega) hcan (by unfold mtfR; rw [if_pos hyb])
  have rf : canR B (atL B L p) s m → r = false := fun hcan => by
    cases hrr : r
    · rfl
    · exact absurd hcan (hri.mp hrr).1
  have j46 : ∀ b c : Bool, (b = true ↔ B 0 1 ≤ m + 1) → (c = true ↔ B 0 1 ≤ m + 1 ∧ B 0 0 - s ≤ mostG B (atL B L p)) → f_X4_isNoneAtRest_J46 85 (iI p) (iI s) (iI m) (iI ((B 0 0 : Int) - s)) (bI b) (bI c) S = some (bI r, S) := by
    intro b c hb hcc
    unfold f_X4_isNoneAtRest_J46
    cases c
    · rw [if_pos (by decide)]
      exact j69 b hb (fun z => absurd (hcc.mpr ⟨z.1, z.2.1⟩) (by decide))
    · obtain ⟨c1, c2⟩ := hcc.mp rfl
      rw [if_neg (by decide), h.1, ck_pos h0k, ob_iI (by omega), iI_nat (by omega), x6]
      by_cases hw : B 0 0 - s < mostS B (B 7 (atL B L p))
      · rw [if_neg (by rw [iI_le (by omega) (by omega)]; omega), rf ⟨c1, c2, hw⟩]; rfl
      · rw [if_pos (by rw [iI_le (by omega) (by omega)]; omega)]
        exact j69 b hb (fun z => hw z.2.2)
  have j23 : ∀ b : Bool, (b = true ↔ B 0 1 ≤ m + 1) → f_X4_isNoneAtRest_J23 85 (iI p) (iI s) (iI m) (iI ((B 0 0 : Int) - s)) (bI b) S = some (bI r, S) := by
    intro b hb
    unfold f_X4_isNoneAtRest_J23 f_X4_isNoneAtRest_J45
    dsimp only [Nat.reduceAdd]
    cases b
    · rw [if_pos (by decide)]
      exact j46 false false hb ⟨fun z => absurd z (by decide), fun z => absurd (hb.mpr z.1) (by decide)⟩
    · rw [if_neg (by decide), ob_iI (by omega), iI_nat (by omega), x97]
      by_cases hc : B 0 0 - s ≤ mostG B (atL B L p)
      · rw [if_neg (by rw [iI_lt (by omega) (by omega)]; omega)]
        exact j46 true true hb ⟨fun _ => ⟨hb.mp rfl, hc⟩, fun _ => rfl⟩
      · rw [if_pos (by rw [iI_lt (by omega) (by omega)]; omega)]
        exact j46 true false hb ⟨fun z => absurd z (by decide), fun z => absurd z.2 hc⟩
  unfold f_X4_isNoneAtRest
  rw [h.2.1, iI_sub, sq_k, h.2.2.1, show (1 : Int32) = iI 1 from rfl, iI_add]
  by_cases hc : B 0 1 ≤ m + 1
  · rw [if_neg (by rw [iI_lt (by omega) (by omega)]; omega)]
    exact j23 true ⟨fun _ => hc, fun _ => rfl⟩
  · rw [if_pos (by rw [iI_lt (by omega) (by omega)]; omega)]
    exact j23 false ⟨fun z => absurd z (by decide), fun z => absurd z hc⟩
def prF (B : Bd) (s m i g : Nat) : Bool := decide (g ≤ mostG B i) && atRest B i s m g
def failF (B : Bd) (L s m : Nat) : Int := restN ((ordL B L).map (prF B s m)) 30 s m
theorem failS_F (B : Bd) : failS B = sumTo (fun s => sumTo (fun m => failF B (B 0 2) s m) (cntL B (B 0 2) + 1)) (B 0 0) := rfl
theorem E_failing {S : St} {B : Bd} {L s m : Nat} (hV : VB B) (hL : L ≤ 30) (h : RE S B L) (hs : s < B 0 0) (hm : m ≤ 8) : ∃ S2 : St, f_X4_failingWays_ 85 (iI s) (iI m) S = some (lI (failF B L s m), S2) ∧ RE S2 B L ∧ Fr (fun a _ => a = 98) S S2 := by
  have hbar : B 0 0 ≤ 60 := hV.1.2.1
  have hn := cntL_le B L
  have hng : B 9 1 ≤ 8 := hV.2.1.2.2.2
  have h0k : kdE 25 = 0 := kdE_c (Or.inl rfl)
  have key : ∀ (q N p : Nat) (S : St), p + q = cntL B L → q < N → RE S B L → (∀ k x, k ≤ m → x ≤ s → S.2.1 98 (61 * k + x) = lI (restN (rvF (fun q => prF B s m (atL B L q)) p) 30 x k)) →
      ∃ S2 : St, f_X4_failingWays__L6 N 85 (iI s) (iI m) (iI p) S = some (lI (failF B L s m), S2) ∧ RE S2 B L ∧ Fr (fun a _ => a = 98) S S2 := by
    intro q
    induction q with
    | zero =>
      intro N p S hp hN h hT
      obtain ⟨N, rfl⟩ : ∃ k, N = k + 1 := ⟨N - 1, by omega⟩
      have hpe : p = cntL B L := by omega
      subst hpe
      refine ⟨S, ?_, h, Fr.rf⟩
      have e : iI m * (61 : Int32) + iI s = iI (61 * m + s : Nat) := by
        rw [show (61 : Int32) = iI 61 from rfl, iI_mul, iI_add]; congr 1; omega
      rw [f_X4_failingWays__L6, h.1, ck_pos h0k, h.2.2.2.2.1.1, if_pos (by rw [iI_le (by omega) (by omega)]; omega), e, ob_iI (by omega), iI_nat (by omega)]
      dsimp only [Nat.reduceAdd]
      rw [hT m s (Nat.le_refl _) (Nat.le_refl _), restN_places]
      rfl
    | succ q ih =>
      intro N p S hp hN h hT
      obtain ⟨N, rfl⟩ : ∃ k, N = k + 1 := ⟨N - 1, by omega⟩
      have hpc : p < cntL B L := by omega
      have hg := (mostG_le hV (atL_lt hpc)).1
      obtain ⟨l1, l2⟩ := lowR_bd (i := atL B L p) (m := m) hs
      obtain ⟨S1, z1, z2, z3⟩ := E_join (V := fun x k => restN (rvF (fun q => prF B s m (atL B L q)) p) 30 x k) (a := prF B s m (atL B L p)) (lo := lowR B (atL B L p) s m) (hi := mostG B (atL B L p)) (SS := s) (W := m) (no := atRest B (atL B L p) s m 0) (S := S) l1 l2 hg (by omega) hm (fun g hgs hgm => by
        unfold prF
        rw [Bool.and_eq_true, decide_eq_true_eq]
        by_cases g0 : g = 0
        · subst g0
          constructor
          · rintro ⟨-, q⟩; exact Or.inl ⟨rfl, q⟩
          · rintro (q | q)
            · exact ⟨Nat.zero_le _, q.2⟩
            · omega
        · constructor
          · rintro ⟨q1, q2⟩
            exact Or.inr ⟨(rest_low hs (by omega) q1 hgs (hgm (by omega))).mp q2, q1⟩
          · rintro (q | ⟨q1, q2⟩)
            · exact absurd q.1 g0
            · exact ⟨q2, (rest_low hs (by omega) q2 hgs (hgm (by omega))).mpr q1⟩) hT
      obtain ⟨S2, y1, y2, y3⟩ := ih N (p + 1) S1 (by omega) (by omega) (RE_98 h z3) z2
      refine ⟨S2, ?_, y2, z3.tr y3⟩
      rw [f_X4_failingWays__L6, h.1, ck_pos h0k, h.2.2.2.2.1.1, if_neg (by rw [iI_le (by omega) (by omega)]; omega), bd_ok (E_lowAt hV hL h hpc hs hm), ob_iI (by omega), bd_ok (E_noneAt hV hL h hpc hs hm), iI_nat (by omega)]
      dsimp only [Nat.reduceAdd]
      rw [h.2.2.2.2.2 p hpc, bd_ok z1, show iI p + (1 : Int32) = iI (p + 1 : Nat) from iI_add p 1]
      exact y1
  obtain ⟨S1, a1, a2, a3⟩ := E_rclear (S := S)
  obtain ⟨S2, y1, y2, y3⟩ := key (cntL B L) FU 0 S1 (by omega) (by unfold FU; omega) (RE_98 h a3) (fun k x hk hx => a2 k x (by omega) (by omega))
  refine ⟨S2, ?_, y2, a3.tr y3⟩
  unfold f_X4_failingWays_
  rw [bd_ok a1]
  exact y1
theorem E_fails {S : St} {B : Bd} (hV : VB B) (h : RE S B (B 0 2)) : ∃ S2 : St, f_X4_failingWays 85 S = some (lI (failS B), S2) ∧ RE S2 B (B 0 2) ∧ Fr (fun a _ => a = 98) S S2 := by
  have hL : B 0 2 ≤ 30 := hV.1.2.2.2.1
  have hbar : B 0 0 ≤ 60 := hV.1.2.1
  have hn := cntL_le B (B 0 2)
  have hng : B 9 1 ≤ 8 := hV.2.1.2.2.2
  have h0k : kdE 25 = 0 := kdE_c (Or.inl rfl)
  have key15 : ∀ (kb : Int64 → Int32 → St → Option (Int64 × St)) (s : Nat), s < B 0 0 → ∀ (q N m : Nat) (z : Int) (S : St), m + q = min (cntL B (B 0 2)) s + 1 → q < N → RE S B (B 0 2) →
      ∃ S2 : St, f_X4_failingWays_L15 N 85 kb (lI (z + sumTo (fun m => failF B (B 0 2) s m) m)) (iI s) (iI m) S = kb (lI (z + sumTo (fun m => failF B (B 0 2) s m) (cntL B (B 0 2) + 1))) (iI (s + 1 : Nat)) S2 ∧ RE S2 B (B 0 2) ∧ Fr (fun a _ => a = 98) S S2 := by
    intro kb s hs q
    have e0 : iI s + (1 : Int32) = iI (s + 1 : Nat) := iI_add s 1
    induction q with
    | zero =>
      intro N m z S hm hN h
      obtain ⟨N, rfl⟩ : ∃ k, N = k + 1 := ⟨N - 1, by omega⟩
      have ht : sumTo (fun m => failF B (B 0 2) s m) (cntL B (B 0 2) + 1) = sumTo (fun m => failF B (B 0 2) s m) m := sumTo_tail (by omega) (fun j h1 h2 => restN_len 30 _ _ _ (Or.inr (by omega)))
      refine ⟨S, ?_, h, Fr.rf⟩
      rw [ht, f_X4_failingWays_L15, h.1, ck_pos h0k, h.2.2.2.2.1.1, e0]
      by_cases hc : cntL B (B 0 2) < m
      · rw [if_pos (by rw [iI_lt (by omega) (by omega)]; omega)]
      · rw [if_neg (by rw [iI_lt (by omega) (by omega)]; omega), if_pos (by rw [iI_lt (by omega) (by omega)]; omega)]
    | succ q ih =>
      intro N m z S hm hN h
      obtain ⟨N, rfl⟩ : ∃ k, N = k + 1 := ⟨N - 1, by omega⟩
      obtain ⟨S1, z1, z2, z3⟩ := E_failing (m := m) hV hL h hs (by omega)
      obtain ⟨S2, y1, y2, y3⟩ := ih N (m + 1) z S1 (by omega) (by omega) z2
      refine ⟨S2, ?_, y2, z3.tr y3⟩
      rw [f_X4_failingWays_L15, h.1, ck_pos h0k, h.2.2.2.2.1.1, if_neg (by rw [iI_lt (by omega) (by omega)]; omega), if_neg (by rw [iI_lt (by omega) (by omega)]; omega), bd_ok z1, lI_add, sq_k, show iI m + (1 : Int32) = iI (m + 1 : Nat) from iI_add m 1, Int.add_assoc]
      exact y1
  have key4 : ∀ (q N s : Nat) (S : St), s + q = B 0 0 → q < N → RE S B (B 0 2) →
      ∃ S2 : St, f_X4_failingWays_L4 N 85 (lI (sumTo (fun s => sumTo (fun m => failF B (B 0 2) s m) (cntL B (B 0 2) + 1)) s)) (iI s) S = some (lI (failS B), S2) ∧ RE S2 B (B 0 2) ∧ Fr (fun a _ => a = 98) S S2 := by
    intro q
    induction q with
    | zero =>
      intro N s S hs hN h
      obtain ⟨N, rfl⟩ : ∃ k, N = k + 1 := ⟨N - 1, by omega⟩
      refine ⟨S, ?_, h, Fr.rf⟩
      rw [f_X4_failingWays_L4, h.2.1, if_pos (by rw [iI_le (by omega) (by omega)]; omega), failS_F, show s = B 0 0 by omega]
    | succ q ih =>
      intro N s S hs hN h
      obtain ⟨N, rfl⟩ : ∃ k, N = k + 1 := ⟨N - 1, by omega⟩
      obtain ⟨S1, z1, z2, z3⟩ := key15 (fun l1 l3 S => f_X4_failingWays_L4 N 85 l1 l3 S) s (by omega) (min (cntL B (B 0 2)) s + 1) FU 0 (sumTo (fun s => sumTo (fun m => failF B (B 0 2) s m) (cntL B (B 0 2) + 1)) s) S (by omega) (by unfold FU; omega) h
      obtain ⟨S2, y1, y2, y3⟩ := ih N (s + 1) S1 (by omega) (by omega) z2
      refine ⟨S2, ?_, y2, z3.tr y3⟩
      rw [show sumTo (fun m => failF B (B 0 2) s m) 0 = 0 from rfl, Int.add_zero] at z1
      rw [f_X4_failingWays_L4, h.2.1, if_neg (by rw [iI_le (by omega) (by omega)]; omega)]
      exact z1.trans y1
  obtain ⟨S2, y1, y2, y3⟩ := key4 (B 0 0) FU 0 S (by omega) (by unfold FU; omega) h
  refine ⟨S2, ?_, y2, y3⟩
  unfold f_X4_failingWays
  exact y1
