/-! gifts at rest by which it fails: the reference -/
def allFr (P : Nat → Bool) : Nat → Nat → Bool
  | _, 0 => true
  | o, r + 1 => P o && allFr P (o + 1) r
theorem allFr_iff (P : Nat → Bool) : ∀ (r o : Nat), allFr P o r = true ↔ ∀ j, o ≤ j → j < o + r → P j = true
  | 0, o => ⟨fun _ j h1 h2 => absurd h1 (by omega), fun _ => rfl⟩
  | r + 1, o => by
    unfold allFr
    rw [Bool.and_eq_true, allFr_iff P r (o + 1)]
    constructor
    · rintro ⟨h1, h2⟩ j h3 h4
      by_cases hj : j = o
      · rw [hj]; exact h1
      · exact h2 j (by omega) (by omega)
    · intro h
      exact ⟨h o (Nat.le_refl _) (by omega), fun j h1 h2 => h j (by omega) (by omega)⟩
/-- by whole numbers -/
def hasZ (B : Bd) (i s m g o : Nat) : Int := if (B 0 0 : Int) ≤ (s : Int) - g + o ∧ (B 0 1 : Int) ≤ (m : Int) - o1 g + o1 o then (mostS B (B 7 i) : Int) - o else if 0 < o then (B 0 4 : Int) else 0
def pZ (B : Bd) (i s m g o : Nat) : Bool := decide (o = g) || decide (hasZ B i s m g o ≤ ownR B g)
theorem pZ_rest {B : Bd} {i s m g : Nat} (hg : g ≤ s) (hm : o1 g ≤ m) : allFr (pZ B i s m g) 0 (mostG B i + 1) = atRest B i s m g := by
  have e : ∀ o, hasZ B i s m g o = hasR B i s m g o := fun o => by
    unfold hasZ hasR
    by_cases hc : B 0 0 ≤ s - g + o ∧ B 0 1 ≤ m - o1 g + o1 o
    · rw [if_pos hc, if_pos (by omega)]
    · rw [if_neg hc, if_neg (by omega)]
  have h1 : allFr (pZ B i s m g) 0 (mostG B i + 1) = true ↔ atRest B i s m g = true := by
    rw [allFr_iff, atRest_iff]
    constructor
    · intro h o ho
      have := h o (Nat.zero_le _) (by omega)
      unfold pZ at this
      rw [Bool.or_eq_true, decide_eq_true_eq, decide_eq_true_eq, e] at this
      exact this
    · intro h o _ ho
      have := h o (by omega)
      unfold pZ
      rw [Bool.or_eq_true, decide_eq_true_eq, decide_eq_true_eq, e]
      exact this
  cases h2 : atRest B i s m g
  · cases h3 : allFr (pZ B i s m g) 0 (mostG B i + 1)
    · rfl
    · rw [h3, h2] at h1; exact absurd (h1.mp rfl) (by decide)
  · exact h1.mpr h2
theorem o1_cases (g : Nat) : (g = 0 ∧ o1 g = 0) ∨ (0 < g ∧ o1 g = 1) := by
  unfold o1
  by_cases q : 0 < g
  · exact Or.inr ⟨q, if_pos q⟩
  · exact Or.inl ⟨by omega, if_neg q⟩
theorem M_isRest {S : St} {B : Bd} {L i s m g : Nat} (hV : VB B) (hM : LM S B L) (hi : i < B 9 1) (hci : cmB B L i = true) (hs : s ≤ 100) (hm : m ≤ 8) (hg : g ≤ 100) : f_X10_isRest 103 (iI i) (iI g) (iI s) (iI m) S = some (bI (allFr (pZ B i s m g) 0 (mostG B i + 1)), S) := by
  have hbar : B 0 0 ≤ 60 := hV.1.2.1
  have hneed : B 0 1 ≤ 8 := hV.1.2.2.1
  have hpen : B 0 4 ≤ 9 := hV.1.2.2.2.2.2.1
  have hng : B 9 1 ≤ 8 := hV.2.1.2.2.2
  obtain ⟨g1, g2, g3⟩ := mostG_le hV hi
  have hmg : mgN B L i = mostG B i := by rw [mgN_e hi]; exact if_pos hci
  have hMG := M_mostGift hV hM.1 hM.2.1 hi
  rw [hmg] at hMG
  have e1 : S.1 105 1 = iI (B 0 1) := hM.1.1 1 (by omega)
  have e4 : S.1 105 4 = iI (B 0 4) := hM.1.1 4 (by omega)
  have c1 : Int32.toNatClampNeg 1 = 1 := rfl
  have c4 : Int32.toNatClampNeg 4 = 4 := rfl
  have hown : 0 ≤ ownR B g ∧ ownR B g ≤ 9 := by
    unfold ownR
    by_cases q : 0 < g
    · rw [if_pos q]; omega
    · rw [if_neg q]; omega
  obtain ⟨og, hog⟩ : ∃ og, og = o1 g := ⟨_, rfl⟩
  have hog1 : og ≤ 1 := by have := o1_cases g; omega
  have key : ∀ (q N o : Nat), o + q = mostG B i + 1 → q < N → f_X10_isRest_L19 N 103 (iI i) (iI g) (iI s) (iI m) (iI (ownR B g)) (iI o) S = some (bI (allFr (pZ B i s m g) o q), S) := by
    intro q
    induction q with
    | zero =>
      intro N o ho hN
      obtain ⟨N, rfl⟩ : ∃ k, N = k + 1 := ⟨N - 1, by omega⟩
      rw [f_X10_isRest_L19, bd_ok hMG, if_pos (by rw [iI_lt (by omega) (by omega)]; omega)]; rfl
    | succ q ih =>
      intro N o ho hN
      obtain ⟨N, rfl⟩ : ∃ k, N = k + 1 := ⟨N - 1, by omega⟩
      have nx := ih N (o + 1) (by omega) (by omega)
      have e0 : iI o + (1 : Int32) = iI (o + 1 : Nat) := iI_add o 1
      have hal : allFr (pZ B i s m g) o (q + 1) = (pZ B i s m g o && allFr (pZ B i s m g) (o + 1) q) := rfl
      obtain ⟨oo, hoo⟩ : ∃ oo, oo = o1 o := ⟨_, rfl⟩
      have hoc := o1_cases o
      rw [← hoo] at hoc
      have hZb : -100 ≤ hasZ B i s m g o ∧ hasZ B i s m g o ≤ 100 := by
        unfold hasZ
        by_cases hc : (B 0 0 : Int) ≤ (s : Int) - g + o ∧ (B 0 1 : Int) ≤ (m : Int) - o1 g + o1 o
        · rw [if_pos hc]; omega
        · rw [if_neg hc]
          by_cases h0 : 0 < o
          · rw [if_pos h0]; omega
          · rw [if_neg h0]; omega
      -- the last test
      have j108 : f_X10_isRest_J108 103 (iI i) (iI g) (iI s) (iI m) (fun l5 l6 S => f_X10_isRest_L19 N 103 (iI i) (iI g) (iI s) (iI m) l5 l6 S) (iI (ownR B g)) (iI o) (iI (hasZ B i s m g o)) S = some (bI (allFr (pZ B i s m g) o (q + 1)), S) := by
        unfold f_X10_isRest_J108
        rw [e0, hal]
        unfold pZ
        by_cases h1 : o = g
        · rw [if_pos (by rw [h1]), decide_eq_true h1]
          exact nx
        · rw [if_neg (by rw [iI_eq (by omega) (by omega)]; omega), decide_eq_false h1]
          by_cases h2 : hasZ B i s m g o ≤ ownR B g
          · rw [if_pos (by rw [iI_le (by omega) (by omega)]; exact h2), decide_eq_true h2]
            exact nx
          · rw [if_neg (by rw [iI_le (by omega) (by omega)]; exact h2), decide_eq_false h2]
            rfl
      have j93 : ¬ ((B 0 0 : Int) ≤ (s : Int) - g + o ∧ (B 0 1 : Int) ≤ (m : Int) - o1 g + o1 o) → f_X10_isRest_J93 103 (iI i) (iI g) (iI s) (iI m) (fun l5 l6 S => f_X10_isRest_L19 N 103 (iI i) (iI g) (iI s) (iI m) l5 l6 S) (iI (ownR B g)) (iI o) S = some (bI (allFr (pZ B i s m g) o (q + 1)), S) := by
        intro hc
        have hz : hasZ B i s m g o = if 0 < o then (B 0 4 : Int) else 0 := by unfold hasZ; rw [if_neg hc]
        unfold f_X10_isRest_J93
        by_cases h0 : 0 < o
        · rw [if_pos h0] at hz
          rw [hz] at j108
          rw [if_neg (by rw [show (0 : Int32) = iI 0 from rfl, iI_le (by omega) (by omega)]; omega), c4]
          dsimp only [Nat.reduceAdd]
          rw [e4]
          exact j108
        · rw [if_neg h0] at hz
          rw [hz] at j108
          rw [if_pos (by rw [show (0 : Int32) = iI 0 from rfl, iI_le (by omega) (by omega)]; omega)]
          exact j108
      have j59 : f_X10_isRest_J59 103 (iI i) (iI g) (iI s) (iI m) (fun l5 l6 S => f_X10_isRest_L19 N 103 (iI i) (iI g) (iI s) (iI m) l5 l6 S) (iI (ownR B g)) (iI o) (iI ((s : Int) - g + o)) (iI ((m : Int) - og)) (iI oo) S = some (bI (allFr (pZ B i s m g) o (q + 1)), S) := by
        unfold f_X10_isRest_J59
        rw [iI_add, sq_k, hM.2.2]
        by_cases h1 : (s : Int) - g + o < B 0 0
        · rw [if_pos (by rw [iI_lt (by omega) (by omega)]; exact h1)]
          exact j93 (fun z => by omega)
        · rw [if_neg (by rw [iI_lt (by omega) (by omega)]; exact h1), c1]
          dsimp only [Nat.reduceAdd]
          rw [e1]
          by_cases h2 : (m : Int) - og + oo < B 0 1
          · rw [if_pos (by rw [iI_lt (by omega) (by omega)]; exact h2)]
            exact j93 (fun z => by rw [← hog, ← hoo] at z; omega)
          · rw [if_neg (by rw [iI_lt (by omega) (by omega)]; exact h2), bd_ok (M_most hV hi hM.1), iI_sub]
            have hz : hasZ B i s m g o = (mostS B (B 7 i) : Int) - o := by unfold hasZ; rw [← hog, ← hoo, if_pos ⟨by omega, by omega⟩]
            rw [hz] at j108
            exact j108
      have j48 : f_X10_isRest_J48 103 (iI i) (iI g) (iI s) (iI m) (fun l5 l6 S => f_X10_isRest_L19 N 103 (iI i) (iI g) (iI s) (iI m) l5 l6 S) (iI (ownR B g)) (iI o) (iI ((s : Int) - g + o)) (iI m) (iI og) S = some (bI (allFr (pZ B i s m g) o (q + 1)), S) := by
        unfold f_X10_isRest_J48
        rw [iI_sub]
        rcases hoc with ⟨h1, h2⟩ | ⟨h1, h2⟩
        · rw [h2] at j59
          rw [if_pos (by rw [show (0 : Int32) = iI 0 from rfl, iI_le (by omega) (by omega)]; omega)]
          exact j59
        · rw [h2] at j59
          rw [if_neg (by rw [show (0 : Int32) = iI 0 from rfl, iI_le (by omega) (by omega)]; omega)]
          exact j59
      rw [f_X10_isRest_L19, bd_ok hMG, if_neg (by rw [iI_lt (by omega) (by omega)]; omega), iI_sub, iI_add, sq_k]
      rcases o1_cases g with ⟨h1, h2⟩ | ⟨h1, h2⟩
      · rw [hog, h2] at j48
        rw [if_pos (by rw [show (0 : Int32) = iI 0 from rfl, iI_le (by omega) (by omega)]; omega)]
        exact j48
      · rw [hog, h2] at j48
        rw [if_neg (by rw [show (0 : Int32) = iI 0 from rfl, iI_le (by omega) (by omega)]; omega)]
        exact j48
  have z := key (mostG B i + 1) FU 0 (Nat.zero_add _) (by unfold FU; omega)
  unfold f_X10_isRest
  by_cases h0 : 0 < g
  · have ow : ownR B g = (B 0 4 : Int) := if_pos h0
    rw [ow] at z
    rw [if_neg (by rw [show (0 : Int32) = iI 0 from rfl, iI_le (by omega) (by omega)]; omega), c4]
    dsimp only [Nat.reduceAdd]
    rw [e4, sq_k]
    exact z
  · have ow : ownR B g = 0 := if_neg h0
    rw [ow] at z
    rw [if_pos (by rw [show (0 : Int32) = iI 0 from rfl, iI_le (by omega) (by omega)]; omega)]
    exact z
/-! the tables of the reference -/
def P127 (a _ : Nat) : Prop := a = 128
theorem P127_ly {a k : Nat} (h : P127 a k) : PLy a k := by unfold P127 at h; unfold PLy; omega
/-- next, by what it held and what is added -/
def NX (S : St) (s m : Nat) (F : Nat → Nat → Int) : Prop := ∀ x y, x ≤ s → y ≤ m → S.2.1 128 (9 * x + y) = lI (F x y)
def HX (S : St) (s m : Nat) (V : Nat → Nat → Int) : Prop := ∀ x y, x ≤ s → y ≤ m → S.2.1 127 (9 * x + y) = lI (V x y)
theorem HX_127 {S S2 : St} {s m : Nat} {V : Nat → Nat → Int} (h : HX S s m V) (hf : Fr P127 S S2) : HX S2 s m V := fun x y hx hy => by
  rw [hf.2.1 127 _ (by unfold P127; omega)]; exact h x y hx hy
theorem M_r143 {s m g a : Nat} {V F : Nat → Nat → Int} (hs : s ≤ 60) (hm : m ≤ 8) (hag : a + g ≤ s) (kb32 : Int32 → St → Option (Int64 × St)) (kb68 : Int32 → Int32 → St → Option (Int64 × St)) (kb126 : Int32 → Int32 → Int32 → Int32 → Int32 → St → Option (Int64 × St)) (l3 l5 : Int32) : ∀ (q N k : Nat) (S : St), q = m + 1 - o1 g - k → k ≤ m + 1 → q < N → HX S s m V → NX S s m (fun x y => if x = a + g ∧ o1 g ≤ y ∧ y < k + o1 g then F x y + V a (y - o1 g) else F x y) →
    ∃ S2 : St, f_X10_restsOf_L143 N 103 (iI s) (iI m) kb32 kb68 kb126 l3 (iI g) l5 (iI (o1 g)) (iI a) (iI k) S = kb126 l3 (iI g) l5 (iI (o1 g)) (iI (a + 1 : Nat)) S2 ∧ NX S2 s m (fun x y => if x = a + g ∧ o1 g ≤ y then F x y + V a (y - o1 g) else F x y) ∧ Fr P127 S S2 := by
  have hog : o1 g ≤ 1 := by have := o1_cases g; omega
  intro q
  induction q with
  | zero =>
    intro N k S hq hkm1 hN hH hF
    obtain ⟨N, rfl⟩ : ∃ k, N = k + 1 := ⟨N - 1, by omega⟩
    refine ⟨S, ?_, fun x y hx hy => ?_, Fr.rf⟩
    · rw [f_X10_restsOf_L143, iI_add, if_pos (by rw [iI_lt (by omega) (by omega)]; omega), show iI a + (1 : Int32) = iI (a + 1 : Nat) from iI_add a 1]
    · rw [hF x y hx hy]
      congr 1
      dsimp only
      by_cases hc : x = a + g ∧ o1 g ≤ y
      · rw [if_pos hc, if_pos ⟨hc.1, hc.2, by omega⟩]
      · rw [if_neg hc, if_neg (fun z => hc ⟨z.1, z.2.1⟩)]
  | succ q ih =>
    intro N k S hq hkm1 hN hH hF
    obtain ⟨N, rfl⟩ : ∃ k, N = k + 1 := ⟨N - 1, by omega⟩
    have hkm : k + o1 g ≤ m := by omega
    have x1 : (9 : Int32) * (iI a + iI g) + iI k + iI (o1 g) = iI (9 * (a + g) + (k + o1 g) : Nat) := by
      rw [show (9 : Int32) = iI 9 from rfl, iI_add, iI_mul, iI_add, iI_add]; congr 1; omega
    have x2 : (9 : Int32) * iI a + iI k = iI (9 * a + k : Nat) := by
      rw [show (9 : Int32) = iI 9 from rfl, iI_mul, iI_add]; congr 1
    have hold := hF (a + g) (k + o1 g) hag hkm
    dsimp only at hold
    rw [if_neg (by omega)] at hold
    have hh := hH a k (by omega) (by omega)
    have hw : P127 128 (9 * (a + g) + (k + o1 g)) := rfl
    obtain ⟨S1, hS1⟩ : ∃ S1, S1 = pJ S 128 (9 * (a + g) + (k + o1 g)) (lI (F (a + g) (k + o1 g) + V a k)) := ⟨_, rfl⟩
    have f1 : Fr P127 S S1 := by rw [hS1]; exact Fr.pJ hw
    obtain ⟨S2, y1, y2, y3⟩ := ih N (k + 1) S1 (by omega) (by omega) (by omega) (HX_127 hH f1) (fun x y hx hy => by
      rw [hS1, pJ_2]
      dsimp only
      by_cases hc : x = a + g ∧ y = k + o1 g
      · rw [if_pos ⟨rfl, by rw [hc.1, hc.2]⟩, if_pos ⟨hc.1, by omega, by omega⟩, hc.1, hc.2, Nat.add_sub_cancel]
      · rw [if_neg (by omega), hF x y hx hy]
        congr 1
        dsimp only
        by_cases hc2 : x = a + g ∧ o1 g ≤ y ∧ y < k + o1 g
        · rw [if_pos hc2, if_pos ⟨hc2.1, hc2.2.1, by omega⟩]
        · rw [if_neg hc2, if_neg (by omega)])
    refine ⟨S2, ?_, y2, f1.tr y3⟩
    rw [f_X10_restsOf_L143, iI_add k (o1 g), if_neg (by rw [iI_lt (by omega) (by omega)]; omega), x1, x2, ob_iI (by omega), ob_iI (by omega), ob_iI (by omega), iI_nat (by omega), iI_nat (by omega)]
    dsimp only [Nat.reduceAdd]
    rw [hold, hh, lI_add, sq_k, ← hS1, show iI k + (1 : Int32) = iI (k + 1 : Nat) from iI_add k 1]
    exact y1
theorem M_r126 {s m g : Nat} {V F : Nat → Nat → Int} (hs : s ≤ 60) (hm : m ≤ 8) (hg : g ≤ s) (kb32 : Int32 → St → Option (Int64 × St)) (kb68 : Int32 → Int32 → St → Option (Int64 × St)) (l3 : Int32) (b : Bool) : ∀ (q N a : Nat) (S : St), a + q = s + 1 - g → q < N → HX S s m V → NX S s m (fun x y => if b = true ∧ g ≤ x ∧ x < a + g ∧ o1 g ≤ y then F x y + V (x - g) (y - o1 g) else F x y) →
    ∃ S2 : St, f_X10_restsOf_L126 N 103 (iI s) (iI m) kb32 kb68 l3 (iI g) (bI b) (iI (o1 g)) (iI a) S = kb68 l3 (iI (g + 1 : Nat)) S2 ∧ NX S2 s m (fun x y => if b = true ∧ g ≤ x ∧ o1 g ≤ y then F x y + V (x - g) (y - o1 g) else F x y) ∧ Fr P127 S S2 := by
  have e0 : iI g + (1 : Int32) = iI (g + 1 : Nat) := iI_add g 1
  intro q
  cases b
  · intro N a S ha hN hH hF
    obtain ⟨N, rfl⟩ : ∃ k, N = k + 1 := ⟨N - 1, by omega⟩
    refine ⟨S, ?_, fun x y hx hy => ?_, Fr.rf⟩
    · rw [f_X10_restsOf_L126, e0, iI_add a g]
      by_cases hc : s < a + g
      · rw [if_pos (by rw [iI_lt (by omega) (by omega)]; omega)]
      · rw [if_neg (by rw [iI_lt (by omega) (by omega)]; omega), if_pos (by decide)]
    · rw [hF x y hx hy]
      congr 1
  · induction q with
    | zero =>
      intro N a S ha hN hH hF
      obtain ⟨N, rfl⟩ : ∃ k, N = k + 1 := ⟨N - 1, by omega⟩
      refine ⟨S, ?_, fun x y hx hy => ?_, Fr.rf⟩
      · rw [f_X10_restsOf_L126, e0, iI_add a g, if_pos (by rw [iI_lt (by omega) (by omega)]; omega)]
      · rw [hF x y hx hy]
        congr 1
        dsimp only
        by_cases hc : g ≤ x ∧ o1 g ≤ y
        · rw [if_pos ⟨rfl, hc.1, by omega, hc.2⟩, if_pos ⟨rfl, hc⟩]
        · rw [if_neg (fun z => hc ⟨z.2.1, z.2.2.2⟩), if_neg (fun z => hc z.2)]
    | succ q ih =>
      intro N a S ha hN hH hF
      obtain ⟨N, rfl⟩ : ∃ k, N = k + 1 := ⟨N - 1, by omega⟩
      obtain ⟨S1, z1, z2, z3⟩ := M_r143 (F := fun x y => if true = true ∧ g ≤ x ∧ x < a + g ∧ o1 g ≤ y then F x y + V (x - g) (y - o1 g) else F x y) (V := V) hs hm (show a + g ≤ s by omega) kb32 kb68 (fun l3 l4 l5 l6 l7 S => f_X10_restsOf_L126 N 103 (iI s) (iI m) kb32 kb68 l3 l4 l5 l6 l7 S) l3 (bI true) (m + 1 - o1 g) FU 0 S rfl (by omega) (by unfold FU; omega) hH (fun x y hx hy => by
        rw [hF x y hx hy]
        congr 1
        dsimp only
        rw [if_neg (show ¬ (x = a + g ∧ o1 g ≤ y ∧ y < 0 + o1 g) by omega)])
      obtain ⟨S2, y1, y2, y3⟩ := ih N (a + 1) S1 (by omega) (by omega) (HX_127 hH z3) (fun x y hx hy => by
        rw [z2 x y hx hy]
        congr 1
        dsimp only
        by_cases hc : x = a + g ∧ o1 g ≤ y
        · rw [if_pos hc, if_neg (fun z => by have := z.2.2.1; omega), if_pos ⟨rfl, by omega, by omega, hc.2⟩, show x - g = a by omega]
        · rw [if_neg hc]
          by_cases hc2 : g ≤ x ∧ x < a + g ∧ o1 g ≤ y
          · rw [if_pos ⟨rfl, hc2⟩, if_pos ⟨rfl, hc2.1, by omega, hc2.2.2⟩]
          · rw [if_neg (fun z => hc2 z.2), if_neg (fun z => by have := z.2; omega)])
      refine ⟨S2, ?_, y2, z3.tr y3⟩
      rw [f_X10_restsOf_L126, iI_add a g, if_neg (by rw [iI_lt (by omega) (by omega)]; omega), if_neg (by decide)]
      exact z1.trans y1
/-- next copied to here -/
theorem M_r208 {s m : Nat} {V : Nat → Nat → Int} (hs : s ≤ 60) (hm : m ≤ 8) (kb32 : Int32 → St → Option (Int64 × St)) (i : Nat) (a1 a2 : Int32) {S0 : St} (hN0 : NX S0 s m V) : ∀ (q N k : Nat) (S : St), k + q = 900 → q < N → (∀ j, S.2.1 128 j = S0.2.1 128 j) → (∀ j, j < k → S.2.1 127 j = S0.2.1 128 j) →
    ∃ S2 : St, f_X10_restsOf_L208 N 103 a1 a2 kb32 (iI i) (iI k) S = kb32 (iI (i + 1 : Nat)) S2 ∧ HX S2 s m V ∧ Fr PLy S S2 := by
  intro q
  induction q with
  | zero =>
    intro N k S hk hN h1 h2
    obtain ⟨N, rfl⟩ : ∃ k, N = k + 1 := ⟨N - 1, by omega⟩
    refine ⟨S, ?_, fun x y hx hy => ?_, Fr.rf⟩
    · rw [f_X10_restsOf_L208, show (900 : Int32) = iI 900 from rfl, if_pos (by rw [iI_le (by omega) (by omega)]; omega), show iI i + (1 : Int32) = iI (i + 1 : Nat) from iI_add i 1]
    · rw [h2 _ (by omega)]; exact hN0 x y hx hy
  | succ q ih =>
    intro N k S hk hN h1 h2
    obtain ⟨N, rfl⟩ : ∃ k, N = k + 1 := ⟨N - 1, by omega⟩
    have hw : PLy 127 k := by unfold PLy; omega
    obtain ⟨S2, y1, y2, y3⟩ := ih N (k + 1) (pJ S 127 k (S.2.1 128 k)) (by omega) (by omega) (fun j => by rw [pJ_2, if_neg (by omega)]; exact h1 j) (fun j hj => by
      rw [pJ_2]
      by_cases hc : j = k
      · rw [if_pos ⟨rfl, hc⟩, h1, hc]
      · rw [if_neg (fun z => hc z.2)]; exact h2 j (by omega))
    refine ⟨S2, ?_, y2, (Fr.pJ hw).tr y3⟩
    rw [f_X10_restsOf_L208, show (900 : Int32) = iI 900 from rfl, if_neg (by rw [iI_le (by omega) (by omega)]; omega), ob_iI (by omega), ob_iI (by omega), iI_nat (by omega)]
    dsimp only [Nat.reduceAdd]
    rw [sq_k, show iI k + (1 : Int32) = iI (k + 1 : Nat) from iI_add k 1]
    exact y1
theorem M_r43 {kb32 : Int32 → St → Option (Int64 × St)} {i : Nat} {a1 a2 : Int32} : ∀ (q N k : Nat) (S : St), k + q = 900 → q < N → (∀ j, j < k → S.2.1 128 j = 0) →
    ∃ S2 : St, f_X10_restsOf_L43 N 103 a1 a2 kb32 (iI i) (iI k) S = f_X10_restsOf_L68 FU 103 a1 a2 kb32 (iI i) 0 S2 ∧ (∀ j, j < 900 → S2.2.1 128 j = 0) ∧ Fr P127 S S2 := by
  intro q
  induction q with
  | zero =>
    intro N k S hk hN h1
    obtain ⟨N, rfl⟩ : ∃ k, N = k + 1 := ⟨N - 1, by omega⟩
    refine ⟨S, ?_, fun j hj => h1 j (by omega), Fr.rf⟩
    rw [f_X10_restsOf_L43, show (900 : Int32) = iI 900 from rfl, if_pos (by rw [iI_le (by omega) (by omega)]; omega)]
  | succ q ih =>
    intro N k S hk hN h1
    obtain ⟨N, rfl⟩ : ∃ k, N = k + 1 := ⟨N - 1, by omega⟩
    have hw : P127 128 k := rfl
    obtain ⟨S2, y1, y2, y3⟩ := ih N (k + 1) (pJ S 128 k 0) (by omega) (by omega) (fun j hj => by
      rw [pJ_2]
      by_cases hc : j = k
      · rw [if_pos ⟨rfl, hc⟩]
      · rw [if_neg (fun z => hc z.2)]; exact h1 j (by omega))
    refine ⟨S2, ?_, y2, (Fr.pJ hw).tr y3⟩
    rw [f_X10_restsOf_L43, show (900 : Int32) = iI 900 from rfl, if_neg (by rw [iI_le (by omega) (by omega)]; omega), ob_iI (by omega), iI_nat (by omega)]
    dsimp only [Nat.reduceAdd]
    rw [sq_k, show iI k + (1 : Int32) = iI (k + 1 : Nat) from iI_add k 1]
    exact y1
/-- one giver's gifts gone through -/
theorem M_r68 {B : Bd} {L s m i : Nat} {V : Nat → Nat → Int} (hV : VB B) (hs : s ≤ 60) (hm : m ≤ 8) (hi : i < B 9 1) (kb32 : Int32 → St → Option (Int64 × St)) : ∀ (q N g : Nat) (S : St), g + q = 31 → q < N → LM S B L → HX S s m V → NX S s m (fun x y => sumTo (rst (withB B L (prF B s m) i) V x y) g) →
    ∃ S2 : St, f_X10_restsOf_L68 N 103 (iI s) (iI m) kb32 (iI i) (iI g) S = kb32 (iI (i + 1 : Nat)) S2 ∧ HX S2 s m (fun x y => sumTo (rst (withB B L (prF B s m) i) V x y) 31) ∧ Fr PLy S S2 := by
  have hng : B 9 1 ≤ 8 := hV.2.1.2.2.2
  have hmg := mgN_le (L := L) hV i
  obtain ⟨g1, g2, g3⟩ := mostG_le hV hi
  obtain ⟨A, hA⟩ : ∃ A, A = withB B L (prF B s m) i := ⟨_, rfl⟩
  rw [← hA]
  have hAg : ∀ g, mgN B L i < g → A g = false := fun g hg => by
    rw [hA]
    unfold withB
    by_cases hc : cmB B L i = true
    · have : mgN B L i = mostG B i := by rw [mgN_e hi]; exact if_pos hc
      rw [if_pos hc]
      unfold prF
      rw [decide_eq_false (by omega), Bool.false_and]
    · have : mgN B L i = 0 := by rw [mgN_e hi]; exact if_neg hc
      rw [if_neg hc]
      exact decide_eq_false (by omega)
  have stop : ∀ (g : Nat) (S : St), g ≤ 31 → (∀ j, g ≤ j → j < 31 → ∀ x y, x ≤ s → y ≤ m → rst A V x y j = 0) → NX S s m (fun x y => sumTo (rst A V x y) g) → ∃ S2 : St, f_X10_restsOf_L208 FU 103 (iI s) (iI m) kb32 (iI i) 0 S = kb32 (iI (i + 1 : Nat)) S2 ∧ HX S2 s m (fun x y => sumTo (rst A V x y) 31) ∧ Fr PLy S S2 := by
    intro g S hg hz hF
    exact M_r208 hs hm kb32 i (iI s) (iI m) (S0 := S) (V := fun x y => sumTo (rst A V x y) 31) (fun x y hx hy => by
      rw [hF x y hx hy]
      congr 1
      exact (sumTo_tail hg (fun j h1 h2 => hz j h1 h2 x y hx hy)).symm) 900 FU 0 S (by omega) (by unfold FU; omega) (fun j => rfl) (fun j hj => absurd hj (Nat.not_lt_zero _))
  intro q
  induction q with
  | zero =>
    intro N g S hg hN hM hH hF
    obtain ⟨N, rfl⟩ : ∃ k, N = k + 1 := ⟨N - 1, by omega⟩
    obtain ⟨S2, y1, y2, y3⟩ := stop g S (by omega) (fun j h1 h2 => absurd h1 (by omega)) hF
    refine ⟨S2, ?_, y2, y3⟩
    rw [f_X10_restsOf_L68, bd_ok (M_mostGift hV hM.1 hM.2.1 hi), if_pos (by rw [iI_lt (by omega) (by omega)]; omega)]
    exact y1
  | succ q ih =>
    intro N g S hg hN hM hH hF
    obtain ⟨N, rfl⟩ : ∃ k, N = k + 1 := ⟨N - 1, by omega⟩
    by_cases h1 : mgN B L i < g
    · obtain ⟨S2, y1, y2, y3⟩ := stop g S (by omega) (fun j h2 h3 x y hx hy => by
        unfold rst
        rw [if_neg (fun z => by rw [hAg j (by omega)] at z; exact absurd z.1 (by decide))]) hF
      refine ⟨S2, ?_, y2, y3⟩
      rw [f_X10_restsOf_L68, bd_ok (M_mostGift hV hM.1 hM.2.1 hi), if_pos (by rw [iI_lt (by omega) (by omega)]; omega)]
      exact y1
    by_cases h2 : s < g
    · obtain ⟨S2, y1, y2, y3⟩ := stop g S (by omega) (fun j h2 h3 x y hx hy => by
        unfold rst
        rw [if_neg (fun z => by have := z.2.1; omega)]) hF
      refine ⟨S2, ?_, y2, y3⟩
      rw [f_X10_restsOf_L68, bd_ok (M_mostGift hV hM.1 hM.2.1 hi), if_neg (by rw [iI_lt (by omega) (by omega)]; omega), if_pos (by rw [iI_lt (by omega) (by omega)]; omega)]
      exact y1
    -- the gift g
    have go : ∀ b : Bool, (o1 g ≤ m → b = A g) → ∃ S2 : St, f_X10_restsOf_J109 103 (iI s) (iI m) kb32 (fun l3 l4 S => f_X10_restsOf_L68 N 103 (iI s) (iI m) kb32 l3 l4 S) (iI i) (iI g) (bI b) S = kb32 (iI (i + 1 : Nat)) S2 ∧ HX S2 s m (fun x y => sumTo (rst A V x y) 31) ∧ Fr PLy S S2 := by
      intro b hb
      obtain ⟨S1, z1, z2, z3⟩ := M_r126 (F := fun x y => sumTo (rst A V x y) g) (V := V) hs hm (show g ≤ s by omega) kb32 (fun l3 l4 S => f_X10_restsOf_L68 N 103 (iI s) (iI m) kb32 l3 l4 S) (iI i) b (s + 1 - g) FU 0 S (by omega) (by unfold FU; omega) hH (fun x y hx hy => by
        rw [hF x y hx hy]
        congr 1
        dsimp only
        rw [if_neg (fun z => by have := z.2; omega)])
      obtain ⟨S2, y1, y2, y3⟩ := ih N (g + 1) S1 (by omega) (by omega) (LM_fr hM (z3.wk (fun _ _ => P127_ly))) (HX_127 hH z3) (fun x y hx hy => by
        rw [z2 x y hx hy]
        congr 1
        dsimp only
        show _ = sumTo (rst A V x y) g + rst A V x y g
        unfold rst
        by_cases hc : g ≤ x ∧ o1 g ≤ y
        · have hbb := hb (by omega)
          by_cases hbt : b = true
          · rw [if_pos ⟨hbt, hc⟩, if_pos ⟨by rw [← hbb]; exact hbt, hc⟩]
          · rw [if_neg (fun z => hbt z.1), if_neg (fun z => hbt (by rw [hbb]; exact z.1)), Int.add_zero]
        · rw [if_neg (fun z => hc z.2), if_neg (fun z => hc z.2), Int.add_zero])
      refine ⟨S2, ?_, y2, (z3.wk (fun _ _ => P127_ly)).tr y3⟩
      unfold f_X10_restsOf_J109
      rcases o1_cases g with ⟨q1, q2⟩ | ⟨q1, q2⟩
      · rw [q2] at z1
        rw [if_pos (by rw [show (0 : Int32) = iI 0 from rfl, iI_le (by omega) (by omega)]; omega)]
        exact z1.trans y1
      · rw [q2] at z1
        rw [if_neg (by rw [show (0 : Int32) = iI 0 from rfl, iI_le (by omega) (by omega)]; omega)]
        exact z1.trans y1
    have pre : f_X10_restsOf_L68 (N + 1) 103 (iI s) (iI m) kb32 (iI i) (iI g) S = (if bI (cmB B L i) = 0 then f_X10_restsOf_J104 103 (iI s) (iI m) kb32 (fun l3 l4 S => f_X10_restsOf_L68 N 103 (iI s) (iI m) kb32 l3 l4 S) (iI i) (iI g) S else bd (f_X10_isRest 103 (iI i) (iI g) (iI s) (iI m) S) fun x22 S23 => if x22 = 0 then f_X10_restsOf_J109 103 (iI s) (iI m) kb32 (fun l3 l4 S => f_X10_restsOf_L68 N 103 (iI s) (iI m) kb32 l3 l4 S) (iI i) (iI g) (0 : Int32) S23 else f_X10_restsOf_J104 103 (iI s) (iI m) kb32 (fun l3 l4 S => f_X10_restsOf_L68 N 103 (iI s) (iI m) kb32 l3 l4 S) (iI i) (iI g) S23) := by
      rw [f_X10_restsOf_L68, bd_ok (M_mostGift hV hM.1 hM.2.1 hi), if_neg (by rw [iI_lt (by omega) (by omega)]; omega), if_neg (by rw [iI_lt (by omega) (by omega)]; omega), bd_ok (M_comes hV hM.2.1 hi)]
    rw [pre]
    unfold f_X10_restsOf_J104
    cases hci : cmB B L i
    · rw [if_pos (by decide)]
      refine go true (fun _ => ?_)
      have hm0 : mgN B L i = 0 := by rw [mgN_e hi]; exact if_neg (by rw [hci]; decide)
      rw [hA]
      unfold withB
      rw [hci, if_neg (by decide)]
      exact (decide_eq_true (by omega)).symm
    · have hmG : mgN B L i = mostG B i := by rw [mgN_e hi]; exact if_pos hci
      rw [if_neg (by decide), bd_ok (M_isRest hV hM hi hci (by omega) hm (by omega))]
      have hAe : o1 g ≤ m → allFr (pZ B i s m g) 0 (mostG B i + 1) = A g := fun ho => by
        rw [pZ_rest (by omega) ho, hA]
        unfold withB
        rw [if_pos hci]
        unfold prF
        rw [decide_eq_true (by omega), Bool.true_and]
      cases hb : allFr (pZ B i s m g) 0 (mostG B i + 1)
      · rw [if_pos (by decide)]
        exact go false (fun ho => by rw [← hb]; exact hAe ho)
      · rw [if_neg (by decide)]
        exact go true (fun ho => by rw [← hb]; exact hAe ho)
theorem M_restsOf {S : St} {B : Bd} {L s m : Nat} (hV : VB B) (hs : s ≤ 60) (hm : m ≤ 8) (hM : LM S B L) : ∃ S2 : St, f_X10_restsOf 103 (iI s) (iI m) S = some (lI (failF B L s m), S2) ∧ LM S2 B L ∧ Fr PLy S S2 := by
  have hng : B 9 1 ≤ 8 := hV.2.1.2.2.2
  have key32 : ∀ (q N i : Nat) (S : St), i + q = B 9 1 → q < N → LM S B L → HX S s m (fun x y => restN (rvF (withB B L (prF B s m)) i) 30 x y) → ∃ S2 : St, f_X10_restsOf_L32 N 103 (iI s) (iI m) (iI i) S = some (lI (failF B L s m), S2) ∧ LM S2 B L ∧ Fr PLy S S2 := by
    intro q
    induction q with
    | zero =>
      intro N i S hi hN hM hH
      obtain ⟨N, rfl⟩ : ∃ k, N = k + 1 := ⟨N - 1, by omega⟩
      have hie : i = B 9 1 := by omega
      subst hie
      refine ⟨S, ?_, hM, Fr.rf⟩
      have x1 : (9 : Int32) * iI s + iI m = iI (9 * s + m : Nat) := by
        rw [show (9 : Int32) = iI 9 from rfl, iI_mul, iI_add]; congr 1
      have hh := hH s m (Nat.le_refl _) (Nat.le_refl _)
      dsimp only at hh
      rw [f_X10_restsOf_L32, hM.1.2.2.1, if_pos (by rw [iI_le (by omega) (by omega)]; omega), x1, ob_iI (by omega), iI_nat (by omega)]
      dsimp only [Nat.reduceAdd]
      rw [hh, restN_perm 30 (rvF_perm _ _), restN_ord]
      rfl
    | succ q ih =>
      intro N i S hi hN hM hH
      obtain ⟨N, rfl⟩ : ∃ k, N = k + 1 := ⟨N - 1, by omega⟩
      obtain ⟨S1, a1, a2, a3⟩ := M_r43 (kb32 := fun l3 S => f_X10_restsOf_L32 N 103 (iI s) (iI m) l3 S) (i := i) (a1 := iI s) (a2 := iI m) 900 FU 0 S (by omega) (by unfold FU; omega) (fun j hj => absurd hj (Nat.not_lt_zero _))
      obtain ⟨S3, b1, b2, b3⟩ := M_r68 (L := L) (V := fun x y => restN (rvF (withB B L (prF B s m)) i) 30 x y) hV hs hm (show i < B 9 1 by omega) (fun l3 S => f_X10_restsOf_L32 N 103 (iI s) (iI m) l3 S) 31 FU 0 S1 (by omega) (by unfold FU; omega) (LM_fr hM (a3.wk (fun _ _ => P127_ly))) (HX_127 hH a3) (fun x y hx hy => by
        rw [a2 _ (by omega)]; rfl)
      have fr := (a3.wk (fun _ _ => P127_ly)).tr b3
      obtain ⟨S2, y1, y2, y3⟩ := ih N (i + 1) S3 (by omega) (by omega) (LM_fr hM fr) b2
      refine ⟨S2, ?_, y2, fr.tr y3⟩
      rw [f_X10_restsOf_L32, hM.1.2.2.1, if_neg (by rw [iI_le (by omega) (by omega)]; omega)]
      exact (a1.trans b1).trans y1
  have key2 : ∀ (q N k : Nat) (S : St), k + q = 900 → q < N → LM S B L → (∀ j, j < k → S.2.1 127 j = if j = 0 then 1 else 0) → ∃ S2 : St, f_X10_restsOf_L2 N 103 (iI s) (iI m) (iI k) S = some (lI (failF B L s m), S2) ∧ LM S2 B L ∧ Fr PLy S S2 := by
    intro q
    induction q with
    | zero =>
      intro N k S hk hN hM h1
      obtain ⟨N, rfl⟩ : ∃ k, N = k + 1 := ⟨N - 1, by omega⟩
      obtain ⟨S2, y1, y2, y3⟩ := key32 (B 9 1) FU 0 S (by omega) (by unfold FU; omega) hM (fun x y hx hy => by
        rw [h1 _ (by omega)]
        show _ = lI (restN [] 30 x y)
        rw [restN_n]
        by_cases hc : x = 0 ∧ y = 0
        · rw [if_pos (by omega), if_pos hc]; rfl
        · rw [if_neg (by omega), if_neg hc]; rfl)
      refine ⟨S2, ?_, y2, y3⟩
      rw [f_X10_restsOf_L2, show (900 : Int32) = iI 900 from rfl, if_pos (by rw [iI_le (by omega) (by omega)]; omega)]
      exact y1
    | succ q ih =>
      intro N k S hk hN hM h1
      obtain ⟨N, rfl⟩ : ∃ k, N = k + 1 := ⟨N - 1, by omega⟩
      have hw : PLy 127 k := by unfold PLy; omega
      have step : ∀ v : Int64, v = (if k = 0 then 1 else 0) → ∃ S2 : St, f_X10_restsOf_L2 N 103 (iI s) (iI m) (iI (k + 1 : Nat)) (pJ S 127 k v) = some (lI (failF B L s m), S2) ∧ LM S2 B L ∧ Fr PLy S S2 := by
        intro v hv
        obtain ⟨S2, y1, y2, y3⟩ := ih N (k + 1) (pJ S 127 k v) (by omega) (by omega) (LM_fr hM (Fr.pJ hw)) (fun j hj => by
          rw [pJ_2]
          by_cases hc : j = k
          · rw [if_pos ⟨rfl, hc⟩, hv, hc]
          · rw [if_neg (fun z => hc z.2)]; exact h1 j (by omega))
        exact ⟨S2, y1, y2, (Fr.pJ hw).tr y3⟩
      have e0 : iI k + (1 : Int32) = iI (k + 1 : Nat) := iI_add k 1
      by_cases hk0 : k = 0
      · obtain ⟨S2, y1, y2⟩ := step 1 (by rw [if_pos hk0])
        refine ⟨S2, ?_, y2⟩
        rw [f_X10_restsOf_L2, show (900 : Int32) = iI 900 from rfl, if_neg (by rw [iI_le (by omega) (by omega)]; omega), if_pos (by rw [hk0]; rfl), ob_iI (by omega), iI_nat (by omega)]
        dsimp only [Nat.reduceAdd]
        rw [sq_k, e0]
        exact y1
      · obtain ⟨S2, y1, y2⟩ := step 0 (by rw [if_neg hk0])
        refine ⟨S2, ?_, y2⟩
        rw [f_X10_restsOf_L2, show (900 : Int32) = iI 900 from rfl, if_neg (by rw [iI_le (by omega) (by omega)]; omega), if_neg (by rw [show (0 : Int32) = iI 0 from rfl, iI_eq (by omega) (by omega)]; omega), ob_iI (by omega), iI_nat (by omega)]
        dsimp only [Nat.reduceAdd]
        rw [sq_k, e0]
        exact y1
  obtain ⟨S2, y1, y2, y3⟩ := key2 900 FU 0 S (by omega) (by unfold FU; omega) hM (fun j hj => absurd hj (Nat.not_lt_zero _))
  exact ⟨S2, y1, y2, y3⟩
theorem ok_fails : Okk (f_X9_fails 0) (f_X10_fails 103) := by
  apply Okk_scr
  intro S T hV hE
  have hVB := VT_B hV
  have hL := VT_L hV
  have hbar : tB T 0 0 ≤ 60 := hVB.1.2.1
  have hng : tB T 9 1 ≤ 8 := hVB.2.1.2.2.2
  have hcl := cntL_le (tB T) (tB T 0 2)
  have hM : ∀ S1 : St, IM S1 T → ∃ S2 : St, f_X10_fails 103 S1 = some (lI (failS (tB T)), S2) ∧ Fr PScr S1 S2 := by
    intro S1 hM
    obtain ⟨S3, S4, e1, e2, e3, e4, e5⟩ := M_startL hV hM
    have key23 : ∀ (kb : Int64 → Int32 → St → Option (Int64 × St)) (s : Nat), s < tB T 0 0 → ∀ (q N m : Nat) (z : Int) (S : St), m + q = cntL (tB T) (tB T 0 2) + 1 → q < N → LM S (tB T) (tB T 0 2) →
        ∃ S2 : St, f_X10_fails_L23 N 103 kb (lI (z + sumTo (fun m => failF (tB T) (tB T 0 2) s m) m)) (iI s) (iI m) S = kb (lI (z + sumTo (fun m => failF (tB T) (tB T 0 2) s m) (cntL (tB T) (tB T 0 2) + 1))) (iI (s + 1 : Nat)) S2 ∧ LM S2 (tB T) (tB T 0 2) ∧ Fr PLy S S2 := by
      intro kb s hs q
      induction q with
      | zero =>
        intro N m z S hm hN h
        obtain ⟨N, rfl⟩ : ∃ k, N = k + 1 := ⟨N - 1, by omega⟩
        have ho : S.1 103 27 = iI (cntL (tB T) (tB T 0 2)) := h.2.1.1
        refine ⟨S, ?_, h, Fr.rf⟩
        rw [f_X10_fails_L23, ho, if_pos (by rw [iI_lt (by omega) (by omega)]; omega), show iI s + (1 : Int32) = iI (s + 1 : Nat) from iI_add s 1, show m = cntL (tB T) (tB T 0 2) + 1 by omega]
      | succ q ih =>
        intro N m z S hm hN h
        obtain ⟨N, rfl⟩ : ∃ k, N = k + 1 := ⟨N - 1, by omega⟩
        have ho : S.1 103 27 = iI (cntL (tB T) (tB T 0 2)) := h.2.1.1
        obtain ⟨S1, z1, z2, z3⟩ := M_restsOf (s := s) (m := m) hVB (by omega) (by omega) h
        obtain ⟨S2, y1, y2, y3⟩ := ih N (m + 1) z S1 (by omega) (by omega) z2
        refine ⟨S2, ?_, y2, z3.tr y3⟩
        rw [f_X10_fails_L23, ho, if_neg (by rw [iI_lt (by omega) (by omega)]; omega), bd_ok z1, lI_add, sq_k, show iI m + (1 : Int32) = iI (m + 1 : Nat) from iI_add m 1, Int.add_assoc]
        exact y1
    have key12 : ∀ (q N s : Nat) (S : St), s + q = tB T 0 0 → q < N → LM S (tB T) (tB T 0 2) →
        ∃ S2 : St, f_X10_fails_L12 N 103 (lI (sumTo (fun s => sumTo (fun m => failF (tB T) (tB T 0 2) s m) (cntL (tB T) (tB T 0 2) + 1)) s)) (iI s) S = some (lI (failS (tB T)), S2) ∧ Fr PLy S S2 := by
      intro q
      induction q with
      | zero =>
        intro N s S hs hN h
        obtain ⟨N, rfl⟩ : ∃ k, N = k + 1 := ⟨N - 1, by omega⟩
        refine ⟨S, ?_, Fr.rf⟩
        rw [f_X10_fails_L12, h.2.2, if_pos (by rw [iI_le (by omega) (by omega)]; omega), failS_F, show s = tB T 0 0 by omega]
      | succ q ih =>
        intro N s S hs hN h
        obtain ⟨N, rfl⟩ : ∃ k, N = k + 1 := ⟨N - 1, by omega⟩
        obtain ⟨S1, z1, z2, z3⟩ := key23 (fun l1 l3 S => f_X10_fails_L12 N 103 l1 l3 S) s (by omega) (cntL (tB T) (tB T 0 2) + 1) FU 0 (sumTo (fun s => sumTo (fun m => failF (tB T) (tB T 0 2) s m) (cntL (tB T) (tB T 0 2) + 1)) s) S (by omega) (by unfold FU; omega) h
        obtain ⟨S2, y1, y3⟩ := ih N (s + 1) S1 (by omega) (by omega) z2
        refine ⟨S2, ?_, z3.tr y3⟩
        rw [show sumTo (fun m => failF (tB T) (tB T 0 2) s m) 0 = 0 from rfl, Int.add_zero] at z1
        rw [f_X10_fails_L12, h.2.2, if_neg (by rw [iI_le (by omega) (by omega)]; omega)]
        exact z1.trans y1
    obtain ⟨S2, y1, y3⟩ := key12 (tB T 0 0) FU 0 S4 (by omega) (by unfold FU; omega) e4
    refine ⟨S2, ?_, e5.tr (y3.wk (fun _ _ => PLy_scr))⟩
    unfold f_X10_fails
    rw [bd_ok e1, bd_ok e2]
    exact y1
  obtain ⟨-, -, -, -, -, -, t7⟩ := IE_has hE
  by_cases h17 : S.1 0 15 = 0
  · obtain ⟨P, S1, p1, p2, a1, a2, a3⟩ := E_takeT hV hE
    obtain ⟨S2, b1, b2, b3⟩ := E_fails hVB a2
    have f2 : Fr PRst S S2 := a3.tr (b3.wk (fun a k h => Or.inr (Or.inr h)))
    have hE2 := IE_rst hE f2
    obtain ⟨S3, hS3⟩ : ∃ S3, S3 = pI (pJ S2 0 18 (lI (failS (tB T)))) 0 15 1 := ⟨_, rfl⟩
    have f3 : Fr PEt S2 S3 := by rw [hS3]; exact (Fr.pJ (Or.inr ⟨rfl, by omega⟩)).tr (Fr.pI (Or.inr ⟨rfl, by omega⟩))
    have r3 : ∀ a, a ≠ 0 → S3.1 a = S2.1 a := fun a ha => by rw [hS3, pI_row ha, pJ_1]
    have h20 : S3.2.1 0 18 = lI (failS (tB T)) := by rw [hS3, pI_2, pJ_2, if_pos ⟨rfl, rfl⟩]
    have hz3 : ZE S3 := by
      have := IE_Z hE2
      unfold ZE at this ⊢
      rw [r3 70 (by omega), r3 71 (by omega), r3 72 (by omega), r3 78 (by omega), r3 84 (by omega)]; exact this
    have hk3 : KE S3 (tB T) (tS T) := by
      obtain ⟨-, -, -, -, -, -, k7⟩ := IE_has hE2
      have j : ∀ a k, ¬ (a = 0 ∧ k = 18) → S3.2.1 a k = S2.2.1 a k := fun a k ha => by rw [hS3, pI_2, pJ_2, if_neg ha]
      have i15 : S3.1 0 13 = S2.1 0 13 := by rw [hS3, pI_1, if_neg (by omega), pJ_1]
      have i16 : S3.1 0 14 = S2.1 0 14 := by rw [hS3, pI_1, if_neg (by omega), pJ_1]
      have i18 : S3.1 0 16 = S2.1 0 16 := by rw [hS3, pI_1, if_neg (by omega), pJ_1]
      refine ⟨?_, ?_, Or.inr h20⟩
      · rw [i15, j 73 0 (by omega), j 73 1 (by omega), j 73 2 (by omega), j 73 3 (by omega), j 73 4 (by omega)]
        rcases k7.1 with z | z
        · exact Or.inl z
        · exact Or.inr ⟨z.1, fun p hp => by rw [j 74 p (by omega), j 75 p (by omega)]; exact z.2 p hp⟩
      · rw [i16, i18, j 0 17 (by omega)]; exact k7.2.1
    refine ⟨lI (failS (tB T)), S3, ⟨?_, IE_scr2 hE2 f3 hz3 hk3, (f2.wk (fun a k h => PEs_PE a k (PRst_PEs h))).tr (f3.wk (fun a k h => by unfold PEt at h; unfold PE; omega))⟩, hM⟩
    unfold f_X9_fails
    rw [if_pos h17, p2, ck_pos (kdE_P p1)]
    dsimp only [Nat.reduceAdd]
    rw [bd_ok a1, bd_ok b1, sq_k, sq_k, ← hS3, h20]
  · refine ⟨lI (failS (tB T)), S, ⟨?_, hE, Fr.rf⟩, hM⟩
    unfold f_X9_fails
    rw [if_neg h17]
    rcases t7.2.2 with z | z
    · exact absurd z h17
    · rw [z]
