/-! gifts that are just enough: whether there are such, and the first -/
theorem natTo_split (f : Nat → Nat) (a : Nat) : ∀ b, natTo f (a + b) = natTo f a + natTo (fun k => f (a + k)) b
  | 0 => rfl
  | b + 1 => by
    show natTo f (a + b) + f (a + b) = natTo f a + (natTo (fun k => f (a + k)) b + f (a + b))
    rw [natTo_split f a b]; omega
theorem natTo_z {f : Nat → Nat} : ∀ {n : Nat}, (∀ j, j < n → f j = 0) → natTo f n = 0
  | 0, _ => rfl
  | n + 1, h => by
    unfold natTo
    rw [natTo_z (n := n) (fun j hj => h j (by omega)), h n (by omega)]
def sumG (m : Nat → Nat) (i r : Nat) : Nat := natTo (fun k => m (i + k)) r
theorem sumG_0 (m : Nat → Nat) (i : Nat) : sumG m i 0 = 0 := rfl
theorem sumG_s (m : Nat → Nat) (i r : Nat) : sumG m i (r + 1) = m i + sumG m (i + 1) r := by
  unfold sumG
  rw [Nat.add_comm r 1, natTo_split]
  have e : natTo (fun k => m (i + k)) 1 = m i := by show 0 + m (i + 0) = m i; rw [Nat.add_zero]; omega
  rw [e, natTo_cong (g := fun k => m (i + 1 + k)) (fun k _ => by rw [Nat.add_assoc])]
def hndR (m : Nat → Nat) (i r : Nat) : Nat := sumG (fun j => o1 (m j)) i r
theorem hndR_0 (m : Nat → Nat) (i : Nat) : hndR m i 0 = 0 := rfl
theorem hndR_s (m : Nat → Nat) (i r : Nat) : hndR m i (r + 1) = o1 (m i) + hndR m (i + 1) r := sumG_s _ i r
theorem hnd_le (m : Nat → Nat) : ∀ (r i : Nat), hndR m i r ≤ sumG m i r
  | 0, _ => Nat.le_refl _
  | r + 1, i => by
    rw [hndR_s, sumG_s]
    have := hnd_le m r (i + 1)
    unfold o1
    by_cases h : 0 < m i
    · rw [if_pos h]; omega
    · rw [if_neg h]; omega
theorem hnd_r (m : Nat → Nat) : ∀ (r i : Nat), hndR m i r ≤ r
  | 0, _ => Nat.le_refl _
  | r + 1, i => by
    rw [hndR_s]
    have := hnd_r m r (i + 1)
    unfold o1
    by_cases h : 0 < m i
    · rw [if_pos h]; omega
    · rw [if_neg h]; omega
theorem sumG_bd {m : Nat → Nat} {b : Nat} (h : ∀ j, m j ≤ b) : ∀ (r i : Nat), sumG m i r ≤ b * r
  | 0, _ => Nat.zero_le _
  | r + 1, i => by
    rw [sumG_s, Nat.mul_add, Nat.mul_one]
    have := sumG_bd h r (i + 1)
    have := h i
    omega
/-- whether r givers from i on can give s together by l or more -/
def fea (m : Nat → Nat) (i r s l : Nat) : Prop := s ≤ sumG m i r ∧ l ≤ hndR m i r ∧ l ≤ s
/-- whether the giver i, r behind him, can give g -/
def okG (m : Nat → Nat) (i r s l g : Nat) : Prop := g ≤ m i ∧ g ≤ s ∧ fea m (i + 1) r (s - g) (l - o1 g)
theorem fea_ex {m : Nat → Nat} {i r s l : Nat} : fea m i (r + 1) s l ↔ ∃ g, okG m i r s l g := by
  unfold okG fea
  rw [sumG_s, hndR_s]
  have hl := hnd_le m r (i + 1)
  constructor
  · rintro ⟨h1, h2, h3⟩
    by_cases hm : 0 < m i
    · have e : o1 (m i) = 1 := by unfold o1; rw [if_pos hm]
      rw [e] at h2
      by_cases hs : s = 0
      · refine ⟨0, by omega, by omega, ?_⟩
        have e0 : o1 0 = 0 := rfl
        rw [e0]; omega
      · by_cases hc : s ≤ sumG m (i + 1) r + 1
        · refine ⟨1, by omega, by omega, ?_⟩
          have e1 : o1 1 = 1 := rfl
          rw [e1]; omega
        · refine ⟨s - sumG m (i + 1) r, by omega, by omega, ?_⟩
          have e1 : o1 (s - sumG m (i + 1) r) = 1 := by unfold o1; rw [if_pos (by omega)]
          rw [e1]; omega
    · have e : o1 (m i) = 0 := by unfold o1; rw [if_neg hm]
      rw [e] at h2
      refine ⟨0, by omega, by omega, ?_⟩
      have e0 : o1 0 = 0 := rfl
      rw [e0]; omega
  · rintro ⟨g, h1, h2, h3, h4, h5⟩
    by_cases hg : 0 < g
    · have e : o1 g = 1 := by unfold o1; rw [if_pos hg]
      have e2 : o1 (m i) = 1 := by unfold o1; rw [if_pos (by omega)]
      rw [e] at h4 h5
      rw [e2]; omega
    · have e : o1 g = 0 := by unfold o1; rw [if_neg hg]
      rw [e] at h4 h5
      omega
theorem sumTo_pos {f : Nat → Int} (h : ∀ k, 0 ≤ f k) : ∀ n, 0 ≤ sumTo f n ∧ (0 < sumTo f n ↔ ∃ k, k < n ∧ 0 < f k)
  | 0 => ⟨Int.le_refl _, ⟨fun z => absurd z (Int.lt_irrefl _), fun ⟨_, z, _⟩ => absurd z (Nat.not_lt_zero _)⟩⟩
  | n + 1 => by
    obtain ⟨h1, h2⟩ := sumTo_pos h n
    have hn := h n
    show 0 ≤ sumTo f n + f n ∧ (0 < sumTo f n + f n ↔ _)
    refine ⟨by omega, ⟨fun z => ?_, fun ⟨k, z1, z2⟩ => ?_⟩⟩
    · by_cases hc : 0 < f n
      · exact ⟨n, by omega, hc⟩
      · obtain ⟨k, y1, y2⟩ := h2.mp (by omega)
        exact ⟨k, by omega, y2⟩
    · by_cases hk : k = n
      · rw [hk] at z2; omega
      · have := h2.mpr ⟨k, by omega, z2⟩
        omega
/-- gifts up to what each may -/
def upTo (m : Nat → Nat) (j g : Nat) : Bool := decide (g ≤ m j)
theorem pos_iff {m : Nat → Nat} (hm : ∀ j, m j ≤ 30) : ∀ (r i s l : Nat), (∃ w, l ≤ w ∧ 0 < restN (lsF (upTo m) i r) 30 s w) ↔ fea m i r s l
  | 0, i, s, l => by
    unfold fea
    rw [sumG_0, hndR_0]
    constructor
    · rintro ⟨w, h1, h2⟩
      have h3 : 0 < restN [] 30 s w := h2
      rw [restN_n] at h3
      by_cases hc : s = 0 ∧ w = 0
      · omega
      · rw [if_neg hc] at h3; omega
    · rintro ⟨h1, h2, h3⟩
      refine ⟨0, by omega, ?_⟩
      show 0 < restN [] 30 s 0
      rw [restN_n, if_pos ⟨by omega, rfl⟩]; omega
  | r + 1, i, s, l => by
    rw [fea_ex]
    have hnn : ∀ w k, 0 ≤ rst (upTo m i) (restN (lsF (upTo m) (i + 1) r) 30) s w k := fun w k => by
      unfold rst
      by_cases hc : upTo m i k = true ∧ k ≤ s ∧ o1 k ≤ w
      · rw [if_pos hc]; exact restN_nn _ _ _ _
      · rw [if_neg hc]; exact Int.le_refl _
    constructor
    · rintro ⟨w, h1, h2⟩
      have h3 : 0 < sumTo (rst (upTo m i) (restN (lsF (upTo m) (i + 1) r) 30) s w) 31 := h2
      obtain ⟨g, hg, h4⟩ := (sumTo_pos (hnn w) 31).2.mp h3
      unfold rst at h4
      by_cases hc : upTo m i g = true ∧ g ≤ s ∧ o1 g ≤ w
      · rw [if_pos hc] at h4
        refine ⟨g, of_decide_eq_true hc.1, hc.2.1, (pos_iff hm r (i + 1) _ _).mp ⟨w - o1 g, by omega, h4⟩⟩
      · rw [if_neg hc] at h4; exact absurd h4 (Int.lt_irrefl _)
    · rintro ⟨g, h1, h2, h3⟩
      obtain ⟨w, h4, h5⟩ := (pos_iff hm r (i + 1) _ _).mpr h3
      refine ⟨w + o1 g, by omega, ?_⟩
      show 0 < sumTo (rst (upTo m i) (restN (lsF (upTo m) (i + 1) r) 30) s (w + o1 g)) 31
      refine (sumTo_pos (hnn _) 31).2.mpr ⟨g, by have := hm i; omega, ?_⟩
      unfold rst
      rw [if_pos ⟨decide_eq_true h1, h2, by omega⟩, Nat.add_sub_cancel]
      exact h5
/-- by so many or more -/
def cge (A : List (Nat → Bool)) (s l : Nat) : Int := sumFr (fun w => restN A 30 s w) l (9 - l)
theorem sumFr_pos {f : Nat → Int} (h : ∀ k, 0 ≤ f k) : ∀ (r k : Nat), 0 ≤ sumFr f k r ∧ (0 < sumFr f k r ↔ ∃ j, k ≤ j ∧ j < k + r ∧ 0 < f j)
  | 0, k => ⟨Int.le_refl _, ⟨fun z => absurd z (Int.lt_irrefl _), fun ⟨_, z1, z2, _⟩ => absurd z1 (by omega)⟩⟩
  | r + 1, k => by
    obtain ⟨h1, h2⟩ := sumFr_pos h r (k + 1)
    have hn := h k
    show 0 ≤ f k + sumFr f (k + 1) r ∧ (0 < f k + sumFr f (k + 1) r ↔ _)
    refine ⟨by omega, ⟨fun z => ?_, fun ⟨j, z1, z2, z3⟩ => ?_⟩⟩
    · by_cases hc : 0 < f k
      · exact ⟨k, by omega, by omega, hc⟩
      · obtain ⟨j, y1, y2, y3⟩ := h2.mp (by omega)
        exact ⟨j, by omega, by omega, y3⟩
    · by_cases hk : j = k
      · rw [hk] at z3; omega
      · have := h2.mpr ⟨j, by omega, by omega, z3⟩
        omega
theorem sumFr_bd {f : Nat → Int} {b : Int} (h : ∀ k, f k ≤ b) : ∀ (r k : Nat), sumFr f k r ≤ (r : Int) * b
  | 0, _ => by show (0 : Int) ≤ _; omega
  | r + 1, k => by
    have h1 := sumFr_bd h r (k + 1)
    have h2 := h k
    show f k + sumFr f (k + 1) r ≤ _
    rw [show ((r + 1 : Nat) : Int) * b = (r : Int) * b + b by rw [Int.natCast_add, Int.add_mul]; omega]
    omega
theorem cge_pos {m : Nat → Nat} (hm : ∀ j, m j ≤ 30) {i r s l : Nat} (hr : r ≤ 8) : 0 < cge (lsF (upTo m) i r) s l ↔ fea m i r s l := by
  rw [← pos_iff hm]
  unfold cge
  rw [(sumFr_pos (fun w => restN_nn 30 _ s w) (9 - l) l).2]
  constructor
  · rintro ⟨j, h1, h2, h3⟩; exact ⟨j, h1, h3⟩
  · rintro ⟨j, h1, h3⟩
    refine ⟨j, h1, ?_, h3⟩
    by_cases hj : 8 < j
    · rw [restN_len 30 _ s j (Or.inl (by rw [lsF_len]; omega))] at h3
      exact absurd h3 (Int.lt_irrefl _)
    · omega
theorem cge_bd {A : List (Nat → Bool)} (hA : A.length ≤ 8) (s l : Nat) : 0 ≤ cge A s l ∧ cge A s l ≤ 10000000000000 := by
  refine ⟨(sumFr_pos (fun w => restN_nn 30 _ s w) (9 - l) l).1, ?_⟩
  have h31 : (31 : Int) ^ A.length ≤ 852891037441 := by
    rcases (show A.length = 0 ∨ A.length = 1 ∨ A.length = 2 ∨ A.length = 3 ∨ A.length = 4 ∨ A.length = 5 ∨ A.length = 6 ∨ A.length = 7 ∨ A.length = 8 by omega) with h | h | h | h | h | h | h | h | h <;> rw [h] <;> decide
  have h1 := sumFr_bd (f := fun w => restN A 30 s w) (b := 852891037441) (fun w => Int.le_trans (restN_bd A s w) h31) (9 - l) l
  unfold cge
  omega
/-- the lowest gift that goes -/
def lowG (m : Nat → Nat) (i r s l : Nat) : Nat → Nat → Nat
  | 0, g => g
  | f + 1, g => if s - g ≤ sumG m (i + 1) r ∧ l - o1 g ≤ hndR m (i + 1) r ∧ l - o1 g ≤ s - g then g else lowG m i r s l f (g + 1)
theorem lowG_ok {m : Nat → Nat} {i r s l : Nat} : ∀ (f g : Nat), (∃ g0, g ≤ g0 ∧ g0 ≤ g + f ∧ okG m i r s l g0) → g + f = m i → okG m i r s l (lowG m i r s l f g) ∧ g ≤ lowG m i r s l f g ∧ (∀ h, g ≤ h → h < lowG m i r s l f g → ¬ okG m i r s l h)
  | 0, g, ⟨g0, h1, h2, h3⟩, hf => by
    have : g0 = g := by omega
    subst this
    exact ⟨h3, Nat.le_refl _, fun h z1 z2 => absurd (show g0 ≤ h from z1) (by have : h < g0 := z2; omega)⟩
  | f + 1, g, ⟨g0, h1, h2, h3⟩, hf => by
    have e : lowG m i r s l (f + 1) g = if s - g ≤ sumG m (i + 1) r ∧ l - o1 g ≤ hndR m (i + 1) r ∧ l - o1 g ≤ s - g then g else lowG m i r s l f (g + 1) := rfl
    rw [e]
    by_cases hc : s - g ≤ sumG m (i + 1) r ∧ l - o1 g ≤ hndR m (i + 1) r ∧ l - o1 g ≤ s - g
    · rw [if_pos hc]
      refine ⟨⟨by omega, ?_, hc⟩, Nat.le_refl _, fun h z1 z2 => absurd z1 (by omega)⟩
      exact Nat.le_trans h1 h3.2.1
    · rw [if_neg hc]
      have hne : ¬ okG m i r s l g := fun z => hc z.2.2
      have h4 : g + 1 ≤ g0 := by
        by_cases z : g0 = g
        · rw [z] at h3; exact absurd h3 hne
        · omega
      obtain ⟨y1, y2, y3⟩ := lowG_ok f (g + 1) ⟨g0, h4, by omega, h3⟩ (by omega)
      refine ⟨y1, by omega, fun h z1 z2 => ?_⟩
      by_cases hh : h = g
      · rw [hh]; exact hne
      · exact y3 h (by omega) z2
/-- the lowest gift of the giver i, r behind him -/
def lowI (m : Nat → Nat) (i r s l : Nat) : Nat := lowG m i r s l (m i) 0
theorem lowI_ok {m : Nat → Nat} {i r s l : Nat} (h : fea m i (r + 1) s l) : okG m i r s l (lowI m i r s l) ∧ ∀ g, g < lowI m i r s l → ¬ okG m i r s l g := by
  obtain ⟨g, hg⟩ := fea_ex.mp h
  obtain ⟨h1, h2, h3⟩ := lowG_ok (m := m) (i := i) (r := r) (s := s) (l := l) (m i) 0 ⟨g, Nat.zero_le _, by have := hg.1; omega, hg⟩ (Nat.zero_add _)
  exact ⟨h1, fun g hg => h3 g (Nat.zero_le _) hg⟩
/-- what is left, and by how many, behind the first i givers of n -/
def jst (m : Nat → Nat) (n s l : Nat) : Nat → Nat × Nat
  | 0 => (s, l)
  | i + 1 =>
    let g := lowI m i (n - 1 - i) (jst m n s l i).1 (jst m n s l i).2
    ((jst m n s l i).1 - g, (jst m n s l i).2 - o1 g)
def jsG (m : Nat → Nat) (n s l i : Nat) : Nat := lowI m i (n - 1 - i) (jst m n s l i).1 (jst m n s l i).2
theorem jst_s (m : Nat → Nat) (n s l i : Nat) : jst m n s l (i + 1) = ((jst m n s l i).1 - jsG m n s l i, (jst m n s l i).2 - o1 (jsG m n s l i)) := rfl
theorem jst_fea {m : Nat → Nat} {n s l : Nat} (h : fea m 0 n s l) : ∀ i, i ≤ n → fea m i (n - i) (jst m n s l i).1 (jst m n s l i).2 ∧ (jst m n s l i).1 ≤ s ∧ (jst m n s l i).2 ≤ l
  | 0, _ => ⟨h, Nat.le_refl _, Nat.le_refl _⟩
  | i + 1, hi => by
    obtain ⟨h1, h2, h3⟩ := jst_fea h i (by omega)
    rw [show n - i = (n - 1 - i) + 1 by omega] at h1
    obtain ⟨y1, -⟩ := lowI_ok h1
    rw [jst_s]
    refine ⟨?_, by dsimp only; omega, by dsimp only; omega⟩
    have := y1.2.2
    rw [show n - (i + 1) = n - 1 - i by omega]
    exact this
theorem jsG_ok {m : Nat → Nat} {n s l i : Nat} (h : fea m 0 n s l) (hi : i < n) : okG m i (n - 1 - i) (jst m n s l i).1 (jst m n s l i).2 (jsG m n s l i) ∧ ∀ g, g < jsG m n s l i → ¬ okG m i (n - 1 - i) (jst m n s l i).1 (jst m n s l i).2 g := by
  obtain ⟨h1, h2, h3⟩ := jst_fea h i (by omega)
  rw [show n - i = (n - 1 - i) + 1 by omega] at h1
  exact lowI_ok h1
/-! sums over who come are sums by number -/
theorem sumL_perm {l l2 : List Nat} (F : Nat → Nat) (h : l.Perm l2) : (l.map F).sum = (l2.map F).sum := by
  induction h with
  | nil => rfl
  | cons a _ ih => rw [List.map_cons, List.map_cons, List.sum_cons, List.sum_cons, ih]
  | swap a b t => simp only [List.map_cons, List.sum_cons]; omega
  | trans _ _ ih1 ih2 => exact ih1.trans ih2
theorem lsF_sum (F : Nat → Nat) : ∀ m, (lsF F 0 m).sum = natTo F m
  | 0 => rfl
  | m + 1 => by
    rw [lsF_snoc, List.sum_append, lsF_sum F m, Nat.zero_add, List.sum_cons, List.sum_nil]
    rfl
theorem filt_sum (p : Nat → Bool) (F : Nat → Nat) : ∀ l : List Nat, ((l.filter p).map F).sum = (l.map (fun j => if p j = true then F j else 0)).sum
  | [] => rfl
  | a :: t => by
    rw [List.map_cons, List.sum_cons, ← filt_sum p F t]
    by_cases h : p a = true
    · rw [List.filter_cons_of_pos h, List.map_cons, List.sum_cons, if_pos h]
    · rw [List.filter_cons_of_neg h, if_neg h, Nat.zero_add]
theorem ord_sum (B : Bd) (L : Nat) (F : Nat → Nat) : natTo (fun p => F (atL B L p)) (cntL B L) = natTo (fun j => if cmB B L j = true then F j else 0) (B 9 1) := by
  rw [← lsF_sum, ord_ls, sumL_perm F (ord_perm B L), filt_sum, ← lsF_sum, ← lsF_range, lsF_map]
