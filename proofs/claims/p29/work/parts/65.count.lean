/-! rows of gifts counted -/
def o1 (g : Nat) : Nat := if 0 < g then 1 else 0
def rst (a : Nat → Bool) (V : Nat → Nat → Int) (s w g : Nat) : Int := if a g = true ∧ g ≤ s ∧ o1 g ≤ w then V (s - g) (w - o1 g) else 0
theorem restN_c (a : Nat → Bool) (t : List (Nat → Bool)) (hi s w : Nat) : restN (a :: t) hi s w = sumTo (rst a (restN t hi) s w) (hi + 1) := rfl
theorem restN_n (hi s w : Nat) : restN [] hi s w = if s = 0 ∧ w = 0 then 1 else 0 := rfl
theorem sumTo_0 : ∀ n, sumTo (fun _ => 0) n = 0
  | 0 => rfl
  | n + 1 => by unfold sumTo; rw [sumTo_0 n]; rfl
theorem sumTo_add2 (f g : Nat → Int) : ∀ n, sumTo (fun k => f k + g k) n = sumTo f n + sumTo g n
  | 0 => rfl
  | n + 1 => by unfold sumTo; rw [sumTo_add2 f g n]; omega
theorem sumTo_sw (f : Nat → Nat → Int) (m : Nat) : ∀ n, sumTo (fun a => sumTo (fun b => f a b) m) n = sumTo (fun b => sumTo (fun a => f a b) n) m
  | 0 => (sumTo_0 m).symm
  | n + 1 => by
    show sumTo (fun a => sumTo (fun b => f a b) m) n + sumTo (fun b => f n b) m = sumTo (fun b => sumTo (fun a => f a b) n + f n b) m
    rw [sumTo_sw f m n, sumTo_add2]
theorem sumTo_if (p : Prop) [Decidable p] (f : Nat → Int) (n : Nat) : (if p then sumTo f n else 0) = sumTo (fun k => if p then f k else 0) n := by
  by_cases h : p
  · rw [if_pos h]; exact sumTo_cong (fun j _ => by rw [if_pos h])
  · rw [if_neg h, sumTo_cong (g := fun _ => 0) (fun j _ => by rw [if_neg h]), sumTo_0]
theorem restN_cons {a : Nat → Bool} {t t2 : List (Nat → Bool)} {hi : Nat} (h : ∀ s w, restN t hi s w = restN t2 hi s w) (s w : Nat) : restN (a :: t) hi s w = restN (a :: t2) hi s w := by
  rw [restN_c, restN_c]
  refine sumTo_cong (fun g _ => ?_)
  unfold rst
  rw [h]
theorem restN_swap (a b : Nat → Bool) (t : List (Nat → Bool)) (hi s w : Nat) : restN (a :: b :: t) hi s w = restN (b :: a :: t) hi s w := by
  have key : ∀ a b : Nat → Bool, restN (a :: b :: t) hi s w = sumTo (fun g => sumTo (fun h => if a g = true ∧ b h = true ∧ g + h ≤ s ∧ o1 g + o1 h ≤ w then restN t hi (s - (g + h)) (w - (o1 g + o1 h)) else 0) (hi + 1)) (hi + 1) := by
    intro a b
    rw [restN_c]
    refine sumTo_cong (fun g _ => ?_)
    unfold rst
    rw [restN_c, sumTo_if]
    refine sumTo_cong (fun h _ => ?_)
    unfold rst
    by_cases h1 : a g = true ∧ g ≤ s ∧ o1 g ≤ w
    · rw [if_pos h1]
      by_cases h2 : b h = true ∧ h ≤ s - g ∧ o1 h ≤ w - o1 g
      · rw [if_pos h2, if_pos ⟨h1.1, h2.1, by omega, by omega⟩, Nat.sub_sub, Nat.sub_sub]
      · rw [if_neg h2, if_neg (fun z => h2 ⟨z.2.1, by omega, by omega⟩)]
    · rw [if_neg h1, if_neg (fun z => h1 ⟨z.1, by omega, by omega⟩)]
  rw [key a b, key b a, sumTo_sw]
  refine sumTo_cong (fun g _ => sumTo_cong (fun h _ => ?_))
  rw [Nat.add_comm h g, Nat.add_comm (o1 h) (o1 g)]
  by_cases h1 : a h = true ∧ b g = true ∧ g + h ≤ s ∧ o1 g + o1 h ≤ w
  · rw [if_pos h1, if_pos ⟨h1.2.1, h1.1, h1.2.2⟩]
  · rw [if_neg h1, if_neg (fun z => h1 ⟨z.2.1, z.1, z.2.2⟩)]
theorem restN_perm {A A2 : List (Nat → Bool)} (hi : Nat) (h : A.Perm A2) : ∀ s w, restN A hi s w = restN A2 hi s w := by
  induction h with
  | nil => intro s w; rfl
  | cons a _ ih => exact restN_cons ih
  | swap a b t => intro s w; exact restN_swap b a t hi s w
  | trans _ _ ih1 ih2 => intro s w; rw [ih1 s w, ih2 s w]
def only0 (g : Nat) : Bool := decide (g = 0)
theorem restN_only0 {a : Nat → Bool} (h0 : ∀ g, a g = true ↔ g = 0) (t : List (Nat → Bool)) (hi s w : Nat) : restN (a :: t) hi s w = restN t hi s w := by
  rw [restN_c]
  have : ∀ n, sumTo (rst a (restN t hi) s w) (n + 1) = restN t hi s w := by
    intro n
    induction n with
    | zero =>
      show 0 + rst a (restN t hi) s w 0 = _
      unfold rst o1
      rw [if_pos ⟨(h0 0).mpr rfl, Nat.zero_le _, by rw [if_neg (Nat.lt_irrefl 0)]; exact Nat.zero_le _⟩, if_neg (Nat.lt_irrefl 0), Int.zero_add]
      rfl
    | succ n ih =>
      show sumTo (rst a (restN t hi) s w) (n + 1) + rst a (restN t hi) s w (n + 1) = _
      rw [ih]
      unfold rst
      rw [if_neg (fun z => absurd ((h0 _).mp z.1) (by omega)), Int.add_zero]
  exact this hi
theorem restN_nn (hi : Nat) : ∀ (A : List (Nat → Bool)) (s w : Nat), 0 ≤ restN A hi s w
  | [], s, w => by rw [restN_n]; by_cases h : s = 0 ∧ w = 0 <;> simp [h]
  | a :: t, s, w => by
    rw [restN_c]
    have : ∀ n, 0 ≤ sumTo (rst a (restN t hi) s w) n := by
      intro n
      induction n with
      | zero => exact Int.le_refl _
      | succ n ih =>
        have h := restN_nn hi t (s - n) (w - o1 n)
        show 0 ≤ sumTo (rst a (restN t hi) s w) n + rst a (restN t hi) s w n
        unfold rst at ih ⊢
        by_cases h1 : a n = true ∧ n ≤ s ∧ o1 n ≤ w
        · rw [if_pos h1]; omega
        · rw [if_neg h1]; omega
    exact this _
theorem restN_bd (A : List (Nat → Bool)) : ∀ (s w : Nat), restN A 30 s w ≤ (31 : Int) ^ A.length := by
  induction A with
  | nil => intro s w; rw [restN_n]; by_cases h : s = 0 ∧ w = 0 <;> simp [h]
  | cons a t ih =>
    intro s w
    rw [restN_c]
    have h31 : (0 : Int) ≤ (31 : Int) ^ t.length := Int.le_of_lt (Int.pow_pos (by omega))
    have : ∀ n : Nat, sumTo (rst a (restN t 30) s w) n ≤ (n : Int) * (31 : Int) ^ t.length := by
      intro n
      induction n with
      | zero => show (0 : Int) ≤ _; omega
      | succ n ihn =>
        have h := ih (s - n) (w - o1 n)
        show sumTo (rst a (restN t 30) s w) n + rst a (restN t 30) s w n ≤ _
        rw [show ((n + 1 : Nat) : Int) * (31 : Int) ^ t.length = (n : Int) * (31 : Int) ^ t.length + (31 : Int) ^ t.length by rw [Int.natCast_add, Int.add_mul]; omega]
        unfold rst at ihn ⊢
        by_cases h1 : a n = true ∧ n ≤ s ∧ o1 n ≤ w
        · rw [if_pos h1]; omega
        · rw [if_neg h1]; omega
    have z := this 31
    rw [List.length_cons, Int.pow_succ, Int.mul_comm]
    exact z
theorem restN_len (hi : Nat) : ∀ (A : List (Nat → Bool)) (s w : Nat), (A.length < w ∨ s < w) → restN A hi s w = 0
  | [], s, w, h => by rw [restN_n, if_neg (by simp at h; omega)]
  | a :: t, s, w, h => by
    rw [restN_c, sumTo_cong (g := fun _ => 0) (fun g _ => ?_), sumTo_0]
    unfold rst
    by_cases h1 : a g = true ∧ g ≤ s ∧ o1 g ≤ w
    · rw [if_pos h1]
      apply restN_len hi t
      unfold o1 at h1 ⊢
      rw [List.length_cons] at h
      by_cases hg : 0 < g
      · rw [if_pos hg] at h1 ⊢; omega
      · rw [if_neg hg] at h1 ⊢; omega
    · rw [if_neg h1]
/-- by numbers: one behind the other from i on -/
def lsF {α : Type} (f : Nat → α) : Nat → Nat → List α
  | _, 0 => []
  | i, m + 1 => f i :: lsF f (i + 1) m
theorem lsF_len {α : Type} (f : Nat → α) : ∀ (m i : Nat), (lsF f i m).length = m
  | 0, _ => rfl
  | m + 1, i => by unfold lsF; rw [List.length_cons, lsF_len f m (i + 1)]
theorem lsF_map {α β : Type} (f : Nat → α) (g : α → β) : ∀ (m i : Nat), (lsF f i m).map g = lsF (fun j => g (f j)) i m
  | 0, _ => rfl
  | m + 1, i => by unfold lsF; rw [List.map_cons, lsF_map f g m (i + 1)]
theorem lsF_snoc {α : Type} (f : Nat → α) : ∀ (m i : Nat), lsF f i (m + 1) = lsF f i m ++ [f (i + m)]
  | 0, _ => rfl
  | m + 1, i => by
    show f i :: lsF f (i + 1) (m + 1) = f i :: (lsF f (i + 1) m ++ [f (i + (m + 1))])
    rw [lsF_snoc f m (i + 1), show i + 1 + m = i + (m + 1) by omega]
theorem lsF_cong {α : Type} {f g : Nat → α} : ∀ {m i : Nat}, (∀ j, i ≤ j → j < i + m → f j = g j) → lsF f i m = lsF g i m
  | 0, _, _ => rfl
  | m + 1, i, h => by
    unfold lsF
    rw [h i (by omega) (by omega), lsF_cong (m := m) (i := i + 1) (fun j h1 h2 => h j (by omega) (by omega))]
theorem lsF_range : ∀ (m : Nat), lsF (fun j => j) 0 m = List.range m
  | 0 => rfl
  | m + 1 => by rw [lsF_snoc, lsF_range m, List.range_succ, Nat.zero_add]
/-- from the last back -/
def rvF {α : Type} (f : Nat → α) : Nat → List α
  | 0 => []
  | m + 1 => f m :: rvF f m
theorem rvF_rev {α : Type} (f : Nat → α) : ∀ m, rvF f m = (lsF f 0 m).reverse
  | 0 => rfl
  | m + 1 => by
    rw [lsF_snoc, List.reverse_append, List.reverse_singleton, Nat.zero_add]
    show f m :: rvF f m = [f m] ++ _
    rw [rvF_rev f m]; rfl
theorem rvF_perm {α : Type} (f : Nat → α) (m : Nat) : (rvF f m).Perm (lsF f 0 m) := by rw [rvF_rev]; exact List.reverse_perm _
theorem rvF_len {α : Type} (f : Nat → α) : ∀ m, (rvF f m).length = m
  | 0 => rfl
  | m + 1 => by unfold rvF; rw [List.length_cons, rvF_len f m]
theorem rvF_cong {α : Type} {f g : Nat → α} : ∀ {m : Nat}, (∀ j, j < m → f j = g j) → rvF f m = rvF g m
  | 0, _ => rfl
  | m + 1, h => by unfold rvF; rw [h m (by omega), rvF_cong (m := m) (fun j hj => h j (by omega))]
/-- who come are, but for their order, those whose day is no later -/
theorem filt_day (B : Bd) (L d : Nat) : ∀ l : List Nat, (l.filter (fun j => decide (dayL B L j < d + 1))).Perm (l.filter (fun j => decide (dayL B L j < d)) ++ l.filter (fun j => decide (dayL B L j = d)))
  | [] => List.Perm.nil
  | a :: t => by
    have ih := filt_day B L d t
    by_cases h1 : dayL B L a < d
    · rw [List.filter_cons_of_pos (by simp; omega), List.filter_cons_of_pos (by simp; omega), List.filter_cons_of_neg (by simp; omega)]
      exact ih.cons a
    · by_cases h2 : dayL B L a = d
      · rw [List.filter_cons_of_pos (by simp; omega), List.filter_cons_of_neg (by simp; omega), List.filter_cons_of_pos (by simp; omega)]
        exact (ih.cons a).trans List.perm_middle.symm
      · rw [List.filter_cons_of_neg (by simp; omega), List.filter_cons_of_neg (by simp; omega), List.filter_cons_of_neg (by simp; omega)]
        exact ih
theorem flat_perm (B : Bd) (L : Nat) : ∀ d, ((List.range d).flatMap (fun e => (List.range (B 9 1)).filter (fun j => decide (dayL B L j = e)))).Perm ((List.range (B 9 1)).filter (fun j => decide (dayL B L j < d)))
  | 0 => by
    rw [List.filter_eq_nil_iff.mpr (fun a _ => by simp)]
    exact List.Perm.nil
  | d + 1 => by
    rw [List.range_succ, List.flatMap_append, List.flatMap_singleton]
    exact ((flat_perm B L d).append_right _).trans (filt_day B L d _).symm
def cmB (B : Bd) (L j : Nat) : Bool := decide (dayL B L j < L + 1)
theorem ord_perm (B : Bd) (L : Nat) : (ordL B L).Perm ((List.range (B 9 1)).filter (cmB B L)) := flat_perm B L (L + 1)
theorem cmB_iff {B : Bd} {L j : Nat} (hj : j < B 9 1) : cmB B L j = true ↔ j ∈ ordL B L := by
  rw [mem_ordL]
  unfold cmB
  rw [decide_eq_true_eq]
  omega
/-- by number, those who don't come giving nothing -/
def withB (B : Bd) (L : Nat) (pr : Nat → Nat → Bool) (j : Nat) : Nat → Bool := if cmB B L j = true then pr j else only0
theorem restN_filter (B : Bd) (L hi : Nat) (pr : Nat → Nat → Bool) : ∀ (l : List Nat) (s w : Nat), restN (l.map (withB B L pr)) hi s w = restN ((l.filter (cmB B L)).map pr) hi s w
  | [], _, _ => rfl
  | a :: t, s, w => by
    rw [List.map_cons]
    by_cases h : cmB B L a = true
    · rw [List.filter_cons_of_pos h, List.map_cons, restN_cons (restN_filter B L hi pr t)]
      unfold withB; rw [if_pos h]
    · rw [List.filter_cons_of_neg h, ← restN_filter B L hi pr t]
      refine restN_only0 (fun g => ?_) _ hi s w
      unfold withB only0; rw [if_neg h, decide_eq_true_eq]
theorem restN_ord (B : Bd) (L hi : Nat) (pr : Nat → Nat → Bool) (s w : Nat) : restN (lsF (withB B L pr) 0 (B 9 1)) hi s w = restN ((ordL B L).map pr) hi s w := by
  have e : lsF (withB B L pr) 0 (B 9 1) = (List.range (B 9 1)).map (withB B L pr) := by rw [← lsF_range, lsF_map]
  rw [e, restN_filter]
  exact restN_perm hi ((ord_perm B L).map pr).symm s w
theorem ord_ls {α : Type} (B : Bd) (L : Nat) (pr : Nat → α) : lsF (fun p => pr (atL B L p)) 0 (cntL B L) = (ordL B L).map pr := by
  have key : ∀ (l : List Nat), lsF (fun p => pr (l.getD p 0)) 0 l.length = l.map pr := by
    intro l
    induction l with
    | nil => rfl
    | cons a t ih =>
      rw [List.length_cons, List.map_cons, ← ih]
      show pr ((a :: t).getD 0 0) :: lsF _ 1 t.length = _
      have sh : ∀ (m i : Nat), lsF (fun p => pr ((a :: t).getD p 0)) (i + 1) m = lsF (fun p => pr (t.getD p 0)) i m := by
        intro m
        induction m with
        | zero => intro i; rfl
        | succ m ihm =>
          intro i
          show pr ((a :: t).getD (i + 1) 0) :: _ = pr (t.getD i 0) :: _
          rw [ihm (i + 1), List.getD_cons_succ]
      rw [sh t.length 0, List.getD_cons_zero]
  exact key (ordL B L)
/-- the same by places, the last first -/
theorem restN_places (B : Bd) (L hi : Nat) (pr : Nat → Nat → Bool) (s w : Nat) : restN (rvF (fun p => pr (atL B L p)) (cntL B L)) hi s w = restN ((ordL B L).map pr) hi s w := by
  rw [restN_perm hi (rvF_perm _ _), ord_ls]
/-- a window of gifts by sums to a place -/
theorem win_sum (h : Nat → Int) (lo s : Nat) : ∀ n, sumTo (fun j => if lo + j ≤ s then h (s - (lo + j)) else 0) n = sumTo h (s + 1 - lo) - sumTo h (s + 1 - lo - n)
  | 0 => by rw [Nat.sub_zero, Int.sub_self]; rfl
  | n + 1 => by
    show sumTo (fun j => if lo + j ≤ s then h (s - (lo + j)) else 0) n + (if lo + n ≤ s then h (s - (lo + n)) else 0) = _
    rw [win_sum h lo s n]
    by_cases hc : lo + n ≤ s
    · rw [if_pos hc]
      have e : s + 1 - lo - n = (s - (lo + n)) + 1 := by omega
      have e2 : s + 1 - lo - (n + 1) = s - (lo + n) := by omega
      rw [e, e2]
      show _ = _ - sumTo h (s - (lo + n))
      have e3 : sumTo h (s - (lo + n) + 1) = sumTo h (s - (lo + n)) + h (s - (lo + n)) := rfl
      omega
    · rw [if_neg hc]
      have e : s + 1 - lo - n = 0 := by omega
      have e2 : s + 1 - lo - (n + 1) = 0 := by omega
      rw [e, e2]; omega
theorem sum_win (F : Nat → Int) (lo hi : Nat) (hlo : lo ≤ hi + 1) : ∀ N, sumTo (fun g => if lo ≤ g ∧ g ≤ hi then F g else 0) N = sumTo (fun j => F (lo + j)) (min N (hi + 1) - lo)
  | 0 => by rw [show min 0 (hi + 1) - lo = 0 by omega]; rfl
  | N + 1 => by
    show sumTo (fun g => if lo ≤ g ∧ g ≤ hi then F g else 0) N + (if lo ≤ N ∧ N ≤ hi then F N else 0) = _
    rw [sum_win F lo hi hlo N]
    by_cases hc : lo ≤ N ∧ N ≤ hi
    · rw [if_pos hc, show min (N + 1) (hi + 1) - lo = (min N (hi + 1) - lo) + 1 by omega]
      show _ = sumTo (fun j => F (lo + j)) (min N (hi + 1) - lo) + F (lo + (min N (hi + 1) - lo))
      rw [show lo + (min N (hi + 1) - lo) = N by omega]
    · rw [if_neg hc, show min (N + 1) (hi + 1) - lo = min N (hi + 1) - lo by omega, Int.add_zero]
/-- how the class joins one more -/
theorem rest_join {a : Nat → Bool} {V : Nat → Nat → Int} {S W s w lo hi : Nat} {no : Bool} (hlo : 1 ≤ lo) (hh : lo ≤ hi + 1) (hhi : hi ≤ 30) (hs : s ≤ S) (hw : w ≤ W) (ha : ∀ g, g ≤ S → (0 < g → 1 ≤ W) → (a g = true ↔ (g = 0 ∧ no = true) ∨ (lo ≤ g ∧ g ≤ hi))) :
    sumTo (rst a V s w) 31 = (if 0 < w then sumTo (fun x => V x (w - 1)) (s + 1 - lo) - sumTo (fun x => V x (w - 1)) (s - hi) else 0) + (if no = true then V s w else 0) := by
  have e1 : ∀ g, rst a V s w g = (if lo ≤ g ∧ g ≤ hi then (if g ≤ s ∧ 1 ≤ w then V (s - g) (w - 1) else 0) else 0) + (if g = 0 then (if no = true then V s w else 0) else 0) := by
    intro g
    unfold rst o1
    by_cases hg : g = 0
    · subst hg
      rw [if_neg (show ¬ (lo ≤ 0 ∧ 0 ≤ hi) by omega), if_neg (show ¬ (0 < 0) by omega), if_pos rfl, Int.zero_add]
      have := ha 0 (by omega) (fun h => absurd h (by omega))
      by_cases hn : no = true
      · rw [if_pos hn, if_pos ⟨this.mpr (Or.inl ⟨rfl, hn⟩), by omega, by omega⟩]; rfl
      · rw [if_neg hn, if_neg]
        rintro ⟨z, -⟩
        rcases this.mp z with z | z
        · exact hn z.2
        · omega
    · rw [if_neg hg, Int.add_zero, if_pos (show 0 < g by omega)]
      by_cases hc : g ≤ s ∧ 1 ≤ w
      · have := ha g (by omega) (fun _ => by omega)
        rw [if_pos hc]
        by_cases hl : lo ≤ g ∧ g ≤ hi
        · rw [if_pos hl, if_pos ⟨this.mpr (Or.inr hl), hc.1, hc.2⟩]
        · rw [if_neg hl, if_neg]
          rintro ⟨z, -⟩
          rcases this.mp z with z | z
          · exact hg z.1
          · exact hl z
      · rw [if_neg (fun z => hc ⟨z.2.1, z.2.2⟩), if_neg hc]
        by_cases hl : lo ≤ g ∧ g ≤ hi
        · rw [if_pos hl]
        · rw [if_neg hl]
  rw [sumTo_cong (fun g _ => e1 g), sumTo_add2]
  congr 1
  · rw [sum_win (fun g => if g ≤ s ∧ 1 ≤ w then V (s - g) (w - 1) else 0) lo hi hh 31, show min 31 (hi + 1) - lo = hi + 1 - lo by omega]
    by_cases hw0 : 0 < w
    · rw [if_pos hw0, sumTo_cong (g := fun j => if lo + j ≤ s then V (s - (lo + j)) (w - 1) else 0) (fun j _ => ?_), win_sum (fun x => V x (w - 1)) lo s, show s + 1 - lo - (hi + 1 - lo) = s - hi by omega]
      by_cases hc : lo + j ≤ s
      · rw [if_pos ⟨hc, by omega⟩, if_pos hc]
      · rw [if_neg (fun z => hc z.1), if_neg hc]
    · rw [if_neg hw0, sumTo_cong (g := fun _ => 0) (fun j _ => by rw [if_neg (by omega)]), sumTo_0]
  · generalize (if no = true then V s w else 0) = X
    have : ∀ n, sumTo (fun g => if g = 0 then X else 0) (n + 1) = X := by
      intro n
      induction n with
      | zero => show (0 : Int) + X = X; exact Int.zero_add X
      | succ n ih =>
        show sumTo (fun g => if g = 0 then X else 0) (n + 1) + (if n + 1 = 0 then X else 0) = X
        rw [ih, if_neg (show ¬ (n + 1 = 0) by omega), Int.add_zero]
    exact this 30
