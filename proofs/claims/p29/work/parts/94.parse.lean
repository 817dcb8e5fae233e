/-! what was written is read -/
def valL : List Nat → Nat → Nat
  | [], v => v
  | d :: ds, v => valL ds (10 * v + d - 48)
theorem digS_l {t : Nat → Nat} {n : Nat} : ∀ (ds : List Nat) (f q c v : Nat), ds.length < f → (∀ j, j < ds.length → t (q + j) = ds.getD j 0 ∧ 48 ≤ ds.getD j 0 ∧ ds.getD j 0 ≤ 57) → q + ds.length < n → ¬ (48 ≤ t (q + ds.length) ∧ t (q + ds.length) ≤ 57) → digS t n f q c v = (c + ds.length, valL ds v, q + ds.length)
  | [], f, q, c, v, hf, hd, hn, hz => by
    obtain ⟨f, rfl⟩ : ∃ k, f = k + 1 := ⟨f - 1, by have : 0 < f := hf; omega⟩
    rw [digS, if_neg (fun z => hz z.2)]; rfl
  | d :: ds, f, q, c, v, hf, hd, hn, hz => by
    obtain ⟨f, rfl⟩ : ∃ k, f = k + 1 := ⟨f - 1, by have : 0 < f := Nat.lt_of_le_of_lt (Nat.zero_le _) hf; omega⟩
    have hl : (d :: ds).length = ds.length + 1 := rfl
    rw [hl] at hf hd hn hz ⊢
    obtain ⟨h0, h1, h2⟩ := hd 0 (by omega)
    have h0 : t q = d := h0
    have h1 : 48 ≤ d := h1
    have h2 : d ≤ 57 := h2
    have ih := digS_l (t := t) (n := n) ds f (q + 1) (c + 1) (10 * v + d - 48) (by omega) (fun j hj => by
      have := hd (j + 1) (by omega)
      rw [show q + (j + 1) = q + 1 + j by omega] at this
      exact this) (by omega) (by rw [show q + 1 + ds.length = q + (ds.length + 1) by omega]; exact hz)
    rw [digS, if_pos ⟨by omega, by rw [h0]; exact h1, by rw [h0]; exact h2⟩, h0, ih]
    show (c + 1 + ds.length, valL ds (10 * v + d - 48), q + 1 + ds.length) = (c + (ds.length + 1), valL (d :: ds) v, q + (ds.length + 1))
    rw [show c + 1 + ds.length = c + (ds.length + 1) by omega, show q + 1 + ds.length = q + (ds.length + 1) by omega]; rfl
theorem digs_val {v : Nat} (hv : v ≤ 999) : valL (digs v) 0 = v := by
  unfold digs
  by_cases h1 : 100 ≤ v
  · rw [if_pos h1]
    show 10 * (10 * (10 * 0 + (48 + v / 100 % 10) - 48) + (48 + v / 10 % 10) - 48) + (48 + v / 1 % 10) - 48 = v
    omega
  · rw [if_neg h1]
    by_cases h2 : 10 ≤ v
    · rw [if_pos h2]
      show 10 * (10 * 0 + (48 + v / 10 % 10) - 48) + (48 + v / 1 % 10) - 48 = v
      omega
    · rw [if_neg h2]
      show 10 * 0 + (48 + v / 1 % 10) - 48 = v
      omega
theorem digs_bd (v : Nat) : ∀ j, j < (digs v).length → 48 ≤ (digs v).getD j 0 ∧ (digs v).getD j 0 ≤ 57 := by
  unfold digs
  by_cases h1 : 100 ≤ v
  · rw [if_pos h1]
    intro j hj
    match j, hj with
    | 0, _ => show 48 ≤ 48 + v / 100 % 10 ∧ 48 + v / 100 % 10 ≤ 57; omega
    | 1, _ => show 48 ≤ 48 + v / 10 % 10 ∧ 48 + v / 10 % 10 ≤ 57; omega
    | 2, _ => show 48 ≤ 48 + v / 1 % 10 ∧ 48 + v / 1 % 10 ≤ 57; omega
    | j + 3, h => exact absurd (show j + 3 < 3 from h) (by omega)
  · rw [if_neg h1]
    by_cases h2 : 10 ≤ v
    · rw [if_pos h2]
      intro j hj
      match j, hj with
      | 0, _ => show 48 ≤ 48 + v / 10 % 10 ∧ 48 + v / 10 % 10 ≤ 57; omega
      | 1, _ => show 48 ≤ 48 + v / 1 % 10 ∧ 48 + v / 1 % 10 ≤ 57; omega
      | j + 2, h => exact absurd (show j + 2 < 2 from h) (by omega)
    · rw [if_neg h2]
      intro j hj
      match j, hj with
      | 0, _ => show 48 ≤ 48 + v / 1 % 10 ∧ 48 + v / 1 % 10 ≤ 57; omega
      | j + 1, h => exact absurd (show j + 1 < 1 from h) (by omega)
theorem tx_at (pre ds post : List Nat) {j : Nat} (h : j < ds.length) : tx (pre ++ (ds ++ post)) (pre.length + j) = ds.getD j 0 := by
  rw [tx_app, if_neg (by omega), show pre.length + j - pre.length = j by omega, tx_app, if_pos h]; rfl
theorem dg_l {pre post : List Nat} {v z : Nat} (hv : v ≤ 999) (hz : z = 44 ∨ z = 59) : dg (tx (pre ++ (digs v ++ (z :: post)))) (pre ++ (digs v ++ (z :: post))).length pre.length = ((digs v).length, v, pre.length + (digs v).length) := by
  have hd := digs_len v
  have e := digS_l (t := tx (pre ++ (digs v ++ (z :: post)))) (n := (pre ++ (digs v ++ (z :: post))).length) (digs v) 4 pre.length 0 0 (by omega) (fun j hj => ⟨tx_at _ _ _ hj, digs_bd v j hj⟩) (by rw [List.length_append, List.length_append]; show _ < _ + (_ + (_ + 1)); omega) (by
    rw [tx_app, if_neg (by omega), show pre.length + (digs v).length - pre.length = (digs v).length by omega, tx_app, if_neg (by omega), Nat.sub_self]
    show ¬ (48 ≤ z ∧ z ≤ 57)
    omega)
  unfold dg
  rw [e, digs_val hv, Nat.zero_add]
theorem sepN_is (r : Nat) : sepN r = 44 ∨ sepN r = 59 := by
  unfold sepN
  by_cases h : r = 0
  · rw [if_pos h]; exact Or.inr rfl
  · rw [if_neg h]; exact Or.inl rfl
theorem figS_l {v : Nat → Nat} {m : Nat} (hv : ∀ j, v j ≤ 999) (post : List Nat) : ∀ (r : Nat) (pre : List Nat) (vs : Nat → Nat), r ≤ m → figS (tx (pre ++ (numsB v m r ++ post))) (pre ++ (numsB v m r ++ post)).length m r pre.length vs = some (pre.length + (numsB v m r).length, fun j => if m - r ≤ j ∧ j < m then v j else vs j) := by
  intro r
  induction r with
  | zero =>
    intro pre vs hr
    show some (pre.length, vs) = some (pre.length + 0, _)
    rw [Nat.add_zero]
    congr 2
    funext j
    rw [if_neg (by omega)]
  | succ r ih =>
    intro pre vs hr
    have hw : pre ++ (numsB v m (r + 1) ++ post) = pre ++ (digs (v (m - (r + 1))) ++ (sepN r :: (numsB v m r ++ post))) := by
      show pre ++ ((digs (v (m - (r + 1))) ++ [sepN r] ++ numsB v m r) ++ post) = _
      rw [List.append_assoc, List.append_assoc]; rfl
    have hw2 : pre ++ (digs (v (m - (r + 1))) ++ (sepN r :: (numsB v m r ++ post))) = (pre ++ (digs (v (m - (r + 1))) ++ [sepN r])) ++ (numsB v m r ++ post) := by
      rw [List.append_assoc, List.append_assoc]; rfl
    have hg := dg_l (pre := pre) (post := numsB v m r ++ post) (hv (m - (r + 1))) (sepN_is r)
    have hd := digs_len (v (m - (r + 1)))
    have hlen : (pre ++ (digs (v (m - (r + 1))) ++ [sepN r])).length = pre.length + (digs (v (m - (r + 1)))).length + 1 := by
      rw [List.length_append, List.length_append]
      show pre.length + ((digs (v (m - (r + 1)))).length + 1) = _
      omega
    have ht : tx (pre ++ (digs (v (m - (r + 1))) ++ (sepN r :: (numsB v m r ++ post)))) (pre.length + (digs (v (m - (r + 1)))).length) = sepN r := by
      rw [tx_app, if_neg (by omega), show pre.length + (digs (v (m - (r + 1)))).length - pre.length = (digs (v (m - (r + 1)))).length by omega, tx_app, if_neg (by omega), Nat.sub_self]; rfl
    rw [hw, figS, hg]
    dsimp only
    rw [if_pos ⟨hd.1, hd.2, by rw [List.length_append, List.length_append]; show _ < _ + (_ + (_ + 1)); omega, ht.trans rfl⟩]
    have h := ih (pre ++ (digs (v (m - (r + 1))) ++ [sepN r])) (fun j => if j = m - (r + 1) then v (m - (r + 1)) else vs j) (by omega)
    rw [← hw2, hlen] at h
    rw [h]
    congr 2
    · show pre.length + (digs (v (m - (r + 1)))).length + 1 + (numsB v m r).length = pre.length + (digs (v (m - (r + 1))) ++ [sepN r] ++ numsB v m r).length
      rw [List.length_append, List.length_append]
      show _ = pre.length + ((digs (v (m - (r + 1)))).length + 1 + (numsB v m r).length)
      omega
    · funext j
      by_cases h1 : m - r ≤ j ∧ j < m
      · rw [if_pos h1, if_pos (by omega)]
      · rw [if_neg h1]
        by_cases h2 : j = m - (r + 1)
        · rw [if_pos h2, if_pos (by omega), h2]
        · rw [if_neg h2, if_neg (by omega)]
theorem itemS_l {pre post : List Nat} {l m : Nat} {v : Nat → Nat} {B B2 : Bd} (hm : manyS l = m) (hm0 : m ≠ 0) (hv : ∀ j, v j ≤ 999) (hv0 : ∀ j, m ≤ j → v j = 0) (ht : takeS l v B = some B2) : itemS (tx (pre ++ (itemB l m v ++ post))) (pre ++ (itemB l m v ++ post)).length pre.length B = some (pre.length + (itemB l m v).length, B2) := by
  have e0 : tx (pre ++ (itemB l m v ++ post)) pre.length = l := by
    rw [tx_app, if_neg (by omega), Nat.sub_self]; rfl
  have hw : pre ++ (itemB l m v ++ post) = (pre ++ [l]) ++ (numsB v m m ++ post) := by
    rw [List.append_assoc]; rfl
  have hlen : (pre ++ [l]).length = pre.length + 1 := by rw [List.length_append]; rfl
  have h := figS_l (m := m) hv post m (pre ++ [l]) (fun _ => 0) (Nat.le_refl _)
  rw [← hw, hlen] at h
  unfold itemS
  rw [e0, hm, if_neg hm0, h]
  dsimp only
  have hv2 : (fun j => if m - m ≤ j ∧ j < m then v j else 0) = v := by
    funext j
    by_cases hj : j < m
    · rw [if_pos ⟨by omega, hj⟩]
    · rw [if_neg (fun z => hj z.2), hv0 j (by omega)]
  rw [hv2, ht]
  dsimp only
  congr 2
  show pre.length + 1 + (numsB v m m).length = pre.length + ((numsB v m m).length + 1)
  omega
/-- the text so far is read, and tells the board B -/
def PS (bs : List Nat) (B : Bd) : Prop := (∀ x, x ∈ bs → x < 256) ∧ ∃ k, k ≤ bs.length ∧ ∀ (post : List Nat) (f : Nat), parS (tx (bs ++ post)) (bs ++ post).length (k + f) 0 clrB = parS (tx (bs ++ post)) (bs ++ post).length f bs.length B
theorem PS_nil : PS [] clrB := ⟨fun x h => absurd h List.not_mem_nil, 0, Nat.le_refl _, fun post f => by rw [Nat.zero_add]; rfl⟩
theorem numsB_b {v : Nat → Nat} {m : Nat} : ∀ r x, x ∈ numsB v m r → x < 256
  | 0, x, h => absurd h List.not_mem_nil
  | r + 1, x, h => by
    unfold numsB at h
    rcases List.mem_append.mp h with h | h
    · rcases List.mem_append.mp h with h | h
      · obtain ⟨j, hj, e⟩ := List.getElem_of_mem h
        have := digs_bd (v (m - (r + 1))) j hj
        rw [List.getD_eq_getElem?_getD, List.getElem?_eq_getElem hj, Option.getD_some, e] at this
        omega
      · rw [List.mem_singleton.mp h]
        have := sepN_is r
        omega
    · exact numsB_b r x h
theorem PS_step {bs : List Nat} {B B2 : Bd} {l m : Nat} {v : Nat → Nat} (h : PS bs B) (hl : l < 256) (hm : manyS l = m) (hm0 : m ≠ 0) (hv : ∀ j, v j ≤ 999) (hv0 : ∀ j, m ≤ j → v j = 0) (ht : takeS l v B = some B2) : PS (bs ++ itemB l m v) B2 := by
  obtain ⟨h256, k, hk, hp⟩ := h
  have hlen : (itemB l m v).length = (numsB v m m).length + 1 := rfl
  refine ⟨fun x hx => ?_, k + 1, by rw [List.length_append]; omega, fun post f => ?_⟩
  · rcases List.mem_append.mp hx with hx | hx
    · exact h256 x hx
    · rcases List.mem_cons.mp hx with rfl | hx
      · exact hl
      · exact numsB_b m x hx
  · rw [List.append_assoc, show k + 1 + f = k + (f + 1) by omega, hp]
    rw [parS, if_neg (by rw [List.length_append, List.length_append]; omega), itemS_l hm hm0 hv hv0 ht, show (bs ++ itemB l m v).length = bs.length + (itemB l m v).length from List.length_append]
theorem PS_end {bs : List Nat} {B : Bd} (h : PS bs B) : rdB (tx bs) bs.length = (bs.length, B, true) := by
  obtain ⟨h256, k, hk, hp⟩ := h
  have e := hp [] (bs.length - k)
  rw [List.append_nil, show k + (bs.length - k) = bs.length by omega] at e
  unfold rdB
  rw [e]
  cases bs.length - k with
  | zero => rfl
  | succ f => rw [parS, if_pos (Nat.le_refl _)]
