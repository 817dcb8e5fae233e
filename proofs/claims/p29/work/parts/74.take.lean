/-! texts read: what an item tells -/
def manyS (l : Nat) : Nat := if l = 98 then 2 else if l = 99 then 1 else if l = 100 then 1 else if l = 101 then 2 else if l = 103 then 5 else if l = 111 then 1 else if l = 112 then 1 else if l = 115 then 2 else if l = 116 then 2 else if l = 119 then 3 else 0
/-- behind the rows of a board: 10 how many of a sort, 11 the first's day, 12 the gap -/
def up1B (B : Bd) (k v : Nat) : Bd := fun a b => if a = 0 ∧ b = k then v else B a b
def tdB (B : Bd) (s v : Nat) : Bd := fun a b => if a = 3 ∧ b = s then v else B a b
def wtB (B : Bd) (v : Nat → Nat) : Bd := fun a b => if a = 5 ∧ b = 3 * v 0 + B 4 (v 0) then v 1 else if a = 6 ∧ b = 3 * v 0 + B 4 (v 0) then v 2 else if a = 4 ∧ b = v 0 then B 4 (v 0) + 1 else B a b
def addB (B : Bd) (v : Nat → Nat) : Bd := fun a b =>
  if a = 9 then (if b = 0 then B 9 0 + 1 else if b = 1 then B 9 1 + v 0 else B 9 b)
  else if a = 7 then (if B 9 1 ≤ b then B 9 0 else B 7 b)
  else if a = 8 then (if B 9 1 ≤ b then v 3 + (b - B 9 1) * v 4 else B 8 b)
  else if b = B 9 0 then (if a = 1 then v 1 else if a = 2 then v 2 else if a = 3 then 0 else if a = 4 then 0 else if a = 10 then v 0 else if a = 11 then v 3 else if a = 12 then v 4 else B a b)
  else B a b
def takeS (l : Nat) (v : Nat → Nat) (B : Bd) : Option Bd :=
  if l = 98 then (if 1 ≤ v 0 ∧ v 0 ≤ 60 ∧ v 1 ≤ 8 then some (up1B (up1B B 0 (v 0)) 1 (v 1)) else none)
  else if l = 99 then (if v 0 ≤ 199 then some (up1B B 3 (v 0)) else none)
  else if l = 100 then (if v 0 ≤ 30 then some (up1B B 2 (v 0)) else none)
  else if l = 101 then (if v 0 ≤ 9 ∧ v 1 ≤ 30 then some (up1B (up1B B 5 (v 0)) 6 (v 1)) else none)
  else if l = 103 then (if B 9 0 < 6 ∧ 1 ≤ v 0 ∧ B 9 1 + v 0 ≤ 8 ∧ v 1 ≤ 5 ∧ v 2 ≤ 30 ∧ v 3 ≤ 30 ∧ v 4 ≤ 9 then some (addB B v) else none)
  else if l = 111 then (if v 0 ≤ 1 then some (up1B B 7 (v 0)) else none)
  else if l = 112 then (if v 0 ≤ 9 then some (up1B B 4 (v 0)) else none)
  else if l = 115 then (if 1 ≤ v 0 ∧ v 0 ≤ 60 ∧ v 1 ≤ 99 then some (up1B (up1B B 8 (v 0)) 9 (v 1)) else none)
  else if l = 116 then (if v 0 < B 9 0 ∧ v 1 ≤ 30 then some (tdB B (v 0) (v 1)) else none)
  else if l = 119 then (if v 0 < B 9 0 ∧ v 1 ≤ 30 ∧ 1 ≤ v 2 ∧ v 2 ≤ 10 ∧ B 4 (v 0) < 3 then some (wtB B v) else none)
  else none
/-- what holds of a board while it is read -/
def VBa (B : Bd) : Prop := 1 ≤ B 0 0 ∧ B 0 0 ≤ 60 ∧ B 0 1 ≤ 8 ∧ B 0 2 ≤ 30 ∧ B 0 3 ≤ 199 ∧ B 0 4 ≤ 9 ∧ B 0 5 ≤ 9 ∧ B 0 6 ≤ 30 ∧ B 0 7 ≤ 1 ∧ B 0 8 ≤ 60 ∧ B 0 9 ≤ 99
def VBb (B : Bd) : Prop := (B 9 0 ≤ 6 ∧ B 9 1 ≤ 8 ∧ B 9 1 = natTo (B 10) (B 9 0)) ∧
  (∀ s, s < B 9 0 → B 1 s ≤ 5 ∧ B 2 s ≤ 30 ∧ B 3 s ≤ 30 ∧ B 4 s ≤ 3 ∧ 1 ≤ B 10 s ∧ B 10 s ≤ 8 ∧ B 11 s ≤ 30 ∧ B 12 s ≤ 9 ∧ ∀ k, k < B 4 s → B 5 (3 * s + k) ≤ 30 ∧ 1 ≤ B 6 (3 * s + k) ∧ B 6 (3 * s + k) ≤ 10) ∧
  (∀ i, i < B 9 1 → B 7 i < B 9 0 ∧ B 8 i ≤ 200) ∧
  ∀ s, s < B 9 0 → ∀ k, k < B 10 s → B 7 (natTo (B 10) s + k) = s ∧ B 8 (natTo (B 10) s + k) = B 11 s + k * B 12 s
def VB0 (B : Bd) : Prop := VBa B ∧ VBb B
theorem up1B_r (B : Bd) (k v a : Nat) (h : a ≠ 0) : up1B B k v a = B a := by
  funext b; unfold up1B; rw [if_neg (fun z => h z.1)]
theorem up1B_0 (B : Bd) (k v b : Nat) : up1B B k v 0 b = if b = k then v else B 0 b := by
  unfold up1B
  by_cases h : b = k
  · rw [if_pos ⟨rfl, h⟩, if_pos h]
  · rw [if_neg (fun z => h z.2), if_neg h]
theorem VBb_row {B B2 : Bd} (h : ∀ a, 1 ≤ a → B2 a = B a) (hV : VBb B) : VBb B2 := by
  unfold VBb at hV ⊢
  rw [h 9 (by omega), h 1 (by omega), h 2 (by omega), h 3 (by omega), h 4 (by omega), h 5 (by omega), h 6 (by omega), h 7 (by omega), h 8 (by omega), h 10 (by omega), h 11 (by omega), h 12 (by omega)]
  exact hV
theorem VB0_up {B : Bd} {k v : Nat} (hV : VB0 B) (h : VBa (up1B B k v)) : VB0 (up1B B k v) := ⟨h, VBb_row (fun a ha => up1B_r B k v a (by omega)) hV.2⟩
theorem natTo_ext {f g : Nat → Nat} {n : Nat} (h : ∀ j, j < n → f j = g j) : natTo f n = natTo g n := natTo_cong h
theorem natTo_mono1 {f : Nat → Nat} (h : ∀ j, 1 ≤ f j) : ∀ n, n ≤ natTo f n
  | 0 => Nat.le_refl _
  | n + 1 => by unfold natTo; have := natTo_mono1 h n; have := h n; omega
theorem natTo_le_of {f : Nat → Nat} {a b : Nat} (h : a ≤ b) : natTo f a ≤ natTo f b := by
  obtain ⟨d, rfl⟩ : ∃ d, b = a + d := ⟨b - a, by omega⟩
  rw [natTo_split]; omega
theorem VBb_td {B : Bd} {s v : Nat} (hV : VBb B) (hv : v ≤ 30) : VBb (tdB B s v) := by
  have r : ∀ a, a ≠ 3 → tdB B s v a = B a := fun a ha => by funext b; unfold tdB; rw [if_neg (fun z => ha z.1)]
  have r3 : ∀ b, tdB B s v 3 b ≤ max v (B 3 b) := fun b => by
    unfold tdB
    by_cases h : b = s
    · rw [if_pos ⟨rfl, h⟩]; omega
    · rw [if_neg (fun z => h z.2)]; omega
  unfold VBb at hV ⊢
  rw [r 9 (by omega), r 1 (by omega), r 2 (by omega), r 4 (by omega), r 5 (by omega), r 6 (by omega), r 7 (by omega), r 8 (by omega), r 10 (by omega), r 11 (by omega), r 12 (by omega)]
  refine ⟨hV.1, fun q hq => ?_, hV.2.2⟩
  obtain ⟨h1, h2, h3, h4⟩ := hV.2.1 q hq
  have := r3 q
  exact ⟨h1, h2, by omega, h4⟩
theorem wtB_r (B : Bd) (v : Nat → Nat) (a : Nat) (h : a ≠ 4 ∧ a ≠ 5 ∧ a ≠ 6) : wtB B v a = B a := by
  funext b; unfold wtB
  rw [if_neg (fun z => h.2.1 z.1), if_neg (fun z => h.2.2 z.1), if_neg (fun z => h.1 z.1)]
theorem wtB_4 (B : Bd) (v : Nat → Nat) (b : Nat) : wtB B v 4 b = if b = v 0 then B 4 (v 0) + 1 else B 4 b := by
  unfold wtB
  rw [if_neg (by omega), if_neg (by omega)]
  by_cases h : b = v 0
  · rw [if_pos ⟨rfl, h⟩, if_pos h]
  · rw [if_neg (fun z => h z.2), if_neg h]
theorem wtB_5 (B : Bd) (v : Nat → Nat) (b : Nat) : wtB B v 5 b = if b = 3 * v 0 + B 4 (v 0) then v 1 else B 5 b := by
  unfold wtB
  by_cases h : b = 3 * v 0 + B 4 (v 0)
  · rw [if_pos ⟨rfl, h⟩, if_pos h]
  · rw [if_neg (fun z => h z.2), if_neg (by omega), if_neg (by omega), if_neg h]
theorem wtB_6 (B : Bd) (v : Nat → Nat) (b : Nat) : wtB B v 6 b = if b = 3 * v 0 + B 4 (v 0) then v 2 else B 6 b := by
  unfold wtB
  rw [if_neg (by omega)]
  by_cases h : b = 3 * v 0 + B 4 (v 0)
  · rw [if_pos ⟨rfl, h⟩, if_pos h]
  · rw [if_neg (fun z => h z.2), if_neg (by omega), if_neg h]
theorem VBb_wt {B : Bd} {v : Nat → Nat} (hV : VBb B) (h0 : v 0 < B 9 0) (h1 : v 1 ≤ 30) (h2 : 1 ≤ v 2 ∧ v 2 ≤ 10) (h3 : B 4 (v 0) < 3) : VBb (wtB B v) := by
  have r : ∀ a, a ≠ 4 ∧ a ≠ 5 ∧ a ≠ 6 → wtB B v a = B a := wtB_r B v
  unfold VBb at hV ⊢
  rw [r 9 (by omega), r 1 (by omega), r 2 (by omega), r 3 (by omega), r 7 (by omega), r 8 (by omega), r 10 (by omega), r 11 (by omega), r 12 (by omega)]
  refine ⟨hV.1, fun q hq => ?_, hV.2.2⟩
  obtain ⟨a1, a2, a3, a4, a5, a6, a7, a8, a9⟩ := hV.2.1 q hq
  refine ⟨a1, a2, a3, ?_, a5, a6, a7, a8, fun k hk => ?_⟩
  · rw [wtB_4]
    by_cases h : q = v 0
    · rw [if_pos h]; omega
    · rw [if_neg h]; exact a4
  · rw [wtB_4] at hk
    rw [wtB_5, wtB_6]
    by_cases h : q = v 0
    · rw [if_pos h] at hk
      by_cases hk2 : k = B 4 (v 0)
      · rw [if_pos (by rw [h, hk2]), if_pos (by rw [h, hk2])]; omega
      · rw [if_neg (by omega), if_neg (by omega)]; exact a9 k (by rw [h]; omega)
    · rw [if_neg h] at hk
      rw [if_neg (by omega), if_neg (by omega)]; exact a9 k hk
theorem addB_9 (B : Bd) (v : Nat → Nat) (b : Nat) : addB B v 9 b = if b = 0 then B 9 0 + 1 else if b = 1 then B 9 1 + v 0 else B 9 b := by
  unfold addB; rw [if_pos rfl]
theorem addB_7 (B : Bd) (v : Nat → Nat) (b : Nat) : addB B v 7 b = if B 9 1 ≤ b then B 9 0 else B 7 b := by
  unfold addB; rw [if_neg (by omega), if_pos rfl]
theorem addB_8 (B : Bd) (v : Nat → Nat) (b : Nat) : addB B v 8 b = if B 9 1 ≤ b then v 3 + (b - B 9 1) * v 4 else B 8 b := by
  unfold addB; rw [if_neg (by omega), if_neg (by omega), if_pos rfl]
theorem addB_o (B : Bd) (v : Nat → Nat) (a b : Nat) (ha : a ≠ 7 ∧ a ≠ 8 ∧ a ≠ 9) (hb : b ≠ B 9 0) : addB B v a b = B a b := by
  unfold addB; rw [if_neg ha.2.2, if_neg ha.1, if_neg ha.2.1, if_neg hb]
theorem addB_n (B : Bd) (v : Nat → Nat) : addB B v 1 (B 9 0) = v 1 ∧ addB B v 2 (B 9 0) = v 2 ∧ addB B v 3 (B 9 0) = 0 ∧ addB B v 4 (B 9 0) = 0 ∧ addB B v 10 (B 9 0) = v 0 ∧ addB B v 11 (B 9 0) = v 3 ∧ addB B v 12 (B 9 0) = v 4 := by
  unfold addB
  refine ⟨?_, ?_, ?_, ?_, ?_, ?_, ?_⟩ <;> simp
theorem VBb_add {B : Bd} {v : Nat → Nat} (hV : VBb B) (h0 : B 9 0 < 6) (h1 : 1 ≤ v 0) (h2 : B 9 1 + v 0 ≤ 8) (h3 : v 1 ≤ 5) (h4 : v 2 ≤ 30) (h5 : v 3 ≤ 30) (h6 : v 4 ≤ 9) : VBb (addB B v) := by
  obtain ⟨⟨b1, b2, b3⟩, b4, b5, b6⟩ := hV
  obtain ⟨n1, n2, n3, n4, n10, n11, n12⟩ := addB_n B v
  have e90 : addB B v 9 0 = B 9 0 + 1 := by rw [addB_9, if_pos rfl]
  have e91 : addB B v 9 1 = B 9 1 + v 0 := by rw [addB_9, if_neg (by omega), if_pos rfl]
  have o : ∀ a s, (a ≠ 7 ∧ a ≠ 8 ∧ a ≠ 9) → s < B 9 0 → addB B v a s = B a s := fun a s ha hs => addB_o B v a s ha (by omega)
  have nt : ∀ s, s ≤ B 9 0 → natTo (addB B v 10) s = natTo (B 10) s := fun s hs => natTo_cong (fun j hj => o 10 j (by omega) (by omega))
  refine ⟨⟨by rw [e90]; omega, by rw [e91]; omega, ?_⟩, fun s hs => ?_, fun i hi => ?_, fun s hs k hk => ?_⟩
  · rw [e90, e91]
    show _ = natTo (addB B v 10) (B 9 0) + addB B v 10 (B 9 0)
    rw [nt _ (Nat.le_refl _), n10, ← b3]
  · rw [e90] at hs
    by_cases hc : s = B 9 0
    · rw [hc, n1, n2, n3, n4, n10, n11, n12]
      exact ⟨h3, h4, by omega, by omega, h1, by omega, h5, h6, fun k hk => absurd hk (Nat.not_lt_zero _)⟩
    · have hs2 : s < B 9 0 := by omega
      rw [o 1 s (by omega) hs2, o 2 s (by omega) hs2, o 3 s (by omega) hs2, o 4 s (by omega) hs2, o 10 s (by omega) hs2, o 11 s (by omega) hs2, o 12 s (by omega) hs2]
      obtain ⟨a1, a2, a3, a4, a5, a6, a7, a8, a9⟩ := b4 s hs2
      refine ⟨a1, a2, a3, a4, a5, a6, a7, a8, fun k hk => ?_⟩
      have hr : ∀ a, a = 5 ∨ a = 6 → addB B v a (3 * s + k) = B a (3 * s + k) := fun a ha => by
        unfold addB
        rw [if_neg (by omega), if_neg (by omega), if_neg (by omega)]
        by_cases hb : 3 * s + k = B 9 0
        · rw [if_pos hb, if_neg (by omega), if_neg (by omega), if_neg (by omega), if_neg (by omega), if_neg (by omega), if_neg (by omega), if_neg (by omega)]
        · rw [if_neg hb]
      rw [hr 5 (Or.inl rfl), hr 6 (Or.inr rfl)]
      exact a9 k hk
  · rw [e91] at hi
    rw [e90, addB_7, addB_8]
    by_cases hc : B 9 1 ≤ i
    · rw [if_pos hc, if_pos hc]
      have : (i - B 9 1) * v 4 ≤ 7 * 9 := Nat.mul_le_mul (by omega) h6
      omega
    · rw [if_neg hc, if_neg hc]
      have := b5 i (by omega)
      omega
  · rw [e90] at hs
    by_cases hc : s = B 9 0
    · rw [hc] at hk ⊢
      rw [n10] at hk
      rw [nt _ (Nat.le_refl _), ← b3, addB_7, addB_8, n11, n12, if_pos (by omega), if_pos (by omega), show B 9 1 + k - B 9 1 = k by omega]
      exact ⟨rfl, rfl⟩
    · have hs2 : s < B 9 0 := by omega
      rw [o 10 s (by omega) hs2] at hk
      have hlt : natTo (B 10) s + k < B 9 1 := by
        have := natTo_le_of (f := B 10) (show s + 1 ≤ B 9 0 by omega)
        have e : natTo (B 10) (s + 1) = natTo (B 10) s + B 10 s := rfl
        omega
      rw [nt _ (by omega), addB_7, addB_8, o 11 s (by omega) hs2, o 12 s (by omega) hs2, if_neg (by omega), if_neg (by omega)]
      exact b6 s hs2 k hk
theorem VB0_take {l : Nat} {v : Nat → Nat} {B B2 : Bd} (hV : VB0 B) (h : takeS l v B = some B2) : VB0 B2 := by
  have hVa := hV.1
  unfold VBa at hVa
  unfold takeS at h
  by_cases c1 : l = 98
  · rw [if_pos c1] at h
    by_cases c : 1 ≤ v 0 ∧ v 0 ≤ 60 ∧ v 1 ≤ 8
    · rw [if_pos c] at h
      rw [← Option.some.inj h]
      have h1 : VB0 (up1B B 0 (v 0)) := VB0_up hV (by unfold VBa; simp [up1B_0]; omega)
      exact VB0_up h1 (by unfold VBa; simp [up1B_0]; omega)
    · rw [if_neg c] at h; exact absurd h (by simp)
  rw [if_neg c1] at h
  by_cases c1 : l = 99
  · rw [if_pos c1] at h
    by_cases c : v 0 ≤ 199
    · rw [if_pos c] at h
      rw [← Option.some.inj h]
      exact VB0_up hV (by unfold VBa; simp [up1B_0]; omega)
    · rw [if_neg c] at h; exact absurd h (by simp)
  rw [if_neg c1] at h
  by_cases c1 : l = 100
  · rw [if_pos c1] at h
    by_cases c : v 0 ≤ 30
    · rw [if_pos c] at h
      rw [← Option.some.inj h]
      exact VB0_up hV (by unfold VBa; simp [up1B_0]; omega)
    · rw [if_neg c] at h; exact absurd h (by simp)
  rw [if_neg c1] at h
  by_cases c1 : l = 101
  · rw [if_pos c1] at h
    by_cases c : v 0 ≤ 9 ∧ v 1 ≤ 30
    · rw [if_pos c] at h
      rw [← Option.some.inj h]
      have h1 : VB0 (up1B B 5 (v 0)) := VB0_up hV (by unfold VBa; simp [up1B_0]; omega)
      exact VB0_up h1 (by unfold VBa; simp [up1B_0]; omega)
    · rw [if_neg c] at h; exact absurd h (by simp)
  rw [if_neg c1] at h
  by_cases c1 : l = 103
  · rw [if_pos c1] at h
    by_cases c : B 9 0 < 6 ∧ 1 ≤ v 0 ∧ B 9 1 + v 0 ≤ 8 ∧ v 1 ≤ 5 ∧ v 2 ≤ 30 ∧ v 3 ≤ 30 ∧ v 4 ≤ 9
    · rw [if_pos c] at h
      rw [← Option.some.inj h]
      refine ⟨?_, VBb_add hV.2 c.1 c.2.1 c.2.2.1 c.2.2.2.1 c.2.2.2.2.1 c.2.2.2.2.2.1 c.2.2.2.2.2.2⟩
      have hr : ∀ k, k ≤ 9 → addB B v 0 k = B 0 k := fun k _ => by
        unfold addB
        rw [if_neg (by omega), if_neg (by omega), if_neg (by omega)]
        by_cases hb : k = B 9 0
        · rw [if_pos hb, if_neg (by omega), if_neg (by omega), if_neg (by omega), if_neg (by omega), if_neg (by omega), if_neg (by omega), if_neg (by omega)]
        · rw [if_neg hb]
      unfold VBa
      rw [hr 0 (by omega), hr 1 (by omega), hr 2 (by omega), hr 3 (by omega), hr 4 (by omega), hr 5 (by omega), hr 6 (by omega), hr 7 (by omega), hr 8 (by omega), hr 9 (by omega)]
      exact hVa
    · rw [if_neg c] at h; exact absurd h (by simp)
  rw [if_neg c1] at h
  by_cases c1 : l = 111
  · rw [if_pos c1] at h
    by_cases c : v 0 ≤ 1
    · rw [if_pos c] at h
      rw [← Option.some.inj h]
      exact VB0_up hV (by unfold VBa; simp [up1B_0]; omega)
    · rw [if_neg c] at h; exact absurd h (by simp)
  rw [if_neg c1] at h
  by_cases c1 : l = 112
  · rw [if_pos c1] at h
    by_cases c : v 0 ≤ 9
    · rw [if_pos c] at h
      rw [← Option.some.inj h]
      exact VB0_up hV (by unfold VBa; simp [up1B_0]; omega)
    · rw [if_neg c] at h; exact absurd h (by simp)
  rw [if_neg c1] at h
  by_cases c1 : l = 115
  · rw [if_pos c1] at h
    by_cases c : 1 ≤ v 0 ∧ v 0 ≤ 60 ∧ v 1 ≤ 99
    · rw [if_pos c] at h
      rw [← Option.some.inj h]
      have h1 : VB0 (up1B B 8 (v 0)) := VB0_up hV (by unfold VBa; simp [up1B_0]; omega)
      exact VB0_up h1 (by unfold VBa; simp [up1B_0]; omega)
    · rw [if_neg c] at h; exact absurd h (by simp)
  rw [if_neg c1] at h
  by_cases c1 : l = 116
  · rw [if_pos c1] at h
    by_cases c : v 0 < B 9 0 ∧ v 1 ≤ 30
    · rw [if_pos c] at h
      rw [← Option.some.inj h]
      refine ⟨?_, VBb_td hV.2 c.2⟩
      have hr : tdB B (v 0) (v 1) 0 = B 0 := by funext b; unfold tdB; rw [if_neg (by omega)]
      unfold VBa
      rw [hr]; exact hVa
    · rw [if_neg c] at h; exact absurd h (by simp)
  rw [if_neg c1] at h
  by_cases c1 : l = 119
  · rw [if_pos c1] at h
    by_cases c : v 0 < B 9 0 ∧ v 1 ≤ 30 ∧ 1 ≤ v 2 ∧ v 2 ≤ 10 ∧ B 4 (v 0) < 3
    · rw [if_pos c] at h
      rw [← Option.some.inj h]
      refine ⟨?_, VBb_wt hV.2 c.1 c.2.1 ⟨c.2.2.1, c.2.2.2.1⟩ c.2.2.2.2⟩
      unfold VBa
      rw [wtB_r B v 0 (by omega)]; exact hVa
    · rw [if_neg c] at h; exact absurd h (by simp)
  rw [if_neg c1] at h
  exact absurd h (by simp)
/-- a text's board, read item by item from q on; where it stops, and whether without fault -/
def itemS (t : Nat → Nat) (n q : Nat) (B : Bd) : Option (Nat × Bd) :=
  if manyS (t q) = 0 then none else
  match figS t n (manyS (t q)) (manyS (t q)) (q + 1) (fun _ => 0) with
  | none => none
  | some r => match takeS (t q) r.2 B with
    | none => none
    | some B2 => some (r.1, B2)
def parS (t : Nat → Nat) (n : Nat) : Nat → Nat → Bd → Nat × Bd × Bool
  | 0, q, B => (q, B, true)
  | f + 1, q, B => if n ≤ q then (q, B, true) else match itemS t n q B with
    | none => (q, B, false)
    | some r => parS t n f r.1 r.2
theorem itemS_bd {t : Nat → Nat} {n q : Nat} {B B2 : Bd} {q2 : Nat} (hq : q < n) (hV : VB0 B) (h : itemS t n q B = some (q2, B2)) : q < q2 ∧ q2 ≤ n ∧ VB0 B2 := by
  unfold itemS at h
  by_cases hm : manyS (t q) = 0
  · rw [if_pos hm] at h; exact absurd h (by simp)
  rw [if_neg hm] at h
  cases hf : figS t n (manyS (t q)) (manyS (t q)) (q + 1) (fun _ => 0) with
  | none => rw [hf] at h; exact absurd h (by simp)
  | some r =>
    rw [hf] at h
    dsimp only at h
    cases ht : takeS (t q) r.2 B with
    | none => rw [ht] at h; exact absurd h (by simp)
    | some B3 =>
      rw [ht] at h
      have e : (r.1, B3) = (q2, B2) := Option.some.inj h
      have e1 : r.1 = q2 := congrArg Prod.fst e
      have e2 : B3 = B2 := congrArg Prod.snd e
      obtain ⟨f1, f2, f3⟩ := figS_bd (q2 := r.1) (vs2 := r.2) hf
      rw [← e2]
      exact ⟨by omega, by have := f2 (by omega); omega, VB0_take hV ht⟩
