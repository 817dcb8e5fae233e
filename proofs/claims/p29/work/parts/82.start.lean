/-! the start: what keeps the refs -/
def K2 {α : Type} (o : Option (α × St)) (S : St) : Prop := ∀ v S2, o = some (v, S2) → S2.2 = S.2
theorem K2_none {α : Type} {S : St} : K2 (none : Option (α × St)) S := fun v S2 h => by cases h
theorem K2_some {α : Type} {v : α} {S : St} : K2 (some (v, S)) S := fun v2 S2 h => by cases h; rfl
theorem K2_ob {α : Type} {i : Int32} {n : Nat} {k : Option (α × St)} {S : St} (h : K2 k S) : K2 (ob i n k) S := fun v S2 e => by
  unfold ob at e
  by_cases hc : i < 0 ∨ n ≤ i.toNatClampNeg
  · rw [if_pos hc] at e; cases e
  · rw [if_neg hc] at e; exact h v S2 e
theorem K2_if {α : Type} {p : Prop} [Decidable p] {a b : Option (α × St)} {S : St} (h1 : K2 a S) (h2 : K2 b S) : K2 (if p then a else b) S := by
  by_cases hc : p
  · rw [if_pos hc]; exact h1
  · rw [if_neg hc]; exact h2
theorem K2_sq {α β : Type} {a : β} {k : β → Option (α × St)} {S : St} (h : K2 (k a) S) : K2 (sq a k) S := h
theorem K2_sqI {α : Type} {S : St} {c j : Nat} {v : Int32} {k : St → Option (α × St)} (h : K2 (k (pI S c j v)) (pI S c j v)) : K2 (sq (pI S c j v) k) S := h
theorem K2_bd {α β : Type} {o : Option (β × St)} {k : β → St → Option (α × St)} {S : St} (h : K2 o S) (hk : ∀ v S2, K2 (k v S2) S2) : K2 (bd o k) S := by
  intro v S2 e
  cases ho : o with
  | none => rw [ho] at e; cases e
  | some r =>
    obtain ⟨w, S1⟩ := r
    rw [ho] at e
    have e2 : k w S1 = some (v, S2) := e
    exact (hk w S1 v S2 e2).trans (h w S1 ho)
theorem k2_seatL : ∀ (N c a1 : Nat) (a2 a3 l4 l5 : Int32) (S : St), K2 (f_X0_seat_L104 N c a1 a2 a3 l4 l5 S) S := by
  intro N
  induction N with
  | zero => intro c a1 a2 a3 l4 l5 S; rw [f_X0_seat_L104]; exact K2_none
  | succ n ih =>
    intro c a1 a2 a3 l4 l5 S
    rw [f_X0_seat_L104]
    refine K2_ob (K2_if (K2_sqI K2_some) (K2_ob (K2_sq (K2_ob (K2_sqI (K2_ob (K2_ob (K2_sqI (K2_ob (K2_ob (K2_sqI ?_)))))))))))
    exact ih _ _ _ _ _ _ _
theorem k2_sortOf (c : Nat) (a1 : Int32) (S : St) : K2 (f_X6_sortOf c a1 S) S := by
  unfold f_X6_sortOf
  exact K2_if K2_some (K2_if K2_some (K2_ob K2_some))
theorem k2_seat (c a1 : Nat) (a2 a3 : Int32) (S : St) : K2 (f_X0_seat c a1 a2 a3 S) S := by
  unfold f_X0_seat
  refine K2_bd (k2_sortOf _ _ _) (fun v S2 => ?_)
  exact K2_ob (K2_sqI (K2_ob (K2_sqI (K2_ob (K2_ob (K2_sqI (K2_ob (K2_ob (K2_sqI (K2_ob (K2_ob (K2_sqI (K2_ob (K2_ob (K2_sqI (K2_ob (K2_sqI (k2_seatL _ _ _ _ _ _ _ _))))))))))))))))))
theorem k2_118 (kb : Nat → Int32 → Int32 → Int32 → St → Option (Int32 × St)) (hk : ∀ l3 l4 l5 l6 S, K2 (kb l3 l4 l5 l6 S) S) : ∀ (N c a1 : Nat) (a2 : Int32) (l3 : Nat) (l4 l5 l6 l7 : Int32) (S : St), K2 (f_X0_arrange_L118 N c a1 a2 kb l3 l4 l5 l6 l7 S) S := by
  intro N
  induction N with
  | zero => intro c a1 a2 l3 l4 l5 l6 l7 S; rw [f_X0_arrange_L118]; exact K2_none
  | succ n ih =>
    intro c a1 a2 l3 l4 l5 l6 l7 S
    have j : ∀ o : Int32, K2 (f_X0_arrange_J177 c a1 a2 kb (fun l3 l4 l5 l6 l7 S => f_X0_arrange_L118 n c a1 a2 kb l3 l4 l5 l6 l7 S) l3 l4 o l6 l7 S) S := fun o => by
      unfold f_X0_arrange_J177
      exact K2_bd (k2_seat _ _ _ _ _) (fun v S2 => ih _ _ _ _ _ _ _ _ _)
    rw [f_X0_arrange_L118]
    exact K2_if (hk _ _ _ _ _) (K2_ob (K2_if (K2_if (K2_if (j 1) (K2_ob (K2_if (j l5) (j 1)))) (ih _ _ _ _ _ _ _ _ _)) (ih _ _ _ _ _ _ _ _ _)))
theorem k2_109 : ∀ (N c a1 : Nat) (a2 : Int32) (l3 : Nat) (l4 l5 l6 : Int32) (S : St), K2 (f_X0_arrange_L109 N c a1 a2 l3 l4 l5 l6 S) S := by
  intro N
  induction N with
  | zero => intro c a1 a2 l3 l4 l5 l6 S; rw [f_X0_arrange_L109]; exact K2_none
  | succ n ih =>
    intro c a1 a2 l3 l4 l5 l6 S
    rw [f_X0_arrange_L109]
    exact K2_if (K2_if (K2_if K2_some K2_some) K2_some) (k2_118 _ (fun l3 l4 l5 l6 S => ih _ _ _ _ _ _ _ _) _ _ _ _ _ _ _ _ _ _)
theorem k2_8 : ∀ (N c a1 : Nat) (a2 : Int32) (l3 : Nat) (l4 : Int32) (S : St), K2 (f_X0_arrange_L8 N c a1 a2 l3 l4 S) S := by
  intro N
  induction N with
  | zero => intro c a1 a2 l3 l4 S; rw [f_X0_arrange_L8]; exact K2_none
  | succ n ih =>
    intro c a1 a2 l3 l4 S
    have j : ∀ k0 : Int32, K2 (f_X0_arrange_J38 c a1 a2 (fun l3 l4 S => f_X0_arrange_L8 n c a1 a2 l3 l4 S) l3 l4 k0 S) S := fun k0 => by
      unfold f_X0_arrange_J38
      exact K2_if (K2_ob (K2_if (K2_ob (K2_sqI (ih _ _ _ _ _ _))) (K2_ob (K2_ob (K2_sqI (ih _ _ _ _ _ _)))))) (K2_ob (K2_sqI (ih _ _ _ _ _ _)))
    rw [f_X0_arrange_L8]
    exact K2_if (K2_sq (K2_sqI (k2_109 _ _ _ _ _ _ _ _ _))) (K2_ob (K2_ob (K2_if (j 1) (j 0))))
theorem k2_arrange (c a1 : Nat) (a2 : Int32) (S : St) : K2 (f_X0_arrange c a1 a2 S) S := by
  unfold f_X0_arrange
  exact k2_8 _ _ _ _ _ _ _
/-! the start: the class -/
def v1S (j : Nat) : Nat := if j = 0 then 1 else if j = 1 then 1 else if j = 2 then 20 else 0
def v2S (j : Nat) : Nat := if j = 1 then 20 else if j = 2 then 10 else 0
def B0S : Bd := wtB (addB clrB v1S) v2S
theorem B0_V0 : VB0 B0S := by
  have h1 : VB0 (addB clrB v1S) := VB0_take (l := 103) (v := v1S) clrB_V rfl
  exact VB0_take (l := 119) (v := v2S) h1 rfl
theorem E_addB {S : St} {Q : Nat} {B : Bd} {v : Nat → Nat} (hB : BE S Q B) (h9 : ∀ j, v j ≤ 999) (h6 : B 9 0 ≤ 6) (h8 : B 9 1 ≤ 8) (c5 : B 9 0 < 6) (c6 : 1 ≤ v 0) (c7 : B 9 1 + v 0 ≤ 8) : ∃ S2 : St, f_X6_add (Q + 1) (iI (v 0)) (iI (v 1)) (iI (v 2)) (iI (v 3)) (iI (v 4)) S = some (1, S2) ∧ Fr (PQ Q) S S2 ∧ S2.2 = S.2 ∧ BE S2 Q (addB B v) := by
  have a0 := h9 0
  have b0 : S.1 (Q + 1) 0 = iI (B 9 0) := hB.2.1
  have b1 : S.1 (Q + 1) 1 = iI (B 9 1) := hB.2.2.1
  obtain ⟨S3, hS3⟩ : ∃ S3, S3 = pI (pI (pI (pI S (Q + 2) (B 9 0) (iI (v 1))) (Q + 3) (B 9 0) (iI (v 2))) (Q + 4) (B 9 0) (iI (0 : Nat))) (Q + 5) (B 9 0) (iI (0 : Nat)) := ⟨_, rfl⟩
  have r3 : ∀ a, a ≠ Q + 2 → a ≠ Q + 3 → a ≠ Q + 4 → a ≠ Q + 5 → S3.1 a = S.1 a := fun a h1 h2 h3 h4 => by rw [hS3, pI_row h4, pI_row h3, pI_row h2, pI_row h1]
  obtain ⟨S2, y1, y2, y3, y4, y5, y6⟩ := E_addL (Q := Q) (s0 := B 9 0) (g0 := B 9 1) (n := v 0) (d := v 3) (e := v 4) (a2 := iI (v 1)) (a3 := iI (v 2)) c7 (h9 3) (h9 4) (v 0) FU 0 S3 (by omega) (by unfold FU; omega) (by rw [r3 _ (by omega) (by omega) (by omega) (by omega)]; exact b0) (by rw [r3 _ (by omega) (by omega) (by omega) (by omega)]; exact b1)
  have had : f_X6_add (Q + 1) (iI (v 0)) (iI (v 1)) (iI (v 2)) (iI (v 3)) (iI (v 4)) S = some (1, S2) := by
    unfold f_X6_add
    rw [b0, b1, show (6 : Int32) = iI 6 from rfl, if_neg (by rw [iI_le (by omega) (by omega)]; omega), show (1 : Int32) = iI 1 from rfl, if_neg (by rw [iI_lt (by omega) (by omega)]; omega), iI_add, show (8 : Int32) = iI 8 from rfl, if_pos (by rw [iI_le (by omega) (by omega)]; omega), ob_iI (by omega), iI_nat (by omega), show Q + 1 + 1 = Q + 2 from rfl, show Q + 1 + 2 = Q + 3 from rfl, show Q + 1 + 3 = Q + 4 from rfl, show Q + 1 + 4 = Q + 5 from rfl, sq_k, pI_row (show Q + 1 ≠ Q + 2 by omega), b0, ob_iI (by omega), iI_nat (by omega), sq_k, pI_row (show Q + 1 ≠ Q + 3 by omega), pI_row (show Q + 1 ≠ Q + 2 by omega), b0, ob_iI (by omega), iI_nat (by omega), sq_k, pI_row (show Q + 1 ≠ Q + 4 by omega), pI_row (show Q + 1 ≠ Q + 3 by omega), pI_row (show Q + 1 ≠ Q + 2 by omega), b0, ob_iI (by omega), iI_nat (by omega), sq_k, show (0 : Int32) = iI (0 : Nat) from rfl, ← hS3]
    exact y1
  have fr : ∀ a q, ¬ PQ Q a q → S2.1 a q = S.1 a q := fun a q h => by
    unfold PQ at h
    rw [y5 a q (by omega) (fun z => by omega), r3 a (by omega) (by omega) (by omega) (by omega)]
  have s22 : S2.2 = S.2 := by rw [y6, hS3]; rfl
  refine ⟨S2, had, Fr_rows fr s22, s22, ?_⟩
  obtain ⟨n1, n2, n3, n4, n10, n11, n12⟩ := addB_n B v
  have q0 : ∀ k, S2.1 Q k = S.1 Q k := fun k => by rw [y5 Q k (by omega) (fun z => by omega), r3 Q (by omega) (by omega) (by omega) (by omega)]
  have e90 : addB B v 9 0 = B 9 0 + 1 := by rw [addB_9, if_pos rfl]
  have e91 : addB B v 9 1 = B 9 1 + v 0 := by rw [addB_9, if_neg (by omega), if_pos rfl]
  have z0 : ∀ k, addB B v 0 k = B 0 k := fun k => by
    unfold addB
    rw [if_neg (by omega), if_neg (by omega), if_neg (by omega)]
    by_cases hb : k = B 9 0
    · rw [if_pos hb, if_neg (by omega), if_neg (by omega), if_neg (by omega), if_neg (by omega), if_neg (by omega), if_neg (by omega), if_neg (by omega)]
    · rw [if_neg hb]
  obtain ⟨ha, hb1, hb2, hb3, hb4⟩ := hB
  refine ⟨?_, by rw [e90]; exact y2, by rw [e91]; exact y3, fun s hs => ?_, fun i hi => ?_⟩
  · rw [q0, q0, q0, q0, q0, q0, q0, q0, q0, q0, z0, z0, z0, z0, z0, z0, z0, z0, z0, z0]; exact ha
  · rw [e90] at hs
    have t : ∀ q, 2 ≤ q → q ≤ 7 → ∀ k, S2.1 (Q + q) k = S3.1 (Q + q) k := fun q h1 h2 k => y5 _ k (by omega) (fun z => by omega)
    rw [t 2 (by omega) (by omega), t 3 (by omega) (by omega), t 4 (by omega) (by omega), t 5 (by omega) (by omega)]
    by_cases hc : s = B 9 0
    · rw [hc, n1, n2, n3, n4, hS3]
      refine ⟨?_, ?_, ?_, ?_, fun k hk => absurd hk (Nat.not_lt_zero _)⟩
      · rw [pI_row (by omega), pI_row (by omega), pI_row (by omega), pI_1, if_pos ⟨rfl, rfl⟩]
      · rw [pI_row (by omega), pI_row (by omega), pI_1, if_pos ⟨rfl, rfl⟩]
      · rw [pI_row (by omega), pI_1, if_pos ⟨rfl, rfl⟩]
      · rw [pI_1, if_pos ⟨rfl, rfl⟩]
    · have hs2 : s < B 9 0 := by omega
      have o : ∀ a, (a ≠ 7 ∧ a ≠ 8 ∧ a ≠ 9) → addB B v a s = B a s := fun a ha => addB_o B v a s ha hc
      rw [o 1 (by omega), o 2 (by omega), o 3 (by omega), o 4 (by omega)]
      obtain ⟨z1, z2, z3, z4, z5⟩ := hb3 s hs2
      have w : ∀ q, 2 ≤ q → q ≤ 5 → S3.1 (Q + q) s = S.1 (Q + q) s := fun q h1 h2 => by
        rw [hS3, pI_1, if_neg (fun z => hc z.2), pI_1, if_neg (fun z => hc z.2), pI_1, if_neg (fun z => hc z.2), pI_1, if_neg (fun z => hc z.2)]
      rw [w 2 (by omega) (by omega), w 3 (by omega) (by omega), w 4 (by omega) (by omega), w 5 (by omega) (by omega)]
      refine ⟨z1, z2, z3, z4, fun k hk => ?_⟩
      have hr : ∀ a, a = 5 ∨ a = 6 → addB B v a (3 * s + k) = B a (3 * s + k) := fun a ha => by
        unfold addB
        rw [if_neg (by omega), if_neg (by omega), if_neg (by omega)]
        by_cases hb : 3 * s + k = B 9 0
        · rw [if_pos hb, if_neg (by omega), if_neg (by omega), if_neg (by omega), if_neg (by omega), if_neg (by omega), if_neg (by omega), if_neg (by omega)]
        · rw [if_neg hb]
      rw [t 6 (by omega) (by omega), t 7 (by omega) (by omega), r3 (Q + 6) (by omega) (by omega) (by omega) (by omega), r3 (Q + 7) (by omega) (by omega) (by omega) (by omega), hr 5 (Or.inl rfl), hr 6 (Or.inr rfl)]
      exact z5 k hk
  · rw [e91] at hi
    rw [addB_7, addB_8]
    by_cases hc : B 9 1 ≤ i
    · rw [if_pos hc, if_pos hc]
      have := y4 (i - B 9 1) (Nat.zero_le _) (by omega)
      rw [show B 9 1 + (i - B 9 1) = i by omega] at this
      exact this
    · rw [if_neg hc, if_neg hc, y5 (Q + 8) i (by omega) (fun _ => by omega), y5 (Q + 9) i (by omega) (fun _ => by omega), r3 (Q + 8) (by omega) (by omega) (by omega) (by omega), r3 (Q + 9) (by omega) (by omega) (by omega) (by omega)]
      exact hb4 i (by omega)
theorem E_wtB {S : St} {Q : Nat} {B : Bd} {v : Nat → Nat} (hV : VB0 B) (hB : BE S Q B) (h9 : ∀ j, v j ≤ 999) (c4 : v 0 < B 9 0) (c5 : B 4 (v 0) < 3) : ∃ S3 : St, f_X6_addWorth (Q + 1) (iI (v 0)) (iI (v 1)) (iI (v 2)) S = some (1, S3) ∧ Fr (PQ Q) S S3 ∧ S3.2 = S.2 ∧ BE S3 Q (wtB B v) := by
  have a0 := h9 0
  have h6 := hV.2.1.1
  have hh := E_has (k := v 0) hB a0 h6
  have e5 : S.1 (Q + 5) (v 0) = iI (B 4 (v 0)) := (hB.2.2.2.1 (v 0) c4).2.2.2.1
  have x1 : iI (v 0) * (3 : Int32) + iI (B 4 (v 0)) = iI (3 * v 0 + B 4 (v 0) : Nat) := by rw [show (3 : Int32) = iI 3 from rfl, iI_mul, iI_add]; congr 1; omega
  obtain ⟨S3, hS3⟩ : ∃ S3, S3 = pI (pI (pI S (Q + 6) (3 * v 0 + B 4 (v 0)) (iI (v 1))) (Q + 7) (3 * v 0 + B 4 (v 0)) (iI (v 2))) (Q + 5) (v 0) (iI (B 4 (v 0) + 1 : Nat)) := ⟨_, rfl⟩
  have haw : f_X6_addWorth (Q + 1) (iI (v 0)) (iI (v 1)) (iI (v 2)) S = some (1, S3) := by
    unfold f_X6_addWorth
    rw [hh, bd_ok rfl, decide_eq_true c4, if_neg (show ¬ bI true = 0 by decide), ob_iI (by omega), iI_nat (by omega), show Q + 1 + 4 = Q + 5 from rfl, show Q + 1 + 5 = Q + 6 from rfl, show Q + 1 + 6 = Q + 7 from rfl, e5, show (3 : Int32) = iI 3 from rfl, if_pos (by rw [iI_lt (by omega) (by omega)]; omega), ob_iI (by omega), ← show (3 : Int32) = iI 3 from rfl, x1, ob_iI (by omega), iI_nat (by omega), sq_k, ob_iI (by omega), pI_row (show Q + 5 ≠ Q + 6 by omega), e5, x1, ob_iI (by omega), iI_nat (by omega), sq_k, ob_iI (by omega), ob_iI (by omega), pI_row (show Q + 5 ≠ Q + 7 by omega), pI_row (show Q + 5 ≠ Q + 6 by omega), e5, show iI (B 4 (v 0)) + (1 : Int32) = iI (B 4 (v 0) + 1 : Nat) from iI_add _ 1, sq_k, ← hS3]
  refine ⟨S3, haw, ?_, by rw [hS3]; rfl, ?_⟩
  · rw [hS3]
    exact ((Fr.pI ⟨by omega, by omega⟩).tr (Fr.pI ⟨by omega, by omega⟩)).tr (Fr.pI ⟨by omega, by omega⟩)
  · obtain ⟨ha, hb1, hb2, hb3, hb4⟩ := hB
    have r : ∀ a, a ≠ Q + 5 → a ≠ Q + 6 → a ≠ Q + 7 → S3.1 a = S.1 a := fun a h1 h2 h3 => by rw [hS3, pI_row h1, pI_row h3, pI_row h2]
    unfold BE
    rw [wtB_r B v 9 (by omega), wtB_r B v 0 (by omega), wtB_r B v 1 (by omega), wtB_r B v 2 (by omega), wtB_r B v 3 (by omega), wtB_r B v 7 (by omega), wtB_r B v 8 (by omega), r Q (by omega) (by omega) (by omega), r (Q + 1) (by omega) (by omega) (by omega), r (Q + 2) (by omega) (by omega) (by omega), r (Q + 3) (by omega) (by omega) (by omega), r (Q + 4) (by omega) (by omega) (by omega), r (Q + 8) (by omega) (by omega) (by omega), r (Q + 9) (by omega) (by omega) (by omega)]
    refine ⟨ha, hb1, hb2, fun s hs => ?_, hb4⟩
    obtain ⟨z1, z2, z3, z4, z5⟩ := hb3 s hs
    have b4s := (hV.2.2.1 s hs).2.2.2.1
    have q5 : S3.1 (Q + 5) s = if s = v 0 then iI (B 4 (v 0) + 1 : Nat) else S.1 (Q + 5) s := by
      rw [hS3, pI_1, pI_row (show Q + 5 ≠ Q + 7 by omega), pI_row (show Q + 5 ≠ Q + 6 by omega)]
      by_cases h : s = v 0
      · rw [if_pos ⟨rfl, h⟩, if_pos h]
      · rw [if_neg (fun z => h z.2), if_neg h]
    have q6 : ∀ k, S3.1 (Q + 6) k = if k = 3 * v 0 + B 4 (v 0) then iI (v 1) else S.1 (Q + 6) k := fun k => by
      rw [hS3, pI_row (show Q + 6 ≠ Q + 5 by omega), pI_row (show Q + 6 ≠ Q + 7 by omega), pI_1]
      by_cases h : k = 3 * v 0 + B 4 (v 0)
      · rw [if_pos ⟨rfl, h⟩, if_pos h]
      · rw [if_neg (fun z => h z.2), if_neg h]
    have q7 : ∀ k, S3.1 (Q + 7) k = if k = 3 * v 0 + B 4 (v 0) then iI (v 2) else S.1 (Q + 7) k := fun k => by
      rw [hS3, pI_row (show Q + 7 ≠ Q + 5 by omega), pI_1, pI_row (show Q + 7 ≠ Q + 6 by omega)]
      by_cases h : k = 3 * v 0 + B 4 (v 0)
      · rw [if_pos ⟨rfl, h⟩, if_pos h]
      · rw [if_neg (fun z => h z.2), if_neg h]
    refine ⟨z1, z2, z3, ?_, fun k hk => ?_⟩
    · rw [q5, wtB_4]
      by_cases h : s = v 0
      · rw [if_pos h, if_pos h]
      · rw [if_neg h, if_neg h]; exact z4
    · rw [q6, q7, wtB_5, wtB_6]
      rw [wtB_4] at hk
      by_cases h2 : 3 * s + k = 3 * v 0 + B 4 (v 0)
      · rw [if_pos h2, if_pos h2, if_pos h2, if_pos h2]; exact ⟨rfl, rfl⟩
      · rw [if_neg h2, if_neg h2, if_neg h2, if_neg h2]
        refine z5 k ?_
        by_cases h : s = v 0
        · rw [if_pos h] at hk; rw [h] at h2 ⊢; omega
        · rw [if_neg h] at hk; exact hk
def T0S : Tst := ((0, fun _ => 0), B0S, (fun _ => 0), 0, 0, (fun _ _ => 0), fun _ => 0)
theorem B0_VB : VB B0S := VB_of B0_V0 (by decide) (by decide)
theorem T0_V : VT T0S := ⟨Nat.zero_le _, fun k hk => absurd hk (Nat.not_lt_zero _), B0_VB, fun i => Nat.zero_le _, Nat.zero_le _, Nat.zero_le _, fun j i => Nat.zero_le _, fun j => Nat.zero_le _⟩
theorem start_E : ∃ (I : Nat → Nat → Int32) (J : Nat → Nat → Int64), f_X9_initB 0 S0 = some ((), (I, J, R0)) ∧ IE (I, J, R0) T0S := by
  obtain ⟨S1, hS1⟩ : ∃ S1, S1 = pI (pI (pI (pI (pI (pI (pI (pI (pI (pI (pI (pI S0 5 0 20) 5 1 0) 5 2 9) 5 3 20) 5 4 0) 5 5 0) 5 6 0) 5 9 0) 5 7 0) 5 8 0) 6 0 0) 6 1 0 := ⟨_, rfl⟩
  have hc : f_X2_clear 5 S0 = some ((), S1) := by
    unfold f_X2_clear f_X6_clear
    rw [sq_k, sq_k, sq_k, sq_k, sq_k, sq_k, sq_k, sq_k, sq_k, sq_k, sq_k, sq_k, bd_ok rfl, hS1]
  have w : ∀ k, PQ 5 5 k := fun k => PQ_Q 5 k
  have w1 : ∀ k, PQ 5 6 k := fun k => ⟨by omega, by omega⟩
  have f1 : Fr (PQ 5) S0 S1 := by
    rw [hS1]
    exact (((((((((((Fr.pI (w _)).tr (Fr.pI (w _))).tr (Fr.pI (w _))).tr (Fr.pI (w _))).tr (Fr.pI (w _))).tr (Fr.pI (w _))).tr (Fr.pI (w _))).tr (Fr.pI (w _))).tr (Fr.pI (w _))).tr (Fr.pI (w _))).tr (Fr.pI (w1 _))).tr (Fr.pI (w1 _))
  have hB1 : BE S1 5 clrB := by
    refine ⟨?_, ?_, ?_, fun s hs => absurd hs (Nat.not_lt_zero _), fun s hs => absurd hs (Nat.not_lt_zero _)⟩
    · rw [hS1, pI_row (show (5 : Nat) ≠ 6 by omega), pI_row (show (5 : Nat) ≠ 6 by omega)]
      refine ⟨?_, ?_, ?_, ?_, ?_, ?_, ?_, ?_, ?_, ?_⟩ <;> (simp [pI_1, clrB]; try rfl)
    · rw [hS1, pI_1, if_neg (by omega), pI_1, if_pos ⟨rfl, rfl⟩]; rfl
    · rw [hS1, pI_1, if_pos ⟨rfl, rfl⟩]; rfl
  have s1 : S1.2 = S0.2 := by rw [hS1]; rfl
  obtain ⟨S2, a1, a2, a3, a4⟩ := E_addB (v := v1S) hB1 (fun j => by unfold v1S; by_cases h : j = 0 <;> by_cases h1 : j = 1 <;> by_cases h2 : j = 2 <;> simp [h, h1, h2]) (Nat.zero_le _) (Nat.zero_le _) (by decide) (by decide) (by decide)
  have hV1 : VB0 (addB clrB v1S) := VB0_take (l := 103) (v := v1S) clrB_V rfl
  obtain ⟨S3, b1, b2, b3, b4⟩ := E_wtB (v := v2S) hV1 a4 (fun j => by unfold v2S; by_cases h1 : j = 1 <;> by_cases h2 : j = 2 <;> simp [h1, h2]) (by decide) (by decide)
  have hB3 : BE S3 5 B0S := b4
  obtain ⟨S4, o, c1, c2, c3, c4, c5⟩ := E_arrange (L := 9) B0_VB (by omega) (Or.inl rfl) (Or.inl rfl) hB3
  have s4 : S4.2 = S3.2 := k2_arrange _ _ _ _ _ _ c1
  have s40 : S4.2 = S0.2 := by rw [s4, b3, a3, s1]
  have hf : Fr (fun a k => PQ 5 a k ∨ (25 ≤ a ∧ a ≤ 25 + 10)) S0 S4 := (((f1.tr a2).tr b2).wk (fun a k h => Or.inl h)).tr (c5.wk (fun a k h => Or.inr h))
  have z : ∀ a k, (a < 5 ∨ (14 < a ∧ a < 25) ∨ 35 < a) → S4.1 a k = 0 := fun a k ha => hf.1 a k (by unfold PQ; omega)
  have hI : IE S4 T0S := by
    refine Or.inl ⟨⟨by rw [s40]; rfl, by rw [s40]; rfl, z 70 0 (by omega), z 71 0 (by omega), z 72 0 (by omega), z 78 0 (by omega), z 84 0 (by omega)⟩, z 1 1 (by omega), fun k hk => absurd hk (Nat.not_lt_zero _), BE_Pc (Or.inl rfl) (Or.inl rfl) hB3 c5, c2, fun i hi => z 99 i (by omega), z 0 11 (by omega), z 100 0 (by omega), fun j hj => absurd hj (Nat.not_lt_zero _), Or.inl (z 0 13 (by omega)), Or.inl (z 0 14 (by omega)), Or.inl (z 0 15 (by omega))⟩
  have e : S4 = (S4.1, S4.2.1, R0) := by
    have h2 : S4.2.2 = R0 := by rw [s40]; rfl
    rw [← h2]
  refine ⟨S4.1, S4.2.1, ?_, by rw [← e]; exact hI⟩
  rw [← e]
  have g : ∀ S : St, S.2 = S0.2 → S.2.2 0 2 = 5 := fun S h => by rw [h]; rfl
  have k5 : kdE 5 = 2 := kdE_P (Or.inl rfl)
  have a1' : f_X6_add 6 1 1 20 0 0 S1 = some (1, S2) := a1
  have b1' : f_X6_addWorth 6 0 20 10 S2 = some (1, S3) := b1
  have c1' : f_X0_arrange 25 5 (iI (9 : Nat)) S3 = some (o, S4) := c1
  have e9 : S3.1 5 2 = iI (9 : Nat) := hB3.1.2.2.1
  unfold f_X9_initB
  rw [g S0 rfl, ck_pos k5, hc, bd_ok rfl, g S1 s1, ck_pos k5]
  dsimp only [Nat.reduceAdd]
  rw [a1', bd_ok rfl, g S2 (by rw [a3, s1]), ck_pos k5]
  dsimp only [Nat.reduceAdd]
  rw [b1', bd_ok rfl, g S3 (by rw [b3, a3, s1]), ck_pos k5, ck_pos k5, e9, c1', bd_ok rfl]
