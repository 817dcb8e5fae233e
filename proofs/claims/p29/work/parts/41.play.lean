/-- the class's game, set: who come at c, plan P -/
def GE (S : St) (c P sh bar e R : Nat) (rb : Int) : Prop := S.2.2 47 0 = P ∧ S.2.2 47 1 = c ∧ S.1 47 2 = iI sh ∧ S.1 47 3 = iI bar ∧ S.1 47 4 = iI e ∧ S.1 47 5 = iI R ∧ S.1 47 6 = iI rb
theorem kdE_c {c : Nat} (h : c = 25 ∨ c = 36) : kdE c = 0 := by rcases h with rfl | rfl <;> rfl
theorem gk_le {k m l r : Nat} : gkS k m l r ≤ m := by
  unfold gkS
  by_cases h0 : k = 0
  · rw [if_pos h0]
    by_cases h : r = 1 ∧ l ≤ m
    · rw [if_pos h]; exact h.2
    · rw [if_neg h]; omega
  rw [if_neg h0]
  by_cases h2 : k = 2
  · rw [if_pos h2]; omega
  rw [if_neg h2]
  by_cases h4 : k = 4
  · rw [if_pos h4]
    by_cases h : l ≤ m
    · rw [if_pos h]; exact h
    · rw [if_neg h]; omega
  · rw [if_neg h4]; exact Nat.min_le_right _ _
theorem gift_le (B : Bd) (e d i w l r : Nat) : giftS B e d i w l r ≤ B 2 (B 7 i) := by
  unfold giftS
  by_cases h5 : B 1 (B 7 i) = 5
  · rw [if_pos h5]; exact Nat.min_le_right _ _
  rw [if_neg h5]
  by_cases h3 : B 1 (B 7 i) = 3 ∧ d ≤ B 0 6
  · rw [if_pos h3]; omega
  · rw [if_neg h3]; exact Nat.le_trans gk_le (Nat.min_le_right _ _)
/-- facts of a giver at a place -/
theorem at_facts {B : Bd} {L p : Nat} (hV : VB B) (hL : L ≤ 30) (hp : p < cntL B L) : atL B L p < B 9 1 ∧ cntL B L ≤ 8 ∧ dayL B L (atL B L p) ≤ 30 ∧ soL B L p < B 9 0 ∧ B 9 0 ≤ 6 ∧ B 1 (soL B L p) ≤ 5 ∧ B 2 (soL B L p) ≤ 30 ∧ B 3 (soL B L p) ≤ 30 ∧ 1 ≤ B 4 (soL B L p) ∧ B 4 (soL B L p) ≤ 3 ∧ ∀ k, k < B 4 (soL B L p) → B 5 (3 * soL B L p + k) ≤ 30 ∧ 1 ≤ B 6 (3 * soL B L p + k) ∧ B 6 (3 * soL B L p + k) ≤ 10 := by
  have h1 := atL_lt hp
  have h2 := cntL_le B L
  have h3 := atL_day hp
  have h4 : B 7 (atL B L p) < B 9 0 := (hV.2.2.2 _ h1).1
  have h5 := hV.2.2.1 _ h4
  have h6 : B 9 1 ≤ 8 := hV.2.1.2.2.2
  exact ⟨h1, by omega, by omega, h4, hV.2.1.2.1, h5.1, h5.2.1, h5.2.2.1, h5.2.2.2.1, h5.2.2.2.2.1, h5.2.2.2.2.2.2⟩
theorem E_giftAt {S : St} {B : Bd} {L c P sh bar e R p w g : Nat} {rb : Int} (hV : VB B) (hL : L ≤ 30) (hc : c = 25 ∨ c = 36) (hP : P = 5 ∨ P = 15) (hG : GE S c P sh bar e R rb) (hB : BE S P B) (hC : CE S c B L) (hsh : sh ≤ 2) (hbar : bar ≤ 60) (he : e ≤ 9) (hp : p < cntL B L) (hw : w ≤ 1000) (hg : g ≤ 100000) :
    f_X1_giftAt 47 (iI p) (iI w) (iI g) S = some (iI (giftS B e (dayL B L (atL B L p)) (atL B L p) w (lackS sh bar g) (cntL B L - p)), S) := by
  obtain ⟨f1, f2, f3, f4, f5, f6, f7, f8, f9, f10, f11⟩ := at_facts hV hL hp
  obtain ⟨g1, g2, g3, g4, g5, g6, g7⟩ := hG
  obtain ⟨c0, c1⟩ := hC
  obtain ⟨x1, x2, x3, x4, x5, x6, x7, x8⟩ := c1 p hp
  have hl := lackS_le sh bar g
  have hj : ∀ k m l : Nat, k ≤ 5 → m ≤ 1000 → l ≤ 1000 → f_X1_giftAt_J122 47 (iI p) (iI w) (iI g) (iI m) (iI l) (iI k) S = some (iI (gkS k m l (cntL B L - p)), S) := fun k m l h1 h2 h3 => by
    unfold f_X1_giftAt_J122
    rw [g2, ck_pos (kdE_c hc), c0, iI_sub, show ((cntL B L : Int) - p) = ((cntL B L - p : Nat) : Int) by omega, bd_ok (E_kind h1 h2 h3 (by omega))]
  have hmin : imin (iI w) (iI (B 2 (soL B L p))) = iI (min w (B 2 (soL B L p)) : Nat) := by
    rw [imin_iI (by omega) (by omega)]; congr 1; omega
  have hs : B 7 (atL B L p) = soL B L p := rfl
  unfold f_X1_giftAt
  rw [if_neg (by rw [show (0 : Int32) = iI 0 from rfl, iI_lt (by omega) (by omega)]; omega), g2, ck_pos (kdE_c hc), c0, if_pos (by rw [iI_lt (by omega) (by omega)]; omega), ck_pos (kdE_c hc), ob_iI (by omega), iI_nat (by omega), x4]
  dsimp only [sq]
  rw [hmin, g4, bd_ok (E_lack g3 hsh (by omega) (by omega)), g2, ck_pos (kdE_c hc), ob_iI (by omega), x3]
  by_cases k5 : B 1 (soL B L p) = 5
  · have hR : giftS B e (dayL B L (atL B L p)) (atL B L p) w (lackS sh bar g) (cntL B L - p) = min (B 3 (soL B L p)) (B 2 (soL B L p)) := by
      unfold giftS; rw [hs, if_pos k5]
    rw [if_pos (by rw [show (5 : Int32) = iI 5 from rfl, iI_eq (by omega) (by omega)]; omega), hR, ck_pos (kdE_c hc), ob_iI (by omega), x5, imin_iI (by omega) (by omega)]
    congr 3; omega
  rw [if_neg (by rw [show (5 : Int32) = iI 5 from rfl, iI_eq (by omega) (by omega)]; omega)]
  by_cases k3 : B 1 (soL B L p) = 3
  · have hx : S.1 P 6 = iI (B 0 6) := hB.1.2.2.2.2.2.2.1
    have hV6 : B 0 6 ≤ 30 := hV.1.2.2.2.2.2.2.2.1
    rw [if_pos (by rw [show (3 : Int32) = iI 3 from rfl, iI_eq (by omega) (by omega)]; omega), ck_pos (kdE_c hc), ob_iI (by omega), g1, ck_pos (kdE_P hP), hx, x2]
    by_cases hd : dayL B L (atL B L p) ≤ B 0 6
    · have hR : giftS B e (dayL B L (atL B L p)) (atL B L p) w (lackS sh bar g) (cntL B L - p) = min (lackS sh bar g) (min (min w (B 2 (soL B L p)) + e) (B 2 (soL B L p))) := by
        unfold giftS; rw [hs, if_neg k5, if_pos ⟨k3, hd⟩]
      rw [if_neg (by rw [iI_lt (by omega) (by omega)]; omega), hR, g5, show iI (min w (B 2 (soL B L p)) : Nat) + iI e = iI (min w (B 2 (soL B L p)) + e : Nat) from iI_add _ _, imin_iI (by omega) (by omega), imin_iI (by omega) (by omega)]
      congr 3; omega
    · have hR : giftS B e (dayL B L (atL B L p)) (atL B L p) w (lackS sh bar g) (cntL B L - p) = gkS (B 1 (soL B L p)) (min w (B 2 (soL B L p))) (lackS sh bar g) (cntL B L - p) := by
        unfold giftS; rw [hs, if_neg k5, if_neg (fun q => hd q.2)]
      rw [if_pos (by rw [iI_lt (by omega) (by omega)]; omega), hR]
      exact hj _ _ _ (by omega) (by omega) (by omega)
  · have hR : giftS B e (dayL B L (atL B L p)) (atL B L p) w (lackS sh bar g) (cntL B L - p) = gkS (B 1 (soL B L p)) (min w (B 2 (soL B L p))) (lackS sh bar g) (cntL B L - p) := by
      unfold giftS; rw [hs, if_neg k5, if_neg (fun q => k3 q.1)]
    rw [if_neg (by rw [show (3 : Int32) = iI 3 from rfl, iI_eq (by omega) (by omega)]; omega), hR]
    exact hj _ _ _ (by omega) (by omega) (by omega)
theorem kind2_gk (k m l r : Nat) (hk : k ≤ 5) : gkS (kind2 k) m l r = gkS k m l r := by
  unfold kind2
  by_cases h : k = 3 ∨ k = 5
  · rw [if_pos h]; unfold gkS; rcases h with rfl | rfl <;> rfl
  · rw [if_neg h]
theorem E_second {S : St} {B : Bd} {L c P sh bar e R p w g gi : Nat} {rb : Int} (hV : VB B) (hL : L ≤ 30) (hc : c = 25 ∨ c = 36) (hP : P = 5 ∨ P = 15) (hG : GE S c P sh bar e R rb) (hB : BE S P B) (hC : CE S c B L) (hsh : sh ≤ 2) (hp : p < cntL B L) (hw : w ≤ 1000) (hg : g ≤ 100000) (hgi : S.1 69 p = iI gi) (hgl : gi ≤ B 2 (soL B L p)) :
    f_X1_secondGiftAt 47 (iI p) (iI w) (iI g) S = some (iI (gkS (kind2 (B 1 (soL B L p))) (min (w * B 0 9 / 100) (B 2 (soL B L p) - gi)) (lackS sh (B 0 8) g) (cntL B L - p)), S) := by
  obtain ⟨f1, f2, f3, f4, f5, f6, f7, f8, f9, f10, f11⟩ := at_facts hV hL hp
  obtain ⟨g1, g2, g3, g4, g5, g6, g7⟩ := hG
  obtain ⟨c0, c1⟩ := hC
  obtain ⟨x1, x2, x3, x4, x5, x6, x7, x8⟩ := c1 p hp
  have h7 : S.1 P 7 = iI (B 0 8) := hB.1.2.2.2.2.2.2.2.2.1
  have h8 : S.1 P 8 = iI (B 0 9) := hB.1.2.2.2.2.2.2.2.2.2
  have v8 : B 0 8 ≤ 60 := hV.1.2.2.2.2.2.2.2.2.2.1
  have v9 : B 0 9 ≤ 99 := hV.1.2.2.2.2.2.2.2.2.2.2
  have hl := lackS_le sh (B 0 8) g
  have hmul : w * B 0 9 ≤ 1000 * 99 := Nat.mul_le_mul hw v9
  have hm : imin ((iI w * iI (B 0 9)) / (100 : Int32)) (iI (B 2 (soL B L p)) - iI gi) = iI (min (w * B 0 9 / 100) (B 2 (soL B L p) - gi) : Nat) := by
    have e1 : iI w * iI (B 0 9) = iI (w * B 0 9 : Nat) := by rw [iI_mul]; congr 1
    have e2 : iI (B 2 (soL B L p)) - iI gi = iI (B 2 (soL B L p) - gi : Nat) := by rw [iI_sub]; congr 1; omega
    rw [e1, e2]
    generalize w * B 0 9 = q at hmul ⊢
    rw [show (100 : Int32) = iI 100 from rfl, iI_div (by omega) (by omega), imin_iI (by omega) (by omega)]
    congr 1; omega
  have hmb : min (w * B 0 9 / 100) (B 2 (soL B L p) - gi) ≤ 1000 := by
    have := Nat.min_le_right (w * B 0 9 / 100) (B 2 (soL B L p) - gi); omega
  unfold f_X1_secondGiftAt
  rw [g1, g2, ck_pos (kdE_P hP), ck_pos (kdE_c hc), ob_iI (by omega), ob_iI (by omega), iI_nat (by omega), h8, x4]
  dsimp only [sq, Nat.reduceAdd]
  rw [hgi, hm, ck_pos (kdE_c hc), ob_iI (by omega), ck_pos (kdE_P hP), h7, bd_ok (E_lack g3 hsh (by omega) (by omega)), g2, ck_pos (kdE_c hc), x3, c0, iI_sub, show ((cntL B L : Int) - p) = ((cntL B L - p : Nat) : Int) by omega, bd_ok (E_kind f6 hmb (by omega) (by omega)), kind2_gk _ _ _ _ f6]
theorem playS_le {B : Bd} (hV : VB B) {L : Nat} (hL : L ≤ 30) (bar e sh rq R : Nat) (hR : R ≤ 99) (w : Nat → Nat) : ∀ p, p ≤ cntL B L → (playS B L bar e sh rq R w p).1 ≤ 30 * p + (if rq ≤ p then 99 else 0) ∧ (playS B L bar e sh rq R w p).2.1 ≤ p ∧ (playS B L bar e sh rq R w p).2.2 ≤ 30 * p
  | 0, _ => by unfold playS; exact ⟨Nat.zero_le _, Nat.le_refl _, Nat.zero_le _⟩
  | p + 1, h => by
    obtain ⟨i1, i2, i3⟩ := playS_le hV hL bar e sh rq R hR w p (by omega)
    obtain ⟨f1, f2, f3, f4, f5, f6, f7, f8, f9, f10, f11⟩ := at_facts hV hL (show p < cntL B L by omega)
    unfold playS
    dsimp only
    have hgl := gift_le B e (dayL B L (atL B L p)) (atL B L p) (w p) (lackS sh bar (playS B L bar e sh rq R w p).1) (cntL B L - p)
    have f7' : B 2 (B 7 (atL B L p)) ≤ 30 := f7
    generalize giftS B e (dayL B L (atL B L p)) (atL B L p) (w p) (lackS sh bar (playS B L bar e sh rq R w p).1) (cntL B L - p) = gi at hgl ⊢
    have hk : gkS (kind2 (B 1 (B 7 (atL B L p)))) (min (w p * B 0 9 / 100) (B 2 (B 7 (atL B L p)) - gi)) (lackS sh (B 0 8) (playS B L bar e sh rq R w p).2.2) (cntL B L - p) ≤ 30 := Nat.le_trans gk_le (Nat.le_trans (Nat.min_le_right _ _) (by omega))
    generalize gkS (kind2 (B 1 (B 7 (atL B L p)))) (min (w p * B 0 9 / 100) (B 2 (B 7 (atL B L p)) - gi)) (lackS sh (B 0 8) (playS B L bar e sh rq R w p).2.2) (cntL B L - p) = g2 at hk ⊢
    refine ⟨?_, ?_, ?_⟩
    · by_cases hq : p + 1 = rq
      · rw [if_pos hq, if_pos (by omega)]
        rw [if_neg (by omega)] at i1
        omega
      · rw [if_neg hq]
        by_cases hq2 : rq ≤ p
        · rw [if_pos hq2] at i1; rw [if_pos (by omega)]; omega
        · rw [if_neg hq2] at i1; rw [if_neg (by omega)]; omega
    · by_cases hc : 0 < gi
      · rw [if_pos hc]; omega
      · rw [if_neg hc]; omega
    · by_cases hc : B 0 8 = 0
      · rw [if_pos hc]; omega
      · rw [if_neg hc]; omega
