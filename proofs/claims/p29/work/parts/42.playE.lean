theorem IE_Z {S : St} {T : Tst} (h : IE S T) : ZE S := by
  rcases h with h | h
  · exact h.1.2.2
  · exact h.1.2.2
/-- the class's play, p places done -/
def GP (S : St) (B : Bd) (L bar e sh rq R : Nat) (w : Nat → Nat) (p : Nat) : Prop :=
  (∀ q, q ≤ p → S.1 70 q = iI (playS B L bar e sh rq R w q).1 ∧ S.1 71 q = iI (playS B L bar e sh rq R w q).2.1 ∧ S.1 72 q = iI (playS B L bar e sh rq R w q).2.2 ∨ (q ≤ p ∧ B 0 8 = 0 ∧ S.1 70 q = iI (playS B L bar e sh rq R w q).1 ∧ S.1 71 q = iI (playS B L bar e sh rq R w q).2.1)) ∧
  ∀ q, q < p → S.1 69 q = iI (giftP B L bar e sh rq R w q)
theorem GP_1 {S : St} {B : Bd} {L bar e sh rq R p q : Nat} {w : Nat → Nat} (h : GP S B L bar e sh rq R w p) (hq : q ≤ p) : S.1 70 q = iI (playS B L bar e sh rq R w q).1 ∧ S.1 71 q = iI (playS B L bar e sh rq R w q).2.1 ∧ (0 < B 0 8 → S.1 72 q = iI (playS B L bar e sh rq R w q).2.2) := by
  rcases h.1 q hq with h | h
  · exact ⟨h.1, h.2.1, fun _ => h.2.2⟩
  · exact ⟨h.2.2.1, h.2.2.2, fun h0 => absurd h.2.1 (by omega)⟩
theorem GP_of {S : St} {B : Bd} {L bar e sh rq R p : Nat} {w : Nat → Nat} (h1 : ∀ q, q ≤ p → S.1 70 q = iI (playS B L bar e sh rq R w q).1 ∧ S.1 71 q = iI (playS B L bar e sh rq R w q).2.1 ∧ (0 < B 0 8 → S.1 72 q = iI (playS B L bar e sh rq R w q).2.2)) (h2 : ∀ q, q < p → S.1 69 q = iI (giftP B L bar e sh rq R w q)) : GP S B L bar e sh rq R w p := by
  refine ⟨fun q hq => ?_, h2⟩
  obtain ⟨a, b, c⟩ := h1 q hq
  by_cases h : B 0 8 = 0
  · exact Or.inr ⟨hq, h, a, b⟩
  · exact Or.inl ⟨a, b, c (by omega)⟩
theorem GP_0 {S : St} (hz : ZE S) (B : Bd) (L bar e sh rq R : Nat) (w : Nat → Nat) : GP S B L bar e sh rq R w 0 := by
  refine GP_of (fun q hq => ?_) (fun q hq => absurd hq (Nat.not_lt_zero _))
  have : q = 0 := by omega
  subst this
  exact ⟨hz.1, hz.2.1, fun _ => hz.2.2.1⟩
def PPly (a k : Nat) : Prop := a = 69 ∨ (70 ≤ a ∧ a ≤ 72 ∧ k ≠ 0)
theorem E_play {S : St} {B : Bd} {L c P sh bar e R rq p : Nat} {rb : Int} {w : Nat → Nat} (hV : VB B) (hL : L ≤ 30) (hc : c = 25 ∨ c = 36) (hP : P = 5 ∨ P = 15) (hG : GE S c P sh bar e R rb) (hB : BE S P B) (hC : CE S c B L) (hsh : sh ≤ 2) (hbar : bar ≤ 60) (he : e ≤ 9) (hR : R ≤ 99) (hrb : rb = (rq : Int) - 1) (hrq : rq ≤ 100) (hp : p < cntL B L) (hw : w p ≤ 1000) (hGP : GP S B L bar e sh rq R w p) :
    ∃ S2 : St, f_X1_play 47 (iI p) (iI (w p)) S = some ((), S2) ∧ GP S2 B L bar e sh rq R w (p + 1) ∧ Fr PPly S S2 := by
  have hat := at_facts hV hL hp
  obtain ⟨f1, f2, f3, f4, f5, f6, f7, f8, f9, f10, f11⟩ := hat
  have hG' := hG
  obtain ⟨g1, g2, g3, g4, g5, g6, g7⟩ := hG'
  obtain ⟨a1, a2, a3⟩ := GP_1 hGP (Nat.le_refl p)
  obtain ⟨b1, b2, b3⟩ := playS_le hV hL bar e sh rq R hR w p (by omega)
  have b1' : (playS B L bar e sh rq R w p).1 ≤ 400 := by
    by_cases hq : rq ≤ p
    · rw [if_pos hq] at b1; omega
    · rw [if_neg hq] at b1; omega
  have hgift := E_giftAt (w := w p) hV hL hc hP hG hB hC hsh hbar he hp hw (show (playS B L bar e sh rq R w p).1 ≤ 100000 by omega)
  have hgl : giftP B L bar e sh rq R w p ≤ B 2 (soL B L p) := gift_le B e _ _ _ _ _
  have hstep : playS B L bar e sh rq R w (p + 1) = (if p + 1 = rq then (playS B L bar e sh rq R w p).1 + giftP B L bar e sh rq R w p + min ((playS B L bar e sh rq R w p).1 + giftP B L bar e sh rq R w p) R else (playS B L bar e sh rq R w p).1 + giftP B L bar e sh rq R w p, (playS B L bar e sh rq R w p).2.1 + (if 0 < giftP B L bar e sh rq R w p then 1 else 0),
      (playS B L bar e sh rq R w p).2.2 + (if B 0 8 = 0 then 0 else gkS (kind2 (B 1 (soL B L p))) (min (w p * B 0 9 / 100) (B 2 (soL B L p) - giftP B L bar e sh rq R w p)) (lackS sh (B 0 8) (playS B L bar e sh rq R w p).2.2) (cntL B L - p))) := rfl
  have hgift' : f_X1_giftAt 47 (iI p) (iI (w p)) (iI (playS B L bar e sh rq R w p).1) S = some (iI (giftP B L bar e sh rq R w p), S) := hgift
  obtain ⟨gi, hgi⟩ : ∃ gi, gi = giftP B L bar e sh rq R w p := ⟨_, rfl⟩
  rw [← hgi] at hgl hstep hgift'
  obtain ⟨G1, hG1⟩ : ∃ G1 : Nat, G1 = (playS B L bar e sh rq R w (p + 1)).1 := ⟨_, rfl⟩
  have h7 : S.1 P 7 = iI (B 0 8) := hB.1.2.2.2.2.2.2.2.2.1
  have v8 : B 0 8 ≤ 60 := hV.1.2.2.2.2.2.2.2.2.2.1
  -- the tail from the store of who on
  have tail2 : ∀ S3 : St, (∀ a, 69 ≤ a → a ≤ 72 → ∀ k, (a = 69 ∧ k = p) ∨ (a = 70 ∧ k = p + 1) ∨ S3.1 a k = S.1 a k) → (∀ a, (a < 69 ∨ 72 < a) → S3.1 a = S.1 a) → S3.2 = S.2 → S3.1 69 p = iI gi → S3.1 70 (p + 1) = iI G1 → S3.1 71 p = iI (playS B L bar e sh rq R w p).2.1 →
      ∃ S2 : St, f_X1_play_J86 47 (iI p) (iI (w p)) (iI gi) S3 = some ((), S2) ∧ GP S2 B L bar e sh rq R w (p + 1) ∧ Fr PPly S S2 := by
    intro S3 q1 q2 q3 q4 q5 q6
    have hwho : ∃ d : Nat, d = (if 0 < gi then 1 else 0) ∧ f_X1_play_J86 47 (iI p) (iI (w p)) (iI gi) S3 = f_X1_play_J108 47 (iI p) (iI (w p)) 71 (iI (p + 1 : Nat)) (iI (playS B L bar e sh rq R w p).2.1) (iI d) S3 := by
      by_cases h : 0 < gi
      · refine ⟨1, by rw [if_pos h], ?_⟩
        unfold f_X1_play_J86
        rw [ob_iI (by omega), if_neg (by rw [show (0 : Int32) = iI 0 from rfl, iI_le (by omega) (by omega)]; omega), iI_nat (by omega)]
        dsimp only [Nat.reduceAdd]
        rw [q6, show iI p + (1 : Int32) = iI (p + 1 : Nat) from iI_add p 1]; rfl
      · refine ⟨0, by rw [if_neg h], ?_⟩
        unfold f_X1_play_J86
        rw [ob_iI (by omega), if_pos (by rw [show (0 : Int32) = iI 0 from rfl, iI_le (by omega) (by omega)]; omega), iI_nat (by omega)]
        dsimp only [Nat.reduceAdd]
        rw [q6, show iI p + (1 : Int32) = iI (p + 1 : Nat) from iI_add p 1]; rfl
    obtain ⟨d, hd, hJ⟩ := hwho
    rw [hJ]
    have hd1 : d ≤ 1 := by rw [hd]; by_cases h : 0 < gi <;> simp [h]
    unfold f_X1_play_J108
    rw [ob_iI (by omega), iI_nat (by omega)]
    dsimp only [sq, Nat.reduceAdd]
    rw [show iI (playS B L bar e sh rq R w p).2.1 + iI d = iI ((playS B L bar e sh rq R w p).2.1 + d : Nat) from iI_add _ _]
    obtain ⟨S4, hS4⟩ : ∃ S4, S4 = pI S3 71 (p + 1) (iI ((playS B L bar e sh rq R w p).2.1 + d : Nat)) := ⟨_, rfl⟩
    have hG4 : GE S4 c P sh bar e R rb := by
      rw [hS4]; unfold GE; rw [pI_2, q3, pI_row (by omega), q2 47 (by omega)]; exact hG
    have rows4 : ∀ a, (a < 69 ∨ 72 < a) → S4.1 a = S.1 a := fun a ha => by rw [hS4, pI_row (by omega), q2 a ha]
    have hB4 : BE S4 P B := by
      have r : ∀ j, j ≤ 9 → S4.1 (P + j) = S.1 (P + j) := fun j hj => rows4 _ (by omega)
      have r0 := r 0 (by omega)
      rw [Nat.add_zero] at r0
      unfold BE at hB ⊢
      rw [r0, r 1 (by omega), r 2 (by omega), r 3 (by omega), r 4 (by omega), r 5 (by omega), r 6 (by omega), r 7 (by omega), r 8 (by omega), r 9 (by omega)]
      exact hB
    have hC4 : CE S4 c B L := by
      have r : ∀ j, j ≤ 9 → S4.1 (c + j) = S.1 (c + j) := fun j hj => rows4 _ (by omega)
      have r0 := r 0 (by omega)
      rw [Nat.add_zero] at r0
      unfold CE at hC ⊢
      rw [r0, r 1 (by omega), r 2 (by omega), r 3 (by omega), r 4 (by omega), r 5 (by omega), r 6 (by omega), r 7 (by omega), r 8 (by omega), r 9 (by omega)]
      exact hC
    have hgp : ∀ S2 : St, (∀ a, a ≠ 72 → S2.1 a = S4.1 a) → (∀ k, k ≠ p + 1 → S2.1 72 k = S4.1 72 k) → (0 < B 0 8 → S2.1 72 (p + 1) = iI (playS B L bar e sh rq R w (p + 1)).2.2) → GP S2 B L bar e sh rq R w (p + 1) := by
      intro S2 s1 s2 s3
      refine GP_of (fun q hq => ?_) (fun q hq => ?_)
      · rw [s1 70 (by omega), s1 71 (by omega)]
        by_cases hqp : q = p + 1
        · subst hqp
          refine ⟨?_, ?_, s3⟩
          · rw [hS4, pI_row (by omega), q5, hG1]
          · rw [hS4, pI_1, if_pos ⟨rfl, rfl⟩, hstep, hd]
        · obtain ⟨z1, z2, z3⟩ := GP_1 hGP (show q ≤ p by omega)
          rw [hS4, pI_row (by omega), pI_1, if_neg (by omega)]
          refine ⟨?_, ?_, fun h0 => ?_⟩
          · rcases q1 70 (by omega) (by omega) q with z | z | z
            · omega
            · omega
            · rw [z]; exact z1
          · rcases q1 71 (by omega) (by omega) q with z | z | z
            · omega
            · omega
            · rw [z]; exact z2
          · rw [s2 q hqp, hS4, pI_row (by omega)]
            rcases q1 72 (by omega) (by omega) q with z | z | z
            · omega
            · omega
            · rw [z]; exact z3 h0
      · rw [s1 69 (by omega), hS4, pI_row (by omega)]
        by_cases hqp : q = p
        · subst hqp; rw [q4, hgi]
        · rcases q1 69 (by omega) (by omega) q with z | z | z
          · omega
          · omega
          · rw [z]; exact hGP.2 q (by omega)
    have hfr4 : Fr PPly S S4 := Fr_rows (fun a k h => by
      by_cases ha : 69 ≤ a ∧ a ≤ 72
      · rw [hS4, pI_1, if_neg (by unfold PPly at h; omega)]
        rcases q1 a ha.1 ha.2 k with z | z | z
        · unfold PPly at h; omega
        · unfold PPly at h; omega
        · exact z
      · rw [rows4 a (by omega)]) (by rw [hS4]; exact q3)
    rw [← hS4]
    have g1' : S4.2.2 47 0 = P := hG4.1
    have h7' : S4.1 P 7 = iI (B 0 8) := hB4.1.2.2.2.2.2.2.2.2.1
    rw [g1', ck_pos (kdE_P hP), h7']
    by_cases h80 : B 0 8 = 0
    · rw [if_pos (by rw [show (0 : Int32) = iI 0 from rfl, iI_le (by omega) (by omega)]; omega)]
      exact ⟨S4, rfl, hgp S4 (fun _ _ => rfl) (fun _ _ => rfl) (fun h => absurd h (by omega)), hfr4⟩
    · rw [if_neg (by rw [show (0 : Int32) = iI 0 from rfl, iI_le (by omega) (by omega)]; omega), ob_iI (by omega), iI_nat (by omega)]
      have h72 : S4.1 72 p = iI (playS B L bar e sh rq R w p).2.2 := by
        rw [hS4, pI_row (by omega)]
        rcases q1 72 (by omega) (by omega) p with z | z | z
        · omega
        · omega
        · rw [z]; exact a3 (by omega)
      have h69 : S4.1 69 p = iI gi := by rw [hS4, pI_row (by omega)]; exact q4
      rw [h72, bd_ok (E_second (w := w p) hV hL hc hP hG4 hB4 hC4 hsh hp hw (by omega) h69 hgl), show iI p + (1 : Int32) = iI (p + 1 : Nat) from iI_add p 1, ob_iI (by omega), iI_nat (by omega), iI_add]
      rw [ob_iI (by omega)]
      refine ⟨_, rfl, hgp _ (fun a h => pI_row h) (fun k h => by rw [pI_1, if_neg (fun q => h q.2)]) (fun _ => ?_), hfr4.tr (Fr.pI (Or.inr ⟨by omega, by omega, by omega⟩))⟩
      rw [pI_1, if_pos ⟨rfl, rfl⟩, hstep, if_neg h80]; rfl
  unfold f_X1_play
  rw [if_neg (by rw [show (0 : Int32) = iI 0 from rfl, iI_lt (by omega) (by omega)]; omega), g2, ck_pos (kdE_c hc), hC.1, if_pos (by rw [iI_lt (by omega) (by omega)]; omega), ob_iI (by omega), iI_nat (by omega)]
  dsimp only [Nat.reduceAdd]
  rw [a1, bd_ok hgift', ob_iI (by omega)]
  dsimp only [sq]
  rw [ob_iI (by omega), show iI p + (1 : Int32) = iI (p + 1 : Nat) from iI_add p 1, ob_iI (by omega), iI_nat (by omega), pI_row (show (70 : Nat) ≠ 69 by omega), a1, show iI (playS B L bar e sh rq R w p).1 + iI gi = iI ((playS B L bar e sh rq R w p).1 + gi : Nat) from iI_add _ _, pI_row (show (47 : Nat) ≠ 70 by omega), pI_row (show (47 : Nat) ≠ 69 by omega), g7]
  by_cases hr : p + 1 = rq
  · rw [if_pos (by rw [iI_eq (by omega) (by omega)]; omega), ob_iI (by omega)]
    rw [pI_1, if_pos ⟨rfl, rfl⟩, g6, imin_iI (by omega) (by omega), iI_add, ob_iI (by omega), ob_iI (by omega)]
    refine tail2 _ (fun a h1 h2 k => ?_) (fun a h => ?_) rfl ?_ ?_ ?_
    · rw [pI_1, pI_1, pI_1]
      by_cases e1 : a = 69 ∧ k = p
      · exact Or.inl e1
      by_cases e2 : a = 70 ∧ k = p + 1
      · exact Or.inr (Or.inl e2)
      · rw [if_neg e2, if_neg e2, if_neg e1]; exact Or.inr (Or.inr rfl)
    · rw [pI_row (by omega), pI_row (by omega), pI_row (by omega)]
    · rw [pI_row (by omega), pI_row (by omega), pI_1, if_pos ⟨rfl, rfl⟩]
    · rw [pI_1, if_pos ⟨rfl, rfl⟩, hG1, hstep, if_pos hr]; congr 1; omega
    · rw [pI_row (by omega), pI_row (by omega), pI_row (by omega)]; exact a2
  · rw [if_neg (by rw [iI_eq (by omega) (by omega)]; omega)]
    refine tail2 _ (fun a h1 h2 k => ?_) (fun a h => ?_) rfl ?_ ?_ ?_
    · rw [pI_1, pI_1]
      by_cases e1 : a = 69 ∧ k = p
      · exact Or.inl e1
      by_cases e2 : a = 70 ∧ k = p + 1
      · exact Or.inr (Or.inl e2)
      · rw [if_neg e2, if_neg e1]; exact Or.inr (Or.inr rfl)
    · rw [pI_row (by omega), pI_row (by omega)]
    · rw [pI_row (by omega), pI_1, if_pos ⟨rfl, rfl⟩]
    · rw [pI_1, if_pos ⟨rfl, rfl⟩, hG1, hstep, if_neg hr]
    · rw [pI_row (by omega), pI_row (by omega)]; exact a2
