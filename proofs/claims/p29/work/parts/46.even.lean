theorem Okk_scr {α : Type} {fE fM : St → Option (α × St)} (h : ∀ (S : St) (T : Tst), VT T → IE S T → ∃ (v : α) (S1 : St), (fE S = some (v, S1) ∧ IE S1 T ∧ Fr PE S S1) ∧ ∀ S1 : St, IM S1 T → ∃ S2 : St, fM S1 = some (v, S2) ∧ Fr PScr S1 S2) : Okk fE fM := by
  apply Okk_of
  intro S T hV hE
  obtain ⟨v, S1, h1, h2⟩ := h S T hV hE
  refine ⟨v, T, S1, h1, hV, rfl, fun S1 hM => ?_⟩
  obtain ⟨S2, h3, h4⟩ := h2 S1 hM
  exact ⟨S2, h3, IM_scr hM h4, h4.wk (fun _ _ => scr_PM)⟩
theorem BE_row {S S2 : St} {P : Nat} {B : Bd} (h : BE S P B) (r : ∀ j, j ≤ 9 → S2.1 (P + j) = S.1 (P + j)) : BE S2 P B := by
  have r0 := r 0 (by omega)
  rw [Nat.add_zero] at r0
  unfold BE at h ⊢
  rw [r0, r 1 (by omega), r 2 (by omega), r 3 (by omega), r 4 (by omega), r 5 (by omega), r 6 (by omega), r 7 (by omega), r 8 (by omega), r 9 (by omega)]
  exact h
theorem CE_row {S S2 : St} {c L : Nat} {B : Bd} (h : CE S c B L) (r : ∀ j, j ≤ 9 → S2.1 (c + j) = S.1 (c + j)) : CE S2 c B L := by
  have r0 := r 0 (by omega)
  rw [Nat.add_zero] at r0
  unfold CE at h ⊢
  rw [r0, r 1 (by omega), r 2 (by omega), r 3 (by omega), r 4 (by omega), r 5 (by omega), r 6 (by omega), r 7 (by omega), r 8 (by omega), r 9 (by omega)]
  exact h
theorem GE_row {S S2 : St} {c P sh bar e R : Nat} {rb : Int} (h : GE S c P sh bar e R rb) (r : S2.1 47 = S.1 47) (r2 : ∀ k, S2.2.2 47 k = S.2.2 47 k) : GE S2 c P sh bar e R rb := by
  unfold GE at h ⊢
  rw [r, r2 0, r2 1]; exact h
/-- the class's game, ready: rows below 69 and above 72 bear it -/
def GA (S : St) (B : Bd) (L c P sh bar e R : Nat) (rb : Int) : Prop := GE S c P sh bar e R rb ∧ BE S P B ∧ CE S c B L
theorem GA_fr {P2 : Nat → Nat → Prop} {S S2 : St} {B : Bd} {L c P sh bar e R : Nat} {rb : Int} (hc : c = 25 ∨ c = 36) (hP : P = 5 ∨ P = 15) (h : GA S B L c P sh bar e R rb) (hf : Fr P2 S S2) (h2 : ∀ a k, P2 a k → 68 ≤ a) : GA S2 B L c P sh bar e R rb := by
  obtain ⟨h3, h4, h5⟩ := h
  have r : ∀ a, a < 68 → S2.1 a = S.1 a := fun a ha => funext fun k => hf.1 a k (fun q => by have := h2 a k q; omega)
  exact ⟨GE_row h3 (r 47 (by omega)) (fun k => hf.2.2 47 k (fun q => by have := h2 47 k q; omega)), BE_row h4 (fun j hj => r _ (by omega)), CE_row h5 (fun j hj => r _ (by omega))⟩
theorem ply_68 (a k : Nat) (h : PPly a k) : 68 ≤ a := by unfold PPly at h; omega
theorem ZE_ply {S S2 : St} (h : ZE S) (hf : Fr PPly S S2) : ZE S2 := by
  unfold ZE at h ⊢
  rw [hf.1 70 0 (by unfold PPly; omega), hf.1 71 0 (by unfold PPly; omega), hf.1 72 0 (by unfold PPly; omega), hf.1 78 0 (by unfold PPly; omega), hf.1 84 0 (by unfold PPly; omega)]
  exact h
theorem hasP_E {S : St} {B : Bd} {L c P sh bar e R rq p : Nat} {rb : Int} {w : Nat → Nat} (hV : VB B) (hL : L ≤ 30) (hc : c = 25 ∨ c = 36) (hP : P = 5 ∨ P = 15) (hG : GA S B L c P sh bar e R rb) (hbar : 1 ≤ bar ∧ bar ≤ 60) (he : e ≤ 9) (hR : R ≤ 99) (hp : p < cntL B L) (hw : w p ≤ 1000) (hGP : GP S B L bar e sh rq R w (cntL B L)) :
    f_X1_hasAt 47 (iI p) (iI (w p)) S = some (iI (hasP B L bar e sh rq R w p), S) := by
  obtain ⟨hG, hB, hC⟩ := hG
  obtain ⟨f1, f2, f3, f4, f5, f6, f7, f8, f9, f10, f11⟩ := at_facts hV hL hp
  have hbt := E_built hV hL hc hP hG hB hC hbar.2 hR hGP
  obtain ⟨g1, g2, g3, g4, g5, g6, g7⟩ := hG
  obtain ⟨a1, a2, a3⟩ := GP_1 hGP (Nat.le_refl _)
  obtain ⟨b1, b2, b3⟩ := playS_le hV hL bar e sh rq R hR w (cntL B L) (Nat.le_refl _)
  have b1' : (playS B L bar e sh rq R w (cntL B L)).1 ≤ 400 := by
    by_cases hq : rq ≤ cntL B L
    · rw [if_pos hq] at b1; omega
    · rw [if_neg hq] at b1; omega
  have h69 := hGP.2 p hp
  have hgl : giftP B L bar e sh rq R w p ≤ B 2 (soL B L p) := gift_le B e _ _ _ _ _
  have v4 : B 0 4 ≤ 9 := hV.1.2.2.2.2.2.1
  have v6 : B 0 6 ≤ 30 := hV.1.2.2.2.2.2.2.2.1
  have v7 : B 0 7 ≤ 1 := hV.1.2.2.2.2.2.2.2.2.1
  have c2 := (hC.2 p hp).2.1
  have e4 : S.1 P 4 = iI (B 0 4) := hB.1.2.2.2.2.1
  have e6 : S.1 P 6 = iI (B 0 6) := hB.1.2.2.2.2.2.2.1
  have e9 : S.1 P 9 = iI (B 0 7) := hB.1.2.2.2.2.2.2.2.1
  unfold hasP
  have hend : endS B L bar e sh rq R w = playS B L bar e sh rq R w (cntL B L) := rfl
  rw [hend]
  have hdef : builtS B L bar e sh rq R w = decide (bar ≤ (playS B L bar e sh rq R w (cntL B L)).1 ∧ B 0 1 ≤ (playS B L bar e sh rq R w (cntL B L)).2.1) := rfl
  generalize giftP B L bar e sh rq R w p = gi at *
  generalize (playS B L bar e sh rq R w (cntL B L)).1 = en at *
  unfold f_X1_hasAt
  rw [if_neg (by rw [show (0 : Int32) = iI 0 from rfl, iI_lt (by omega) (by omega)]; omega), g2, ck_pos (kdE_c hc), hC.1, if_pos (by rw [iI_lt (by omega) (by omega)]; omega), ob_iI (by omega), iI_nat (by omega)]
  dsimp only [sq, Nat.reduceAdd]
  rw [h69, bd_ok hbt]
  by_cases hb : builtS B L bar e sh rq R w = true
  · have hbe : bar ≤ en := by rw [hdef] at hb; exact (of_decide_eq_true hb).1
    have hmul : gi * (en - bar) ≤ 30 * 400 := Nat.mul_le_mul (by omega) (by omega)
    have tail : ∀ z : Int, -1000 ≤ z ∧ z ≤ 3000 → f_X1_hasAt_J84 47 (iI p) (iI (w p)) (iI gi) (iI z) S = some (iI (z + (if B 0 7 = 1 then ((gi * (en - bar) / en : Nat) : Int) else 0)), S) := by
      intro z hz
      unfold f_X1_hasAt_J84
      rw [g2, ck_pos (kdE_c hc), hC.1, ob_iI (by omega), iI_nat (by omega)]
      dsimp only [sq, Nat.reduceAdd]
      rw [a1, g1, ck_pos (kdE_P hP), e9]
      by_cases h7 : B 0 7 = 1
      · have hq : gi * (en - bar) / en ≤ gi * (en - bar) := Nat.div_le_self _ _
        rw [if_neg (by rw [show (0 : Int32) = iI 0 from rfl, iI_eq (by omega) (by omega)]; omega), if_neg (by rw [show (0 : Int32) = iI 0 from rfl, iI_le (by omega) (by omega)]; omega), ck_pos (by rw [show (0 : Int32) = iI 0 from rfl, iI_eq (by omega) (by omega)]; omega), if_pos h7, g4, iI_sub, show ((en : Int) - bar) = ((en - bar : Nat) : Int) by omega, iI_mul, ← Int.natCast_mul]
        generalize gi * (en - bar) = pr at *
        rw [iI_div (by omega) (by omega), iI_add]; rfl
      · rw [if_pos (by rw [show (0 : Int32) = iI 0 from rfl, iI_eq (by omega) (by omega)]; omega), if_neg h7, Int.add_zero]
    rw [show bI (builtS B L bar e sh rq R w) = 1 by rw [hb]; rfl, if_neg (by decide), iI_sub, if_pos hb]
    by_cases hg : 0 < gi
    · rw [if_neg (by rw [show (0 : Int32) = iI 0 from rfl, iI_le (by omega) (by omega)]; omega), g2, ck_pos (kdE_c hc), ob_iI (by omega), g1, ck_pos (kdE_P hP), e6, c2]
      by_cases hd : dayL B L (atL B L p) ≤ B 0 6
      · rw [if_neg (by rw [iI_lt (by omega) (by omega)]; omega), if_pos ⟨hg, hd⟩, g5, iI_add, tail _ (by omega)]
      · rw [if_pos (by rw [iI_lt (by omega) (by omega)]; omega), if_neg (fun q => hd q.2), tail _ (by omega), Int.add_zero]
    · rw [if_pos (by rw [show (0 : Int32) = iI 0 from rfl, iI_le (by omega) (by omega)]; omega), if_neg (fun q => hg q.1), tail _ (by omega), Int.add_zero]
  · rw [show bI (builtS B L bar e sh rq R w) = 0 by unfold bI; rw [if_neg hb], if_pos rfl, if_neg hb]
    by_cases hg : 0 < gi
    · rw [if_neg (by rw [show (0 : Int32) = iI 0 from rfl, iI_le (by omega) (by omega)]; omega), if_pos hg, g1, ck_pos (kdE_P hP), e4]
    · rw [if_pos (by rw [show (0 : Int32) = iI 0 from rfl, iI_le (by omega) (by omega)]; omega), if_neg hg]; rfl
theorem hasP_M {S : St} {B : Bd} {L bar e sh R rq p : Nat} {D : Int} {w : Nat → Nat} (hV : VB B) (hL : L ≤ 30) (hG : MG S B L bar e sh R D) (hbar : 1 ≤ bar ∧ bar ≤ 60) (he : e ≤ 9) (hR : R ≤ 99) (hp : p < cntL B L) (hw : w p ≤ 1000) (hMP : MP S B L bar e sh rq R w (cntL B L)) (hg : S.1 103 32 = iI (endS B L bar e sh rq R w).1) :
    f_X10_hasOf 103 (iI (atL B L p)) S = some (iI (hasP B L bar e sh rq R w p), S) := by
  obtain ⟨f1, f2, f3, f4, f5, f6, f7, f8, f9, f10, f11⟩ := at_facts hV hL hp
  have hng : B 9 1 ≤ 8 := hV.2.1.2.2.2
  have hbt := M_built hV hL hG hbar.2 hR hMP hg
  obtain ⟨hB, hO, g1, g2, g3, g4, g5, g6⟩ := hG
  obtain ⟨n1, n2, n3, n4⟩ := hMP
  obtain ⟨b1, b2, b3⟩ := playS_le hV hL bar e sh rq R hR w (cntL B L) (Nat.le_refl _)
  have b1' : (playS B L bar e sh rq R w (cntL B L)).1 ≤ 400 := by
    by_cases hq : rq ≤ cntL B L
    · rw [if_pos hq] at b1; omega
    · rw [if_neg hq] at b1; omega
  have hend : endS B L bar e sh rq R w = playS B L bar e sh rq R w (cntL B L) := rfl
  have h122 := n3 p hp
  have h121 := n4 p hp
  have hgl : giftP B L bar e sh rq R w p ≤ B 2 (soL B L p) := gift_le B e _ _ _ _ _
  have v4 : B 0 4 ≤ 9 := hV.1.2.2.2.2.2.1
  have v6 : B 0 6 ≤ 30 := hV.1.2.2.2.2.2.2.2.1
  have v7 : B 0 7 ≤ 1 := hV.1.2.2.2.2.2.2.2.2.1
  have e4 := hB.1 4 (by omega)
  have e6 := hB.1 6 (by omega)
  have e7 := hB.1 7 (by omega)
  have hday := M_dayOf hV hB g2 f1
  unfold hasP
  rw [hend] at hg ⊢
  have hdef : builtS B L bar e sh rq R w = decide (bar ≤ (playS B L bar e sh rq R w (cntL B L)).1 ∧ B 0 1 ≤ (playS B L bar e sh rq R w (cntL B L)).2.1) := rfl
  generalize giftP B L bar e sh rq R w p = gi at *
  generalize (playS B L bar e sh rq R w (cntL B L)).1 = en at *
  unfold f_X10_hasOf
  rw [bd_ok hbt]
  by_cases hb : builtS B L bar e sh rq R w = true
  · have hbe : bar ≤ en := by rw [hdef] at hb; exact (of_decide_eq_true hb).1
    have hmul : gi * (en - bar) ≤ 30 * 400 := Nat.mul_le_mul (by omega) (by omega)
    have tail : ∀ y z : Int, f_X10_hasOf_J74 103 (iI (atL B L p)) (iI y) (iI z) S = some (iI ((y + z) + (if B 0 7 = 1 then ((gi * (en - bar) / en : Nat) : Int) else 0)), S) := by
      intro y z
      unfold f_X10_hasOf_J74
      rw [show Int32.toNatClampNeg 7 = 7 from rfl, iI_add]
      dsimp only [sq, Nat.reduceAdd]
      rw [e7]
      by_cases h7 : B 0 7 = 1
      · rw [if_pos (by rw [show (1 : Int32) = iI 1 from rfl, iI_eq (by omega) (by omega)]; omega), ob_iI (by omega), iI_nat (by omega), hg, ck_pos (by rw [show (0 : Int32) = iI 0 from rfl, iI_eq (by omega) (by omega)]; omega), if_pos h7, h122, g1, iI_sub, show ((en : Int) - bar) = ((en - bar : Nat) : Int) by omega, iI_mul, ← Int.natCast_mul]
        generalize gi * (en - bar) = pr at *
        rw [iI_div (by omega) (by omega), iI_add]; rfl
      · rw [if_neg (by rw [show (1 : Int32) = iI 1 from rfl, iI_eq (by omega) (by omega)]; omega), if_neg h7, show (0 : Int32) = iI 0 from rfl, iI_add]
    rw [show bI (builtS B L bar e sh rq R w) = 1 by rw [hb]; rfl, if_neg (by decide), if_pos hb, ob_iI (by omega), ob_iI (by omega), iI_nat (by omega)]
    dsimp only [sq, Nat.reduceAdd]
    rw [ob_iI (by omega), h121, h122, iI_sub]
    by_cases hg0 : 0 < gi
    · rw [if_neg (by rw [show (0 : Int32) = iI 0 from rfl, iI_le (by omega) (by omega)]; omega), bd_ok hday, show Int32.toNatClampNeg 6 = 6 from rfl, e6]
      by_cases hd : dayL B L (atL B L p) ≤ B 0 6
      · rw [if_neg (by rw [iI_lt (by omega) (by omega)]; omega), if_pos ⟨hg0, hd⟩, g3, tail]
      · rw [if_pos (by rw [iI_lt (by omega) (by omega)]; omega), if_neg (fun q => hd q.2)]
        unfold f_X10_hasOf_J73
        rw [show (0 : Int32) = iI 0 from rfl, tail]
    · rw [if_pos (by rw [show (0 : Int32) = iI 0 from rfl, iI_le (by omega) (by omega)]; omega), if_neg (fun q => hg0 q.1)]
      unfold f_X10_hasOf_J73
      rw [show (0 : Int32) = iI 0 from rfl, tail]
  · rw [show bI (builtS B L bar e sh rq R w) = 0 by unfold bI; rw [if_neg hb], if_pos rfl, if_neg hb, ob_iI (by omega), iI_nat (by omega)]
    dsimp only [Nat.reduceAdd]
    rw [h122]
    by_cases hg0 : 0 < gi
    · rw [if_neg (by rw [show (0 : Int32) = iI 0 from rfl, iI_le (by omega) (by omega)]; omega), if_pos hg0, show Int32.toNatClampNeg 4 = 4 from rfl, e4]
    · rw [if_pos (by rw [show (0 : Int32) = iI 0 from rfl, iI_le (by omega) (by omega)]; omega), if_neg hg0]; rfl
