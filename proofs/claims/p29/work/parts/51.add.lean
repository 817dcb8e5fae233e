theorem GP_row {S S2 : St} {B : Bd} {L bar e sh rq R p : Nat} {w : Nat → Nat} (h : GP S B L bar e sh rq R w p) (r : ∀ a, 69 ≤ a → a ≤ 72 → S2.1 a = S.1 a) : GP S2 B L bar e sh rq R w p := by
  refine GP_of (fun q hq => ?_) (fun q hq => ?_)
  · rw [r 70 (by omega) (by omega), r 71 (by omega) (by omega), r 72 (by omega) (by omega)]; exact GP_1 h hq
  · rw [r 69 (by omega) (by omega)]; exact h.2 q hq
def stE (W n : Nat) (f : Bool) (q : Nat) (S : St) : St := if f = true then pJ S W q ((S.2.1 W q) + (S.2.1 (W + 4) n)) else S
theorem E_J118 {W n : Nat} (hn : n ≤ 8) (b t : Bool) (S : St) : f_X8_add_J118 W 47 (iI n) (bI b) (bI t) S = some ((), stE W n (b && t) 4 S) := by
  unfold f_X8_add_J118
  rw [ob_iI (by omega), iI_nat (by omega)]
  cases b <;> cases t <;> rfl
theorem E_J98 {W n : Nat} (hn : n ≤ 8) (b t : Bool) (S : St) : f_X8_add_J98 W 47 (iI n) (bI b) (bI t) S = some ((), stE W n (b && t) 4 (stE W n t 3 S)) := by
  unfold f_X8_add_J98
  rw [ob_iI (by omega), iI_nat (by omega)]
  cases t
  · exact E_J118 hn b false S
  · exact E_J118 hn b true _
theorem E_J74 {W n : Nat} (hn : n ≤ 8) (b d t : Bool) (S : St) : f_X8_add_J74 W 47 (iI n) (bI b) (bI d) (bI t) S = some ((), stE W n (b && t) 4 (stE W n t 3 (stE W n (!b && d) 2 S))) := by
  unfold f_X8_add_J74
  rw [ob_iI (by omega), iI_nat (by omega)]
  cases b
  · cases d
    · exact E_J98 hn false t S
    · exact E_J98 hn false t _
  · cases d
    · exact E_J98 hn true t S
    · exact E_J98 hn true t S
theorem E_J50 {W n : Nat} (hn : n ≤ 8) (b d t : Bool) (S : St) : f_X8_add_J50 W 47 (iI n) (bI b) (bI d) (bI t) S = some ((), stE W n (b && t) 4 (stE W n t 3 (stE W n (!b && d) 2 (stE W n (b && !d) 1 S)))) := by
  unfold f_X8_add_J50
  rw [ob_iI (by omega), iI_nat (by omega)]
  cases b
  · cases d
    · exact E_J74 hn false false t S
    · exact E_J74 hn false true t S
  · cases d
    · exact E_J74 hn true false t _
    · exact E_J74 hn true true t S
theorem E_J23 {W n : Nat} (hn : n ≤ 8) (b d t : Bool) (S : St) (h : f_X1_isSecondBuilt 47 S = some (bI t, S)) : f_X8_add_J23 W 47 (iI n) (bI b) (bI d) S = some ((), stE W n (b && t) 4 (stE W n t 3 (stE W n (!b && d) 2 (stE W n (b && !d) 1 (stE W n b 0 S))))) := by
  unfold f_X8_add_J23
  rw [bd_ok h, ob_iI (by omega), iI_nat (by omega)]
  cases b
  · exact E_J50 hn false d t S
  · exact E_J50 hn true d t _
def aSt (X : Int) (f : Bool) (q0 : Nat) (A : Nat → Int) : Nat → Int := fun q => if q = q0 then A q + (if f = true then X else 0) else A q
def AX (S : St) (W n : Nat) (A : Nat → Int) (X : Int) : Prop := (∀ q, q < 5 → S.2.1 W q = lI (A q)) ∧ S.2.1 (W + 4) n = lI X
theorem AX_st {S : St} {W n : Nat} {A : Nat → Int} {X : Int} (h : AX S W n A X) (f : Bool) {q0 : Nat} (hq : q0 < 5) : AX (stE W n f q0 S) W n (aSt X f q0 A) X := by
  obtain ⟨h1, h2⟩ := h
  unfold stE
  cases f
  · rw [if_neg (by decide)]
    refine ⟨fun q hq2 => ?_, h2⟩
    unfold aSt
    by_cases hc : q = q0
    · rw [if_pos hc, if_neg (by decide), Int.add_zero]; exact h1 q hq2
    · rw [if_neg hc]; exact h1 q hq2
  · rw [if_pos rfl]
    refine ⟨fun q hq2 => ?_, ?_⟩
    · unfold aSt
      rw [pJ_2]
      by_cases hc : q = q0
      · rw [if_pos ⟨rfl, hc⟩, if_pos hc, if_pos rfl, h1 q0 hq, h2, lI_add, hc]
      · rw [if_neg (fun z => hc z.2), if_neg hc]; exact h1 q hq2
    · rw [pJ_2, if_neg (by omega)]; exact h2
def PAdd (W a k : Nat) : Prop := a = W ∧ k < 5
theorem Fr_st {W n : Nat} {f : Bool} {q : Nat} {S : St} (hq : q < 5) : Fr (PAdd W) S (stE W n f q S) := by
  unfold stE
  cases f
  · rw [if_neg (by decide)]; exact Fr.rf
  · rw [if_pos rfl]; exact Fr.pJ ⟨rfl, hq⟩
theorem st_1 {W n : Nat} {f : Bool} {q : Nat} {S : St} : (stE W n f q S).1 = S.1 := by
  unfold stE; cases f <;> rfl
theorem E_add {S : St} {B : Bd} {L c P sh bar e R rq W : Nat} {rb : Int} {v : Nat → Nat} {A : Nat → Int} (hH : HW B L c P sh bar e R rq rb W) (hE : WE S B L c P sh bar e R rq rb W v (cntL B L)) (hv : ∀ j, j < cntL B L → v j < wayM B L j) (hA : ∀ q, q < 5 → S.2.1 W q = lI (A q)) :
    ∃ S2 : St, f_X8_add W 47 (iI (cntL B L)) S = some ((), S2) ∧ (∀ q, q < 5 → S2.2.1 W q = lI (A q + fA B L bar e sh rq R q v)) ∧ Fr (PAdd W) S S2 ∧ S2.1 = S.1 := by
  obtain ⟨hV, hL, hc, hP, hsh, hbar, he, hR, hrb, hrq, hW⟩ := hH
  obtain ⟨hG, hd, hs, hGP⟩ := hE
  have hn := cntL_le B L
  have hng : B 9 1 ≤ 8 := hV.2.1.2.2.2
  have hbt := E_built hV hL hc hP hG.1 hG.2.1 hG.2.2 hbar.2 hR hGP
  have hst := E_sec hV hL hc hP hR hG hGP
  have e3 : S.1 P 3 = iI (B 0 3) := hG.2.1.1.2.2.2.1
  have v3 : B 0 3 ≤ 199 := hV.1.2.2.2.2.1
  obtain ⟨s1, s2⟩ := hs (cntL B L) (Nat.le_refl _)
  have hb : natTo (wayW B L v) (cntL B L) ≤ 30 * cntL B L := natTo_bd2 (fun k hk => (way_facts hV hL hk (hv k hk)).1)
  have hX : AX S W (cntL B L) A (wayP B L v) := ⟨hA, s1⟩
  have h5 := AX_st (AX_st (AX_st (AX_st (AX_st hX (builtS B L bar e sh rq R (wayW B L v)) (q0 := 0) (by omega)) (builtS B L bar e sh rq R (wayW B L v) && !dueS B L v) (q0 := 1) (by omega)) (!builtS B L bar e sh rq R (wayW B L v) && dueS B L v) (q0 := 2) (by omega)) (secondS B L bar e sh rq R (wayW B L v)) (q0 := 3) (by omega)) (builtS B L bar e sh rq R (wayW B L v) && secondS B L bar e sh rq R (wayW B L v)) (q0 := 4) (by omega)
  have hfr : ∀ b1 b2 b3 b4 b5 : Bool, Fr (PAdd W) S (stE W (cntL B L) b5 4 (stE W (cntL B L) b4 3 (stE W (cntL B L) b3 2 (stE W (cntL B L) b2 1 (stE W (cntL B L) b1 0 S))))) := fun b1 b2 b3 b4 b5 => ((((Fr_st (q := 0) (by omega)).tr (Fr_st (q := 1) (by omega))).tr (Fr_st (q := 2) (by omega))).tr (Fr_st (q := 3) (by omega))).tr (Fr_st (q := 4) (by omega))
  refine ⟨stE W (cntL B L) (builtS B L bar e sh rq R (wayW B L v) && secondS B L bar e sh rq R (wayW B L v)) 4 (stE W (cntL B L) (secondS B L bar e sh rq R (wayW B L v)) 3 (stE W (cntL B L) (!builtS B L bar e sh rq R (wayW B L v) && dueS B L v) 2 (stE W (cntL B L) (builtS B L bar e sh rq R (wayW B L v) && !dueS B L v) 1 (stE W (cntL B L) (builtS B L bar e sh rq R (wayW B L v)) 0 S)))), ?_, fun q hq => ?_, hfr _ _ _ _ _, by rw [st_1, st_1, st_1, st_1, st_1]⟩
  · unfold f_X8_add
    rw [bd_ok hbt, ob_iI (by omega)]
    unfold f_X1_cost
    rw [hG.1.1, ck_pos (kdE_P hP), e3, bd_ok rfl, iI_nat (by omega), s2]
    by_cases hc : B 0 3 ≤ natTo (wayW B L v) (cntL B L)
    · rw [if_neg (by rw [iI_lt (by omega) (by omega)]; omega)]
      have hd2 : dueS B L v = true := decide_eq_true hc
      rw [show (1 : Int32) = bI (dueS B L v) by rw [hd2]; rfl]
      exact E_J23 (by omega) _ _ _ S hst
    · rw [if_pos (by rw [iI_lt (by omega) (by omega)]; omega)]
      have hd2 : dueS B L v = false := decide_eq_false hc
      rw [show (0 : Int32) = bI (dueS B L v) by rw [hd2]; rfl]
      exact E_J23 (by omega) _ _ _ S hst
  · rw [h5.1 q hq]
    unfold fA
    rw [isS_F _ _ _ _ _ _ _ _ _ hq]
    congr 1
    rcases (show q = 0 ∨ q = 1 ∨ q = 2 ∨ q = 3 ∨ q = 4 by omega) with rfl | rfl | rfl | rfl | rfl <;> rfl
theorem hasP_bd {B : Bd} {L bar e sh rq R p : Nat} {w : Nat → Nat} (hV : VB B) (hL : L ≤ 30) (hR : R ≤ 99) (he : e ≤ 9) (hp : p < cntL B L) (hw : w p ≤ 1000) : -100 ≤ hasP B L bar e sh rq R w p ∧ hasP B L bar e sh rq R w p ≤ 20000 := by
  obtain ⟨f1, f2, f3, f4, f5, f6, f7, f8, f9, f10, f11⟩ := at_facts hV hL hp
  have hng : B 9 1 ≤ 8 := hV.2.1.2.2.2
  have hgl : giftP B L bar e sh rq R w p ≤ B 2 (soL B L p) := gift_le B e _ _ _ _ _
  have v4 : B 0 4 ≤ 9 := hV.1.2.2.2.2.2.1
  obtain ⟨b1, b2, b3⟩ := playS_le hV hL bar e sh rq R hR w (cntL B L) (Nat.le_refl _)
  have b1' : (playS B L bar e sh rq R w (cntL B L)).1 ≤ 400 := by
    by_cases hq : rq ≤ cntL B L
    · rw [if_pos hq] at b1; omega
    · rw [if_neg hq] at b1; omega
  unfold hasP
  rw [show endS B L bar e sh rq R w = playS B L bar e sh rq R w (cntL B L) from rfl]
  generalize giftP B L bar e sh rq R w p = gi at *
  generalize (playS B L bar e sh rq R w (cntL B L)).1 = en at *
  have hmul : gi * (en - bar) ≤ 30 * 400 := Nat.mul_le_mul (by omega) (by omega)
  have hq : gi * (en - bar) / en ≤ gi * (en - bar) := Nat.div_le_self _ _
  generalize gi * (en - bar) / en = dd at *
  by_cases hb : builtS B L bar e sh rq R w = true
  · rw [if_pos hb]
    by_cases c1 : 0 < gi ∧ dayL B L (atL B L p) ≤ B 0 6
    · rw [if_pos c1]
      by_cases c2 : B 0 7 = 1
      · rw [if_pos c2]; omega
      · rw [if_neg c2]; omega
    · rw [if_neg c1]
      by_cases c2 : B 0 7 = 1
      · rw [if_pos c2]; omega
      · rw [if_neg c2]; omega
  · rw [if_neg hb]
    by_cases c1 : 0 < gi
    · rw [if_pos c1]; omega
    · rw [if_neg c1]; omega
