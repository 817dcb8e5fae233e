/-! calls once more, with what the law's round wants of them -/
def OkR {α : Type} (fE _fM : St → Option (α × St)) : Prop := ∀ (S : St) (T : Tst), VT T → IE S T → ∃ v : α, fE S = some (v, S)
theorem OkR_of {α : Type} {fE fM : St → Option (α × St)} (h : ∀ (S : St) (T : Tst), VT T → IE S T → ∃ v : α, fE S = some (v, S) ∧ ∀ S1 : St, IM S1 T → ∃ S2 : St, fM S1 = some (v, S2) ∧ Fr PScr S1 S2) : OkR fE fM := fun S T hV hE => by
  obtain ⟨v, h1, -⟩ := h S T hV hE
  exact ⟨v, h1⟩
theorem okr_made (x : Int32) : OkR (f_X9_made 0 x) (f_X10_made 103 x) := by
  apply OkR_of
  intro S T hV hE
  have hVB := VT_B hV
  have hL := VT_L hV
  have hng : tB T 9 1 ≤ 8 := hVB.2.1.2.2.2
  have hcl := cntL_le (tB T) (tB T 0 2)
  have hR := hV.2.2.2.1
  have hC := IE_C hE
  have t3 := (IE_has hE).2.2.1
  obtain ⟨P, p1, p2, p3⟩ := IE_P hE
  have hk := kdE_P p1
  by_cases hb : bad x 0 1
  · refine ⟨-1, ?_, fun S1 hM => ⟨S1, ?_, Fr.rf⟩⟩
    · unfold f_X9_made; rw [bd_ok (within_bad hb)]; rfl
    · unfold f_X10_made; rw [bd_ok (in_bad hb)]; rfl
  have hs : ∀ p, sumR (tB T) (tB T 0 2) (tR T) p ≤ 30 * p := fun p => natTo_bd (fun k => hR _)
  have hw : ∀ p, whoR (tB T) (tB T 0 2) (tR T) p ≤ 1 * p := fun p => natTo_bd (fun k => by by_cases h : 0 < tR T (atL (tB T) (tB T 0 2) k) <;> simp [h])
  have hbar : tB T 0 0 ≤ 60 := hVB.1.2.1
  have hnd : tB T 0 1 ≤ 8 := hVB.1.2.2.1
  refine ⟨if x = 0 then iI (sumR (tB T) (tB T 0 2) (tR T) (cntL (tB T) (tB T 0 2))) else bI (madeS (tB T) (tB T 0 2) (tR T)), ?_, fun S1 hM => ?_⟩
  · have key : ∀ (m N p : Nat), p + m = cntL (tB T) (tB T 0 2) → m < N → f_X9_made_L18 N 0 x (iI (sumR (tB T) (tB T 0 2) (tR T) p)) (iI (whoR (tB T) (tB T 0 2) (tR T) p)) (iI p) S = some (if x = 0 then iI (sumR (tB T) (tB T 0 2) (tR T) (cntL (tB T) (tB T 0 2))) else bI (madeS (tB T) (tB T 0 2) (tR T)), S) := by
      intro m
      induction m with
      | zero =>
        intro N p hp hN
        obtain ⟨N, rfl⟩ : ∃ k, N = k + 1 := ⟨N - 1, by omega⟩
        have : p = cntL (tB T) (tB T 0 2) := by omega
        subst this
        have h1 := hs (cntL (tB T) (tB T 0 2))
        have h2 := hw (cntL (tB T) (tB T 0 2))
        rw [f_X9_made_L18]
        dsimp only [Nat.reduceAdd]
        rw [hC.1, if_pos (by rw [iI_le (by omega) (by omega)]; omega), p2, ck_pos hk, p3.1.1, ck_pos hk, p3.1.2.1]
        by_cases hx : x = 0
        · rw [if_pos hx, if_pos hx]
        · rw [if_neg hx, if_neg hx]
          unfold madeS
          by_cases c1 : tB T 0 0 ≤ sumR (tB T) (tB T 0 2) (tR T) (cntL (tB T) (tB T 0 2))
          · rw [if_neg (by rw [iI_lt (by omega) (by omega)]; omega)]
            by_cases c2 : tB T 0 1 ≤ whoR (tB T) (tB T 0 2) (tR T) (cntL (tB T) (tB T 0 2))
            · rw [if_neg (by rw [iI_lt (by omega) (by omega)]; omega), decide_eq_true ⟨c1, c2⟩]; rfl
            · rw [if_pos (by rw [iI_lt (by omega) (by omega)]; omega), decide_eq_false (fun q => c2 q.2)]; rfl
          · rw [if_pos (by rw [iI_lt (by omega) (by omega)]; omega), decide_eq_false (fun q => c1 q.1)]; rfl
      | succ m ih =>
        intro N p hp hN
        obtain ⟨N, rfl⟩ : ∃ k, N = k + 1 := ⟨N - 1, by omega⟩
        have hpc : p < cntL (tB T) (tB T 0 2) := by omega
        have f1 := atL_lt hpc
        have hr := hR (atL (tB T) (tB T 0 2) p)
        have x1 := (hC.2 p hpc).1
        have i1 := ih N (p + 1) (by omega) (by omega)
        have e1 : sumR (tB T) (tB T 0 2) (tR T) (p + 1) = sumR (tB T) (tB T 0 2) (tR T) p + tR T (atL (tB T) (tB T 0 2) p) := rfl
        have e2 : whoR (tB T) (tB T 0 2) (tR T) (p + 1) = whoR (tB T) (tB T 0 2) (tR T) p + (if 0 < tR T (atL (tB T) (tB T 0 2) p) then 1 else 0) := rfl
        rw [f_X9_made_L18]
        dsimp only [sq, Nat.reduceAdd]
        rw [hC.1, if_neg (by rw [iI_le (by omega) (by omega)]; omega), ob_iI (by omega), iI_nat (by omega), show S.1 26 p = iI (atL (tB T) (tB T 0 2) p) from x1, ob_iI (by omega), iI_nat (by omega), t3 _ (by omega), show iI (sumR (tB T) (tB T 0 2) (tR T) p) + iI (tR T (atL (tB T) (tB T 0 2) p)) = iI (sumR (tB T) (tB T 0 2) (tR T) (p + 1)) by rw [e1]; exact iI_add _ _, show iI p + (1 : Int32) = iI (p + 1 : Nat) from iI_add p 1]
        by_cases hc : 0 < tR T (atL (tB T) (tB T 0 2) p)
        · rw [if_neg (by rw [show (0 : Int32) = iI 0 from rfl, iI_le (by omega) (by omega)]; omega), show iI (whoR (tB T) (tB T 0 2) (tR T) p) + (1 : Int32) = iI (whoR (tB T) (tB T 0 2) (tR T) (p + 1)) by rw [e2, if_pos hc]; exact iI_add _ 1]
          exact i1
        · rw [if_pos (by rw [show (0 : Int32) = iI 0 from rfl, iI_le (by omega) (by omega)]; omega)]
          rw [e2, if_neg hc, Nat.add_zero] at i1
          exact i1
    unfold f_X9_made
    rw [bd_ok (within_ok hb), if_neg (by decide)]
    have z := key (cntL (tB T) (tB T 0 2)) FU 0 (by omega) (by unfold FU; omega)
    rw [show sumR (tB T) (tB T 0 2) (tR T) 0 = 0 from rfl, show whoR (tB T) (tB T 0 2) (tR T) 0 = 0 from rfl] at z
    exact z
  · obtain ⟨S4, S5, q1, q2, q3, q4, q5, q6⟩ := M_start hV hM
    have key : ∀ (m N p : Nat) (S : St), p + m = cntL (tB T) (tB T 0 2) → m < N → (∀ a k, ¬ (a = 103 ∧ (k = 32 ∨ k = 34)) → S.1 a k = S5.1 a k) → S.2 = S5.2 → S.1 103 32 = iI (sumR (tB T) (tB T 0 2) (tR T) p) → S.1 103 34 = iI (whoR (tB T) (tB T 0 2) (tR T) p) →
        ∃ S2 : St, f_X10_made_L32 N 103 x (iI p) S = some (if x = 0 then iI (sumR (tB T) (tB T 0 2) (tR T) (cntL (tB T) (tB T 0 2))) else bI (madeS (tB T) (tB T 0 2) (tR T)), S2) ∧ Fr PScr S5 S2 := by
      intro m
      induction m with
      | zero =>
        intro N p S hp hN r1 r2 h32 h34
        obtain ⟨N, rfl⟩ : ∃ k, N = k + 1 := ⟨N - 1, by omega⟩
        have : p = cntL (tB T) (tB T 0 2) := by omega
        subst this
        have h1 := hs (cntL (tB T) (tB T 0 2))
        have h2 := hw (cntL (tB T) (tB T 0 2))
        have ho : S.1 103 27 = iI (cntL (tB T) (tB T 0 2)) := by rw [r1 103 27 (by omega)]; exact q5.1
        refine ⟨S, ?_, Fr_rows (fun a k h => r1 a k (by unfold PScr at h; omega)) r2⟩
        rw [f_X10_made_L32, ho, if_pos (by rw [iI_le (by omega) (by omega)]; omega), h32]
        by_cases hx : x = 0
        · rw [if_pos hx, if_pos hx]
        · rw [if_neg hx, if_neg hx]
          unfold f_X10_isBuilt madeS
          rw [show Int32.toNatClampNeg 1 = 1 from rfl]
          dsimp only [Nat.reduceAdd]
          rw [h32, h34, r1 103 19 (by omega), r1 105 1 (by omega), q4.1, q3.2.2.1.1 1 (by omega)]
          by_cases c1 : tB T 0 0 ≤ sumR (tB T) (tB T 0 2) (tR T) (cntL (tB T) (tB T 0 2))
          · rw [if_neg (by rw [iI_lt (by omega) (by omega)]; omega)]
            by_cases c2 : tB T 0 1 ≤ whoR (tB T) (tB T 0 2) (tR T) (cntL (tB T) (tB T 0 2))
            · rw [if_neg (by rw [iI_lt (by omega) (by omega)]; omega), decide_eq_true ⟨c1, c2⟩]; rfl
            · rw [if_pos (by rw [iI_lt (by omega) (by omega)]; omega), decide_eq_false (fun q => c2 q.2)]; rfl
          · rw [if_pos (by rw [iI_lt (by omega) (by omega)]; omega), decide_eq_false (fun q => c1 q.1)]; rfl
      | succ m ih =>
        intro N p S hp hN r1 r2 h32 h34
        obtain ⟨N, rfl⟩ : ∃ k, N = k + 1 := ⟨N - 1, by omega⟩
        have hpc : p < cntL (tB T) (tB T 0 2) := by omega
        have f1 := atL_lt hpc
        have hr := hR (atL (tB T) (tB T 0 2) p)
        have ho : S.1 103 27 = iI (cntL (tB T) (tB T 0 2)) := by rw [r1 103 27 (by omega)]; exact q5.1
        have hok : S.1 121 p = iI (atL (tB T) (tB T 0 2) p) := by rw [r1 121 p (by omega)]; exact q5.2 p hpc
        have hrow : S.1 119 (atL (tB T) (tB T 0 2) p) = iI (tR T (atL (tB T) (tB T 0 2) p)) := by rw [r1 119 _ (by omega)]; exact q3.2.2.2.1 _ (by omega)
        have e1 : sumR (tB T) (tB T 0 2) (tR T) (p + 1) = sumR (tB T) (tB T 0 2) (tR T) p + tR T (atL (tB T) (tB T 0 2) p) := rfl
        have e2 : whoR (tB T) (tB T 0 2) (tR T) (p + 1) = whoR (tB T) (tB T 0 2) (tR T) p + (if 0 < tR T (atL (tB T) (tB T 0 2) p) then 1 else 0) := rfl
        rw [f_X10_made_L32, ho, if_neg (by rw [iI_le (by omega) (by omega)]; omega), ob_iI (by omega), iI_nat (by omega)]
        dsimp only [sq, Nat.reduceAdd]
        rw [hok, ob_iI (by omega), iI_nat (by omega), h32, hrow, ob_iI (by omega), show iI (sumR (tB T) (tB T 0 2) (tR T) p) + iI (tR T (atL (tB T) (tB T 0 2) p)) = iI (sumR (tB T) (tB T 0 2) (tR T) (p + 1)) by rw [e1]; exact iI_add _ _, show iI p + (1 : Int32) = iI (p + 1 : Nat) from iI_add p 1]
        have a1 : (pI S 103 32 (iI (sumR (tB T) (tB T 0 2) (tR T) (p + 1)))).1 121 p = iI (atL (tB T) (tB T 0 2) p) := by rw [pI_row (by omega)]; exact hok
        have a2 : (pI S 103 32 (iI (sumR (tB T) (tB T 0 2) (tR T) (p + 1)))).1 119 (atL (tB T) (tB T 0 2) p) = iI (tR T (atL (tB T) (tB T 0 2) p)) := by rw [pI_row (by omega)]; exact hrow
        have a3 : (pI S 103 32 (iI (sumR (tB T) (tB T 0 2) (tR T) (p + 1)))).1 103 34 = iI (whoR (tB T) (tB T 0 2) (tR T) p) := by rw [pI_1, if_neg (by omega)]; exact h34
        rw [a1, ob_iI (by omega), iI_nat (by omega), a2, a3]
        have fin : ∀ d : Nat, d = (if 0 < tR T (atL (tB T) (tB T 0 2) p) then 1 else 0) → ∃ S2 : St, f_X10_made_L32 N 103 x (iI (p + 1 : Nat)) (pI (pI S 103 32 (iI (sumR (tB T) (tB T 0 2) (tR T) (p + 1)))) 103 34 (iI (whoR (tB T) (tB T 0 2) (tR T) p) + iI d)) = some (if x = 0 then iI (sumR (tB T) (tB T 0 2) (tR T) (cntL (tB T) (tB T 0 2))) else bI (madeS (tB T) (tB T 0 2) (tR T)), S2) ∧ Fr PScr S5 S2 := fun d hd => by
          refine ih N (p + 1) _ (by omega) (by omega) (fun a k h => ?_) r2 ?_ ?_
          · rw [pI_1, if_neg (by omega), pI_1, if_neg (by omega)]; exact r1 a k h
          · rw [pI_1, if_neg (by omega), pI_1, if_pos ⟨rfl, rfl⟩]
          · rw [pI_1, if_pos ⟨rfl, rfl⟩, e2, ← hd]; exact iI_add _ _
        by_cases hc : 0 < tR T (atL (tB T) (tB T 0 2) p)
        · rw [if_neg (by rw [show (0 : Int32) = iI 0 from rfl, iI_le (by omega) (by omega)]; omega)]
          exact fin 1 (by rw [if_pos hc])
        · rw [if_pos (by rw [show (0 : Int32) = iI 0 from rfl, iI_le (by omega) (by omega)]; omega)]
          exact fin 0 (by rw [if_neg hc])
    obtain ⟨S6, z1, z2⟩ := key (cntL (tB T) (tB T 0 2)) FU 0 (pI (pI S5 103 32 0) 103 34 0) (by omega) (by unfold FU; omega) (fun a k h => by rw [pI_1, if_neg (by omega), pI_1, if_neg (by omega)]) rfl (by rw [pI_1, if_neg (by omega), pI_1, if_pos ⟨rfl, rfl⟩, show sumR (tB T) (tB T 0 2) (tR T) 0 = 0 from rfl]; rfl) (by rw [pI_1, if_pos ⟨rfl, rfl⟩, show whoR (tB T) (tB T 0 2) (tR T) 0 = 0 from rfl]; rfl)
    refine ⟨S6, ?_, q6.tr z2⟩
    unfold f_X10_made
    rw [bd_ok (in_ok hb), if_neg (by decide), bd_ok q1, bd_ok q2, sq_k, sq_k]
    exact z1
theorem E_even13 {S : St} {T : Tst} {t : Nat} (hV : VT T) (hE : IE S T) (ht : t ≤ 9999) : ∃ (P : Nat) (S2 : St), (P = 5 ∨ P = 15) ∧ f_X9_playEvening 0 (iI t) S = some ((), S2) ∧ GA S2 (tB T) (tB T 0 2) 25 P (tS T) (tB T 0 0) (tB T 0 5) 0 (-1) ∧ GP S2 (tB T) (tB T 0 2) (tB T 0 0) (tB T 0 5) (tS T) 0 0 (drawW (tB T) (tB T 0 2) t) (cntL (tB T) (tB T 0 2)) ∧ IE S2 T ∧ S2.1 0 13 = S.1 0 13 := by
  obtain ⟨P, S1, p1, e1, e2, e3, e4, e5, e6, e7⟩ := E_setGame hE
  have hVB := VT_B hV
  have hng : tB T 9 1 ≤ 8 := hVB.2.1.2.2.2
  have hcl := cntL_le (tB T) (tB T 0 2)
  obtain ⟨S2, q1, q2, q3⟩ := E_evLoop (t := t) hVB (VT_L hV) p1 hV.2.2.2.2.1 hVB.1.2.1 hVB.1.2.2.2.2.2.2.1 ht (cntL (tB T) (tB T 0 2)) FU 0 S1 (by omega) (by unfold FU; omega) ⟨e2, e3, e4⟩ (GP_0 e5 _ _ _ _ _ _ _ _)
  refine ⟨P, S2, p1, ?_, GA_fr (Or.inl rfl) p1 ⟨e2, e3, e4⟩ q3 ply_68, q2, IE_scr e6 (q3.wk ply_PEs) (ZE_ply e5 q3), ?_⟩
  · unfold f_X9_playEvening
    rw [bd_ok e1]
    exact q1
  · rw [q3.1 0 13 (by unfold PPly; omega), e7.1 0 13 (by unfold P47; omega)]
theorem whole13 {S : St} {T : Tst} {t : Nat} (hV : VT T) (hE : IE S T) (ht : t ≤ 9999) : ∃ (v : Int32) (S2 : St), f_X9_whole 0 (iI t) (0 : Int32) S = some (v, S2) ∧ IE S2 T ∧ S2.1 0 13 = S.1 0 13 := by
  have hVB := VT_B hV
  have hng : tB T 9 1 ≤ 8 := hVB.2.1.2.2.2
  have hcl := cntL_le (tB T) (tB T 0 2)
  obtain ⟨P, S2, p1, e1, e2, e3, e4, e5⟩ := E_even13 hV hE ht
  have w1 : f_X9_isWithin (iI t) (0 : Int32) (9999 : Int32) S = some (1, S) := within_ok (by unfold bad; rw [iI_toInt (by omega), show (0 : Int32).toInt = 0 from rfl, show (9999 : Int32).toInt = 9999 from rfl]; omega)
  have w2 : f_X9_isWithin (0 : Int32) (0 : Int32) (1 : Int32) S = some (1, S) := within_ok (by unfold bad; decide)
  refine ⟨S2.1 (47 + 23) (Int32.toNatClampNeg (iI (cntL (tB T) (tB T 0 2)))), S2, ?_, e4, e5⟩
  unfold f_X9_whole
  rw [bd_ok w1, if_neg (by decide), bd_ok w2, if_neg (by decide), bd_ok e1, if_pos rfl]
  rw [show (0 + 25 : Nat) = 25 from rfl, show (0 + 47 : Nat) = 47 from rfl, e2.2.2.1, ob_iI (by omega)]
theorem stand13 {S S2 : St} {w : Nat} (h : f_X9_waysAsTheyStand 0 S = some (w, S2)) : ¬ S2.1 0 13 = 0 := by
  unfold f_X9_waysAsTheyStand at h
  by_cases hc : S.1 0 13 = 0
  · rw [if_pos hc] at h
    obtain ⟨u, S3, -, h⟩ := bd_some h
    obtain ⟨u2, S5, -, h⟩ := bd_some h
    have h := sq_eq h
    have h2 : pI S5 0 13 (1 : Int32) = S2 := congrArg Prod.snd (Option.some.inj h)
    rw [← h2, pI_1, if_pos ⟨rfl, rfl⟩]; decide
  · rw [if_neg hc] at h
    have h2 : S = S2 := congrArg Prod.snd (Option.some.inj h)
    rw [← h2]; exact hc
def cnt0 (T : Tst) : Int := cntS (tB T) (tB T 0 2) (tB T 0 0) (tB T 0 5) (tS T) 0 0 0
theorem odds_of {S S2 : St} {T : Tst} (e1 : f_X9_waysAsTheyStand 0 S = some (73, S2)) (e4 : K1 S2 (tB T) (tS T)) : f_X9_odds 0 (0 : Int32) S = some (lI (cnt0 T), S2) := by
  have w2 : f_X9_isWithin (0 : Int32) (0 : Int32) (2 : Int32) S = some (1, S) := within_ok (by unfold bad; decide)
  unfold f_X9_odds
  rw [bd_ok w2, if_neg (by decide), bd_ok e1, ck_pos (show kdE 73 = 8 from rfl), sq_k, e4.1.1, if_pos rfl]
  rfl
theorem odds13 {S : St} {T : Tst} (hV : VT T) (hE : IE S T) : ∃ S2 : St, f_X9_odds 0 (0 : Int32) S = some (lI (cnt0 T), S2) ∧ IE S2 T ∧ ¬ S2.1 0 13 = 0 := by
  obtain ⟨S2, e1, e2, e3, e4⟩ := E_stand hV hE
  exact ⟨S2, odds_of e1 e4, e2, stand13 e1⟩
theorem odds_again {S : St} {T : Tst} (hV : VT T) (hE : IE S T) (h13 : ¬ S.1 0 13 = 0) : f_X9_odds 0 (0 : Int32) S = some (lI (cnt0 T), S) := by
  obtain ⟨S2, e1, e2, e3, e4⟩ := E_stand hV hE
  have h2 : S = S2 := by
    have h := e1
    unfold f_X9_waysAsTheyStand at h
    rw [if_neg h13] at h
    exact congrArg Prod.snd (Option.some.inj h)
  have := odds_of e1 e4
  rw [← h2] at this
  exact this
theorem cnt0_pos {T : Tst} (hV : VT T) : (0 : Int64) ≤ lI (cnt0 T) := by
  have hVB := VT_B hV
  have hng : tB T 9 1 ≤ 8 := hVB.2.1.2.2.2
  have hcl := cntL_le (tB T) (tB T 0 2)
  obtain ⟨c1, c2⟩ := cntS_bd (bar := tB T 0 0) (e := tB T 0 5) (sh := tS T) (rq := 0) (R := 0) (what := 0) hVB (VT_L hV)
  obtain ⟨t1, t2⟩ := ten_le (n := cntL (tB T) (tB T 0 2)) (by omega)
  unfold cnt0
  rw [show (0 : Int64) = lI 0 from rfl, lI_le (by omega) (by omega)]
  exact c1
def cvF (T : Tst) (k : Int32) : Int32 := if k = 0 then iI (tB T 9 1) else if k = 1 then iI (cntL (tB T) (tB T 0 2)) else if k = 2 then iI (tB T 9 0) else if k = 3 then iI (tN T) else if k = 4 then iI (tK T) else if k = 5 then iI (tB T 0 0) else if k = 6 then iI (tB T 0 2) else -1
theorem count_cv {S : St} {T : Tst} (hV : VT T) (hE : IE S T) (x : Int32) : f_X9_count 0 x S = some (cvF T x, S) := by
  obtain ⟨t1, t2, t3, t4, t5, t6, t7⟩ := IE_has hE
  obtain ⟨P, p1, p2, p3⟩ := IE_P hE
  have hC := IE_C hE
  have hk := kdE_P p1
  unfold f_X9_count cvF
  dsimp only [Nat.reduceAdd]
  rw [p2, ck_pos hk, ck_pos hk, ck_pos hk, ck_pos hk, p3.2.2.1, p3.2.1, p3.1.1, p3.1.2.2.1, hC.1, ← t1, ← t5]
  by_cases h0 : x = 0
  · rw [if_pos h0, if_pos h0]
  rw [if_neg h0, if_neg h0]
  by_cases h1 : x = 1
  · rw [if_pos h1, if_pos h1]
  rw [if_neg h1, if_neg h1]
  by_cases h2 : x = 2
  · rw [if_pos h2, if_pos h2]
  rw [if_neg h2, if_neg h2]
  by_cases h3 : x = 3
  · rw [if_pos h3, if_pos h3]
  rw [if_neg h3, if_neg h3]
  by_cases h4 : x = 4
  · rw [if_pos h4, if_pos h4]
  rw [if_neg h4, if_neg h4]
  by_cases h5 : x = 5
  · rw [if_pos h5, if_pos h5]
  rw [if_neg h5, if_neg h5]
  by_cases h6 : x = 6
  · rw [if_pos h6, if_pos h6]
  rw [if_neg h6, if_neg h6]
theorem iI_nneg {a : Nat} (h : a < 2147483648) : ¬ iI a < (0 : Int32) := by rw [show (0 : Int32) = iI 0 from rfl, iI_lt (by omega) (by omega)]; omega
theorem cv_nneg {T : Tst} (hV : VT T) : ∀ k : Nat, k < 7 → ¬ cvF T (iI k) < 0 := by
  have hVB := VT_B hV
  have hng : tB T 9 1 ≤ 8 := hVB.2.1.2.2.2
  have hcl := cntL_le (tB T) (tB T 0 2)
  have h90 : tB T 9 0 ≤ 6 := hVB.2.1.2.1
  have h3 : tN T ≤ 300 := hV.1
  have h4 : tK T ≤ 2 := hV.2.2.2.2.2.1
  have h5 : tB T 0 0 ≤ 60 := hVB.1.2.1
  have h6 : tB T 0 2 ≤ 30 := hVB.1.2.2.2.1
  intro k hk
  match k, hk with
  | 0, _ => exact iI_nneg (by omega)
  | 1, _ => exact iI_nneg (by omega)
  | 2, _ => exact iI_nneg (by omega)
  | 3, _ => exact iI_nneg (by omega)
  | 4, _ => exact iI_nneg (by omega)
  | 5, _ => exact iI_nneg (by omega)
  | 6, _ => exact iI_nneg (by omega)
  | k + 7, h => exact absurd h (by omega)
