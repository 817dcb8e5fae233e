theorem PRst_PEs {a k : Nat} (h : PRst a k) : PEs a k := by unfold PRst at h; unfold PEs; omega
theorem IE_rst {S S2 : St} {T : Tst} (h : IE S T) (hf : Fr PRst S S2) : IE S2 T := by
  refine IE_scr h (hf.wk (fun _ _ => PRst_PEs)) ?_
  have hz := IE_Z h
  unfold ZE at hz ⊢
  rw [hf.1 70 0 (by unfold PRst; omega), hf.1 71 0 (by unfold PRst; omega), hf.1 72 0 (by unfold PRst; omega), hf.1 78 0 (by unfold PRst; omega), hf.1 84 0 (by unfold PRst; omega)]
  exact hz
theorem E_takeT {S : St} {T : Tst} (hV : VT T) (hE : IE S T) : ∃ (P : Nat) (S1 : St), (P = 5 ∨ P = 15) ∧ S.2.2 0 2 = P ∧ f_X4_take 85 P 25 S = some ((), S1) ∧ RE S1 (tB T) (tB T 0 2) ∧ Fr PRst S S1 := by
  obtain ⟨P, p1, p2, p3⟩ := IE_P hE
  obtain ⟨S1, a1, a2, a3⟩ := E_take (VT_B hV) (VT_L hV) p1 p3 (IE_C hE)
  exact ⟨P, S1, p1, p2, a1, a2, a3⟩
theorem M_startL {S : St} {T : Tst} (hV : VT T) (h : IM S T) : ∃ S1 S2 : St, f_X10_plain 103 S = some ((), S1) ∧ f_X10_layOrder 103 S1 = some ((), S2) ∧ IM S2 T ∧ LM S2 (tB T) (tB T 0 2) ∧ Fr PScr S S2 := by
  obtain ⟨S1, S2, e1, e2, e3, e4, e5, e6⟩ := M_start hV h
  exact ⟨S1, S2, e1, e2, e3, ⟨e3.2.2.1, e5, e4.1⟩, e6⟩
theorem PLy_scr {a k : Nat} (h : PLy a k) : PScr a k := by unfold PLy at h; unfold PScr; omega
/-- the first gifts of the reference -/
theorem M_first {S : St} {B : Bd} {L i : Nat} (hV : VB B) (hi : i < B 9 1) (hd : ∀ i x y, i ≤ B 9 1 → x < 100 → y < 9 → S.2.1 126 (spN i x y) = lI (tgL B L i x y)) (hfe : fea (mgN B L) 0 (B 9 1) (B 0 0) (B 0 1)) :
    f_X10_just_L95 FU 103 (iI i) (iI (B 0 0)) (iI (B 0 1)) 0 0 S = some (lI (jsG (mgN B L) (B 9 1) (B 0 0) (B 0 1) i), S) := by
  have hng : B 9 1 ≤ 8 := hV.2.1.2.2.2
  have hbar : B 0 0 ≤ 60 := hV.1.2.1
  have hneed : B 0 1 ≤ 8 := hV.1.2.2.1
  obtain ⟨J, hJ⟩ : ∃ J, J = jst (mgN B L) (B 9 1) (B 0 0) (B 0 1) := ⟨_, rfl⟩
  obtain ⟨G, hG⟩ : ∃ G, G = jsG (mgN B L) (B 9 1) (B 0 0) (B 0 1) := ⟨_, rfl⟩
  have hJs : ∀ k, J (k + 1) = ((J k).1 - G k, (J k).2 - o1 (G k)) := fun k => by rw [hJ, hG]; rfl
  have hJf : ∀ k, k ≤ B 9 1 → fea (mgN B L) k (B 9 1 - k) (J k).1 (J k).2 ∧ (J k).1 ≤ B 0 0 ∧ (J k).2 ≤ B 0 1 := fun k hk => by rw [hJ]; exact jst_fea hfe k hk
  have hGo : ∀ k, k < B 9 1 → okG (mgN B L) k (B 9 1 - 1 - k) (J k).1 (J k).2 (G k) ∧ ∀ g, g < G k → ¬ okG (mgN B L) k (B 9 1 - 1 - k) (J k).1 (J k).2 g := fun k hk => by rw [hJ, hG]; exact jsG_ok hfe hk
  have hG30 : ∀ k, k < B 9 1 → G k ≤ 30 := fun k hk => Nat.le_trans (hGo k hk).1.1 (mgN_le hV k)
  -- one giver
  have key104 : ∀ (kb : Int32 → Int32 → Int32 → Int32 → St → Option (Int64 × St)) (k : Nat) (z : Int), k < B 9 1 → z.toNat = (J k).2 → -10 ≤ z → z ≤ 8 → ∀ (m N g : Nat), g + m = G k → m < N → f_X10_just_L104 N 103 (iI i) kb (iI (J k).1) (iI z) (iI g) (iI k) S = kb (iI (J (k + 1)).1) (iI (z - o1 (G k))) (iI (G k)) (iI (k + 1 : Nat)) S := by
    intro kb k z hk hz hz1 hz2
    obtain ⟨ok1, ok2⟩ := hGo k hk
    have hJ1 : (J (k + 1)).1 = (J k).1 - G k := by rw [hJs]
    have hg30 := hG30 k hk
    have hJb := (hJf k (by omega)).2.1
    intro m
    induction m with
    | zero =>
      intro N g hg hN
      obtain ⟨N, rfl⟩ : ∃ k, N = k + 1 := ⟨N - 1, by omega⟩
      have hge : g = G k := by omega
      have hz3 : (z - (o1 (G k) : Int)).toNat = (J k).2 - o1 (G k) := by omega
      have ho1 : o1 (G k) ≤ 1 := by unfold o1; by_cases q : 0 < G k <;> simp [q]
      have hlf := M_laysFrom (L := L) (i := k + 1) (s := (J k).1 - G k) (z := z - (o1 (G k) : Int)) hV (by omega) (by omega) (by omega) hd
      rw [hz3] at hlf
      have hne : lI (cgF B L (k + 1) ((J k).1 - G k) ((J k).2 - o1 (G k))) ≠ 0 := fun q => (cgF_0 hV (by omega)).1.mp q (by rw [show B 9 1 - (k + 1) = B 9 1 - 1 - k by omega]; exact ok1.2.2)
      have hgs := ok1.2.1
      have hj : ∀ (o : Nat), o = o1 (G k) → f_X10_just_J126 103 (iI i) kb (fun l4 l5 l6 l7 S => f_X10_just_L104 N 103 (iI i) kb l4 l5 l6 l7 S) (iI (J k).1) (iI z) (iI (G k)) (iI k) 103 (iI (k + 1 : Nat)) (iI ((J k).1 - G k : Nat)) (iI z) (iI o) S = kb (iI (J (k + 1)).1) (iI (z - o1 (G k))) (iI (G k)) (iI (k + 1 : Nat)) S := by
        intro o ho
        unfold f_X10_just_J126
        rw [iI_sub, ho, bd_ok hlf, if_neg hne, iI_sub, sq_k, show (((J k).1 : Int) - (G k : Int)) = (((J k).1 - G k : Nat) : Int) by omega, show iI k + (1 : Int32) = iI (k + 1 : Nat) from iI_add k 1, ← hJ1]
        by_cases hg0 : 0 < G k
        · have ho2 : o1 (G k) = 1 := if_pos hg0
          rw [if_neg (by rw [show (0 : Int32) = iI 0 from rfl, iI_le (by omega) (by omega)]; omega), ho2, show (1 : Int32) = iI 1 from rfl, iI_sub, sq_k]; rfl
        · have ho2 : o1 (G k) = 0 := if_neg hg0
          rw [if_pos (by rw [show (0 : Int32) = iI 0 from rfl, iI_le (by omega) (by omega)]; omega), ho2, show (0 : Int32) = iI 0 from rfl, iI_sub, sq_k]; rfl
      rw [f_X10_just_L104, hge, iI_sub, show (((J k).1 : Int) - (G k : Int)) = (((J k).1 - G k : Nat) : Int) by omega, show iI k + (1 : Int32) = iI (k + 1 : Nat) from iI_add k 1]
      by_cases hg0 : 0 < G k
      · rw [if_neg (by rw [show (0 : Int32) = iI 0 from rfl, iI_le (by omega) (by omega)]; omega)]
        exact hj 1 (if_pos hg0).symm
      · rw [if_pos (by rw [show (0 : Int32) = iI 0 from rfl, iI_le (by omega) (by omega)]; omega)]
        exact hj 0 (if_neg hg0).symm
    | succ m ih =>
      intro N g hg hN
      obtain ⟨N, rfl⟩ : ∃ k, N = k + 1 := ⟨N - 1, by omega⟩
      have hgs := ok1.2.1
      have hgm := ok1.1
      have ho1 : o1 g ≤ 1 := by unfold o1; by_cases q : 0 < g <;> simp [q]
      have hz3 : (z - (o1 g : Int)).toNat = (J k).2 - o1 g := by omega
      have hlf := M_laysFrom (L := L) (i := k + 1) (s := (J k).1 - g) (z := z - (o1 g : Int)) hV (by omega) (by omega) (by omega) hd
      rw [hz3] at hlf
      have h0 : lI (cgF B L (k + 1) ((J k).1 - g) ((J k).2 - o1 g)) = 0 := (cgF_0 hV (by omega)).1.mpr (fun q => ok2 g (by omega) ⟨by omega, by omega, by
        rw [show B 9 1 - (k + 1) = B 9 1 - 1 - k by omega] at q; exact q⟩)
      have nx := ih N (g + 1) (by omega) (by omega)
      have hj : ∀ (o : Nat), o = o1 g → f_X10_just_J126 103 (iI i) kb (fun l4 l5 l6 l7 S => f_X10_just_L104 N 103 (iI i) kb l4 l5 l6 l7 S) (iI (J k).1) (iI z) (iI g) (iI k) 103 (iI (k + 1 : Nat)) (iI ((J k).1 - g : Nat)) (iI z) (iI o) S = kb (iI (J (k + 1)).1) (iI (z - o1 (G k))) (iI (G k)) (iI (k + 1 : Nat)) S := by
        intro o ho
        unfold f_X10_just_J126
        rw [iI_sub, ho, bd_ok hlf, if_pos h0, show iI g + (1 : Int32) = iI (g + 1 : Nat) from iI_add g 1]
        exact nx
      rw [f_X10_just_L104, iI_sub, show (((J k).1 : Int) - (g : Int)) = (((J k).1 - g : Nat) : Int) by omega, show iI k + (1 : Int32) = iI (k + 1 : Nat) from iI_add k 1]
      by_cases hg0 : 0 < g
      · rw [if_neg (by rw [show (0 : Int32) = iI 0 from rfl, iI_le (by omega) (by omega)]; omega)]
        exact hj 1 (if_pos hg0).symm
      · rw [if_pos (by rw [show (0 : Int32) = iI 0 from rfl, iI_le (by omega) (by omega)]; omega)]
        exact hj 0 (if_neg hg0).symm
  have key95 : ∀ (m N k : Nat) (z : Int) (g : Nat), k + m = i + 1 → m < N → z.toNat = (J k).2 → -(k : Int) ≤ z → z ≤ 8 → (m = 0 → g = G i) → f_X10_just_L95 N 103 (iI i) (iI (J k).1) (iI z) (iI g) (iI k) S = some (lI (G i), S) := by
    intro m
    induction m with
    | zero =>
      intro N k z g hk hN hz hz1 hz2 hg
      obtain ⟨N, rfl⟩ : ∃ k, N = k + 1 := ⟨N - 1, by omega⟩
      have := hG30 i hi
      rw [f_X10_just_L95, if_pos (by rw [iI_lt (by omega) (by omega)]; omega), hg rfl, iI_l (by omega)]
    | succ m ih =>
      intro N k z g hk hN hz hz1 hz2 hg
      obtain ⟨N, rfl⟩ : ∃ k, N = k + 1 := ⟨N - 1, by omega⟩
      have hk9 : k < B 9 1 := by omega
      have hg30 := hG30 k hk9
      have ho1 : o1 (G k) ≤ 1 := by unfold o1; by_cases q : 0 < G k <;> simp [q]
      have h1 := key104 (fun l4 l5 l6 l7 S => f_X10_just_L95 N 103 (iI i) l4 l5 l6 l7 S) k z hk9 hz (by omega) hz2 (G k) FU 0 (Nat.zero_add _) (by unfold FU; omega)
      have nx := ih N (k + 1) (z - o1 (G k)) (G k) (by omega) (by omega) (by rw [hJs]; dsimp only; omega) (by omega) (by omega) (fun hm => by rw [show k = i by omega])
      rw [f_X10_just_L95, if_neg (by rw [iI_lt (by omega) (by omega)]; omega)]
      exact h1.trans nx
  have hJ0 : J 0 = (B 0 0, B 0 1) := by rw [hJ]; rfl
  have z := key95 (i + 1) FU 0 (B 0 1) 0 (by omega) (by unfold FU; omega) (by rw [hJ0]; rfl) (by omega) (by omega) (fun h => absurd h (by omega))
  rw [hJ0] at z
  rw [← hG]
  exact z
theorem ok_just (x : Int32) : Okk (f_X9_just 0 x) (f_X10_just 103 x) := by
  apply Okk_scr
  intro S T hV hE
  have hVB := VT_B hV
  have hL := VT_L hV
  have hng : tB T 9 1 ≤ 8 := hVB.2.1.2.2.2
  have hbar : tB T 0 0 ≤ 60 := hVB.1.2.1
  have hneed : tB T 0 1 ≤ 8 := hVB.1.2.2.1
  obtain ⟨P, S1, p1, p2, a1, a2, a3⟩ := E_takeT hV hE
  obtain ⟨S2, b1, b2, b3⟩ := E_justWays hVB hL a2
  have hjn : justN (tB T) (tB T 0 2) = cgF (tB T) (tB T 0 2) 0 (tB T 0 0) (tB T 0 1) := by unfold justN cgF; rw [Nat.sub_zero]
  have hz := cgF_0 (B := tB T) (L := tB T 0 2) (i := 0) (s := tB T 0 0) (l := tB T 0 1) hVB (Nat.zero_le _)
  rw [← hjn, Nat.sub_zero] at hz
  have f2 : Fr PRst S S2 := a3.tr (b3.wk (fun a k h => Or.inr (Or.inr h)))
  have hE2 := IE_rst hE f2
  -- what the class answers once it may
  have goE : ∀ v : Int64, (v = if x = -1 then lI (justN (tB T) (tB T 0 2)) else if lI (justN (tB T) (tB T 0 2)) = 0 then -4 else lI (jsG (mgN (tB T) (tB T 0 2)) (tB T 9 1) (tB T 0 0) (tB T 0 1) (x.toInt.toNat))) → (x ≠ -1 → ∃ i : Nat, x = iI i ∧ i < tB T 9 1 ∧ cmB (tB T) (tB T 0 2) i = true) → f_X9_just_J30 0 x S = some (v, S2) := by
    intro v hv hx
    unfold f_X9_just_J30
    rw [p2, ck_pos (kdE_P p1)]
    dsimp only [Nat.reduceAdd]
    rw [bd_ok a1, bd_ok b1, hv]
    by_cases hx1 : x = -1
    · rw [if_pos hx1, if_pos hx1]
    · rw [if_neg hx1, if_neg hx1]
      by_cases h0 : lI (justN (tB T) (tB T 0 2)) = 0
      · rw [if_pos h0, if_pos h0]
      · rw [if_neg h0, if_neg h0]
        obtain ⟨i, rfl, hi, hci⟩ := hx hx1
        have hfe : fea (mgN (tB T) (tB T 0 2)) 0 (tB T 9 1) (tB T 0 0) (tB T 0 1) := Classical.byContradiction (fun q => h0 (hz.1.mpr q))
        have hg := (jsG_ok hfe hi).1.1
        have hm := mgN_le (L := tB T 0 2) hVB i
        rw [bd_ok (E_firstGift hVB hL b2 hi hci hfe), iI_l (by omega), iI_toInt (by omega)]
        rfl
  -- and the reference
  have goM : ∀ (S1 : St), IM S1 T → LM S1 (tB T) (tB T 0 2) → ∀ v : Int64, (v = if x = -1 then lI (justN (tB T) (tB T 0 2)) else if lI (justN (tB T) (tB T 0 2)) = 0 then -4 else lI (jsG (mgN (tB T) (tB T 0 2)) (tB T 9 1) (tB T 0 0) (tB T 0 1) (x.toInt.toNat))) → (x ≠ -1 → ∃ i : Nat, x = iI i ∧ i < tB T 9 1 ∧ cmB (tB T) (tB T 0 2) i = true) → ∃ S2 : St, f_X10_just_J33 103 x S1 = some (v, S2) ∧ Fr PScr S1 S2 := by
    intro S1 hM hL1 v hv hx
    obtain ⟨S3, c1, c2, c3⟩ := M_layLays hVB hL1
    have hM3 := LM_fr hL1 c3
    have e1 : S3.1 105 1 = iI (tB T 0 1) := hM3.1.1 1 (by omega)
    have hlf := M_laysFrom (S := S3) (B := tB T) (L := tB T 0 2) (i := 0) (s := tB T 0 0) (z := (tB T 0 1 : Int)) hVB (Nat.zero_le _) (by omega) (by omega) c2
    rw [show ((tB T 0 1 : Int)).toNat = tB T 0 1 from rfl, ← hjn] at hlf
    have hlf' : f_X10_laysFrom 103 0 (iI (tB T 0 0)) (iI (tB T 0 1)) S3 = some (lI (justN (tB T) (tB T 0 2)), S3) := hlf
    refine ⟨S3, ?_, c3.wk (fun _ _ => PLy_scr)⟩
    unfold f_X10_just_J33
    rw [bd_ok c1, hM3.2.2, show Int32.toNatClampNeg 1 = 1 from rfl, show (103 : Nat) + 2 = 105 from rfl, e1, bd_ok hlf', hv]
    unfold f_X10_just_J63
    by_cases hx1 : x = -1
    · rw [if_pos (by rw [hx1]; decide), if_neg (by rw [hx1]; decide), if_pos hx1]
    · obtain ⟨i, rfl, hi, hci⟩ := hx hx1
      rw [if_neg (by rw [show (0 : Int32) = iI 0 from rfl, iI_lt (by omega) (by omega)]; omega), if_neg hx1, if_pos (show (0 : Int32) ≤ iI i by rw [show (0 : Int32) = iI 0 from rfl, iI_le (by omega) (by omega)]; omega)]
      by_cases h0 : lI (justN (tB T) (tB T 0 2)) = 0
      · rw [if_pos h0, if_pos h0]
      · rw [if_neg h0, if_neg h0]
        have hfe : fea (mgN (tB T) (tB T 0 2)) 0 (tB T 9 1) (tB T 0 0) (tB T 0 1) := Classical.byContradiction (fun q => h0 (hz.1.mpr q))
        rw [sq_k, sq_k, iI_toInt (by omega), hM3.2.2, e1, Int.toNat_natCast]
        exact M_first hVB hi c2 hfe
  by_cases hx1 : x = -1
  · refine ⟨lI (justN (tB T) (tB T 0 2)), S2, ⟨?_, hE2, f2.wk (fun a k h => PEs_PE a k (PRst_PEs h))⟩, fun S1 hM => ?_⟩
    · unfold f_X9_just
      rw [if_pos hx1]
      exact goE _ (by rw [if_pos hx1]) (fun h => absurd hx1 h)
    · obtain ⟨S3, S4, e1, e2, e3, e4, e5⟩ := M_startL hV hM
      obtain ⟨S5, z1, z2⟩ := goM S4 e3 e4 (lI (justN (tB T) (tB T 0 2))) (by rw [if_pos hx1]) (fun h => absurd hx1 h)
      refine ⟨S5, ?_, e5.tr z2⟩
      unfold f_X10_just
      rw [bd_ok e1, bd_ok e2, if_pos hx1]
      exact z1
  by_cases hb : bad x 0 ((tB T 9 1 : Int) - 1)
  · refine ⟨-1, S, ⟨?_, hE, Fr.rf⟩, fun S1 hM => ?_⟩
    · unfold f_X9_just
      rw [if_neg hx1, bd_ok (E_isGiver_bad hV hE hb), if_pos rfl]
    · obtain ⟨S3, S4, e1, e2, e3, e4, e5⟩ := M_startL hV hM
      refine ⟨S4, ?_, e5⟩
      unfold f_X10_just
      rw [bd_ok e1, bd_ok e2, if_neg hx1, bd_ok (M_isGiver_bad hV e3 hb), if_pos rfl]
  obtain ⟨i, hi, hi8, rfl⟩ := giver_nat hV hb
  have hpl := E_place25 (i := i) hV hE hi8
  by_cases hci : cmB (tB T) (tB T 0 2) i = true
  · have hx : iI i ≠ -1 → ∃ j : Nat, iI i = iI j ∧ j < tB T 9 1 ∧ cmB (tB T) (tB T 0 2) j = true := fun _ => ⟨i, rfl, hi, hci⟩
    obtain ⟨p, hp, hpl2, -⟩ := plS_in ((cmB_iff hi).mp hci)
    have hpc : p < cntL (tB T) (tB T 0 2) := hp
    have hcl := cntL_le (tB T) (tB T 0 2)
    refine ⟨if lI (justN (tB T) (tB T 0 2)) = 0 then -4 else lI (jsG (mgN (tB T) (tB T 0 2)) (tB T 9 1) (tB T 0 0) (tB T 0 1) ((iI i).toInt.toNat)), S2, ⟨?_, hE2, f2.wk (fun a k h => PEs_PE a k (PRst_PEs h))⟩, fun S1 hM => ?_⟩
    · unfold f_X9_just
      rw [if_neg hx1, bd_ok (E_isGiver_ok hV hE hb), if_neg (by decide)]
      dsimp only [Nat.reduceAdd]
      rw [bd_ok hpl, hpl2, iI_n4, if_neg (by rw [iI_eq (by omega) (by omega)]; omega)]
      exact goE _ (by rw [if_neg hx1]) hx
    · obtain ⟨S3, S4, e1, e2, e3, e4, e5⟩ := M_startL hV hM
      obtain ⟨S5, z1, z2⟩ := goM S4 e3 e4 _ (by rw [if_neg hx1]) hx
      refine ⟨S5, ?_, e5.tr z2⟩
      unfold f_X10_just
      rw [bd_ok e1, bd_ok e2, if_neg hx1, bd_ok (M_isGiver_ok hV e3 hb), if_neg (by decide), bd_ok (M_comes hVB e4.2.1 hi), hci, if_neg (by decide)]
      exact z1
  · refine ⟨-1, S, ⟨?_, hE, Fr.rf⟩, fun S1 hM => ?_⟩
    · unfold f_X9_just
      rw [if_neg hx1, bd_ok (E_isGiver_ok hV hE hb), if_neg (by decide)]
      dsimp only [Nat.reduceAdd]
      rw [bd_ok hpl, plS_out (fun q => hci ((cmB_iff hi).mpr q)), iI_n4, if_pos rfl]
    · obtain ⟨S3, S4, e1, e2, e3, e4, e5⟩ := M_startL hV hM
      refine ⟨S4, ?_, e5⟩
      have hcf : cmB (tB T) (tB T 0 2) i = false := by
        cases h : cmB (tB T) (tB T 0 2) i
        · rfl
        · exact absurd h hci
      unfold f_X10_just
      rw [bd_ok e1, bd_ok e2, if_neg hx1, bd_ok (M_isGiver_ok hV e3 hb), if_neg (by decide), bd_ok (M_comes hVB e4.2.1 hi), hcf]
      rfl
