/-- an item by its figures and what comes of them -/
def RI (t : Nat → Nat) (n q : Nat) (B : Bd) (S : St) (R : Option (Int32 × St)) : Prop := ∃ (S2 : St) (b : Bool), R = some (bI b, S2) ∧ Fr PRd S S2 ∧ (itemS t n q B = none → b = false) ∧ ∀ q2 B2, itemS t n q B = some (q2, B2) → b = true ∧ S2.1 103 25 = iI q2 ∧ BM1 S2 B2
theorem M_itemOf {t : Nat → Nat} {n q m : Nat} {B : Bd} {S1 : St} {R : Option (Int32 × St)} (cont : St → Option (Int32 × St)) (hm : manyS (t q) = m) (hm0 : m ≠ 0) (hq : q < n) (hT : TM S1 t n) (h25 : S1.1 103 25 = iI (q + 1 : Nat)) (hB : BM1 S1 B)
    (hR : R = bd (f_X10_figures 103 (iI m) S1) fun x S3 => if x = 0 then some ((0 : Int32), S3) else cont S3)
    (hc : ∀ (S3 : St) (v : Nat → Nat), BM1 S3 B → (∀ j, j < m → S3.1 120 j = iI (v j)) → (∀ j, v j ≤ 999) → RM (takeS (t q) v B) S3 (cont S3)) : RI t n q B S1 R := by
  have hm5 : m ≤ 5 := by rw [← hm]; exact many_le (t q)
  obtain ⟨S3, b, z1, z2, z3, z4⟩ := M_numbers (t := t) (n := n) hm5 m FU (q + 1) (fun _ => 0) S1 (Nat.le_refl _) (by unfold FU; omega) (by omega) h25 hT (fun j hj => absurd hj (by omega))
  rw [Nat.sub_self] at z1
  have z1' : f_X10_figures 103 (iI m) S1 = some (bI b, S3) := z1
  have f3 : Fr PRd S1 S3 := z2.wk (fun _ _ => P119_rd)
  cases hf : figS t n m m (q + 1) (fun _ => 0) with
  | none =>
    have hit : itemS t n q B = none := by unfold itemS; rw [hm, if_neg hm0, hf]
    refine ⟨S3, false, ?_, f3, fun _ => rfl, fun q2 B2 h => absurd (hit.symm.trans h) (by simp)⟩
    rw [hR, z1', bd_ok rfl, z3 hf, if_pos (by decide)]; rfl
  | some r =>
    obtain ⟨hb, h313, hv⟩ := z4 r.1 r.2 hf
    obtain ⟨g1, g2, g3⟩ := figS_bd (q2 := r.1) (vs2 := r.2) hf
    obtain ⟨S4, b4, y1, y2, y3, y4⟩ := hc S3 r.2 (BM1_119 hB z2) hv (g3 (fun _ => Nat.zero_le _))
    have f4 : Fr PRd S1 S4 := f3.tr (y2.wk (fun _ _ => PRt_rd))
    have hR4 : R = some (bI b4, S4) := by rw [hR, z1', bd_ok rfl, hb, if_neg (by decide), y1]
    cases ht : takeS (t q) r.2 B with
    | none =>
      have hit : itemS t n q B = none := by unfold itemS; rw [hm, if_neg hm0, hf]; dsimp only; rw [ht]
      exact ⟨S4, b4, hR4, f4, fun _ => y3 ht, fun q2 B2 h => absurd (hit.symm.trans h) (by simp)⟩
    | some B3 =>
      obtain ⟨hb4, hB4⟩ := y4 B3 ht
      have hit : itemS t n q B = some (r.1, B3) := by unfold itemS; rw [hm, if_neg hm0, hf]; dsimp only; rw [ht]
      refine ⟨S4, b4, hR4, f4, fun h => absurd (hit.symm.trans h) (by simp), fun q2 B2 h => ?_⟩
      have e : (r.1, B3) = (q2, B2) := Option.some.inj (hit.symm.trans h)
      have e1 : r.1 = q2 := congrArg Prod.fst e
      have e2 : B3 = B2 := congrArg Prod.snd e
      refine ⟨hb4, ?_, by rw [← e2]; exact hB4⟩
      rw [y2.1 103 25 (by unfold PRt; omega), h313, e1]
theorem RI_ck {t : Nat → Nat} {n q : Nat} {B : Bd} {S : St} {R R2 : Option (Int32 × St)} (h : RI t n q B S R) (hR : R2 = bd R fun x S2 => ck (x = 0 ∨ x = 1) (some (x, S2))) : RI t n q B S R2 := by
  obtain ⟨S2, b, h1, h2⟩ := h
  exact ⟨S2, b, by rw [hR, h1, bd_ok rfl, ckbI], h2⟩
theorem ifz {α : Type} {a : Int32} {x y z : α} (h : y = z) : (if a = 0 then x else y) = (if a = 0 then x else z) := by rw [h]
theorem M_item {S : St} {t : Nat → Nat} {n q : Nat} {B : Bd} (hT : TM S t n) (hq : q < n) (h25 : S.1 103 25 = iI q) (hV : VB0 B) (hB : BM1 S B) : RI t n q B S (f_X10_item 103 S) := by
  have h300 := hT.1
  have hl := hT.2.1 q hq
  have h6 := hV.2.1.1
  have hby := M_byteAt (q := q) hT (by omega)
  rw [if_pos hq] at hby
  have w25 : P119 103 25 := Or.inl ⟨rfl, rfl⟩
  obtain ⟨S1, hS1⟩ : ∃ S1, S1 = pI S 103 25 (iI (q + 1 : Nat)) := ⟨_, rfl⟩
  have f1 : Fr P119 S S1 := by rw [hS1]; exact Fr.pI w25
  have f1r : Fr PRd S S1 := f1.wk (fun _ _ => P119_rd)
  have hT1 : TM S1 t n := TM_fr hT f1r
  have h251 : S1.1 103 25 = iI (q + 1 : Nat) := by rw [hS1, pI_1, if_pos ⟨rfl, rfl⟩]
  have hB1 : BM1 S1 B := BM1_119 hB f1
  have up : ∀ R, RI t n q B S1 R → RI t n q B S R := fun R ⟨S2, b, h1, h2, h3⟩ => ⟨S2, b, h1, f1r.tr h2, h3⟩
  have numI : ∀ (k m low high second : Nat) (S : St), f_X10_numberItem 103 (iI k) (iI m) (iI low) (iI high) (iI second) S = bd (f_X10_figures 103 (iI m) S) fun x S3 => if x = 0 then some ((0 : Int32), S3) else nuC (iI k) (iI m) (iI low) (iI high) (iI second) S3 := fun k m low high second S => rfl
  refine up _ ?_
  unfold f_X10_item
  rw [h25, bd_ok hby, h25, show iI q + (1 : Int32) = iI (q + 1 : Nat) from iI_add q 1, sq_k, ← hS1]
  by_cases c1 : t q = 98
  · rw [if_pos (show iI (t q) = 98 by rw [c1]; rfl)]
    refine RI_ck (M_itemOf (m := 2) (nuC (iI (0 : Nat)) (iI (2 : Nat)) (iI (1 : Nat)) (iI (60 : Nat)) (iI (8 : Nat))) (by rw [c1]; rfl) (by decide) hq hT1 h251 hB1 rfl (fun S3 v hB3 hv h9 => ?_)) rfl
    rw [c1]
    exact M_nu2 (k := 0) (by omega) hB3 hv h9 (by omega) (by omega) (by omega)
  rw [if_neg (show ¬ iI (t q) = (98 : Int32) by rw [show (98 : Int32) = iI 98 from rfl, iI_eq (by omega) (by omega)]; omega)]
  by_cases c2 : t q = 99
  · rw [if_pos (show iI (t q) = 99 by rw [c2]; rfl)]
    refine RI_ck (M_itemOf (m := 1) (nuC (iI (3 : Nat)) (iI (1 : Nat)) (iI (0 : Nat)) (iI (199 : Nat)) (iI (0 : Nat))) (by rw [c2]; rfl) (by decide) hq hT1 h251 hB1 rfl (fun S3 v hB3 hv h9 => ?_)) rfl
    rw [c2]
    exact RM_iff (p := 0 ≤ v 0 ∧ v 0 ≤ 199) (by omega) (M_nu1 (k := 3) (by omega) hB3 hv h9 (by omega) (by omega))
  rw [if_neg (show ¬ iI (t q) = (99 : Int32) by rw [show (99 : Int32) = iI 99 from rfl, iI_eq (by omega) (by omega)]; omega)]
  by_cases c3 : t q = 100
  · rw [if_pos (show iI (t q) = 100 by rw [c3]; rfl)]
    refine RI_ck (M_itemOf (m := 1) (nuC (iI (2 : Nat)) (iI (1 : Nat)) (iI (0 : Nat)) (iI (30 : Nat)) (iI (0 : Nat))) (by rw [c3]; rfl) (by decide) hq hT1 h251 hB1 rfl (fun S3 v hB3 hv h9 => ?_)) rfl
    rw [c3]
    exact RM_iff (p := 0 ≤ v 0 ∧ v 0 ≤ 30) (by omega) (M_nu1 (k := 2) (by omega) hB3 hv h9 (by omega) (by omega))
  rw [if_neg (show ¬ iI (t q) = (100 : Int32) by rw [show (100 : Int32) = iI 100 from rfl, iI_eq (by omega) (by omega)]; omega)]
  by_cases c4 : t q = 101
  · rw [if_pos (show iI (t q) = 101 by rw [c4]; rfl)]
    refine RI_ck (M_itemOf (m := 2) (nuC (iI (5 : Nat)) (iI (2 : Nat)) (iI (0 : Nat)) (iI (9 : Nat)) (iI (30 : Nat))) (by rw [c4]; rfl) (by decide) hq hT1 h251 hB1 rfl (fun S3 v hB3 hv h9 => ?_)) rfl
    rw [c4]
    exact RM_iff (p := 0 ≤ v 0 ∧ v 0 ≤ 9 ∧ v 1 ≤ 30) (by omega) (M_nu2 (k := 5) (by omega) hB3 hv h9 (by omega) (by omega) (by omega))
  rw [if_neg (show ¬ iI (t q) = (101 : Int32) by rw [show (101 : Int32) = iI 101 from rfl, iI_eq (by omega) (by omega)]; omega)]
  by_cases c5 : t q = 103
  · rw [if_pos (show iI (t q) = 103 by rw [c5]; rfl)]
    have hx : (6 : Int32) + S1.1 106 1 = iI (6 + B 9 0 : Nat) := by rw [hB1.2.1, show (6 : Int32) = iI 6 from rfl, iI_add]; congr 1
    refine RI_ck (M_itemOf (m := 5) (gC (iI (6 + B 9 0 : Nat))) (by rw [c5]; rfl) (by decide) hq hT1 h251 hB1 (R := f_X10_sortItem 103 S1) ?_ (fun S3 v hB3 hv h9 => ?_)) rfl
    · unfold f_X10_sortItem
      rw [show S1.1 (103 + 3) (Int32.toNatClampNeg 1) = S1.1 106 1 from rfl, hx, sq_k]
      rfl
    · rw [c5]
      exact M_t103 hV hB3 hv h9
  rw [if_neg (show ¬ iI (t q) = (103 : Int32) by rw [show (103 : Int32) = iI 103 from rfl, iI_eq (by omega) (by omega)]; omega)]
  by_cases c6 : t q = 111
  · rw [if_pos (show iI (t q) = 111 by rw [c6]; rfl)]
    refine RI_ck (M_itemOf (m := 1) (nuC (iI (7 : Nat)) (iI (1 : Nat)) (iI (0 : Nat)) (iI (1 : Nat)) (iI (0 : Nat))) (by rw [c6]; rfl) (by decide) hq hT1 h251 hB1 rfl (fun S3 v hB3 hv h9 => ?_)) rfl
    rw [c6]
    exact RM_iff (p := 0 ≤ v 0 ∧ v 0 ≤ 1) (by omega) (M_nu1 (k := 7) (by omega) hB3 hv h9 (by omega) (by omega))
  rw [if_neg (show ¬ iI (t q) = (111 : Int32) by rw [show (111 : Int32) = iI 111 from rfl, iI_eq (by omega) (by omega)]; omega)]
  by_cases c7 : t q = 112
  · rw [if_pos (show iI (t q) = 112 by rw [c7]; rfl)]
    refine RI_ck (M_itemOf (m := 1) (nuC (iI (4 : Nat)) (iI (1 : Nat)) (iI (0 : Nat)) (iI (9 : Nat)) (iI (0 : Nat))) (by rw [c7]; rfl) (by decide) hq hT1 h251 hB1 rfl (fun S3 v hB3 hv h9 => ?_)) rfl
    rw [c7]
    exact RM_iff (p := 0 ≤ v 0 ∧ v 0 ≤ 9) (by omega) (M_nu1 (k := 4) (by omega) hB3 hv h9 (by omega) (by omega))
  rw [if_neg (show ¬ iI (t q) = (112 : Int32) by rw [show (112 : Int32) = iI 112 from rfl, iI_eq (by omega) (by omega)]; omega)]
  by_cases c8 : t q = 115
  · rw [if_pos (show iI (t q) = 115 by rw [c8]; rfl)]
    refine RI_ck (M_itemOf (m := 2) (nuC (iI (8 : Nat)) (iI (2 : Nat)) (iI (1 : Nat)) (iI (60 : Nat)) (iI (99 : Nat))) (by rw [c8]; rfl) (by decide) hq hT1 h251 hB1 rfl (fun S3 v hB3 hv h9 => ?_)) rfl
    rw [c8]
    exact M_nu2 (k := 8) (by omega) hB3 hv h9 (by omega) (by omega) (by omega)
  rw [if_neg (show ¬ iI (t q) = (115 : Int32) by rw [show (115 : Int32) = iI 115 from rfl, iI_eq (by omega) (by omega)]; omega)]
  by_cases c9 : t q = 116
  · rw [if_pos (show iI (t q) = 116 by rw [c9]; rfl)]
    refine M_itemOf (m := 2) tdC (by rw [c9]; rfl) (by decide) hq hT1 h251 hB1 rfl (fun S3 v hB3 hv h9 => ?_)
    rw [c9]
    exact M_t116 hV hB3 hv h9
  rw [if_neg (show ¬ iI (t q) = (116 : Int32) by rw [show (116 : Int32) = iI 116 from rfl, iI_eq (by omega) (by omega)]; omega)]
  by_cases c10 : t q = 119
  · rw [if_pos (show iI (t q) = 119 by rw [c10]; rfl)]
    refine RI_ck (M_itemOf (m := 3) wtC (by rw [c10]; rfl) (by decide) hq hT1 h251 hB1 (R := f_X10_worthItem 103 S1) rfl (fun S3 v hB3 hv h9 => ?_)) rfl
    rw [c10]
    exact M_t119 hV hB3 hv h9
  rw [if_neg (show ¬ iI (t q) = (119 : Int32) by rw [show (119 : Int32) = iI 119 from rfl, iI_eq (by omega) (by omega)]; omega)]
  have hm0 : manyS (t q) = 0 := by
    apply Classical.byContradiction
    intro h
    have := many_in h
    omega
  have hit : itemS t n q B = none := by unfold itemS; rw [if_pos hm0]
  exact ⟨S1, false, rfl, Fr.rf, fun _ => rfl, fun q2 B2 h => absurd (hit.symm.trans h) (by simp)⟩
theorem M_areWhole {S : St} {B : Bd} (hV : VB0 B) (hB : BM1 S B) : f_X10_areWhole 103 S = some (bI (whB B), S) := by
  have h6 := hV.2.1.1
  have key23 : ∀ (kb : Int32 → Int32 → St → Option (Int32 × St)) (w : Bool) (s : Nat), s < B 9 0 → ∀ (m N k : Nat), k + m = B 4 s → m < N → f_X10_areWhole_L23 N 103 kb (bI w) (iI (6 + s : Nat)) (iI (natTo (fun k => B 6 (3 * s + k)) k)) (iI k) S = kb (bI (w && decide (natTo (fun k => B 6 (3 * s + k)) (B 4 s) = 10))) (iI (6 + (s + 1) : Nat)) S := by
    intro kb w s hs m
    obtain ⟨b1, b2, b3, b4, b5, b6, b7, b8, b9⟩ := hV.2.2.1 s hs
    obtain ⟨z1, z2, z3, z4, z5, z6, z7, z8⟩ := hB.2.2 s hs
    induction m with
    | zero =>
      intro N k hk hN
      obtain ⟨N, rfl⟩ : ∃ k, N = k + 1 := ⟨N - 1, by omega⟩
      have hke : k = B 4 s := by omega
      have hb : natTo (fun k => B 6 (3 * s + k)) (B 4 s) ≤ 10 * B 4 s := natTo_bd2 (fun j hj => (b9 j hj).2.2)
      rw [f_X10_areWhole_L23, ob_iI (by omega), iI_nat (by omega)]
      dsimp only [Nat.reduceAdd]
      rw [z7, if_pos (by rw [iI_le (by omega) (by omega)]; omega), hke, show iI (6 + s : Nat) + (1 : Int32) = iI (6 + (s + 1) : Nat) from iI_add _ 1, show (10 : Int32) = iI 10 from rfl]
      cases w
      · rw [if_pos (show bI false = 0 by decide), Bool.false_and]; rfl
      · rw [if_neg (show ¬ bI true = 0 by decide), Bool.true_and]
        by_cases hc : natTo (fun k => B 6 (3 * s + k)) (B 4 s) = 10
        · rw [decide_eq_true hc, if_pos (show iI (natTo (fun k => B 6 (3 * s + k)) (B 4 s)) = iI 10 by rw [hc]; rfl)]; rfl
        · rw [decide_eq_false hc, if_neg (show ¬ iI (natTo (fun k => B 6 (3 * s + k)) (B 4 s)) = iI 10 by rw [iI_eq (by omega) (by omega)]; omega)]; rfl
    | succ m ih =>
      intro N k hk hN
      obtain ⟨N, rfl⟩ : ∃ k, N = k + 1 := ⟨N - 1, by omega⟩
      have x1 : (3 : Int32) * iI (6 + s : Nat) + iI k = iI (18 + 3 * s + k : Nat) := by rw [show (3 : Int32) = iI 3 from rfl, iI_mul, iI_add]; congr 1; omega
      rw [f_X10_areWhole_L23, ob_iI (by omega), iI_nat (by omega)]
      dsimp only [Nat.reduceAdd]
      rw [z7, if_neg (by rw [iI_le (by omega) (by omega)]; omega), x1, ob_iI (by omega), iI_nat (by omega), (z8 k (by omega)).2, iI_add, sq_k, show iI k + (1 : Int32) = iI (k + 1 : Nat) from iI_add k 1]
      exact ih N (k + 1) (by omega) (by omega)
  have key5 : ∀ (m N s : Nat) (w : Bool), s + m = B 9 0 → m < N → f_X10_areWhole_L5 N 103 (bI w) (iI (6 + s : Nat)) S = some (bI (w && allFr (fun s => decide (natTo (fun k => B 6 (3 * s + k)) (B 4 s) = 10)) s m), S) := by
    intro m
    induction m with
    | zero =>
      intro N s w hs hN
      obtain ⟨N, rfl⟩ : ∃ k, N = k + 1 := ⟨N - 1, by omega⟩
      rw [f_X10_areWhole_L5]
      dsimp only [Nat.reduceAdd]
      rw [cl1, hB.2.1, show (6 : Int32) = iI 6 from rfl, iI_add, if_pos (by rw [iI_le (by omega) (by omega)]; omega), ckbI]
      show some (bI w, S) = some (bI (w && true), S)
      rw [Bool.and_true]
    | succ m ih =>
      intro N s w hs hN
      obtain ⟨N, rfl⟩ : ∃ k, N = k + 1 := ⟨N - 1, by omega⟩
      have hb4 := (hV.2.2.1 s (by omega)).2.2.2.1
      have z : f_X10_areWhole_L23 FU 103 (fun l1 l2 S => f_X10_areWhole_L5 N 103 l1 l2 S) (bI w) (iI (6 + s : Nat)) 0 0 S = _ := key23 (fun l1 l2 S => f_X10_areWhole_L5 N 103 l1 l2 S) w s (by omega) (B 4 s) FU 0 (by omega) (by unfold FU; omega)
      rw [f_X10_areWhole_L5]
      dsimp only [Nat.reduceAdd]
      rw [cl1, hB.2.1, show (6 : Int32) = iI 6 from rfl, iI_add, if_neg (by rw [iI_le (by omega) (by omega)]; omega), z]
      have e : allFr (fun s => decide (natTo (fun k => B 6 (3 * s + k)) (B 4 s) = 10)) s (m + 1) = (decide (natTo (fun k => B 6 (3 * s + k)) (B 4 s) = 10) && allFr (fun s => decide (natTo (fun k => B 6 (3 * s + k)) (B 4 s) = 10)) (s + 1) m) := rfl
      rw [e, ← Bool.and_assoc]
      exact ih N (s + 1) _ (by omega) (by omega)
  have z := key5 (B 9 0) FU 0 true (Nat.zero_add _) (by unfold FU; omega)
  rw [Bool.true_and] at z
  unfold f_X10_areWhole
  exact z
theorem M_readL {t : Nat → Nat} {n : Nat} : ∀ (f N q : Nat) (B : Bd) (S : St), n ≤ q + f → f < N → q ≤ n → TM S t n → VB0 B → BM1 S B → S.1 103 25 = iI q →
    ∃ S2 : St, f_X10_readAll_L10 N 103 S = some (iI (rdS n (parS t n f q B)), S2) ∧ Fr PRd S S2 ∧ ((parS t n f q B).2.2 = true → BM1 S2 (parS t n f q B).2.1) := by
  have stop : ∀ (N q : Nat) (B : Bd) (S : St), n ≤ q → q ≤ n → TM S t n → VB0 B → BM1 S B → S.1 103 25 = iI q → f_X10_readAll_L10 (N + 1) 103 S = some (iI (rdS n (q, B, true)), S) := by
    intro N q B S h1 h2 hT hV hB h25
    have h300 := hT.1
    rw [f_X10_readAll_L10, hT.2.2.1, h25, if_pos (by rw [iI_le (by omega) (by omega)]; omega), bd_ok (M_areWhole hV hB), hT.2.2.1]
    have e : rdS n (q, B, true) = if whB B = true then -4 else (n : Int) := rfl
    rw [e]
    cases whB B
    · rw [if_pos (by decide)]; rfl
    · rw [if_neg (by decide), iI_n4]; rfl
  intro f
  induction f with
  | zero =>
    intro N q B S hn hN hq hT hV hB h25
    obtain ⟨N, rfl⟩ : ∃ k, N = k + 1 := ⟨N - 1, by omega⟩
    exact ⟨S, stop N q B S (by omega) hq hT hV hB h25, Fr.rf, fun _ => hB⟩
  | succ f ih =>
    intro N q B S hn hN hq hT hV hB h25
    obtain ⟨N, rfl⟩ : ∃ k, N = k + 1 := ⟨N - 1, by omega⟩
    have h300 := hT.1
    have ep : parS t n (f + 1) q B = if n ≤ q then (q, B, true) else match itemS t n q B with
      | none => (q, B, false)
      | some r => parS t n f r.1 r.2 := rfl
    by_cases hnq : n ≤ q
    · rw [ep, if_pos hnq]
      exact ⟨S, stop N q B S hnq hq hT hV hB h25, Fr.rf, fun _ => hB⟩
    rw [ep, if_neg hnq]
    obtain ⟨S3, b, y1, y2, y3, y4⟩ := M_item hT (show q < n by omega) h25 hV hB
    have pre : f_X10_readAll_L10 (N + 1) 103 S = if bI b = 0 then some (iI q, S3) else f_X10_readAll_L10 N 103 S3 := by
      rw [f_X10_readAll_L10, hT.2.2.1, h25, if_neg (by rw [iI_le (by omega) (by omega)]; omega), sq_k, y1, bd_ok rfl]
    cases hit : itemS t n q B with
    | none =>
      refine ⟨S3, ?_, y2, fun z => absurd z (show ¬ (false = true) by decide)⟩
      rw [pre, y3 hit, if_pos (by decide)]; rfl
    | some r =>
      obtain ⟨hb, h253, hB3⟩ := y4 r.1 r.2 hit
      obtain ⟨k1, k2, k3⟩ := itemS_bd (q2 := r.1) (B2 := r.2) (by omega) hV hit
      obtain ⟨S5, x1, x2, x3⟩ := ih N r.1 r.2 S3 (by omega) (by omega) k2 (TM_fr hT y2) k3 hB3 h253
      refine ⟨S5, ?_, y2.tr x2, x3⟩
      rw [pre, hb, if_neg (by decide)]
      exact x1
theorem M_noBoard1 {S : St} : ∃ S2 : St, f_X10_noBoard 103 1 S = some ((), S2) ∧ BM1 S2 clrB ∧ Fr PRd S S2 := by
  obtain ⟨S1, hS1⟩ : ∃ S1, S1 = pI (pI (pI (pI (pI (pI (pI (pI (pI (pI (pI S 105 10 20) 105 11 0) 105 12 9) 105 13 20) 105 14 0) 105 15 0) 105 16 0) 105 17 0) 105 18 0) 105 19 0) 106 1 0 := ⟨_, rfl⟩
  have w : ∀ k, 10 ≤ k → PRd 105 k := fun k hk => by unfold PRd; omega
  have w1 : PRd 106 1 := by unfold PRd; omega
  refine ⟨S1, ?_, ⟨fun k hk => ?_, ?_, fun s hs => absurd hs (Nat.not_lt_zero _)⟩, ?_⟩
  · have c10 : Int32.toNatClampNeg (10 * 1) = 10 := by decide
    have c11 : Int32.toNatClampNeg (10 * 1 + 1) = 11 := by decide
    have c12 : Int32.toNatClampNeg (10 * 1 + 2) = 12 := by decide
    have c13 : Int32.toNatClampNeg (10 * 1 + 3) = 13 := by decide
    have c14 : Int32.toNatClampNeg (10 * 1 + 4) = 14 := by decide
    have c15 : Int32.toNatClampNeg (10 * 1 + 5) = 15 := by decide
    have c16 : Int32.toNatClampNeg (10 * 1 + 6) = 16 := by decide
    have c17 : Int32.toNatClampNeg (10 * 1 + 7) = 17 := by decide
    have c18 : Int32.toNatClampNeg (10 * 1 + 8) = 18 := by decide
    have c19 : Int32.toNatClampNeg (10 * 1 + 9) = 19 := by decide
    have o : ∀ (k j : Nat) (x : Int32) (y : Option (Unit × St)), x = iI j → j < k → k ≤ 20 → ob x k y = y := fun k j x y hx hj hk => by rw [hx]; exact ob_iI (by omega)
    unfold f_X10_noBoard
    dsimp only [Nat.reduceAdd]
    rw [sq_k, o 20 10 _ _ (by decide) (by omega) (by omega), c10, sq_k, o 20 11 _ _ (by decide) (by omega) (by omega), c11, sq_k, o 20 12 _ _ (by decide) (by omega) (by omega), c12, sq_k, o 20 13 _ _ (by decide) (by omega) (by omega), c13, sq_k, o 20 14 _ _ (by decide) (by omega) (by omega), c14, sq_k, o 20 15 _ _ (by decide) (by omega) (by omega), c15, sq_k, o 20 16 _ _ (by decide) (by omega) (by omega), c16, sq_k, o 20 17 _ _ (by decide) (by omega) (by omega), c17, sq_k, o 20 18 _ _ (by decide) (by omega) (by omega), c18, sq_k, o 20 19 _ _ (by decide) (by omega) (by omega), c19, sq_k, o 2 1 _ _ (by decide) (by omega) (by omega), cl1, sq_k, ← hS1]
  · rw [hS1, pI_row (by omega)]
    rcases (show k = 0 ∨ k = 1 ∨ k = 2 ∨ k = 3 ∨ k = 4 ∨ k = 5 ∨ k = 6 ∨ k = 7 ∨ k = 8 ∨ k = 9 by omega) with rfl | rfl | rfl | rfl | rfl | rfl | rfl | rfl | rfl | rfl <;> (simp [pI_1, clrB]; try rfl)
  · rw [hS1, pI_1, if_pos ⟨rfl, rfl⟩]; rfl
  · rw [hS1]
    exact ((((((((((Fr.pI (w _ (by omega))).tr (Fr.pI (w _ (by omega)))).tr (Fr.pI (w _ (by omega)))).tr (Fr.pI (w _ (by omega)))).tr (Fr.pI (w _ (by omega)))).tr (Fr.pI (w _ (by omega)))).tr (Fr.pI (w _ (by omega)))).tr (Fr.pI (w _ (by omega)))).tr (Fr.pI (w _ (by omega)))).tr (Fr.pI (w _ (by omega)))).tr (Fr.pI w1)
theorem M_readAll {S : St} {t : Nat → Nat} {n : Nat} (hT : TM S t n) : ∃ S2 : St, f_X10_readAll 103 S = some (iI (rdS n (rdB t n)), S2) ∧ Fr PRd S S2 ∧ ((rdB t n).2.2 = true → BM1 S2 (rdB t n).2.1) := by
  have h300 := hT.1
  obtain ⟨S1, a1, a2, a3⟩ := M_noBoard1 (S := S)
  have w25 : P119 103 25 := Or.inl ⟨rfl, rfl⟩
  have f2 : Fr P119 S1 (pI S1 103 25 (iI (0 : Nat))) := Fr.pI w25
  have f3 := a3.tr (f2.wk (fun _ _ => P119_rd))
  obtain ⟨S2, y1, y2, y3⟩ := M_readL (t := t) (n := n) n FU 0 clrB (pI S1 103 25 (iI (0 : Nat))) (by omega) (by unfold FU; omega) (Nat.zero_le _) (TM_fr hT f3) clrB_V (BM1_119 a2 f2) (by rw [pI_1, if_pos ⟨rfl, rfl⟩])
  refine ⟨S2, ?_, f3.tr y2, y3⟩
  unfold f_X10_readAll
  rw [bd_ok a1, sq_k]
  exact y1
