/-! the order in which they come -/
def ordP (B : Bd) (L d i : Nat) : List Nat := (List.range d).flatMap (fun e => (List.range (B 9 1)).filter (fun j => dayL B L j = e)) ++ (List.range i).filter (fun j => dayL B L j = d)
theorem ordP_00 (B : Bd) (L : Nat) : ordP B L 0 0 = [] := rfl
theorem ordP_day (B : Bd) (L d : Nat) : ordP B L d (B 9 1) = ordP B L (d + 1) 0 := by
  unfold ordP
  rw [List.range_succ, List.flatMap_append, List.flatMap_singleton, List.range_zero, List.filter_nil, List.append_nil]
theorem ordP_i (B : Bd) (L d i : Nat) : ordP B L d (i + 1) = if dayL B L i = d then ordP B L d i ++ [i] else ordP B L d i := by
  unfold ordP
  rw [List.range_succ, List.filter_append]
  by_cases h : dayL B L i = d
  · rw [if_pos h, List.append_assoc, List.filter_cons_of_pos (by simp [h]), List.filter_nil]
  · rw [if_neg h, List.filter_cons_of_neg (by simp [h]), List.filter_nil, List.append_nil]
theorem ordL_P (B : Bd) (L : Nat) : ordL B L = ordP B L (L + 1) 0 := by
  unfold ordP ordL
  rw [List.range_zero, List.filter_nil, List.append_nil]
def seen (B : Bd) (L d i j : Nat) : Nat := if dayL B L j < d ∨ (dayL B L j = d ∧ j < i) then 1 else 0
theorem natTo_cong {f g : Nat → Nat} : ∀ {n : Nat}, (∀ j, j < n → f j = g j) → natTo f n = natTo g n
  | 0, _ => rfl
  | n + 1, h => by
    show natTo f n + f n = natTo g n + g n
    rw [natTo_cong (fun j hj => h j (by omega)), h n (by omega)]
theorem natTo_one {f g : Nat → Nat} {i : Nat} : ∀ {n : Nat}, i < n → g i = f i + 1 → (∀ j, j < n → j ≠ i → g j = f j) → natTo g n = natTo f n + 1
  | 0, h, _, _ => absurd h (Nat.not_lt_zero _)
  | n + 1, h, h1, h2 => by
    show natTo g n + g n = natTo f n + f n + 1
    by_cases hi : i = n
    · subst hi
      rw [natTo_cong (fun j hj => h2 j (by omega) (by omega)), h1]; omega
    · rw [natTo_one (by omega) h1 (fun j hj hji => h2 j (by omega) hji), h2 n (by omega) (fun e => hi e.symm)]; omega
theorem natTo_le {f : Nat → Nat} : ∀ {n : Nat}, (∀ j, j < n → f j ≤ 1) → natTo f n ≤ n
  | 0, _ => Nat.le_refl _
  | n + 1, h => by
    have := natTo_le (f := f) (n := n) (fun j hj => h j (by omega))
    have := h n (by omega)
    show natTo f n + f n ≤ n + 1
    omega
theorem ordP_len (B : Bd) (L : Nat) : ∀ (d i : Nat), i ≤ B 9 1 → (ordP B L d i).length = natTo (seen B L d i) (B 9 1)
  | 0, 0, _ => by
    rw [ordP_00]
    have : ∀ n, natTo (seen B L 0 0) n = 0 := fun n => by
      induction n with
      | zero => rfl
      | succ n ih => show natTo _ n + seen B L 0 0 n = 0; rw [ih]; simp [seen]
    rw [this]; rfl
  | d + 1, 0, _ => by
    rw [← ordP_day, ordP_len B L d (B 9 1) (Nat.le_refl _)]
    apply natTo_cong
    intro j hj
    unfold seen
    by_cases h : dayL B L j < d ∨ (dayL B L j = d ∧ j < B 9 1)
    · rw [if_pos h, if_pos (by omega)]
    · rw [if_neg h, if_neg (by omega)]
  | d, i + 1, h => by
    rw [ordP_i]
    by_cases hd : dayL B L i = d
    · rw [if_pos hd, List.length_append, ordP_len B L d i (by omega)]
      symm
      apply natTo_one (i := i) (by omega)
      · unfold seen; rw [if_pos (by omega), if_neg (by omega)]
      · intro j hj hji
        unfold seen
        by_cases hc : dayL B L j < d ∨ (dayL B L j = d ∧ j < i)
        · rw [if_pos hc, if_pos (by omega)]
        · rw [if_neg hc, if_neg (by omega)]
    · rw [if_neg hd, ordP_len B L d i (by omega)]
      apply natTo_cong
      intro j hj
      unfold seen
      by_cases hc : dayL B L j < d ∨ (dayL B L j = d ∧ j < i)
      · rw [if_pos hc, if_pos (by omega)]
      · rw [if_neg hc, if_neg]
        rintro (q | q)
        · omega
        · by_cases hji : j = i
          · subst hji; exact hd q.1
          · omega
theorem seen_le (B : Bd) (L d i j : Nat) : seen B L d i j ≤ 1 := by unfold seen; by_cases h : dayL B L j < d ∨ (dayL B L j = d ∧ j < i) <;> simp [h]
theorem ordP_le (B : Bd) (L d i : Nat) (h : i ≤ B 9 1) : (ordP B L d i).length ≤ B 9 1 := by
  rw [ordP_len B L d i h]; exact natTo_le (fun j _ => seen_le B L d i j)
theorem ordP_lt (B : Bd) (L d i : Nat) (h : i < B 9 1) (hd : dayL B L i = d) : (ordP B L d i).length < B 9 1 := by
  have h1 := ordP_le B L d (i + 1) (by omega)
  rw [ordP_i, if_pos hd, List.length_append] at h1
  have : [i].length = 1 := rfl
  omega
theorem cntL_le (B : Bd) (L : Nat) : cntL B L ≤ B 9 1 := by
  unfold cntL; rw [ordL_P]; exact ordP_le B L (L + 1) 0 (Nat.zero_le _)
theorem getD_app (l : List Nat) (x p : Nat) : (l ++ [x]).getD p 0 = if p = l.length then x else l.getD p 0 := by
  rw [List.getD_eq_getElem?_getD, List.getD_eq_getElem?_getD]
  by_cases h : p = l.length
  · subst h; rw [if_pos rfl, List.getElem?_append_right (Nat.le_refl _), Nat.sub_self]; rfl
  · rw [if_neg h]
    by_cases h2 : p < l.length
    · rw [List.getElem?_append_left h2]
    · rw [List.getElem?_eq_none (by rw [List.length_append]; have : [x].length = 1 := rfl; omega), List.getElem?_eq_none (by omega)]
theorem mem_ordL {B : Bd} {L i : Nat} : i ∈ ordL B L ↔ i < B 9 1 ∧ dayL B L i ≤ L := by
  unfold ordL
  simp only [List.mem_flatMap, List.mem_range, List.mem_filter, decide_eq_true_eq]
  constructor
  · rintro ⟨d, h1, h2, h3⟩; exact ⟨h2, by omega⟩
  · rintro ⟨h1, h2⟩; exact ⟨dayL B L i, by omega, h1, rfl⟩
theorem atL_mem {B : Bd} {L p : Nat} (h : p < cntL B L) : atL B L p ∈ ordL B L := by
  unfold atL
  rw [List.getD_eq_getElem?_getD, List.getElem?_eq_getElem h]
  exact List.getElem_mem h
theorem atL_lt {B : Bd} {L p : Nat} (h : p < cntL B L) : atL B L p < B 9 1 := (mem_ordL.mp (atL_mem h)).1
theorem atL_day {B : Bd} {L p : Nat} (h : p < cntL B L) : dayL B L (atL B L p) ≤ L := (mem_ordL.mp (atL_mem h)).2
/-! the reference lays it -/
def POrd (a k : Nat) : Prop := (a = 103 ∧ k = 27) ∨ a = 121
/-- what the reference's order says so far -/
def OM (S : St) (l : List Nat) : Prop := S.1 103 27 = iI l.length ∧ ∀ p, p < l.length → S.1 121 p = iI (l.getD p 0)
theorem M_dayOf {S : St} {B : Bd} {L i : Nat} (hV : VB B) (h : BM S B) (hL : S.1 103 20 = iI L) (hi : i < B 9 1) : f_X10_dayOf 103 (iI i) S = some (iI (dayL B L i), S) := by
  obtain ⟨h1, h2, h3, h4, h5⟩ := h
  obtain ⟨v1, v2, v3, v4⟩ := hV
  have w := v4 i hi
  have k := h5 i hi
  have k2 := h4 (B 7 i) w.1
  have w2 := v3 (B 7 i) w.1
  unfold f_X10_dayOf
  rw [ob_iI (by omega), iI_nat (by omega)]
  dsimp only [Nat.reduceAdd]
  rw [k.1, ob_iI (by omega), iI_nat (by omega), k2.1, show (4 : Int32) = iI 4 from rfl]
  unfold dayL
  by_cases hc : B 1 (B 7 i) = 4
  · rw [if_pos (by rw [iI_eq (by omega) (by omega)]; omega), if_pos hc, hL]
  · rw [if_neg (by rw [iI_eq (by omega) (by omega)]; omega), if_neg hc, ob_iI (by omega), k.2]
theorem BM_fr {S S2 : St} {B : Bd} (h : BM S B) (hf : Fr POrd S S2) : BM S2 B := by
  have r : ∀ a, 104 ≤ a → a ≤ 117 → S2.1 a = S.1 a := fun a h1 h2 => funext fun k => hf.1 a k (by unfold POrd; omega)
  exact BM_of h (fun a h1 h2 => r a (by omega) h2) (hf.1 103 13 (by unfold POrd; omega))
theorem M_lay17 {B : Bd} {L d : Nat} (hV : VB B) (hd : d ≤ 30) (hL30 : L ≤ 30) (kb : Int32 → St → Option (Unit × St)) : ∀ (m N : Nat) (S : St) (i : Nat), i + m = B 9 1 → m < N → BM S B → S.1 103 20 = iI L → OM S (ordP B L d i) → ∃ S2 : St, f_X10_layOrder_L17 N 103 kb (iI d) (iI i) S = kb (iI (d + 1 : Nat)) S2 ∧ OM S2 (ordP B L (d + 1) 0) ∧ Fr POrd S S2 := by
  intro m
  induction m with
  | zero =>
    intro N S i h0 hN hB hL hO
    obtain ⟨N, rfl⟩ : ∃ k, N = k + 1 := ⟨N - 1, by omega⟩
    have hn : B 9 1 ≤ 8 := hV.2.1.2.2.2
    refine ⟨S, ?_, ?_, Fr.rf⟩
    · rw [f_X10_layOrder_L17, hB.2.2.1, if_pos (by rw [iI_le (by omega) (by omega)]; omega), show iI d + (1 : Int32) = iI (d + 1 : Nat) from iI_add d 1]
    · rw [← ordP_day, ← h0]; exact hO
  | succ m ih =>
    intro N S i h0 hN hB hL hO
    obtain ⟨N, rfl⟩ : ∃ k, N = k + 1 := ⟨N - 1, by omega⟩
    have hn : B 9 1 ≤ 8 := hV.2.1.2.2.2
    have hdl : dayL B L i ≤ 200 ∨ dayL B L i = L := by
      unfold dayL
      by_cases hc : B 1 (B 7 i) = 4
      · rw [if_pos hc]; exact Or.inr rfl
      · rw [if_neg hc]; exact Or.inl (hV.2.2.2 i (by omega)).2
    have e0 : iI i + (1 : Int32) = iI (i + 1 : Nat) := iI_add i 1
    by_cases hc : dayL B L i = d
    · have hlt := ordP_lt B L d i (by omega) hc
      obtain ⟨S2, e1, e2, e3⟩ := ih N (pI (pI S 121 (ordP B L d i).length (iI i)) 103 27 (iI ((ordP B L d i).length + 1 : Nat))) (i + 1) (by omega) (by omega) (BM_of hB (fun a h1 h2 => by rw [pI_row (by omega), pI_row (by omega)]) (by rw [pI_1, if_neg (by omega), pI_row (by omega)])) (by rw [pI_1, if_neg (by omega), pI_row (by omega)]; exact hL) (by
          rw [ordP_i, if_pos hc]
          refine ⟨by rw [pI_1, if_pos ⟨rfl, rfl⟩, List.length_append]; rfl, fun p hp => ?_⟩
          rw [pI_row (by omega), pI_1, getD_app]
          by_cases hp2 : p = (ordP B L d i).length
          · rw [if_pos ⟨rfl, hp2⟩, if_pos hp2]
          · rw [if_neg (fun q => hp2 q.2), if_neg hp2]
            exact hO.2 p (by rw [List.length_append] at hp; have : [i].length = 1 := rfl; omega))
      refine ⟨S2, ?_, e2, ((Fr.pI (Or.inr rfl)).tr (Fr.pI (Or.inl ⟨rfl, rfl⟩))).tr e3⟩
      rw [f_X10_layOrder_L17, hB.2.2.1, if_neg (by rw [iI_le (by omega) (by omega)]; omega), bd_ok (M_dayOf hV hB hL (by omega)), if_pos (by rw [hc]), hO.1, ob_iI (by omega), iI_nat (by omega)]
      dsimp only [sq, Nat.reduceAdd]
      rw [pI_row (by omega), hO.1, show iI (ordP B L d i).length + (1 : Int32) = iI ((ordP B L d i).length + 1 : Nat) from iI_add _ 1, e0]
      exact e1
    · obtain ⟨S2, e1, e2, e3⟩ := ih N S (i + 1) (by omega) (by omega) hB hL (by rw [ordP_i, if_neg hc]; exact hO)
      refine ⟨S2, ?_, e2, e3⟩
      rw [f_X10_layOrder_L17, hB.2.2.1, if_neg (by rw [iI_le (by omega) (by omega)]; omega), bd_ok (M_dayOf hV hB hL (by omega)), if_neg, e0]
      · exact e1
      · rw [iI_eq (by omega) (by omega)]; omega
theorem M_lay7 {B : Bd} {L : Nat} (hV : VB B) (hL30 : L ≤ 30) : ∀ (m N : Nat) (S : St) (d : Nat), d + m = L + 1 → m < N → BM S B → S.1 103 20 = iI L → OM S (ordP B L d 0) → ∃ S2 : St, f_X10_layOrder_L7 N 103 (iI d) S = some ((), S2) ∧ OM S2 (ordL B L) ∧ Fr POrd S S2 := by
  intro m
  induction m with
  | zero =>
    intro N S d h0 hN hB hL hO
    obtain ⟨N, rfl⟩ : ∃ k, N = k + 1 := ⟨N - 1, by omega⟩
    refine ⟨S, ?_, ?_, Fr.rf⟩
    · rw [f_X10_layOrder_L7, hL, if_pos (by rw [iI_lt (by omega) (by omega)]; omega)]
    · rw [ordL_P, ← h0]; exact hO
  | succ m ih =>
    intro N S d h0 hN hB hL hO
    obtain ⟨N, rfl⟩ : ∃ k, N = k + 1 := ⟨N - 1, by omega⟩
    have hn : B 9 1 ≤ 8 := hV.2.1.2.2.2
    obtain ⟨S1, e1, e2, e3⟩ := M_lay17 hV (show d ≤ 30 by omega) hL30 (fun l1 S => f_X10_layOrder_L7 N 103 l1 S) (B 9 1) FU S 0 (by omega) (by unfold FU; omega) hB hL hO
    have hL1 : S1.1 103 20 = iI L := (e3.1 103 20 (by unfold POrd; omega)).trans hL
    obtain ⟨S2, e4, e5, e6⟩ := ih N S1 (d + 1) (by omega) (by omega) (BM_fr hB e3) hL1 e2
    refine ⟨S2, ?_, e5, e3.tr e6⟩
    rw [f_X10_layOrder_L7, hL, if_neg (by rw [iI_lt (by omega) (by omega)]; omega)]
    exact e1.trans e4
theorem M_layOrder {B : Bd} {L : Nat} {S : St} (hV : VB B) (hL30 : L ≤ 30) (hB : BM S B) (hL : S.1 103 20 = iI L) : ∃ S2 : St, f_X10_layOrder 103 S = some ((), S2) ∧ OM S2 (ordL B L) ∧ Fr POrd S S2 := by
  obtain ⟨S2, e1, e2, e3⟩ := M_lay7 hV hL30 (L + 1) FU (pI S 103 27 0) 0 (by omega) (by unfold FU; omega) (BM_of hB (fun a h1 h2 => pI_row (by omega)) (by rw [pI_1, if_neg (by omega)])) (by rw [pI_1, if_neg (by omega)]; exact hL) ⟨by rw [pI_1, if_pos ⟨rfl, rfl⟩]; rfl, fun p hp => absurd hp (by rw [ordP_00]; exact Nat.not_lt_zero _)⟩
  exact ⟨S2, e1, e2, (Fr.pI (Or.inl ⟨rfl, rfl⟩)).tr e3⟩
def PPl (a k : Nat) : Prop := a = 103 ∧ 19 ≤ k ∧ k ≤ 24
/-- the plain terms lie -/
def PlM (S : St) (T : Tst) : Prop := S.1 103 19 = iI (tB T 0 0) ∧ S.1 103 20 = iI (tB T 0 2) ∧ S.1 103 21 = iI (tB T 0 5) ∧ S.1 103 22 = iI (tS T) ∧ S.1 103 23 = iI 0 ∧ S.1 103 24 = iI (-4)
theorem M_plain {S : St} {T : Tst} (h : IM S T) : ∃ S2 : St, f_X10_plain 103 S = some ((), S2) ∧ PlM S2 T ∧ Fr PPl S S2 := by
  obtain ⟨m1, m2, m3, m4, m5, m6, m7⟩ := h
  have b0 := m3.1 0 (by omega)
  have b2 := m3.1 2 (by omega)
  have b5 := m3.1 5 (by omega)
  refine ⟨pI (pI (pI (pI (pI (pI S 103 19 (iI (tB T 0 0))) 103 20 (iI (tB T 0 2))) 103 21 (iI (tB T 0 5))) 103 22 (iI (tS T))) 103 23 (iI 0)) 103 24 (iI (-4)), ?_, ?_, ?_⟩
  · unfold f_X10_plain
    have c0 : Int32.toNatClampNeg 0 = 0 := rfl
    have c2 : Int32.toNatClampNeg 2 = 2 := rfl
    have c5 : Int32.toNatClampNeg 5 = 5 := rfl
    dsimp only [sq, Nat.reduceAdd]
    rw [c0, c2, c5, b0, pI_row (by omega), b2, pI_row (by omega), pI_row (by omega), b5, pI_row (by omega), pI_row (by omega), pI_row (by omega), m5, iI_n4]
    rfl
  · unfold PlM
    simp [pI_1]
  · have w : ∀ k, 19 ≤ k → k ≤ 24 → PPl 103 k := fun k h1 h2 => ⟨rfl, h1, h2⟩
    exact (((((Fr.pI (w 19 (by omega) (by omega))).tr (Fr.pI (w 20 (by omega) (by omega)))).tr (Fr.pI (w 21 (by omega) (by omega)))).tr (Fr.pI (w 22 (by omega) (by omega)))).tr (Fr.pI (w 23 (by omega) (by omega)))).tr (Fr.pI (w 24 (by omega) (by omega)))
/-- the reference's scratch -/
def PScr (a k : Nat) : Prop := (a = 103 ∧ 19 ≤ k) ∨ 120 ≤ a
theorem IM_scr {S S2 : St} {T : Tst} (h : IM S T) (hf : Fr PScr S S2) : IM S2 T := by
  obtain ⟨m1, m2, m3, m4, m5, m6, m7⟩ := h
  have r : ∀ a, 104 ≤ a → a < 120 → S2.1 a = S.1 a := fun a h1 h2 => funext fun k => hf.1 a k (by unfold PScr; omega)
  have r2 : ∀ k, k < 19 → S2.1 103 k = S.1 103 k := fun k h => hf.1 103 k (by unfold PScr; omega)
  refine ⟨by rw [r2 0 (by omega)]; exact m1, by rw [r 104 (by omega) (by omega)]; exact m2, BM_of m3 (fun a h1 h2 => r a (by omega) (by omega)) (r2 13 (by omega)), by rw [r 119 (by omega) (by omega)]; exact m4, by rw [r 118 (by omega) (by omega)]; exact m5, by rw [r2 18 (by omega)]; exact m6, ?_⟩
  rw [r 118 (by omega) (by omega), r 119 (by omega) (by omega)]; exact m7
theorem scr_PM {a k : Nat} (h : PScr a k) : PM a k := by unfold PScr at h; unfold PM; omega
theorem pl_scr {a k : Nat} (h : PPl a k) : PScr a k := by unfold PPl at h; unfold PScr; omega
theorem ord_scr {a k : Nat} (h : POrd a k) : PScr a k := by unfold POrd at h; unfold PScr; omega
theorem PlM_fr {S S2 : St} {T : Tst} (h : PlM S T) (hf : Fr POrd S S2) : PlM S2 T := by
  have r : ∀ k, 19 ≤ k → k ≤ 24 → S2.1 103 k = S.1 103 k := fun k h1 h2 => hf.1 103 k (by unfold POrd; omega)
  unfold PlM at h ⊢
  rw [r 19 (by omega) (by omega), r 20 (by omega) (by omega), r 21 (by omega) (by omega), r 22 (by omega) (by omega), r 23 (by omega) (by omega), r 24 (by omega) (by omega)]
  exact h
theorem VT_B {T : Tst} (h : VT T) : VB (tB T) := h.2.2.1
theorem VT_L {T : Tst} (h : VT T) : tB T 0 2 ≤ 30 := h.2.2.1.1.2.2.2.1
/-- plain(), then layOrder() -/
theorem M_start {S : St} {T : Tst} (hV : VT T) (h : IM S T) : ∃ S1 S2 : St, f_X10_plain 103 S = some ((), S1) ∧ f_X10_layOrder 103 S1 = some ((), S2) ∧ IM S2 T ∧ PlM S2 T ∧ OM S2 (ordL (tB T) (tB T 0 2)) ∧ Fr PScr S S2 := by
  obtain ⟨S1, e1, e2, e3⟩ := M_plain h
  have h1 : IM S1 T := IM_scr h (e3.wk (fun _ _ => pl_scr))
  obtain ⟨S2, e4, e5, e6⟩ := M_layOrder (VT_B hV) (VT_L hV) h1.2.2.1 e2.2.1
  exact ⟨S1, S2, e1, e4, IM_scr h1 (e6.wk (fun _ _ => ord_scr)), PlM_fr e2 e6, e5, (e3.wk (fun _ _ => pl_scr)).tr (e6.wk (fun _ _ => ord_scr))⟩
