/-! gifts just enough: the reference -/
def PLy (a _ : Nat) : Prop := 126 ≤ a
def LM (S : St) (B : Bd) (L : Nat) : Prop := BM S B ∧ OM S (ordL B L) ∧ S.1 103 19 = iI (B 0 0)
theorem LM_fr {S S2 : St} {B : Bd} {L : Nat} (h : LM S B L) (hf : Fr PLy S S2) : LM S2 B L := by
  obtain ⟨h1, ⟨h2, h3⟩, h4⟩ := h
  have r : ∀ a, a < 126 → S2.1 a = S.1 a := fun a ha => funext fun k => hf.1 a k (by unfold PLy; omega)
  refine ⟨BM_of h1 (fun a q1 q2 => r a (by omega)) (by rw [r 103 (by omega)]), ⟨by rw [r 103 (by omega)]; exact h2, by rw [r 121 (by omega)]; exact h3⟩, by rw [r 103 (by omega)]; exact h4⟩
theorem M_comes {S : St} {B : Bd} {L i : Nat} (hV : VB B) (h : OM S (ordL B L)) (hi : i < B 9 1) : f_X10_comes 103 (iI i) S = some (bI (cmB B L i), S) := by
  have hn := cntL_le B L
  have hng : B 9 1 ≤ 8 := hV.2.1.2.2.2
  have hp := M_place (i := i) (by show cntL B L ≤ 8; omega) (fun q hq => by have := atL_lt (B := B) (L := L) (p := q) hq; show atL B L q < 100; omega) (by omega) h
  unfold f_X10_comes
  rw [bd_ok hp, iI_n4]
  by_cases hc : cmB B L i = true
  · obtain ⟨p, h1, h2, h3⟩ := plS_in ((cmB_iff hi).mp hc)
    have h1' : p < cntL B L := h1
    rw [h2, if_neg (by rw [iI_eq (by omega) (by omega)]; omega), hc]; rfl
  · rw [plS_out (fun q => hc ((cmB_iff hi).mpr q)), if_pos rfl]
    have : cmB B L i = false := by
      cases h : cmB B L i
      · rfl
      · exact absurd h hc
    rw [this]; rfl
theorem M_mostGift {S : St} {B : Bd} {L i : Nat} (hV : VB B) (hB : BM S B) (h : OM S (ordL B L)) (hi : i < B 9 1) : f_X10_mostGift 103 (iI i) S = some (iI (mgN B L i), S) := by
  have hng : B 9 1 ≤ 8 := hV.2.1.2.2.2
  have hs6 : B 9 0 ≤ 6 := hV.2.1.2.1
  have wi := (hV.2.2.2 i hi).1
  have ws := hV.2.2.1 _ wi
  have hm := mostS_le hV wi
  have e7 := (hB.2.2.2.2 i hi).1
  have e2 := (hB.2.2.2.1 _ wi).2.1
  unfold f_X10_mostGift
  rw [bd_ok (M_comes hV h hi), mgN_e hi]
  unfold mgB
  by_cases hc : cmB B L i = true
  · rw [hc, if_neg (by decide), bd_ok (M_most hV hi hB), ob_iI (by omega), iI_nat (by omega)]
    dsimp only [Nat.reduceAdd]
    rw [e7, ob_iI (by omega), iI_nat (by omega), e2, bd_ok (M_lesser (by omega) (by omega))]
    rfl
  · have : cmB B L i = false := by
      cases h : cmB B L i
      · rfl
      · exact absurd h hc
    rw [this]; rfl
def spN (i s w : Nat) : Nat := (100 * i + s) * 9 + w
theorem M_spot (i s w : Nat) (S : St) : f_X10_spot (iI i) (iI s) (iI w) S = some (iI (spN i s w : Nat), S) := by
  unfold f_X10_spot spN
  rw [show (100 : Int32) = iI 100 from rfl, show (9 : Int32) = iI 9 from rfl, iI_mul, iI_add, iI_mul, iI_add]
  rfl
theorem sumTo_tail {f : Nat → Int} {g : Nat} : ∀ {n : Nat}, g ≤ n → (∀ j, g ≤ j → j < n → f j = 0) → sumTo f n = sumTo f g
  | 0, h, _ => by rw [show g = 0 by omega]
  | n + 1, h, hz => by
    by_cases hg : g = n + 1
    · rw [hg]
    · show sumTo f n + f n = _
      rw [sumTo_tail (n := n) (by omega) (fun j h1 h2 => hz j h1 (by omega)), hz n (by omega) (by omega), Int.add_zero]
/-- what is laid for the giver i -/
def tgL (B : Bd) (L i s w : Nat) : Int := restN (lsF (upTo (mgN B L)) i (B 9 1 - i)) 30 s w
theorem M_lay51 {B : Bd} {L i s w : Nat} (hV : VB B) (hi : i ≤ B 9 1) (hs : s < 100) (hw : w < 9) (kb5 : Int32 → St → Option (Unit × St)) (kb11 : Int32 → Int32 → St → Option (Unit × St)) (kb19 : Int32 → Int32 → Int32 → St → Option (Unit × St)) {S : St} (hM : LM S B L) (hT : i < B 9 1 → ∀ x y, x < 100 → y < 9 → S.2.1 126 (spN (i + 1) x y) = lI (tgL B L (i + 1) x y)) : ∀ (m N g : Nat), g + m = 31 → m < N → (i = B 9 1 → g = 0) →
    f_X10_layLays_L51 N 103 kb5 kb11 kb19 (iI i) (iI s) (iI w) (lI (if i = B 9 1 then (if s = 0 ∧ w = 0 then 1 else 0) else sumTo (rst (upTo (mgN B L) i) (tgL B L (i + 1)) s w) g)) (iI g) S = kb19 (iI i) (iI s) (iI (w + 1 : Nat)) (pJ S 126 (spN i s w) (lI (tgL B L i s w))) := by
  have hng : B 9 1 ≤ 8 := hV.2.1.2.2.2
  have hn13 : S.1 103 13 = iI (B 9 1) := hM.1.2.2.1
  have e9 : iI w + (1 : Int32) = iI (w + 1 : Nat) := iI_add w 1
  have hsp : spN i s w < 8100 := by unfold spN; omega
  -- the write
  have j126 : ∀ v : Int, v = tgL B L i s w → f_X10_layLays_J126 103 kb5 kb11 kb19 (iI i) (iI s) (iI w) (lI v) S = kb19 (iI i) (iI s) (iI (w + 1 : Nat)) (pJ S 126 (spN i s w) (lI (tgL B L i s w))) := by
    intro v hv
    unfold f_X10_layLays_J126
    rw [bd_ok (M_spot i s w S), ob_iI (by omega), iI_nat (by omega), hv]
    dsimp only [Nat.reduceAdd]
    rw [sq_k, e9]
  intro m
  by_cases hie : i = B 9 1
  · intro N g hg hN hg0
    obtain ⟨N, rfl⟩ : ∃ k, N = k + 1 := ⟨N - 1, by omega⟩
    rw [f_X10_layLays_L51, hn13, if_pos (by rw [iI_le (by omega) (by omega)]; omega)]
    refine j126 _ ?_
    rw [if_pos hie]
    unfold tgL
    rw [hie, Nat.sub_self]; rfl
  · have hin : i < B 9 1 := by omega
    have hmg := mgN_le (L := L) hV i
    have tge : tgL B L i s w = sumTo (rst (upTo (mgN B L) i) (tgL B L (i + 1)) s w) 31 := by
      have e : tgL B L (i + 1) = restN (lsF (upTo (mgN B L)) (i + 1) (B 9 1 - 1 - i)) 30 := by
        funext x y
        unfold tgL
        rw [show B 9 1 - (i + 1) = B 9 1 - 1 - i by omega]
      rw [e]
      unfold tgL
      rw [show B 9 1 - i = (B 9 1 - 1 - i) + 1 by omega]; rfl
    induction m with
    | zero =>
      intro N g hg hN hg0
      obtain ⟨N, rfl⟩ : ∃ k, N = k + 1 := ⟨N - 1, by omega⟩
      rw [f_X10_layLays_L51, hn13, if_neg (by rw [iI_le (by omega) (by omega)]; omega), bd_ok (M_mostGift hV hM.1 hM.2.1 hin), if_pos (by rw [iI_lt (by omega) (by omega)]; omega)]
      refine j126 _ ?_
      rw [if_neg hie, tge, show g = 31 by omega]
    | succ m ih =>
      intro N g hg hN hg0
      obtain ⟨N, rfl⟩ : ∃ k, N = k + 1 := ⟨N - 1, by omega⟩
      rw [f_X10_layLays_L51, hn13, if_neg (by rw [iI_le (by omega) (by omega)]; omega), bd_ok (M_mostGift hV hM.1 hM.2.1 hin)]
      by_cases h1 : mgN B L i < g
      · rw [if_pos (by rw [iI_lt (by omega) (by omega)]; omega)]
        refine j126 _ ?_
        rw [if_neg hie, tge]
        refine (sumTo_tail (by omega) (fun j q1 q2 => ?_)).symm
        unfold rst upTo
        rw [if_neg (fun z => absurd (of_decide_eq_true z.1) (by omega))]
      rw [if_neg (by rw [iI_lt (by omega) (by omega)]; omega)]
      by_cases h2 : s < g
      · rw [if_pos (by rw [iI_lt (by omega) (by omega)]; omega)]
        refine j126 _ ?_
        rw [if_neg hie, tge]
        refine (sumTo_tail (by omega) (fun j q1 q2 => ?_)).symm
        unfold rst
        rw [if_neg (fun z => absurd z.2.1 (by omega))]
      rw [if_neg (by rw [iI_lt (by omega) (by omega)]; omega), if_neg hie]
      have ho : (g = 0 ∧ o1 g = 0) ∨ (0 < g ∧ o1 g = 1) := by
        unfold o1
        by_cases q : 0 < g
        · exact Or.inr ⟨q, if_pos q⟩
        · exact Or.inl ⟨by omega, if_neg q⟩
      have nx := ih N (g + 1) (by omega) (by omega) (fun z => absurd z hie)
      rw [if_neg hie] at nx
      have es : sumTo (rst (upTo (mgN B L) i) (tgL B L (i + 1)) s w) (g + 1) = sumTo (rst (upTo (mgN B L) i) (tgL B L (i + 1)) s w) g + rst (upTo (mgN B L) i) (tgL B L (i + 1)) s w g := rfl
      have e0 : iI g + (1 : Int32) = iI (g + 1 : Nat) := iI_add g 1
      have hj : f_X10_layLays_J86 103 kb5 kb11 kb19 (fun l1 l2 l3 l4 l6 S => f_X10_layLays_L51 N 103 kb5 kb11 kb19 l1 l2 l3 l4 l6 S) (iI i) (iI s) (iI w) (lI (sumTo (rst (upTo (mgN B L) i) (tgL B L (i + 1)) s w) g)) (iI g) (iI w) (iI (o1 g)) S = kb19 (iI i) (iI s) (iI (w + 1 : Nat)) (pJ S 126 (spN i s w) (lI (tgL B L i s w))) := by
        unfold f_X10_layLays_J86
        rw [iI_sub, sq_k, e0]
        by_cases hc : o1 g ≤ w
        · rw [if_pos (by rw [show (0 : Int32) = iI 0 from rfl, iI_le (by omega) (by omega)]; omega), show ((w : Int) - (o1 g : Int)) = ((w - o1 g : Nat) : Int) by omega, iI_sub, show ((s : Int) - (g : Int)) = ((s - g : Nat) : Int) by omega, show iI i + (1 : Int32) = iI (i + 1 : Nat) from iI_add i 1, bd_ok (M_spot (i + 1) (s - g) (w - o1 g) S), ob_iI (by unfold spN; omega), iI_nat (by unfold spN; omega)]
          dsimp only [Nat.reduceAdd]
          rw [hT hin _ _ (by omega) (by omega), lI_add, sq_k]
          have er : rst (upTo (mgN B L) i) (tgL B L (i + 1)) s w g = tgL B L (i + 1) (s - g) (w - o1 g) := by
            unfold rst upTo
            rw [if_pos ⟨decide_eq_true (by omega), by omega, hc⟩]
          rw [es, er] at nx
          exact nx
        · rw [if_neg (by rw [show (0 : Int32) = iI 0 from rfl, iI_le (by omega) (by omega)]; omega), show (0 : Int64) = lI 0 from rfl, lI_add, sq_k]
          have er : rst (upTo (mgN B L) i) (tgL B L (i + 1)) s w g = 0 := by
            unfold rst
            rw [if_neg (fun z => hc z.2.2)]
          rw [es, er] at nx
          exact nx
      rcases ho with ⟨q1, q2⟩ | ⟨q1, q2⟩
      · rw [if_pos (by rw [show (0 : Int32) = iI 0 from rfl, iI_le (by omega) (by omega)]; omega)]
        rw [q2] at hj; exact hj
      · rw [if_neg (by rw [show (0 : Int32) = iI 0 from rfl, iI_le (by omega) (by omega)]; omega)]
        rw [q2] at hj; exact hj
def PRo (i lo hi a k : Nat) : Prop := a = 126 ∧ 900 * i + lo ≤ k ∧ k < 900 * i + hi
theorem PRo_P {i lo hi a k : Nat} (h : PRo i lo hi a k) : PLy a k := by unfold PRo at h; unfold PLy; omega
theorem M_lay19 {B : Bd} {L i s : Nat} (hV : VB B) (hi : i ≤ B 9 1) (hs : s < 100) (kb5 : Int32 → St → Option (Unit × St)) (kb11 : Int32 → Int32 → St → Option (Unit × St)) : ∀ (m N w : Nat) (S : St), w + m = 9 → m < N → LM S B L → (i < B 9 1 → ∀ x y, x < 100 → y < 9 → S.2.1 126 (spN (i + 1) x y) = lI (tgL B L (i + 1) x y)) → (∀ y, y < w → S.2.1 126 (spN i s y) = lI (tgL B L i s y)) →
    ∃ S2 : St, f_X10_layLays_L19 N 103 kb5 kb11 (iI i) (iI s) (iI w) S = kb11 (iI i) (iI (s + 1 : Nat)) S2 ∧ (∀ y, y < 9 → S2.2.1 126 (spN i s y) = lI (tgL B L i s y)) ∧ Fr (PRo i (9 * s) (9 * s + 9)) S S2 := by
  have hng : B 9 1 ≤ 8 := hV.2.1.2.2.2
  intro m
  induction m with
  | zero =>
    intro N w S hw hN hM hT hd
    obtain ⟨N, rfl⟩ : ∃ k, N = k + 1 := ⟨N - 1, by omega⟩
    refine ⟨S, ?_, fun y hy => hd y (by omega), Fr.rf⟩
    rw [f_X10_layLays_L19, show (9 : Int32) = iI 9 from rfl, if_pos (by rw [iI_le (by omega) (by omega)]; omega), show iI s + (1 : Int32) = iI (s + 1 : Nat) from iI_add s 1]
  | succ m ih =>
    intro N w S hw hN hM hT hd
    obtain ⟨N, rfl⟩ : ∃ k, N = k + 1 := ⟨N - 1, by omega⟩
    have hsp : PRo i (9 * s) (9 * s + 9) 126 (spN i s w) := ⟨rfl, by unfold spN; omega, by unfold spN; omega⟩
    obtain ⟨S1, hS1⟩ : ∃ S1, S1 = pJ S 126 (spN i s w) (lI (tgL B L i s w)) := ⟨_, rfl⟩
    have f1 : Fr (PRo i (9 * s) (9 * s + 9)) S S1 := by rw [hS1]; exact Fr.pJ hsp
    obtain ⟨S2, y1, y2, y3⟩ := ih N (w + 1) S1 (by omega) (by omega) (LM_fr hM (f1.wk (fun _ _ => PRo_P))) (fun hin x y hx hy => by
      rw [hS1, pJ_2, if_neg (by unfold spN; omega)]; exact hT hin x y hx hy) (fun y hy => by
      rw [hS1, pJ_2]
      by_cases hc : y = w
      · rw [if_pos ⟨rfl, by rw [hc]⟩, hc]
      · rw [if_neg (by unfold spN; omega)]; exact hd y (by omega))
    refine ⟨S2, ?_, y2, f1.tr y3⟩
    have go : ∀ v : Int, v = (if i = B 9 1 then (if s = 0 ∧ w = 0 then 1 else 0) else sumTo (rst (upTo (mgN B L) i) (tgL B L (i + 1)) s w) 0) → f_X10_layLays_L51 FU 103 kb5 kb11 (fun l1 l2 l3 S => f_X10_layLays_L19 N 103 kb5 kb11 l1 l2 l3 S) (iI i) (iI s) (iI w) (lI v) (iI (0 : Nat)) S = kb11 (iI i) (iI (s + 1 : Nat)) S2 := by
      intro v hv
      have z := M_lay51 hV hi hs (show w < 9 by omega) kb5 kb11 (fun l1 l2 l3 S => f_X10_layLays_L19 N 103 kb5 kb11 l1 l2 l3 S) hM hT 31 FU 0 (by omega) (by unfold FU; omega) (fun _ => rfl)
      rw [hv, z, ← hS1]
      exact y1
    rw [f_X10_layLays_L19, show (9 : Int32) = iI 9 from rfl, if_neg (by rw [iI_le (by omega) (by omega)]; omega), hM.1.2.2.1]
    by_cases c1 : i = B 9 1
    · rw [if_pos (by rw [c1])]
      by_cases c2 : s = 0
      · rw [if_pos (by rw [c2]; rfl)]
        by_cases c3 : w = 0
        · rw [if_pos (by rw [c3]; rfl)]
          exact go 1 (by rw [if_pos c1, if_pos ⟨c2, c3⟩])
        · rw [if_neg (by rw [show (0 : Int32) = iI 0 from rfl, iI_eq (by omega) (by omega)]; omega)]
          exact go 0 (by rw [if_pos c1, if_neg (fun z => c3 z.2)])
      · rw [if_neg (by rw [show (0 : Int32) = iI 0 from rfl, iI_eq (by omega) (by omega)]; omega)]
        exact go 0 (by rw [if_pos c1, if_neg (fun z => c2 z.1)])
    · rw [if_neg (by rw [iI_eq (by omega) (by omega)]; omega)]
      exact go 0 (by rw [if_neg c1]; rfl)
theorem M_lay11 {B : Bd} {L i : Nat} (hV : VB B) (hi : i ≤ B 9 1) (kb5 : Int32 → St → Option (Unit × St)) : ∀ (m N s : Nat) (S : St), s + m = 100 → m < N → LM S B L → (i < B 9 1 → ∀ x y, x < 100 → y < 9 → S.2.1 126 (spN (i + 1) x y) = lI (tgL B L (i + 1) x y)) → (∀ x y, x < s → y < 9 → S.2.1 126 (spN i x y) = lI (tgL B L i x y)) →
    ∃ S2 : St, f_X10_layLays_L11 N 103 kb5 (iI i) (iI s) S = kb5 (iI ((i : Int) - 1)) S2 ∧ (∀ x y, x < 100 → y < 9 → S2.2.1 126 (spN i x y) = lI (tgL B L i x y)) ∧ Fr (PRo i 0 900) S S2 := by
  have hng : B 9 1 ≤ 8 := hV.2.1.2.2.2
  intro m
  induction m with
  | zero =>
    intro N s S hs hN hM hT hd
    obtain ⟨N, rfl⟩ : ∃ k, N = k + 1 := ⟨N - 1, by omega⟩
    refine ⟨S, ?_, fun x y hx hy => hd x y (by omega) hy, Fr.rf⟩
    rw [f_X10_layLays_L11, show (100 : Int32) = iI 100 from rfl, if_pos (by rw [iI_le (by omega) (by omega)]; omega), iI_n1, iI_add]; rfl
  | succ m ih =>
    intro N s S hs hN hM hT hd
    obtain ⟨N, rfl⟩ : ∃ k, N = k + 1 := ⟨N - 1, by omega⟩
    obtain ⟨S1, z1, z2, z3⟩ := M_lay19 hV hi (show s < 100 by omega) kb5 (fun l1 l2 S => f_X10_layLays_L11 N 103 kb5 l1 l2 S) 9 FU 0 S (by omega) (by unfold FU; omega) hM hT (fun y hy => absurd hy (Nat.not_lt_zero _))
    obtain ⟨S2, y1, y2, y3⟩ := ih N (s + 1) S1 (by omega) (by omega) (LM_fr hM (z3.wk (fun _ _ => PRo_P))) (fun hin x y hx hy => by
      rw [z3.2.1 126 _ (by unfold PRo spN; omega)]; exact hT hin x y hx hy) (fun x y hx hy => by
      by_cases hc : x = s
      · rw [hc]; exact z2 y hy
      · rw [z3.2.1 126 _ (by unfold PRo spN; omega)]; exact hd x y (by omega) hy)
    refine ⟨S2, ?_, y2, (z3.wk (fun a k h => ⟨h.1, by have := h.2.1; omega, by have := h.2.2; omega⟩)).tr y3⟩
    rw [f_X10_layLays_L11, show (100 : Int32) = iI 100 from rfl, if_neg (by rw [iI_le (by omega) (by omega)]; omega)]
    exact z1.trans y1
theorem M_layLays {S : St} {B : Bd} {L : Nat} (hV : VB B) (hM : LM S B L) : ∃ S2 : St, f_X10_layLays 103 S = some ((), S2) ∧ (∀ i x y, i ≤ B 9 1 → x < 100 → y < 9 → S2.2.1 126 (spN i x y) = lI (tgL B L i x y)) ∧ Fr PLy S S2 := by
  have hng : B 9 1 ≤ 8 := hV.2.1.2.2.2
  have key : ∀ (m N : Nat) (S : St), m ≤ B 9 1 + 1 → m < N → LM S B L → (∀ i x y, m ≤ i → i ≤ B 9 1 → x < 100 → y < 9 → S.2.1 126 (spN i x y) = lI (tgL B L i x y)) → ∃ S2 : St, f_X10_layLays_L5 N 103 (iI ((m : Int) - 1)) S = some ((), S2) ∧ (∀ i x y, i ≤ B 9 1 → x < 100 → y < 9 → S2.2.1 126 (spN i x y) = lI (tgL B L i x y)) ∧ Fr PLy S S2 := by
    intro m
    induction m with
    | zero =>
      intro N S hm hN hM hd
      obtain ⟨N, rfl⟩ : ∃ k, N = k + 1 := ⟨N - 1, by omega⟩
      refine ⟨S, ?_, fun i x y hi hx hy => hd i x y (Nat.zero_le _) hi hx hy, Fr.rf⟩
      rw [f_X10_layLays_L5, if_pos (by decide)]
    | succ m ih =>
      intro N S hm hN hM hd
      obtain ⟨N, rfl⟩ : ∃ k, N = k + 1 := ⟨N - 1, by omega⟩
      obtain ⟨S1, z1, z2, z3⟩ := M_lay11 hV (show m ≤ B 9 1 by omega) (fun l1 S => f_X10_layLays_L5 N 103 l1 S) 100 FU 0 S (by omega) (by unfold FU; omega) hM (fun hin x y hx hy => hd (m + 1) x y (by omega) (by omega) hx hy) (fun x y hx hy => absurd hx (Nat.not_lt_zero _))
      obtain ⟨S2, y1, y2, y3⟩ := ih N S1 (by omega) (by omega) (LM_fr hM (z3.wk (fun _ _ => PRo_P))) (fun i x y hi hi2 hx hy => by
        by_cases hc : i = m
        · rw [hc]; exact z2 x y hx hy
        · rw [z3.2.1 126 _ (by unfold PRo spN; omega)]; exact hd i x y (by omega) hi2 hx hy)
      refine ⟨S2, ?_, y2, (z3.wk (fun _ _ => PRo_P)).tr y3⟩
      rw [show (((m + 1 : Nat) : Int) - 1) = m by omega, f_X10_layLays_L5, if_neg (by rw [show (0 : Int32) = iI 0 from rfl, iI_lt (by omega) (by omega)]; omega)]
      exact z1.trans y1
  obtain ⟨S2, z1, z2, z3⟩ := key (B 9 1 + 1) FU S (Nat.le_refl _) (by unfold FU; omega) hM (fun i x y h1 h2 _ _ => absurd h1 (by omega))
  refine ⟨S2, ?_, z2, z3⟩
  unfold f_X10_layLays
  rw [hM.1.2.2.1, sq_k]
  rw [show (((B 9 1 + 1 : Nat) : Int) - 1) = B 9 1 by omega] at z1
  exact z1
/-- the rows from a giver on -/
def cgF (B : Bd) (L i s l : Nat) : Int := cge (lsF (upTo (mgN B L)) i (B 9 1 - i)) s l
theorem M_laysFrom {S : St} {B : Bd} {L i s : Nat} {z : Int} (hV : VB B) (hi : i ≤ B 9 1) (hs : s < 100) (hz : -20 ≤ z ∧ z ≤ 8) (hd : ∀ i x y, i ≤ B 9 1 → x < 100 → y < 9 → S.2.1 126 (spN i x y) = lI (tgL B L i x y)) : f_X10_laysFrom 103 (iI i) (iI s) (iI z) S = some (lI (cgF B L i s z.toNat), S) := by
  have hng : B 9 1 ≤ 8 := hV.2.1.2.2.2
  have key : ∀ (m N w : Nat) (v : Int), w + m = 9 → m < N → f_X10_laysFrom_L14 N 103 (iI i) (iI s) (iI z) (lI v) (iI w) S = some (lI (v + sumFr (fun y => tgL B L i s y) w m), S) := by
    intro m
    induction m with
    | zero =>
      intro N w v hw hN
      obtain ⟨N, rfl⟩ : ∃ k, N = k + 1 := ⟨N - 1, by omega⟩
      rw [f_X10_laysFrom_L14, show (9 : Int32) = iI 9 from rfl, if_pos (by rw [iI_le (by omega) (by omega)]; omega)]
      rw [show v + sumFr (fun y => tgL B L i s y) w 0 = v from Int.add_zero v]
    | succ m ih =>
      intro N w v hw hN
      obtain ⟨N, rfl⟩ : ∃ k, N = k + 1 := ⟨N - 1, by omega⟩
      rw [f_X10_laysFrom_L14, show (9 : Int32) = iI 9 from rfl, if_neg (by rw [iI_le (by omega) (by omega)]; omega), bd_ok (M_spot i s w S), ob_iI (by unfold spN; omega), iI_nat (by unfold spN; omega)]
      dsimp only [Nat.reduceAdd]
      rw [hd i s w hi hs (by omega), lI_add, sq_k, show iI w + (1 : Int32) = iI (w + 1 : Nat) from iI_add w 1, ih N (w + 1) _ (by omega) (by omega), Int.add_assoc]
      rfl
  unfold f_X10_laysFrom
  by_cases hc : 0 ≤ z
  · have y := key (9 - z.toNat) FU z.toNat 0 (by omega) (by unfold FU; omega)
    rw [Int.zero_add] at y
    rw [if_pos (by rw [show (0 : Int32) = iI 0 from rfl, iI_le (by omega) (by omega)]; omega)]
    have hzz : ((z.toNat : Nat) : Int) = z := by omega
    rw [hzz] at y
    exact y
  · have y := key 9 FU 0 0 (by omega) (by unfold FU; omega)
    rw [Int.zero_add] at y
    rw [if_neg (by rw [show (0 : Int32) = iI 0 from rfl, iI_le (by omega) (by omega)]; omega), show z.toNat = 0 by omega]
    exact y
theorem cgF_0 {B : Bd} {L i s l : Nat} (hV : VB B) (hi : i ≤ B 9 1) : (lI (cgF B L i s l) = 0 ↔ ¬ fea (mgN B L) i (B 9 1 - i) s l) ∧ (cgF B L i s l = 0 ↔ ¬ fea (mgN B L) i (B 9 1 - i) s l) := by
  have hng : B 9 1 ≤ 8 := hV.2.1.2.2.2
  obtain ⟨b1, b2⟩ := cge_bd (A := lsF (upTo (mgN B L)) i (B 9 1 - i)) (by rw [lsF_len]; omega) s l
  have hp := cge_pos (m := mgN B L) (fun j => mgN_le hV j) (i := i) (r := B 9 1 - i) (s := s) (l := l) (by omega)
  have e : cgF B L i s l = 0 ↔ ¬ fea (mgN B L) i (B 9 1 - i) s l := by
    rw [← hp]
    unfold cgF
    omega
  refine ⟨?_, e⟩
  rw [← e, show (0 : Int64) = lI 0 from rfl, lI_eq (by unfold cgF; omega) (by omega)]
