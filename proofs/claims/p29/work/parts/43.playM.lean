/-! the reference's play -/
def Inj (l : List Nat) : Prop := ∀ p q, p < l.length → q < l.length → l.getD p 0 = l.getD q 0 → p = q
theorem Inj_app {l : List Nat} {x : Nat} (h : Inj l) (hx : ∀ p, p < l.length → l.getD p 0 ≠ x) : Inj (l ++ [x]) := by
  intro p q hp hq he
  rw [getD_app, getD_app] at he
  rw [List.length_append] at hp hq
  have e1 : [x].length = 1 := rfl
  by_cases h1 : p = l.length
  · by_cases h2 : q = l.length
    · omega
    · rw [if_pos h1, if_neg h2] at he
      exact absurd he.symm (hx q (by omega))
  · by_cases h2 : q = l.length
    · rw [if_neg h1, if_pos h2] at he
      exact absurd he (hx p (by omega))
    · rw [if_neg h1, if_neg h2] at he
      exact h p q (by omega) (by omega) he
theorem mem_ordP {B : Bd} {L d i j : Nat} (h : j ∈ ordP B L d i) : dayL B L j < d ∨ (dayL B L j = d ∧ j < i) := by
  unfold ordP at h
  rcases List.mem_append.mp h with h | h
  · simp only [List.mem_flatMap, List.mem_range, List.mem_filter, decide_eq_true_eq] at h
    obtain ⟨e, h1, h2, h3⟩ := h; omega
  · simp only [List.mem_range, List.mem_filter, decide_eq_true_eq] at h
    omega
theorem getD_mem {l : List Nat} {p : Nat} (h : p < l.length) : l.getD p 0 ∈ l := by
  rw [List.getD_eq_getElem?_getD, List.getElem?_eq_getElem h]
  exact List.getElem_mem h
theorem ordP_inj (B : Bd) (L : Nat) : ∀ (d i : Nat), Inj (ordP B L d i)
  | 0, 0 => fun p q hp _ _ => absurd hp (by rw [ordP_00]; exact Nat.not_lt_zero _)
  | d + 1, 0 => by rw [← ordP_day]; exact ordP_inj B L d (B 9 1)
  | d, i + 1 => by
    rw [ordP_i]
    by_cases hd : dayL B L i = d
    · rw [if_pos hd]
      refine Inj_app (ordP_inj B L d i) (fun p hp he => ?_)
      have := mem_ordP (getD_mem hp)
      rw [he] at this; omega
    · rw [if_neg hd]; exact ordP_inj B L d i
theorem atL_inj {B : Bd} {L p q : Nat} (hp : p < cntL B L) (hq : q < cntL B L) (h : atL B L p = atL B L q) : p = q := by
  have := ordP_inj B L (L + 1) 0
  rw [← ordL_P] at this
  exact this p q hp hq h
def MG (S : St) (B : Bd) (L bar e sh R : Nat) (D : Int) : Prop := BM S B ∧ OM S (ordL B L) ∧ S.1 103 19 = iI bar ∧ S.1 103 20 = iI L ∧ S.1 103 21 = iI e ∧ S.1 103 22 = iI sh ∧ S.1 103 23 = iI R ∧ S.1 103 24 = iI D
def PGo (a k : Nat) : Prop := (a = 103 ∧ 32 ≤ k ∧ k ≤ 34) ∨ a = 123 ∨ a = 124
theorem MG_fr {S S2 : St} {B : Bd} {L bar e sh R : Nat} {D : Int} (h : MG S B L bar e sh R D) (hf : ∀ a k, ¬ (a = 103 ∧ 28 ≤ k) → a ≤ 121 → S2.1 a k = S.1 a k) : MG S2 B L bar e sh R D := by
  obtain ⟨h1, ⟨h2, h3⟩, h4⟩ := h
  have r : ∀ a, 104 ≤ a → a ≤ 121 → S2.1 a = S.1 a := fun a q1 q2 => funext fun k => hf a k (by omega) q2
  have r2 : ∀ k, k < 28 → S2.1 103 k = S.1 103 k := fun k q => hf 103 k (by omega) (by omega)
  refine ⟨BM_of h1 (fun a q1 q2 => r a (by omega) (by omega)) (r2 13 (by omega)), ⟨by rw [r2 27 (by omega)]; exact h2, by rw [r 121 (by omega) (by omega)]; exact h3⟩, ?_⟩
  rw [r2 19 (by omega), r2 20 (by omega), r2 21 (by omega), r2 22 (by omega), r2 23 (by omega), r2 24 (by omega)]
  exact h4
theorem MG_go {S S2 : St} {B : Bd} {L bar e sh R : Nat} {D : Int} (h : MG S B L bar e sh R D) (hf : Fr PGo S S2) : MG S2 B L bar e sh R D := MG_fr h (fun a k h1 h2 => hf.1 a k (by unfold PGo; omega))
/-- what the reference holds behind k places -/
def MP (S : St) (B : Bd) (L bar e sh rq R : Nat) (w : Nat → Nat) (k : Nat) : Prop :=
  S.1 103 33 = iI (playS B L bar e sh rq R w k).2.2 ∧ S.1 103 34 = iI (playS B L bar e sh rq R w k).2.1 ∧ (∀ q, q < k → S.1 123 (atL B L q) = iI (giftP B L bar e sh rq R w q)) ∧ ∀ q, q < cntL B L → S.1 122 (atL B L q) = iI (w q)
theorem M_go91 {S : St} {B : Bd} {L bar e sh rq R k : Nat} {D : Int} {w : Nat → Nat} {l1 : Int32} (kb : Int32 → Int32 → St → Option (Unit × St)) (hV : VB B) (hL : L ≤ 30) (hG : MG S B L bar e sh R D) (hsh : sh ≤ 2) (hbar : bar ≤ 60) (he : e ≤ 9) (hR : R ≤ 99) (hk : k < cntL B L) (hw : w k ≤ 1000) (hP : MP S B L bar e sh rq R w k) (hg : S.1 103 32 = iI (playS B L bar e sh rq R w k).1) :
    ∃ S2 : St, f_X10_goAll_J91 103 kb l1 (iI k) (iI (atL B L k)) (iI (soL B L k)) S = kb l1 (iI (k + 1 : Nat)) S2 ∧ Fr PGo S S2 ∧ MP S2 B L bar e sh rq R w (k + 1) ∧ S2.1 103 32 = iI ((playS B L bar e sh rq R w k).1 + giftP B L bar e sh rq R w k : Nat) := by
  obtain ⟨f1, f2, f3, f4, f5, f6, f7, f8, f9, f10, f11⟩ := at_facts hV hL hk
  obtain ⟨n1, n2, n3, n4⟩ := hP
  have hG' := hG
  obtain ⟨hB, ⟨o1, o2⟩, g1, g2, g3, g4, g5, g6⟩ := hG'
  have hng : B 9 1 ≤ 8 := hV.2.1.2.2.2
  have hsd := hB.2.2.2.1 _ f4
  obtain ⟨b1, b2, b3⟩ := playS_le hV hL bar e sh rq R hR w k (by omega)
  have b1' : (playS B L bar e sh rq R w k).1 ≤ 400 := by
    by_cases hq : rq ≤ k
    · rw [if_pos hq] at b1; omega
    · rw [if_neg hq] at b1; omega
  have hl := lackS_le sh bar (playS B L bar e sh rq R w k).1
  have hl2 := lackS_le sh (B 0 8) (playS B L bar e sh rq R w k).2.2
  have v8 : B 0 8 ≤ 60 := hV.1.2.2.2.2.2.2.2.2.2.1
  have v9 : B 0 9 ≤ 99 := hV.1.2.2.2.2.2.2.2.2.2.2
  have o1' : S.1 103 27 = iI (cntL B L) := o1
  have hs : B 7 (atL B L k) = soL B L k := rfl
  have hgb : gB B L e (B 1 (soL B L k)) (atL B L k) (w k) (B 2 (soL B L k)) (lackS sh bar (playS B L bar e sh rq R w k).1) (cntL B L - k) = giftP B L bar e sh rq R w k := gB_gift B L e (atL B L k) (w k) _ _
  have hby := M_giftBy (k := B 1 (soL B L k)) (z := B 2 (soL B L k)) (l := lackS sh bar (playS B L bar e sh rq R w k).1) (r := cntL B L - k) hV hL hB g2 g3 he f1 f6 hw (by omega) (by omega) (by omega)
  rw [hgb] at hby
  have hgl : giftP B L bar e sh rq R w k ≤ B 2 (soL B L k) := gift_le B e _ _ _ _ _
  have hstep : playS B L bar e sh rq R w (k + 1) = (if k + 1 = rq then (playS B L bar e sh rq R w k).1 + giftP B L bar e sh rq R w k + min ((playS B L bar e sh rq R w k).1 + giftP B L bar e sh rq R w k) R else (playS B L bar e sh rq R w k).1 + giftP B L bar e sh rq R w k, (playS B L bar e sh rq R w k).2.1 + (if 0 < giftP B L bar e sh rq R w k then 1 else 0),
      (playS B L bar e sh rq R w k).2.2 + (if B 0 8 = 0 then 0 else gkS (kind2 (B 1 (soL B L k))) (min (w k * B 0 9 / 100) (B 2 (soL B L k) - giftP B L bar e sh rq R w k)) (lackS sh (B 0 8) (playS B L bar e sh rq R w k).2.2) (cntL B L - k))) := rfl
  obtain ⟨gi, hgi⟩ : ∃ gi, gi = giftP B L bar e sh rq R w k := ⟨_, rfl⟩
  rw [← hgi] at hby hgl hstep ⊢
  obtain ⟨G2, hG2⟩ : ∃ G2 : Nat, G2 = (if B 0 8 = 0 then 0 else gkS (kind2 (B 1 (soL B L k))) (min (w k * B 0 9 / 100) (B 2 (soL B L k) - gi)) (lackS sh (B 0 8) (playS B L bar e sh rq R w k).2.2) (cntL B L - k)) := ⟨_, rfl⟩
  rw [← hG2] at hstep
  obtain ⟨S1, hS1⟩ : ∃ S1, S1 = pI S 123 (atL B L k) (iI gi) := ⟨_, rfl⟩
  have hB1 : BM S1 B := by rw [hS1]; exact BM_of hB (fun a h1 h2 => pI_row (by omega)) (by rw [pI_row (by omega)])
  have r1 : ∀ a, a ≠ 123 → S1.1 a = S.1 a := fun a h => by rw [hS1, pI_row h]
  -- the end of the round
  have hend : f_X10_goAll_J253 103 kb l1 (iI k) (iI (atL B L k)) 124 (iI (atL B L k)) (iI G2) S1 = kb l1 (iI (k + 1 : Nat)) (pI (pI (pI (pI S1 124 (atL B L k) (iI G2)) 103 32 (iI ((playS B L bar e sh rq R w k).1 + gi : Nat))) 103 33 (iI ((playS B L bar e sh rq R w k).2.2 + G2 : Nat))) 103 34 (iI ((playS B L bar e sh rq R w k).2.1 + (if 0 < gi then 1 else 0) : Nat))) := by
    unfold f_X10_goAll_J253
    have h122 : S1.1 123 (atL B L k) = iI gi := by rw [hS1, pI_1, if_pos ⟨rfl, rfl⟩]
    have e1 : (pI S1 124 (atL B L k) (iI G2)).1 103 32 = iI (playS B L bar e sh rq R w k).1 := by rw [pI_row (by omega), r1 103 (by omega)]; exact hg
    have e2 : (pI S1 124 (atL B L k) (iI G2)).1 123 (atL B L k) = iI gi := by rw [pI_row (by omega)]; exact h122
    have e3 : (pI (pI S1 124 (atL B L k) (iI G2)) 103 32 (iI ((playS B L bar e sh rq R w k).1 + gi : Nat))).1 103 33 = iI (playS B L bar e sh rq R w k).2.2 := by rw [pI_1, if_neg (by omega), pI_row (by omega), r1 103 (by omega)]; exact n1
    have e4 : (pI (pI S1 124 (atL B L k) (iI G2)) 103 32 (iI ((playS B L bar e sh rq R w k).1 + gi : Nat))).1 124 (atL B L k) = iI G2 := by rw [pI_row (by omega), pI_1, if_pos ⟨rfl, rfl⟩]
    have e5 : (pI (pI (pI S1 124 (atL B L k) (iI G2)) 103 32 (iI ((playS B L bar e sh rq R w k).1 + gi : Nat))) 103 33 (iI ((playS B L bar e sh rq R w k).2.2 + G2 : Nat))).1 103 34 = iI (playS B L bar e sh rq R w k).2.1 := by rw [pI_1, if_neg (by omega), pI_1, if_neg (by omega), pI_row (by omega), r1 103 (by omega)]; exact n2
    have e6 : (pI (pI (pI S1 124 (atL B L k) (iI G2)) 103 32 (iI ((playS B L bar e sh rq R w k).1 + gi : Nat))) 103 33 (iI ((playS B L bar e sh rq R w k).2.2 + G2 : Nat))).1 123 (atL B L k) = iI gi := by rw [pI_row (by omega), pI_row (by omega)]; exact e2
    rw [ob_iI (by omega), iI_nat (by omega)]
    dsimp only [sq, Nat.reduceAdd]
    rw [ob_iI (by omega), e1, e2, show iI (playS B L bar e sh rq R w k).1 + iI gi = iI ((playS B L bar e sh rq R w k).1 + gi : Nat) from iI_add _ _, ob_iI (by omega), e3, e4, show iI (playS B L bar e sh rq R w k).2.2 + iI G2 = iI ((playS B L bar e sh rq R w k).2.2 + G2 : Nat) from iI_add _ _, ob_iI (by omega), e5, e6, show iI k + (1 : Int32) = iI (k + 1 : Nat) from iI_add k 1]
    by_cases hc : 0 < gi
    · rw [if_neg (by rw [show (0 : Int32) = iI 0 from rfl, iI_le (by omega) (by omega)]; omega), if_pos hc, show iI (playS B L bar e sh rq R w k).2.1 + (1 : Int32) = iI ((playS B L bar e sh rq R w k).2.1 + 1 : Nat) from iI_add _ 1]
    · rw [if_pos (by rw [show (0 : Int32) = iI 0 from rfl, iI_le (by omega) (by omega)]; omega), if_neg hc, show iI (playS B L bar e sh rq R w k).2.1 + (0 : Int32) = iI ((playS B L bar e sh rq R w k).2.1 + 0 : Nat) from iI_add _ 0]
  have h173 : ∀ kd : Nat, kd ≤ 5 → (kd = kind2 (B 1 (soL B L k))) → f_X10_goAll_J173 103 kb l1 (iI k) (iI (atL B L k)) (iI (soL B L k)) (iI kd) S1 = f_X10_goAll_J253 103 kb l1 (iI k) (iI (atL B L k)) 124 (iI (atL B L k)) (iI G2) S1 := by
    intro kd hkd hkd2
    unfold f_X10_goAll_J173
    have c8 : Int32.toNatClampNeg 8 = 8 := rfl
    have c9 : Int32.toNatClampNeg 9 = 9 := rfl
    dsimp only [Nat.reduceAdd]
    rw [c8, c9, hB1.1 8 (by omega)]
    by_cases h0 : B 0 8 = 0
    · rw [if_pos (by rw [show (0 : Int32) = iI 0 from rfl, iI_eq (by omega) (by omega)]; omega), hG2, if_pos h0]; rfl
    · rw [if_neg (by rw [show (0 : Int32) = iI 0 from rfl, iI_eq (by omega) (by omega)]; omega), ob_iI (by omega), ob_iI (by omega), ob_iI (by omega), iI_nat (by omega), iI_nat (by omega), r1 103 (by omega), n1, bd_ok (M_lack (by rw [r1 103 (by omega)]; exact g4) hsh (by omega) (by omega)), r1 122 (by omega), n4 k hk, hB1.1 9 (by omega), r1 109 (by omega), hsd.2.1, r1 103 (by omega), o1']
      rw [show S1.1 123 (atL B L k) = iI gi by rw [hS1, pI_1, if_pos ⟨rfl, rfl⟩]]
      have hmul : w k * B 0 9 ≤ 1000 * 99 := Nat.mul_le_mul hw v9
      rw [show iI (w k) * iI (B 0 9) = iI (w k * B 0 9 : Nat) by rw [iI_mul]; congr 1, show iI (B 2 (soL B L k)) - iI gi = iI (B 2 (soL B L k) - gi : Nat) by rw [iI_sub]; congr 1; omega, show iI (cntL B L) - iI k = iI (cntL B L - k : Nat) by rw [iI_sub]; congr 1; omega]
      rw [show (100 : Int32) = iI 100 from rfl, iI_div (by omega) (by omega), show ((w k * B 0 9 : Nat) : Int) / 100 = (w k * B 0 9 / 100 : Nat) by omega]
      have hby2 := M_giftBy (w := w k * B 0 9 / 100) (k := kd) (z := B 2 (soL B L k) - gi) (l := lackS sh (B 0 8) (playS B L bar e sh rq R w k).2.2) (r := cntL B L - k) hV hL hB1 (by rw [r1 103 (by omega)]; exact g2) (by rw [r1 103 (by omega)]; exact g3) he f1 hkd (by omega) (by omega) (by omega) (by omega)
      rw [bd_ok hby2]
      have hkk : kd ≠ 3 ∧ kd ≠ 5 := by
        rw [hkd2]; unfold kind2
        by_cases q : B 1 (soL B L k) = 3 ∨ B 1 (soL B L k) = 5
        · rw [if_pos q]; omega
        · rw [if_neg q]; omega
      have : gB B L e kd (atL B L k) (w k * B 0 9 / 100) (B 2 (soL B L k) - gi) (lackS sh (B 0 8) (playS B L bar e sh rq R w k).2.2) (cntL B L - k) = G2 := by
        unfold gB
        rw [if_neg hkk.2, if_neg (fun q => hkk.1 q.1), hG2, if_neg h0, hkd2]
      rw [this]
  refine ⟨pI (pI (pI (pI S1 124 (atL B L k) (iI G2)) 103 32 (iI ((playS B L bar e sh rq R w k).1 + gi : Nat))) 103 33 (iI ((playS B L bar e sh rq R w k).2.2 + G2 : Nat))) 103 34 (iI ((playS B L bar e sh rq R w k).2.1 + (if 0 < gi then 1 else 0) : Nat)), ?_, ?_, ?_, ?_⟩
  · unfold f_X10_goAll_J91
    rw [ob_iI (by omega), ob_iI (by omega), ob_iI (by omega), iI_nat (by omega), iI_nat (by omega), g1, hg, bd_ok (M_lack g4 hsh (by omega) (by omega))]
    dsimp only [Nat.reduceAdd]
    rw [hsd.1, n4 k hk, hsd.2.1, o1', show iI (cntL B L) - iI k = iI (cntL B L - k : Nat) by rw [iI_sub]; congr 1; omega, bd_ok hby, ob_iI (by omega)]
    dsimp only [sq]
    rw [← hS1, ob_iI (by omega), r1 108 (by omega), hsd.1]
    by_cases k3 : B 1 (soL B L k) = 3
    · rw [if_pos (by rw [show (3 : Int32) = iI 3 from rfl, iI_eq (by omega) (by omega)]; omega)]
      unfold f_X10_goAll_J162
      rw [show (1 : Int32) = iI (1 : Nat) from rfl, h173 1 (by omega) (by unfold kind2; rw [if_pos (Or.inl k3)]), hend]
    rw [if_neg (by rw [show (3 : Int32) = iI 3 from rfl, iI_eq (by omega) (by omega)]; omega), ob_iI (by omega)]
    by_cases k5 : B 1 (soL B L k) = 5
    · rw [if_pos (by rw [show (5 : Int32) = iI 5 from rfl, iI_eq (by omega) (by omega)]; omega)]
      unfold f_X10_goAll_J162
      rw [show (1 : Int32) = iI (1 : Nat) from rfl, h173 1 (by omega) (by unfold kind2; rw [if_pos (Or.inr k5)]), hend]
    rw [if_neg (by rw [show (5 : Int32) = iI 5 from rfl, iI_eq (by omega) (by omega)]; omega), ob_iI (by omega), h173 _ f6 (by unfold kind2; rw [if_neg (by omega)]), hend]
  · have w1 : ∀ k, 32 ≤ k → k ≤ 34 → PGo 103 k := fun k q1 q2 => Or.inl ⟨rfl, q1, q2⟩
    rw [hS1]
    exact ((((Fr.pI (Or.inr (Or.inl rfl))).tr (Fr.pI (Or.inr (Or.inr rfl)))).tr (Fr.pI (w1 32 (by omega) (by omega)))).tr (Fr.pI (w1 33 (by omega) (by omega)))).tr (Fr.pI (w1 34 (by omega) (by omega)))
  · refine ⟨?_, ?_, fun q hq => ?_, fun q hq => ?_⟩
    · rw [pI_1, if_neg (by omega), pI_1, if_pos ⟨rfl, rfl⟩, hstep]
    · rw [pI_1, if_pos ⟨rfl, rfl⟩, hstep]
    · rw [pI_row (by omega), pI_row (by omega), pI_row (by omega), pI_row (by omega), hS1, pI_1]
      by_cases hqk : q = k
      · subst hqk; rw [if_pos ⟨rfl, rfl⟩, hgi]
      · rw [if_neg (fun z => hqk (atL_inj (by omega) hk z.2))]; exact n3 q (by omega)
    · rw [pI_row (by omega), pI_row (by omega), pI_row (by omega), pI_row (by omega), r1 122 (by omega)]; exact n4 q hq
  · rw [pI_1, if_neg (by omega), pI_1, if_neg (by omega), pI_1, if_pos ⟨rfl, rfl⟩]
