/-- how many come ahead of the rich one -/
def RQ (B : Bd) (L rq : Nat) (D : Int) : Prop := (D < 0 ∧ -10 ≤ D ∧ rq = 0) ∨ (0 ≤ D ∧ D ≤ 100 ∧ rq ≤ cntL B L ∧ ∀ p, p < cntL B L → ((dayL B L (atL B L p) : Int) ≤ D ↔ p < rq))
/-- what lies as given at the head of a round -/
def Giv (B : Bd) (L bar e sh rq R : Nat) (w : Nat → Nat) (k : Nat) (ad : Bool) (g : Nat) : Prop :=
  (ad = true → rq ≤ k ∧ g = (playS B L bar e sh rq R w k).1) ∧ (ad = false → k ≤ rq ∧ (k < rq → g = (playS B L bar e sh rq R w k).1) ∧ (k = rq → g + min R g = (playS B L bar e sh rq R w k).1))
theorem playS_nx (B : Bd) (L bar e sh rq R : Nat) (w : Nat → Nat) (k : Nat) : (playS B L bar e sh rq R w (k + 1)).1 = if k + 1 = rq then (playS B L bar e sh rq R w k).1 + giftP B L bar e sh rq R w k + min ((playS B L bar e sh rq R w k).1 + giftP B L bar e sh rq R w k) R else (playS B L bar e sh rq R w k).1 + giftP B L bar e sh rq R w k := rfl
def bI (b : Bool) : Int32 := if b = true then 1 else 0
theorem M_go30 {B : Bd} {L bar e sh rq R : Nat} {D : Int} {w : Nat → Nat} (hV : VB B) (hL : L ≤ 30) (hsh : sh ≤ 2) (hbar : bar ≤ 60) (he : e ≤ 9) (hR : R ≤ 99) (hrq : RQ B L rq D) (hw : ∀ p, p < cntL B L → w p ≤ 1000) : ∀ (m N : Nat) (S : St) (k g : Nat) (ad : Bool), k + m = cntL B L → m < N → MG S B L bar e sh R D → MP S B L bar e sh rq R w k → S.1 103 32 = iI g → Giv B L bar e sh rq R w k ad g → (D < 0 → ad = true) →
    ∃ S2 : St, f_X10_goAll_L30 N 103 (bI ad) (iI k) S = some ((), S2) ∧ Fr PGo S S2 ∧ MP S2 B L bar e sh rq R w (cntL B L) ∧ S2.1 103 32 = iI (endS B L bar e sh rq R w).1 := by
  intro m
  induction m with
  | zero =>
    intro N S k g ad h0 hN hG hP hg hgv hD
    obtain ⟨N, rfl⟩ : ∃ k, N = k + 1 := ⟨N - 1, by omega⟩
    have hn := cntL_le B L
    have hng : B 9 1 ≤ 8 := hV.2.1.2.2.2
    have hk : k = cntL B L := by omega
    have ho : S.1 103 27 = iI (cntL B L) := hG.2.1.1
    subst hk
    rw [f_X10_goAll_L30, ho, if_pos (by rw [iI_le (by omega) (by omega)]; omega)]
    cases ad with
    | true =>
      obtain ⟨q1, q2⟩ := hgv.1 rfl
      refine ⟨S, ?_, Fr.rf, hP, by rw [hg, q2]; rfl⟩
      rw [if_neg (by decide)]
    | false =>
      obtain ⟨q1, q2, q3⟩ := hgv.2 rfl
      have hrq' : rq = cntL B L := by
        rcases hrq with z | z
        · exact absurd (hD z.1) (by decide)
        · omega
      have q4 := q3 hrq'.symm
      have hb := (playS_le hV hL bar e sh rq R hR w (cntL B L) (Nat.le_refl _)).1
      have hb' : (playS B L bar e sh rq R w (cntL B L)).1 ≤ 400 := by
        rw [if_pos (by omega)] at hb; omega
      refine ⟨pI S 103 32 (iI (endS B L bar e sh rq R w).1), ?_, Fr.pI (Or.inl ⟨rfl, by omega, by omega⟩), ?_, by rw [pI_1, if_pos ⟨rfl, rfl⟩]⟩
      · rw [if_pos (by decide), hG.2.2.2.2.2.2.1, hg, bd_ok (M_lesser (by omega) (by omega))]
        dsimp only [sq]
        rw [show iI g + iI (min R g : Nat) = iI (g + min R g : Nat) from iI_add _ _, q4]; rfl
      · obtain ⟨n1, n2, n3, n4⟩ := hP
        refine ⟨by rw [pI_1, if_neg (by omega)]; exact n1, by rw [pI_1, if_neg (by omega)]; exact n2, fun q hq => by rw [pI_row (by omega)]; exact n3 q hq, fun q hq => by rw [pI_row (by omega)]; exact n4 q hq⟩
  | succ m ih =>
    intro N S k g ad h0 hN hG hP hg hgv hD
    obtain ⟨N, rfl⟩ : ∃ k, N = k + 1 := ⟨N - 1, by omega⟩
    have hk : k < cntL B L := by omega
    obtain ⟨f1, f2, f3, f4, f5, f6, f7, f8, f9, f10, f11⟩ := at_facts hV hL hk
    have hG' := hG
    obtain ⟨hB, ⟨o1, o2⟩, g1, g2, g3, g4, g5, g6⟩ := hG'
    have hng : B 9 1 ≤ 8 := hV.2.1.2.2.2
    have ho : S.1 103 27 = iI (cntL B L) := o1
    have hok : S.1 121 k = iI (atL B L k) := o2 k hk
    have hsk : S.1 116 (atL B L k) = iI (soL B L k) := (hB.2.2.2.2 _ f1).1
    have hb := (playS_le hV hL bar e sh rq R hR w k (by omega)).1
    have hb' : (playS B L bar e sh rq R w k).1 ≤ 400 := by
      by_cases q : rq ≤ k
      · rw [if_pos q] at hb; omega
      · rw [if_neg q] at hb; omega
    -- the round, once what is given lies
    have round : ∀ (S1 : St) (ad1 : Bool), MG S1 B L bar e sh R D → MP S1 B L bar e sh rq R w k → S1.1 103 32 = iI (playS B L bar e sh rq R w k).1 → Fr PGo S S1 → (ad1 = true → rq ≤ k) → (ad1 = false → k < rq) → (D < 0 → ad1 = true) →
        ∃ S2 : St, f_X10_goAll_J91 103 (fun l1 l2 S => f_X10_goAll_L30 N 103 l1 l2 S) (bI ad1) (iI k) (iI (atL B L k)) (iI (soL B L k)) S1 = some ((), S2) ∧ Fr PGo S S2 ∧ MP S2 B L bar e sh rq R w (cntL B L) ∧ S2.1 103 32 = iI (endS B L bar e sh rq R w).1 := by
      intro S1 ad1 z1 z2 z3 z4 z5 z6 z7
      obtain ⟨S2, e1, e2, e3, e4⟩ := M_go91 (l1 := bI ad1) (fun l1 l2 S => f_X10_goAll_L30 N 103 l1 l2 S) hV hL z1 hsh hbar he hR hk (hw k hk) z2 z3
      obtain ⟨S3, e5, e6, e7, e8⟩ := ih N S2 (k + 1) _ ad1 (by omega) (by omega) (MG_go z1 e2) e3 e4 ⟨fun q => ⟨by have := z5 q; omega, by rw [playS_nx, if_neg (by have := z5 q; omega)]⟩, fun q => ⟨by have := z6 q; omega, fun q2 => by rw [playS_nx, if_neg (by omega)], fun q2 => by rw [playS_nx, if_pos q2, Nat.min_comm]⟩⟩ z7
      exact ⟨S3, e1.trans e5, (z4.tr e2).tr e6, e7, e8⟩
    rw [f_X10_goAll_L30, ho, if_neg (by rw [iI_le (by omega) (by omega)]; omega), ob_iI (by omega), iI_nat (by omega)]
    dsimp only [sq, Nat.reduceAdd]
    rw [hok, ob_iI (by omega), iI_nat (by omega), hsk]
    cases ad with
    | true =>
      obtain ⟨q1, q2⟩ := hgv.1 rfl
      rw [if_neg (by decide)]
      exact round S true hG hP (by rw [hg, q2]) Fr.rf (fun _ => q1) (fun h => by cases h) (fun _ => rfl)
    | false =>
      obtain ⟨q1, q2, q3⟩ := hgv.2 rfl
      have hrq' : 0 ≤ D ∧ D ≤ 100 ∧ ((dayL B L (atL B L k) : Int) ≤ D ↔ k < rq) := by
        rcases hrq with z | z
        · exact absurd (hD z.1) (by decide)
        · exact ⟨z.1, z.2.1, z.2.2.2 k hk⟩
      rw [if_pos (by decide), bd_ok (M_dayOf hV hB g2 f1), g6]
      by_cases hc : k < rq
      · rw [if_pos (by rw [iI_le (by omega) (by omega)]; exact hrq'.2.2.mpr hc)]
        exact round S false hG hP (by rw [hg, q2 hc]) Fr.rf (fun h => by cases h) (fun _ => hc) (fun h => by omega)
      · rw [if_neg (by rw [iI_le (by omega) (by omega)]; exact fun h => hc (hrq'.2.2.mp h))]
        have hkr : k = rq := by omega
        have q4 := q3 hkr
        rw [g5, hg, bd_ok (M_lesser (by omega) (by omega)), show iI g + iI (min R g : Nat) = iI (g + min R g : Nat) from iI_add _ _, q4]
        refine round (pI S 103 32 (iI (playS B L bar e sh rq R w k).1)) true (MG_fr hG (fun a k q1 q2 => by rw [pI_1, if_neg (by omega)])) ?_ (by rw [pI_1, if_pos ⟨rfl, rfl⟩]) (Fr.pI (Or.inl ⟨rfl, by omega, by omega⟩)) (fun _ => by omega) (fun h => by cases h) (fun _ => rfl)
        obtain ⟨n1, n2, n3, n4⟩ := hP
        exact ⟨by rw [pI_1, if_neg (by omega)]; exact n1, by rw [pI_1, if_neg (by omega)]; exact n2, fun q hq => by rw [pI_row (by omega)]; exact n3 q hq, fun q hq => by rw [pI_row (by omega)]; exact n4 q hq⟩
/-- goAll(): all come one by one -/
theorem M_goAll {S : St} {B : Bd} {L bar e sh rq R : Nat} {D : Int} {w : Nat → Nat} (hV : VB B) (hL : L ≤ 30) (hsh : sh ≤ 2) (hbar : bar ≤ 60) (he : e ≤ 9) (hR : R ≤ 99) (hrq : RQ B L rq D) (hw : ∀ p, p < cntL B L → w p ≤ 1000) (hG : MG S B L bar e sh R D) (hnow : ∀ q, q < cntL B L → S.1 122 (atL B L q) = iI (w q)) :
    ∃ S2 : St, f_X10_goAll 103 S = some ((), S2) ∧ Fr PGo S S2 ∧ MP S2 B L bar e sh rq R w (cntL B L) ∧ S2.1 103 32 = iI (endS B L bar e sh rq R w).1 := by
  obtain ⟨S1, hS1⟩ : ∃ S1, S1 = pI (pI (pI S 103 32 0) 103 33 0) 103 34 0 := ⟨_, rfl⟩
  have hf : Fr PGo S S1 := by
    rw [hS1]
    exact ((Fr.pI (Or.inl ⟨rfl, by omega, by omega⟩)).tr (Fr.pI (Or.inl ⟨rfl, by omega, by omega⟩))).tr (Fr.pI (Or.inl ⟨rfl, by omega, by omega⟩))
  have hG1 := MG_go hG hf
  have hP1 : MP S1 B L bar e sh rq R w 0 := by
    rw [hS1]
    refine ⟨?_, ?_, fun q hq => absurd hq (Nat.not_lt_zero _), fun q hq => ?_⟩
    · rw [pI_1, if_neg (by omega), pI_1, if_pos ⟨rfl, rfl⟩]; rfl
    · rw [pI_1, if_pos ⟨rfl, rfl⟩]; rfl
    · rw [pI_row (by omega), pI_row (by omega), pI_row (by omega)]; exact hnow q hq
  have h32 : S1.1 103 32 = iI (0 : Nat) := by rw [hS1, pI_1, if_neg (by omega), pI_1, if_neg (by omega), pI_1, if_pos ⟨rfl, rfl⟩]; rfl
  have hp0 : (playS B L bar e sh rq R w 0).1 = 0 := rfl
  unfold f_X10_goAll
  dsimp only [sq]
  rw [← hS1, hG1.2.2.2.2.2.2.2]
  by_cases hD : D < 0
  · have : -10 ≤ D ∧ rq = 0 := by rcases hrq with z | z <;> omega
    rw [if_neg (by rw [show (0 : Int32) = iI 0 from rfl, iI_le (by omega) (by omega)]; omega)]
    obtain ⟨S2, e1, e2, e3, e4⟩ := M_go30 hV hL hsh hbar he hR hrq hw (cntL B L) FU S1 0 0 true (by omega) (by have := cntL_le B L; have : B 9 1 ≤ 8 := hV.2.1.2.2.2; unfold FU; omega) hG1 hP1 h32 ⟨fun _ => ⟨by omega, hp0.symm⟩, fun h => by cases h⟩ (fun _ => rfl)
    exact ⟨S2, e1, hf.tr e2, e3, e4⟩
  · have : D ≤ 100 := by rcases hrq with z | z <;> omega
    rw [if_pos (by rw [show (0 : Int32) = iI 0 from rfl, iI_le (by omega) (by omega)]; omega)]
    obtain ⟨S2, e1, e2, e3, e4⟩ := M_go30 hV hL hsh hbar he hR hrq hw (cntL B L) FU S1 0 0 false (by omega) (by have := cntL_le B L; have : B 9 1 ≤ 8 := hV.2.1.2.2.2; unfold FU; omega) hG1 hP1 h32 ⟨fun h => (by cases h), fun _ => ⟨Nat.zero_le _, fun _ => hp0.symm, fun _ => by rw [hp0, Nat.min_zero]⟩⟩ (fun h => absurd h hD)
    exact ⟨S2, e1, hf.tr e2, e3, e4⟩
