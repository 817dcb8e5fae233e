/-! all ways: the class's odometer -/
theorem playS_cong {B : Bd} {L bar e sh rq R : Nat} {w w2 : Nat → Nat} : ∀ {p : Nat}, (∀ q, q < p → w q = w2 q) → playS B L bar e sh rq R w p = playS B L bar e sh rq R w2 p
  | 0, _ => rfl
  | p + 1, h => by
    unfold playS
    rw [playS_cong (p := p) (fun q hq => h q (by omega)), h p (by omega)]
theorem giftP_cong {B : Bd} {L bar e sh rq R p : Nat} {w w2 : Nat → Nat} (h : ∀ q, q ≤ p → w q = w2 q) : giftP B L bar e sh rq R w p = giftP B L bar e sh rq R w2 p := by
  unfold giftP
  rw [playS_cong (fun q hq => h q (by omega)), h p (by omega)]
theorem GP_cong {S : St} {B : Bd} {L bar e sh rq R p : Nat} {w w2 : Nat → Nat} (h : ∀ q, q < p → w q = w2 q) (hg : GP S B L bar e sh rq R w p) : GP S B L bar e sh rq R w2 p := by
  refine GP_of (fun q hq => ?_) (fun q hq => ?_)
  · have := GP_1 hg hq
    rw [← playS_cong (p := q) (fun r hr => h r (by omega))]; exact this
  · rw [← giftP_cong (p := q) (fun r hr => h r (by omega))]; exact hg.2 q hq
theorem prodTo_cong {f g : Nat → Nat} : ∀ {n : Nat}, (∀ j, j < n → f j = g j) → prodTo f n = prodTo g n
  | 0, _ => rfl
  | n + 1, h => by
    unfold prodTo
    rw [prodTo_cong (n := n) (fun j hj => h j (by omega)), h n (by omega)]
def waysN (wm : Nat → Nat) : Nat → Nat → Nat
  | 0, _ => 1
  | m + 1, p => wm p * waysN wm m (p + 1)
theorem waysN_le {wm : Nat → Nat} : ∀ {m p : Nat}, (∀ j, p ≤ j → j < p + m → wm j ≤ 3) → waysN wm m p ≤ 3 ^ m
  | 0, _, _ => Nat.le_refl _
  | m + 1, p, h => by
    unfold waysN
    have h1 := waysN_le (m := m) (p := p + 1) (fun j h1 h2 => h j (by omega) (by omega))
    rw [Nat.pow_succ, Nat.mul_comm]
    exact Nat.mul_le_mul h1 (h p (by omega) (by omega))
def sumFr (f : Nat → Int) : Nat → Nat → Int
  | _, 0 => 0
  | k, r + 1 => f k + sumFr f (k + 1) r
theorem sumFr_to (f : Nat → Int) : ∀ (r k : Nat), sumTo f (k + r) = sumTo f k + sumFr f k r
  | 0, k => (Int.add_zero _).symm
  | r + 1, k => by
    rw [show k + (r + 1) = (k + 1) + r by omega, sumFr_to f r (k + 1)]
    show sumTo f k + f k + sumFr f (k + 1) r = sumTo f k + (f k + sumFr f (k + 1) r)
    omega
theorem sumFr_0 (f : Nat → Int) (r : Nat) : sumFr f 0 r = sumTo f r := by
  have := sumFr_to f r 0
  rw [Nat.zero_add, show sumTo f 0 = 0 from rfl, Int.zero_add] at this; exact this.symm
def ovV (v : Nat → Nat) (p k : Nat) : Nat → Nat := fun j => if j = p then k else v j
/-- what is fixed while the ways are gone through -/
def HW (B : Bd) (L c P sh bar e R rq : Nat) (rb : Int) (W : Nat) : Prop := VB B ∧ L ≤ 30 ∧ (c = 25 ∨ c = 36) ∧ (P = 5 ∨ P = 15) ∧ sh ≤ 2 ∧ (1 ≤ bar ∧ bar ≤ 60) ∧ e ≤ 9 ∧ R ≤ 99 ∧ rb = (rq : Int) - 1 ∧ rq ≤ 100 ∧ (W = 73 ∨ W = 79)
def whatE (q : Nat) : Nat := if q < 3 then q else q + 1
def fA (B : Bd) (L bar e sh rq R q : Nat) (v : Nat → Nat) : Int := if isS B L bar e sh rq R (whatE q) v = true then wayP B L v else 0
def fG (B : Bd) (L bar e sh rq R : Nat) (md : Bool) (p : Nat) (v : Nat → Nat) : Int := if md = true then wayP B L v * giftP B L bar e sh rq R (wayW B L v) p else 0
def fH (B : Bd) (L bar e sh rq R : Nat) (md : Bool) (p : Nat) (v : Nat → Nat) : Int := if md = true then wayP B L v * hasP B L bar e sh rq R (wayW B L v) p else 0
/-- what the sums hold -/
def AE (S : St) (n W : Nat) (A G H : Nat → Int) : Prop := (∀ q, q < 5 → S.2.1 W q = lI (A q)) ∧ ∀ p, p < n → S.2.1 (W + 1) p = lI (G p) ∧ S.2.1 (W + 2) p = lI (H p)
def WE (S : St) (B : Bd) (L c P sh bar e R rq : Nat) (rb : Int) (W : Nat) (v : Nat → Nat) (l : Nat) : Prop :=
  GA S B L c P sh bar e R rb ∧ (∀ j, j < cntL B L → S.1 (W + 3) j = iI (v j)) ∧ (∀ q, q ≤ l → S.2.1 (W + 4) q = lI (prodTo (wayC B L v) q : Nat) ∧ S.1 (W + 5) q = iI (natTo (wayW B L v) q : Nat)) ∧ GP S B L bar e sh rq R (wayW B L v) l
def PWy (W a k : Nat) : Prop := (W ≤ a ∧ a ≤ W + 4) ∨ (a = W + 5 ∧ k ≠ 0) ∨ PPly a k
theorem PWy_68 {W : Nat} (hW : W = 73 ∨ W = 79) (a k : Nat) (h : PWy W a k) : 68 ≤ a := by unfold PWy PPly at h; omega
theorem wayW_cong {B : Bd} {L : Nat} {v v2 : Nat → Nat} {p : Nat} (h : v p = v2 p) : wayW B L v p = wayW B L v2 p := by unfold wayW; rw [h]
theorem wayC_cong {B : Bd} {L : Nat} {v v2 : Nat → Nat} {p : Nat} (h : v p = v2 p) : wayC B L v p = wayC B L v2 p := by unfold wayC; rw [h]
/-- the way changes at the place l and behind alone -/
theorem WE_dig {S : St} {B : Bd} {L c P sh bar e R rq : Nat} {rb : Int} {W : Nat} {v v2 : Nat → Nat} {l l2 p : Nat} (hW : W = 73 ∨ W = 79) (hc : c = 25 ∨ c = 36) (hP : P = 5 ∨ P = 15) (h : WE S B L c P sh bar e R rq rb W v l) (hl : l2 ≤ l) (hv : ∀ j, j < l2 → v j = v2 j) (S2 : St) (hf : Fr (fun a _ => a = W + 3) S S2) (hd : ∀ j, j < cntL B L → S2.1 (W + 3) j = iI (v2 j)) : WE S2 B L c P sh bar e R rq rb W v2 l2 := by
  obtain ⟨h1, h2, h3, h4⟩ := h
  refine ⟨GA_fr hc hP h1 hf (fun a k q => by rcases hW with rfl | rfl <;> omega), hd, fun q hq => ?_, ?_⟩
  · rw [hf.2.1 (W + 4) q (by omega), hf.1 (W + 5) q (by omega), ← prodTo_cong (n := q) (fun j hj => wayC_cong (hv j (by omega))), ← natTo_cong (n := q) (fun j hj => wayW_cong (hv j (by omega)))]
    exact h3 q (by omega)
  · refine GP_cong (fun q hq => wayW_cong (hv q hq)) ?_
    refine GP_of (fun q hq => ?_) (fun q hq => ?_)
    · rw [hf.1 70 q (by omega), hf.1 71 q (by omega), hf.1 72 q (by omega)]; exact GP_1 h4 (by omega)
    · rw [hf.1 69 q (by omega)]; exact h4.2 q (by omega)
theorem way_facts {B : Bd} {L p : Nat} {v : Nat → Nat} (hV : VB B) (hL : L ≤ 30) (hp : p < cntL B L) (hv : v p < wayM B L p) : wayW B L v p ≤ 30 ∧ 1 ≤ wayC B L v p ∧ wayC B L v p ≤ 10 ∧ wayM B L p ≤ 3 ∧ v p < 3 := by
  obtain ⟨f1, f2, f3, f4, f5, f6, f7, f8, f9, f10, f11⟩ := at_facts hV hL hp
  have h : v p < B 4 (soL B L p) := hv
  have := f11 (v p) h
  have e : wayM B L p = B 4 (soL B L p) := rfl
  exact ⟨this.1, this.2.1, this.2.2, by omega, by omega⟩
theorem natTo_bd2 {f : Nat → Nat} {b : Nat} : ∀ {n : Nat}, (∀ k, k < n → f k ≤ b) → natTo f n ≤ b * n
  | 0, _ => Nat.zero_le _
  | n + 1, h => by
    unfold natTo
    have h1 := natTo_bd2 (n := n) (fun k hk => h k (by omega))
    have h2 := h n (by omega)
    rw [Nat.mul_add, Nat.mul_one]; omega
theorem E_sec {S : St} {B : Bd} {L c P sh bar e R rq : Nat} {rb : Int} {w : Nat → Nat} (hV : VB B) (hL : L ≤ 30) (hc : c = 25 ∨ c = 36) (hP : P = 5 ∨ P = 15) (hR : R ≤ 99) (hG : GA S B L c P sh bar e R rb) (hGP : GP S B L bar e sh rq R w (cntL B L)) :
    f_X1_isSecondBuilt 47 S = some (bI (secondS B L bar e sh rq R w), S) := by
  have hn := cntL_le B L
  have hng : B 9 1 ≤ 8 := hV.2.1.2.2.2
  obtain ⟨⟨g1, g2, g3, g4, g5, g6, g7⟩, hB, hC⟩ := hG
  obtain ⟨a1, a2, a3⟩ := GP_1 hGP (Nat.le_refl _)
  obtain ⟨b1, b2, b3⟩ := playS_le hV hL bar e sh rq R hR w (cntL B L) (Nat.le_refl _)
  have h7 : S.1 P 7 = iI (B 0 8) := hB.1.2.2.2.2.2.2.2.2.1
  have v8 : B 0 8 ≤ 60 := hV.1.2.2.2.2.2.2.2.2.2.1
  have hdef : secondS B L bar e sh rq R w = decide (0 < B 0 8 ∧ B 0 8 ≤ (playS B L bar e sh rq R w (cntL B L)).2.2) := rfl
  unfold f_X1_isSecondBuilt
  rw [g1, ck_pos (kdE_P hP), h7, hdef]
  by_cases h0 : 0 < B 0 8
  · rw [if_neg (by rw [show (0 : Int32) = iI 0 from rfl, iI_le (by omega) (by omega)]; omega), g2, ck_pos (kdE_c hc), hC.1, ob_iI (by omega), ck_pos (kdE_P hP), iI_nat (by omega)]
    dsimp only [Nat.reduceAdd]
    rw [a3 h0]
    by_cases h1 : B 0 8 ≤ (playS B L bar e sh rq R w (cntL B L)).2.2
    · rw [if_neg (by rw [iI_lt (by omega) (by omega)]; omega), decide_eq_true ⟨h0, h1⟩]; rfl
    · rw [if_pos (by rw [iI_lt (by omega) (by omega)]; omega), decide_eq_false (fun q => h1 q.2)]; rfl
  · rw [if_pos (by rw [show (0 : Int32) = iI 0 from rfl, iI_le (by omega) (by omega)]; omega), decide_eq_false (fun q => h0 q.1)]; rfl
/-- one step of a sum -/
theorem addJ {S : St} {W q : Nat} {z x : Int} (h : S.2.1 W q = lI z) : pJ S W q ((S.2.1 W q) + lI x) = pJ S W q (lI (z + x)) := by rw [h, lI_add]
def addF (b d t : Bool) (q : Nat) : Bool := if q = 0 then b else if q = 1 then b && !d else if q = 2 then !b && d else if q = 3 then t else b && t
theorem isS_F (B : Bd) (L bar e sh rq R : Nat) (v : Nat → Nat) (q : Nat) (hq : q < 5) : isS B L bar e sh rq R (whatE q) v = addF (builtS B L bar e sh rq R (wayW B L v)) (dueS B L v) (secondS B L bar e sh rq R (wayW B L v)) q := by
  unfold isS addF whatE
  rcases (show q = 0 ∨ q = 1 ∨ q = 2 ∨ q = 3 ∨ q = 4 by omega) with rfl | rfl | rfl | rfl | rfl <;> rfl
