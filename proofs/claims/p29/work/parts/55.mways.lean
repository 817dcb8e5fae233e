/-! all ways: the reference's odometer, the first place fastest -/
theorem sumTo_cong {f g : Nat → Int} : ∀ {n : Nat}, (∀ j, j < n → f j = g j) → sumTo f n = sumTo g n
  | 0, _ => rfl
  | n + 1, h => by
    unfold sumTo
    rw [sumTo_cong (n := n) (fun j hj => h j (by omega)), h n (by omega)]
theorem sumTo_add (f g : Nat → Int) : ∀ n, sumTo (fun k => f k + g k) n = sumTo f n + sumTo g n
  | 0 => rfl
  | n + 1 => by
    show sumTo (fun k => f k + g k) n + (f n + g n) = (sumTo f n + f n) + (sumTo g n + g n)
    rw [sumTo_add f g n]; omega
theorem sumTo_zero : ∀ n, sumTo (fun _ => 0) n = 0
  | 0 => rfl
  | n + 1 => by show sumTo (fun _ => 0) n + 0 = 0; rw [sumTo_zero n]; rfl
theorem sumTo_swap (f : Nat → Nat → Int) (b : Nat) : ∀ a, sumTo (fun k => sumTo (fun l => f k l) b) a = sumTo (fun l => sumTo (fun k => f k l) a) b
  | 0 => (sumTo_zero b).symm
  | a + 1 => by
    show sumTo (fun k => sumTo (fun l => f k l) b) a + sumTo (fun l => f a l) b = sumTo (fun l => sumTo (fun k => f k l) a + f a l) b
    rw [sumTo_swap f b a, sumTo_add]
theorem ov_comm {v : Nat → Nat} {p q k l : Nat} (h : p ≠ q) : ovV (ovV v p k) q l = ovV (ovV v q l) p k := by
  funext j; unfold ovV
  by_cases h1 : j = q
  · rw [if_pos h1, if_neg (by omega), if_pos h1]
  · rw [if_neg h1]
    by_cases h2 : j = p
    · rw [if_pos h2, if_pos h2]
    · rw [if_neg h2, if_neg h2, if_neg h1]
theorem sumV_last (wm : Nat → Nat) (F : (Nat → Nat) → Int) : ∀ (m p : Nat) (v : Nat → Nat), sumV wm F (m + 1) p v = sumTo (fun k => sumV wm F m p (ovV v (p + m) k)) (wm (p + m))
  | 0, p, v => rfl
  | m + 1, p, v => by
    show sumTo (fun k => sumV wm F (m + 1) (p + 1) (ovV v p k)) (wm p) = _
    rw [sumTo_cong (g := fun k => sumTo (fun l => sumV wm F m (p + 1) (ovV (ovV v p k) (p + 1 + m) l)) (wm (p + 1 + m))) (fun k _ => sumV_last wm F m (p + 1) (ovV v p k)), sumTo_swap, show p + 1 + m = p + (m + 1) by omega]
    refine sumTo_cong (fun l _ => ?_)
    show sumTo (fun k => sumV wm F m (p + 1) (ovV (ovV v p k) (p + (m + 1)) l)) (wm p) = sumTo (fun k => sumV wm F m (p + 1) (ovV (ovV v (p + (m + 1)) l) p k)) (wm p)
    exact sumTo_cong (fun k _ => by rw [ov_comm (by omega)])
def sumD (wm : Nat → Nat) (F : (Nat → Nat) → Int) : Nat → (Nat → Nat) → Int
  | 0, v => F v
  | p + 1, v => sumTo (fun k => sumD wm F p (ovV v p k)) (wm p)
theorem sumD_V (wm : Nat → Nat) (F : (Nat → Nat) → Int) : ∀ (p : Nat) (v : Nat → Nat), sumD wm F p v = sumV wm F p 0 v
  | 0, _ => rfl
  | p + 1, v => by
    rw [sumV_last, Nat.zero_add]
    exact sumTo_cong (fun k _ => sumD_V wm F p _)
theorem sumV_cong {wm : Nat → Nat} {F G : (Nat → Nat) → Int} : ∀ (m p : Nat) (v : Nat → Nat), (∀ v, F v = G v) → sumV wm F m p v = sumV wm G m p v
  | 0, _, v, h => h v
  | m + 1, p, v, h => sumTo_cong (fun k _ => sumV_cong m (p + 1) _ h)
theorem sumV_add {wm : Nat → Nat} {F G : (Nat → Nat) → Int} : ∀ (m p : Nat) (v : Nat → Nat), sumV wm (fun v => F v + G v) m p v = sumV wm F m p v + sumV wm G m p v
  | 0, _, v => rfl
  | m + 1, p, v => by
    show sumTo (fun k => sumV wm (fun v => F v + G v) m (p + 1) (ovV v p k)) (wm p) = sumTo (fun k => sumV wm F m (p + 1) (ovV v p k)) (wm p) + sumTo (fun k => sumV wm G m (p + 1) (ovV v p k)) (wm p)
    rw [← sumTo_add]
    exact sumTo_cong (fun k _ => sumV_add m (p + 1) _)
/-- the reference, a way at hand -/
def WM (S : St) (B : Bd) (L bar e sh R : Nat) (D : Int) (v : Nat → Nat) : Prop := MG S B L bar e sh R D ∧ ∀ j, j < cntL B L → S.1 125 j = iI (v j)
def PWm (a k : Nat) : Prop := (a = 103 ∧ 28 ≤ k) ∨ 122 ≤ a
theorem MG_wm {S S2 : St} {B : Bd} {L bar e sh R : Nat} {D : Int} (h : MG S B L bar e sh R D) (hf : Fr PWm S S2) : MG S2 B L bar e sh R D := MG_fr h (fun a k h1 h2 => hf.1 a k (by unfold PWm; omega))
theorem prodTo_pos {f : Nat → Nat} : ∀ {n : Nat}, (∀ j, j < n → 1 ≤ f j) → 1 ≤ prodTo f n
  | 0, _ => Nat.le_refl _
  | n + 1, h => Nat.mul_pos (prodTo_pos (n := n) (fun j hj => h j (by omega))) (h n (by omega))
theorem prodTo_le {f : Nat → Nat} {b : Nat} : ∀ {n : Nat}, (∀ j, j < n → f j ≤ b) → prodTo f n ≤ b ^ n
  | 0, _ => Nat.le_refl _
  | n + 1, h => by
    rw [Nat.pow_succ]
    exact Nat.mul_le_mul (prodTo_le (n := n) (fun j hj => h j (by omega))) (h n (by omega))
def P124 (a _ : Nat) : Prop := a = 125
theorem wayM_bd {B : Bd} {L p : Nat} (hV : VB B) (hL : L ≤ 30) (hp : p < cntL B L) : 1 ≤ wayM B L p ∧ wayM B L p ≤ 3 := by
  obtain ⟨f1, f2, f3, f4, f5, f6, f7, f8, f9, f10, f11⟩ := at_facts hV hL hp
  exact ⟨f9, f10⟩
theorem M_sweep {B : Bd} {L bar e sh R : Nat} {D : Int} (hV : VB B) (hL : L ≤ 30) (Lp : Nat → Int64 → Int32 → St → Option (Int64 × St)) (F : (Nat → Nat) → Int)
    (hstep : ∀ (N : Nat) (t : Int) (v : Nat → Nat) (S : St), WM S B L bar e sh R D v → (∀ j, j < cntL B L → v j < wayM B L j) → ∃ S2 : St, Lp (N + 1) (lI t) 1 S = bd (f_X10_nextWay_L2 FU 103 (iI (0 : Nat)) S2) (fun x S3 => Lp N (lI (t + F v)) x S3) ∧ WM S2 B L bar e sh R D v ∧ Fr PWm S S2) :
    ∀ (p : Nat), p ≤ cntL B L → ∀ (N : Nat) (t : Int) (S : St) (v : Nat → Nat), WM S B L bar e sh R D v → (∀ j, j < p → v j = 0) → (∀ j, p ≤ j → j < cntL B L → v j < wayM B L j) → prodTo (wayM B L) p ≤ N →
    ∃ S2 : St, Lp N (lI t) 1 S = bd (f_X10_nextWay_L2 (FU - p) 103 (iI p) S2) (fun x S3 => Lp (N - prodTo (wayM B L) p) (lI (t + sumD (wayM B L) F p v)) x S3) ∧ WM S2 B L bar e sh R D v ∧ Fr PWm S S2 := by
  have hn := cntL_le B L
  have hng : B 9 1 ≤ 8 := hV.2.1.2.2.2
  intro p
  induction p with
  | zero =>
    intro _ N t S v hE hz hv hN
    obtain ⟨N, rfl⟩ : ∃ k, N = k + 1 := ⟨N - 1, by have : prodTo (wayM B L) 0 = 1 := rfl; omega⟩
    exact hstep N t v S hE (fun j hj => hv j (Nat.zero_le _) hj)
  | succ p ih =>
    intro hp
    have hpc : p < cntL B L := hp
    have hM := wayM_bd hV hL hpc
    have f1 := atL_lt hpc
    obtain ⟨g1, g2, g3, g4, g5, g6, g7, g8, g9, g10, g11⟩ := at_facts hV hL hpc
    have inner : ∀ (r k : Nat), k + (r + 1) = wayM B L p → ∀ (N : Nat) (t : Int) (S : St) (v : Nat → Nat), WM S B L bar e sh R D (ovV v p k) → (∀ j, j < p + 1 → v j = 0) → (∀ j, p + 1 ≤ j → j < cntL B L → v j < wayM B L j) → prodTo (wayM B L) p * (r + 1) ≤ N →
        ∃ S2 : St, Lp N (lI t) 1 S = bd (f_X10_nextWay_L2 (FU - (p + 1)) 103 (iI (p + 1 : Nat)) S2) (fun x S3 => Lp (N - prodTo (wayM B L) p * (r + 1)) (lI (t + sumFr (fun k => sumD (wayM B L) F p (ovV v p k)) k (r + 1))) x S3) ∧ WM S2 B L bar e sh R D v ∧ Fr PWm S S2 := by
      intro r
      induction r with
      | zero =>
        intro k hk N t S v hE hz hv hN
        rw [Nat.zero_add, Nat.mul_one] at hN ⊢
        rw [sumFr_1]
        obtain ⟨S1, e1, e2, e3⟩ := ih (by omega) N t S (ovV v p k) hE (fun j hj => by unfold ovV; rw [if_neg (by omega)]; exact hz j (by omega)) (fun j h1 h2 => by
          unfold ovV
          by_cases hc : j = p
          · rw [if_pos hc, hc]; omega
          · rw [if_neg hc]; exact hv j (by omega) h2) hN
        have ho : S1.1 103 27 = iI (cntL B L) := e2.1.2.1.1
        have hd : S1.1 125 p = iI k := by rw [e2.2 p hpc]; unfold ovV; rw [if_pos rfl]
        have hok : S1.1 121 p = iI (atL B L p) := e2.1.2.1.2 p hpc
        have hsk : S1.1 116 (atL B L p) = iI (soL B L p) := (e2.1.1.2.2.2.2 _ f1).1
        have hnw : S1.1 113 (soL B L p) = iI (wayM B L p) := (e2.1.1.2.2.2.1 _ g4).2.2.2.1
        obtain ⟨Fu, hF1, hF2⟩ : ∃ F, FU - p = F + 1 ∧ FU - (p + 1) = F := ⟨FU - (p + 1), by unfold FU; omega, rfl⟩
        obtain ⟨S9, hS9⟩ : ∃ S9, S9 = pI S1 125 p 0 := ⟨_, rfl⟩
        have f9 : Fr P124 S1 S9 := by rw [hS9]; exact Fr.pI rfl
        have f9' : Fr PWm S1 S9 := f9.wk (fun a k h => by unfold P124 at h; unfold PWm; omega)
        refine ⟨S9, ?_, ⟨MG_wm e2.1 f9', fun j hj => ?_⟩, e3.tr f9'⟩
        · rw [e1, hF1, hF2, f_X10_nextWay_L2, ho, if_neg (by rw [iI_le (by omega) (by omega)]; omega), ob_iI (by omega), ob_iI (by omega), iI_nat (by omega), show (103 : Nat) + 18 = 121 from rfl, show (103 : Nat) + 22 = 125 from rfl, show (103 : Nat) + 13 = 116 from rfl, show (103 : Nat) + 10 = 113 from rfl, hok, ob_iI (by omega), iI_nat (by omega), hsk, ob_iI (by omega), iI_nat (by omega), hnw, hd, show iI (wayM B L p) - (1 : Int32) = iI ((wayM B L p : Int) - 1) from iI_sub _ 1, if_pos (by rw [iI_eq (by omega) (by omega)]; omega), ob_iI (by omega), sq_k, ← hS9, show iI p + (1 : Int32) = iI (p + 1 : Nat) from iI_add p 1]
        · rw [hS9, pI_1]
          by_cases hc : j = p
          · rw [if_pos ⟨rfl, hc⟩, hz j (by omega)]; rfl
          · rw [if_neg (fun z => hc z.2), e2.2 j hj]; unfold ovV; rw [if_neg hc]
      | succ r ihr =>
        intro k hk N t S v hE hz hv hN
        rw [Nat.mul_succ] at hN ⊢
        obtain ⟨S1, e1, e2, e3⟩ := ih (by omega) N t S (ovV v p k) hE (fun j hj => by unfold ovV; rw [if_neg (by omega)]; exact hz j (by omega)) (fun j h1 h2 => by
          unfold ovV
          by_cases hc : j = p
          · rw [if_pos hc, hc]; omega
          · rw [if_neg hc]; exact hv j (by omega) h2) (by omega)
        have ho : S1.1 103 27 = iI (cntL B L) := e2.1.2.1.1
        have hd : S1.1 125 p = iI k := by rw [e2.2 p hpc]; unfold ovV; rw [if_pos rfl]
        have hok : S1.1 121 p = iI (atL B L p) := e2.1.2.1.2 p hpc
        have hsk : S1.1 116 (atL B L p) = iI (soL B L p) := (e2.1.1.2.2.2.2 _ f1).1
        have hnw : S1.1 113 (soL B L p) = iI (wayM B L p) := (e2.1.1.2.2.2.1 _ g4).2.2.2.1
        obtain ⟨Fu, hF1, hF2⟩ : ∃ F, FU - p = F + 1 ∧ FU - (p + 1) = F := ⟨FU - (p + 1), by unfold FU; omega, rfl⟩
        obtain ⟨S4, hS4⟩ : ∃ S4, S4 = pI S1 125 p (iI (k + 1 : Nat)) := ⟨_, rfl⟩
        have f4 : Fr P124 S1 S4 := by rw [hS4]; exact Fr.pI rfl
        have f4' : Fr PWm S1 S4 := f4.wk (fun a k h => by unfold P124 at h; unfold PWm; omega)
        have hE4 : WM S4 B L bar e sh R D (ovV v p (k + 1)) := by
          refine ⟨MG_wm e2.1 f4', fun j hj => ?_⟩
          rw [hS4, pI_1]
          by_cases hc : j = p
          · rw [if_pos ⟨rfl, hc⟩]; unfold ovV; rw [if_pos hc]
          · rw [if_neg (fun z => hc z.2), e2.2 j hj]; unfold ovV; rw [if_neg hc, if_neg hc]
        obtain ⟨S2, q1, q2, q3⟩ := ihr (k + 1) (by omega) (N - prodTo (wayM B L) p) (t + sumD (wayM B L) F p (ovV v p k)) S4 v hE4 hz hv (by omega)
        refine ⟨S2, ?_, q2, (e3.tr f4').tr q3⟩
        rw [e1, hF1, f_X10_nextWay_L2, ho, if_neg (by rw [iI_le (by omega) (by omega)]; omega), ob_iI (by omega), ob_iI (by omega), iI_nat (by omega), show (103 : Nat) + 18 = 121 from rfl, show (103 : Nat) + 22 = 125 from rfl, show (103 : Nat) + 13 = 116 from rfl, show (103 : Nat) + 10 = 113 from rfl, hok, ob_iI (by omega), iI_nat (by omega), hsk, ob_iI (by omega), iI_nat (by omega), hnw, hd, show iI (wayM B L p) - (1 : Int32) = iI ((wayM B L p : Int) - 1) from iI_sub _ 1, if_neg (by rw [iI_eq (by omega) (by omega)]; omega)]
        unfold f_X10_nextWay_J50
        rw [ho, if_neg (by rw [iI_eq (by omega) (by omega)]; omega), ob_iI (by omega), ob_iI (by omega), iI_nat (by omega), show (103 : Nat) + 22 = 125 from rfl, hd, show iI k + (1 : Int32) = iI (k + 1 : Nat) from iI_add k 1, sq_k, ← hS4, bd_ok rfl, q1]
        rw [show N - prodTo (wayM B L) p - prodTo (wayM B L) p * (r + 1) = N - (prodTo (wayM B L) p * (r + 1) + prodTo (wayM B L) p) by omega, show t + sumD (wayM B L) F p (ovV v p k) + sumFr (fun k => sumD (wayM B L) F p (ovV v p k)) (k + 1) (r + 1) = t + sumFr (fun k => sumD (wayM B L) F p (ovV v p k)) k (r + 1 + 1) from Int.add_assoc _ _ _]
    intro N t S v hE hz hv hN
    have hov := ov_zero (hz p (by omega))
    have hW1 : prodTo (wayM B L) (p + 1) = prodTo (wayM B L) p * (wayM B L p - 1 + 1) := by
      rw [Nat.sub_add_cancel hM.1]; rfl
    rw [hW1] at hN ⊢
    obtain ⟨S2, q1, q2, q3⟩ := inner (wayM B L p - 1) 0 (by omega) N t S v (by rw [hov]; exact hE) hz hv hN
    refine ⟨S2, ?_, q2, q3⟩
    rw [q1, Nat.sub_add_cancel hM.1, sumFr_0]
    rfl
