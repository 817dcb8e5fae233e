def PEt (a k : Nat) : Prop := (36 ≤ a ∧ a ≤ 98) ∨ (a = 0 ∧ 13 ≤ k)
theorem IEp_scr2 {P Q : Nat} {S S2 : St} {T : Tst} (hPQ : (P = 5 ∧ Q = 15) ∨ (P = 15 ∧ Q = 5)) (h : IEp P Q S T) (hf : Fr PEt S S2) (hz : ZE S2) (hk : KE S2 (tB T) (tS T)) : IEp P Q S2 T := by
  obtain ⟨⟨hp1, hp2, -⟩, t1, t2, hBE, hCE, t3, t4, t5, t6, t7⟩ := h
  have r : ∀ a, (1 ≤ a ∧ a < 36) ∨ 98 < a → S2.1 a = S.1 a := fun a ha => funext fun k => hf.1 a k (by unfold PEt; omega)
  refine ⟨⟨?_, ?_, hz⟩, ?_, ?_, ?_, ?_, ?_, ?_, ?_, ?_, hk⟩
  · rw [hf.2.2 0 2 (by unfold PEt; omega)]; exact hp1
  · rw [hf.2.2 0 3 (by unfold PEt; omega)]; exact hp2
  · rw [r 1 (by omega)]; exact t1
  · rw [r 2 (by omega)]; exact t2
  · exact BE_row hBE (fun j hj => r _ (by omega))
  · exact CE_row hCE (fun j hj => r _ (by omega))
  · rw [r 99 (by omega)]; exact t3
  · rw [hf.1 0 11 (by unfold PEt; omega)]; exact t4
  · rw [hf.1 100 0 (by unfold PEt; omega)]; exact t5
  · rw [r 101 (by omega), r 102 (by omega)]; exact t6
theorem IE_scr2 {S S2 : St} {T : Tst} (h : IE S T) (hf : Fr PEt S S2) (hz : ZE S2) (hk : KE S2 (tB T) (tS T)) : IE S2 T := by
  rcases h with h | h
  · exact Or.inl (IEp_scr2 (Or.inl ⟨rfl, rfl⟩) h hf hz hk)
  · exact Or.inr (IEp_scr2 (Or.inr ⟨rfl, rfl⟩) h hf hz hk)
/-- what the class knows once it went through the ways -/
def K1 (S : St) (B : Bd) (sh : Nat) : Prop := (S.2.1 73 0 = lI (cntS B (B 0 2) (B 0 0) (B 0 5) sh 0 0 0) ∧ S.2.1 73 1 = lI (cntS B (B 0 2) (B 0 0) (B 0 5) sh 0 0 1) ∧ S.2.1 73 2 = lI (cntS B (B 0 2) (B 0 0) (B 0 5) sh 0 0 2) ∧ S.2.1 73 3 = lI (cntS B (B 0 2) (B 0 0) (B 0 5) sh 0 0 4) ∧ S.2.1 73 4 = lI (cntS B (B 0 2) (B 0 0) (B 0 5) sh 0 0 5)) ∧
    ∀ p, p < cntL B (B 0 2) → S.2.1 74 p = lI (givesS B (B 0 2) (B 0 0) (B 0 5) sh 0 0 p) ∧ S.2.1 75 p = lI (hasS B (B 0 2) (B 0 0) (B 0 5) sh 0 0 p)
theorem HW_T {T : Tst} {P W : Nat} (hV : VT T) (hP : P = 5 ∨ P = 15) (hW : W = 73 ∨ W = 79) : HW (tB T) (tB T 0 2) 25 P (tS T) (tB T 0 0) (tB T 0 5) 0 0 (-1) W := by
  have hVB := VT_B hV
  exact ⟨hVB, VT_L hV, Or.inl rfl, hP, hV.2.2.2.2.1, ⟨hVB.1.1, hVB.1.2.1⟩, hVB.1.2.2.2.2.2.2.1, by omega, by omega, by omega, hW⟩
theorem E_stand {S : St} {T : Tst} (hV : VT T) (hE : IE S T) : ∃ S2 : St, f_X9_waysAsTheyStand 0 S = some (73, S2) ∧ IE S2 T ∧ Fr PE S S2 ∧ K1 S2 (tB T) (tS T) := by
  obtain ⟨t1, t2, t3, t4, t5, t6, t7⟩ := IE_has hE
  unfold f_X9_waysAsTheyStand
  by_cases h15 : S.1 0 13 = 0
  · obtain ⟨P, S1, p1, e1, e2, e3, e4, e5, e6, e7⟩ := E_setGame hE
    obtain ⟨S2, q1, q2, q3, q4, q5, q6⟩ := E_through true (HW_T hV p1 (Or.inl rfl)) ⟨e2, e3, e4⟩ e5
    obtain ⟨S3, hS3⟩ : ∃ S3, S3 = pI S2 0 13 1 := ⟨_, rfl⟩
    have f3 : Fr PEt S1 S3 := by
      rw [hS3]
      exact (q6.wk (fun a k h => Or.inl (by unfold PWy PPly at h; omega))).tr (Fr.pI (Or.inr ⟨rfl, by omega⟩))
    have hz3 : ZE S3 := by
      unfold ZE at q5 ⊢
      rw [hS3, pI_row (by omega), pI_row (by omega), pI_row (by omega), pI_row (by omega), pI_row (by omega)]; exact q5
    have hk1 : K1 S3 (tB T) (tS T) := by
      rw [hS3]
      exact ⟨⟨q2 0 (by omega), q2 1 (by omega), q2 2 (by omega), q2 3 (by omega), q2 4 (by omega)⟩, q3 rfl⟩
    have hke : KE S3 (tB T) (tS T) := by
      obtain ⟨-, -, -, -, -, -, k7⟩ := IE_has e6
      refine ⟨Or.inr hk1, ?_, ?_⟩
      · rw [hS3, pI_1, if_neg (by omega), pI_1, if_neg (by omega), pI_2, q6.1 0 14 (by unfold PWy PPly; omega), q6.1 0 16 (by unfold PWy PPly; omega), q6.2.1 0 17 (by unfold PWy PPly; omega)]
        exact k7.2.1
      · rw [hS3, pI_1, if_neg (by omega), pI_2, q6.1 0 15 (by unfold PWy PPly; omega), q6.2.1 0 18 (by unfold PWy PPly; omega)]
        exact k7.2.2
    refine ⟨S3, ?_, IE_scr2 e6 f3 hz3 hke, (e7.wk P47_PE).tr (f3.wk (fun a k h => by unfold PEt at h; unfold PE; omega)), hk1⟩
    rw [if_pos h15, bd_ok e1]
    have q1' : f_X8_goThrough (0 + 73) (0 + 47) 1 S1 = some ((), S2) := q1
    rw [bd_ok q1', sq_k, hS3]
  · refine ⟨S, by rw [if_neg h15], hE, Fr.rf, ?_⟩
    rcases t7.1 with z | z
    · exact absurd z h15
    · exact z
theorem cntM_S {B : Bd} {L bar e sh rq R what : Nat} (hw : what ≤ 2 ∨ ((what = 4 ∨ what = 5) ∧ 0 < B 0 8)) : cntM B L bar e sh rq R what = cntS B L bar e sh rq R what := by
  unfold cntM cntS waysS
  refine sumV_cong _ _ _ (fun v => ?_)
  rcases hw with h | ⟨h, h8⟩
  · rcases (show what = 0 ∨ what = 1 ∨ what = 2 by omega) with rfl | rfl | rfl <;> rfl
  · have hs : secondS B L bar e sh rq R (wayW B L v) = decide (B 0 8 ≤ (endS B L bar e sh rq R (wayW B L v)).2.2) := by
      unfold secondS
      by_cases hc : B 0 8 ≤ (endS B L bar e sh rq R (wayW B L v)).2.2
      · rw [decide_eq_true hc, decide_eq_true ⟨h8, hc⟩]
      · rw [decide_eq_false hc, decide_eq_false (fun z => hc z.2)]
    rw [← hs]
    rcases h with rfl | rfl <;> rfl
theorem cntM_3 {B : Bd} {L bar e sh rq R : Nat} : cntM B L bar e sh rq R 3 = cntS B L bar e sh rq R 1 + cntS B L bar e sh rq R 2 := by
  unfold cntM cntS waysS
  rw [← sumV_add]
  refine sumV_cong _ _ _ (fun v => ?_)
  unfold wF isS
  generalize builtS B L bar e sh rq R (wayW B L v) = b
  generalize dueS B L v = d
  generalize wayP B L v = x
  cases b <;> cases d <;> simp
theorem sumTo_mono {f g : Nat → Int} : ∀ {n : Nat}, (∀ j, j < n → f j ≤ g j) → sumTo f n ≤ sumTo g n
  | 0, _ => Int.le_refl _
  | n + 1, h => by
    unfold sumTo
    have h1 := sumTo_mono (n := n) (fun j hj => h j (by omega))
    have h2 := h n (by omega)
    omega
theorem sumV_mono {wm : Nat → Nat} {F G : (Nat → Nat) → Int} (h : ∀ v, F v ≤ G v) : ∀ (m p : Nat) (v : Nat → Nat), sumV wm F m p v ≤ sumV wm G m p v
  | 0, _, v => h v
  | m + 1, p, v => sumTo_mono (fun k _ => sumV_mono h m (p + 1) _)
theorem sumV_zero {wm : Nat → Nat} : ∀ (m p : Nat) (v : Nat → Nat), sumV wm (fun _ => 0) m p v = 0
  | 0, _, v => rfl
  | m + 1, p, v => by
    show sumTo (fun k => sumV wm (fun _ => 0) m (p + 1) (ovV v p k)) (wm p) = 0
    rw [sumTo_cong (g := fun _ => 0) (fun k _ => sumV_zero m (p + 1) _), sumTo_zero]
theorem sumTo_nat (f : Nat → Nat) (c : Int) : ∀ n, sumTo (fun k => c * (f k : Int)) n = c * (natTo f n : Int)
  | 0 => (Int.mul_zero _).symm
  | n + 1 => by
    show sumTo (fun k => c * (f k : Int)) n + c * (f n : Int) = c * ((natTo f n + f n : Nat) : Int)
    rw [sumTo_nat f c n, Int.natCast_add, Int.mul_add]
theorem sumTo_mulr (f : Nat → Int) (c : Int) : ∀ n, sumTo (fun k => f k * c) n = sumTo f n * c
  | 0 => (Int.zero_mul _).symm
  | n + 1 => by
    show sumTo (fun k => f k * c) n + f n * c = (sumTo f n + f n) * c
    rw [sumTo_mulr f c n, Int.add_mul]
theorem wayP_all {B : Bd} {L : Nat} (hV : VB B) (hL : L ≤ 30) : ∀ (m p : Nat) (v : Nat → Nat), p + m = cntL B L → sumV (wayM B L) (wayP B L) m p v = (prodTo (wayC B L v) p : Int) * (10 : Int) ^ m
  | 0, p, v, h => by
    have : p = cntL B L := by omega
    subst this
    rw [Int.pow_zero, Int.mul_one]; rfl
  | m + 1, p, v, h => by
    show sumTo (fun k => sumV (wayM B L) (wayP B L) m (p + 1) (ovV v p k)) (wayM B L p) = _
    obtain ⟨f1, f2, f3, f4, f5, f6, f7, f8, f9, f10, f11⟩ := at_facts hV hL (show p < cntL B L by omega)
    have hs : natTo (fun k => B 6 (3 * soL B L p + k)) (wayM B L p) = 10 := (hV.2.2.1 _ f4).2.2.2.2.2.1
    have hp : ∀ k, (prodTo (wayC B L (ovV v p k)) (p + 1) : Int) = (prodTo (wayC B L v) p : Int) * (B 6 (3 * soL B L p + k) : Int) := fun k => by
      show ((prodTo (wayC B L (ovV v p k)) p * wayC B L (ovV v p k) p : Nat) : Int) = _
      rw [prodTo_cong (g := wayC B L v) (fun j hj => wayC_cong (by unfold ovV; rw [if_neg (by omega)])), Int.natCast_mul]
      unfold wayC ovV
      rw [if_pos rfl]
    rw [sumTo_cong (g := fun k => ((prodTo (wayC B L v) p : Int) * (B 6 (3 * soL B L p + k) : Int)) * (10 : Int) ^ m) (fun k _ => by rw [wayP_all hV hL m (p + 1) _ (by omega), hp]), sumTo_mulr, sumTo_nat (fun k => B 6 (3 * soL B L p + k)), hs, Int.pow_succ, Int.mul_assoc, Int.mul_comm ((10 : Nat) : Int) ((10 : Int) ^ m)]
    rfl
theorem cntS_bd {B : Bd} {L bar e sh rq R what : Nat} (hV : VB B) (hL : L ≤ 30) : 0 ≤ cntS B L bar e sh rq R what ∧ cntS B L bar e sh rq R what ≤ (10 : Int) ^ cntL B L := by
  have h0 : ∀ v, (0 : Int) ≤ (if isS B L bar e sh rq R what v = true then wayP B L v else 0) := fun v => by
    have : 0 ≤ wayP B L v := Int.natCast_nonneg _
    by_cases h : isS B L bar e sh rq R what v = true
    · rw [if_pos h]; exact this
    · rw [if_neg h]; exact Int.le_refl _
  have h1 : ∀ v, (if isS B L bar e sh rq R what v = true then wayP B L v else 0) ≤ wayP B L v := fun v => by
    have : 0 ≤ wayP B L v := Int.natCast_nonneg _
    by_cases h : isS B L bar e sh rq R what v = true
    · rw [if_pos h]; exact Int.le_refl _
    · rw [if_neg h]; exact this
  have a := sumV_mono (wm := wayM B L) h0 (cntL B L) 0 (fun _ => 0)
  have b := sumV_mono (wm := wayM B L) h1 (cntL B L) 0 (fun _ => 0)
  rw [sumV_zero] at a
  rw [wayP_all hV hL _ _ _ (Nat.zero_add _)] at b
  have e1 : ((prodTo (wayC B L fun _ => 0) 0 : Nat) : Int) = 1 := rfl
  rw [e1, Int.one_mul] at b
  exact ⟨a, b⟩
theorem ten_le {n : Nat} (h : n ≤ 8) : 1 ≤ (10 : Int) ^ n ∧ (10 : Int) ^ n ≤ 100000000 := by
  rcases (show n = 0 ∨ n = 1 ∨ n = 2 ∨ n = 3 ∨ n = 4 ∨ n = 5 ∨ n = 6 ∨ n = 7 ∨ n = 8 by omega) with rfl | rfl | rfl | rfl | rfl | rfl | rfl | rfl | rfl <;> decide
