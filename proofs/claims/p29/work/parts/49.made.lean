def sumR (B : Bd) (L : Nat) (R : Nat → Nat) (p : Nat) : Nat := natTo (fun q => R (atL B L q)) p
def whoR (B : Bd) (L : Nat) (R : Nat → Nat) (p : Nat) : Nat := natTo (fun q => if 0 < R (atL B L q) then 1 else 0) p
def madeS (B : Bd) (L : Nat) (R : Nat → Nat) : Bool := decide (B 0 0 ≤ sumR B L R (cntL B L) ∧ B 0 1 ≤ whoR B L R (cntL B L))
theorem natTo_bd {f : Nat → Nat} {b : Nat} : ∀ {n : Nat}, (∀ k, f k ≤ b) → natTo f n ≤ b * n
  | 0, _ => Nat.zero_le _
  | n + 1, h => by
    unfold natTo
    have h1 := natTo_bd (n := n) h
    have h2 := h n
    rw [Nat.mul_add, Nat.mul_one]; omega
theorem ok_made (x : Int32) : Okk (f_X9_made 0 x) (f_X10_made 103 x) := by
  apply Okk_ro
  intro S T hV hE
  have hVB := VT_B hV
  have hL := VT_L hV
  have hng : tB T 9 1 ≤ 8 := hVB.2.1.2.2.2
  have hcl := cntL_le (tB T) (tB T 0 2)
  have hR := hV.2.2.2.1
  have hC := IE_C hE
  have t3 := (IE_has hE).2.2.1
  obtain ⟨P, p1, p2, p3⟩ := IE_P hE
  have hk := kdE_P p1
  by_cases hb : bad x 0 1
  · refine ⟨-1, ?_, fun S1 hM => ⟨S1, ?_, Fr.rf⟩⟩
    · unfold f_X9_made; rw [bd_ok (within_bad hb)]; rfl
    · unfold f_X10_made; rw [bd_ok (in_bad hb)]; rfl
  have hs : ∀ p, sumR (tB T) (tB T 0 2) (tR T) p ≤ 30 * p := fun p => natTo_bd (fun k => hR _)
  have hw : ∀ p, whoR (tB T) (tB T 0 2) (tR T) p ≤ 1 * p := fun p => natTo_bd (fun k => by by_cases h : 0 < tR T (atL (tB T) (tB T 0 2) k) <;> simp [h])
  have hbar : tB T 0 0 ≤ 60 := hVB.1.2.1
  have hnd : tB T 0 1 ≤ 8 := hVB.1.2.2.1
  refine ⟨if x = 0 then iI (sumR (tB T) (tB T 0 2) (tR T) (cntL (tB T) (tB T 0 2))) else bI (madeS (tB T) (tB T 0 2) (tR T)), ?_, fun S1 hM => ?_⟩
  · have key : ∀ (m N p : Nat), p + m = cntL (tB T) (tB T 0 2) → m < N → f_X9_made_L18 N 0 x (iI (sumR (tB T) (tB T 0 2) (tR T) p)) (iI (whoR (tB T) (tB T 0 2) (tR T) p)) (iI p) S = some (if x = 0 then iI (sumR (tB T) (tB T 0 2) (tR T) (cntL (tB T) (tB T 0 2))) else bI (madeS (tB T) (tB T 0 2) (tR T)), S) := by
      intro m
      induction m with
      | zero =>
        intro N p hp hN
        obtain ⟨N, rfl⟩ : ∃ k, N = k + 1 := ⟨N - 1, by omega⟩
        have : p = cntL (tB T) (tB T 0 2) := by omega
        subst this
        have h1 := hs (cntL (tB T) (tB T 0 2))
        have h2 := hw (cntL (tB T) (tB T 0 2))
        rw [f_X9_made_L18]
        dsimp only [Nat.reduceAdd]
        rw [hC.1, if_pos (by rw [iI_le (by omega) (by omega)]; omega), p2, ck_pos hk, p3.1.1, ck_pos hk, p3.1.2.1]
        by_cases hx : x = 0
        · rw [if_pos hx, if_pos hx]
        · rw [if_neg hx, if_neg hx]
          unfold madeS
          by_cases c1 : tB T 0 0 ≤ sumR (tB T) (tB T 0 2) (tR T) (cntL (tB T) (tB T 0 2))
          · rw [if_neg (by rw [iI_lt (by omega) (by omega)]; omega)]
            by_cases c2 : tB T 0 1 ≤ whoR (tB T) (tB T 0 2) (tR T) (cntL (tB T) (tB T 0 2))
            · rw [if_neg (by rw [iI_lt (by omega) (by omega)]; omega), decide_eq_true ⟨c1, c2⟩]; rfl
            · rw [if_pos (by rw [iI_lt (by omega) (by omega)]; omega), decide_eq_false (fun q => c2 q.2)]; rfl
          · rw [if_pos (by rw [iI_lt (by omega) (by omega)]; omega), decide_eq_false (fun q => c1 q.1)]; rfl
      | succ m ih =>
        intro N p hp hN
        obtain ⟨N, rfl⟩ : ∃ k, N = k + 1 := ⟨N - 1, by omega⟩
        have hpc : p < cntL (tB T) (tB T 0 2) := by omega
        have f1 := atL_lt hpc
        have hr := hR (atL (tB T) (tB T 0 2) p)
        have x1 := (hC.2 p hpc).1
        have i1 := ih N (p + 1) (by omega) (by omega)
        have e1 : sumR (tB T) (tB T 0 2) (tR T) (p + 1) = sumR (tB T) (tB T 0 2) (tR T) p + tR T (atL (tB T) (tB T 0 2) p) := rfl
        have e2 : whoR (tB T) (tB T 0 2) (tR T) (p + 1) = whoR (tB T) (tB T 0 2) (tR T) p + (if 0 < tR T (atL (tB T) (tB T 0 2) p) then 1 else 0) := rfl
        rw [f_X9_made_L18]
        dsimp only [sq, Nat.reduceAdd]
        rw [hC.1, if_neg (by rw [iI_le (by omega) (by omega)]; omega), ob_iI (by omega), iI_nat (by omega), show S.1 26 p = iI (atL (tB T) (tB T 0 2) p) from x1, ob_iI (by omega), iI_nat (by omega), t3 _ (by omega), show iI (sumR (tB T) (tB T 0 2) (tR T) p) + iI (tR T (atL (tB T) (tB T 0 2) p)) = iI (sumR (tB T) (tB T 0 2) (tR T) (p + 1)) by rw [e1]; exact iI_add _ _, show iI p + (1 : Int32) = iI (p + 1 : Nat) from iI_add p 1]
        by_cases hc : 0 < tR T (atL (tB T) (tB T 0 2) p)
        · rw [if_neg (by rw [show (0 : Int32) = iI 0 from rfl, iI_le (by omega) (by omega)]; omega), show iI (whoR (tB T) (tB T 0 2) (tR T) p) + (1 : Int32) = iI (whoR (tB T) (tB T 0 2) (tR T) (p + 1)) by rw [e2, if_pos hc]; exact iI_add _ 1]
          exact i1
        · rw [if_pos (by rw [show (0 : Int32) = iI 0 from rfl, iI_le (by omega) (by omega)]; omega)]
          rw [e2, if_neg hc, Nat.add_zero] at i1
          exact i1
    unfold f_X9_made
    rw [bd_ok (within_ok hb), if_neg (by decide)]
    have z := key (cntL (tB T) (tB T 0 2)) FU 0 (by omega) (by unfold FU; omega)
    rw [show sumR (tB T) (tB T 0 2) (tR T) 0 = 0 from rfl, show whoR (tB T) (tB T 0 2) (tR T) 0 = 0 from rfl] at z
    exact z
  · obtain ⟨S4, S5, q1, q2, q3, q4, q5, q6⟩ := M_start hV hM
    have key : ∀ (m N p : Nat) (S : St), p + m = cntL (tB T) (tB T 0 2) → m < N → (∀ a k, ¬ (a = 103 ∧ (k = 32 ∨ k = 34)) → S.1 a k = S5.1 a k) → S.2 = S5.2 → S.1 103 32 = iI (sumR (tB T) (tB T 0 2) (tR T) p) → S.1 103 34 = iI (whoR (tB T) (tB T 0 2) (tR T) p) →
        ∃ S2 : St, f_X10_made_L32 N 103 x (iI p) S = some (if x = 0 then iI (sumR (tB T) (tB T 0 2) (tR T) (cntL (tB T) (tB T 0 2))) else bI (madeS (tB T) (tB T 0 2) (tR T)), S2) ∧ Fr PScr S5 S2 := by
      intro m
      induction m with
      | zero =>
        intro N p S hp hN r1 r2 h32 h34
        obtain ⟨N, rfl⟩ : ∃ k, N = k + 1 := ⟨N - 1, by omega⟩
        have : p = cntL (tB T) (tB T 0 2) := by omega
        subst this
        have h1 := hs (cntL (tB T) (tB T 0 2))
        have h2 := hw (cntL (tB T) (tB T 0 2))
        have ho : S.1 103 27 = iI (cntL (tB T) (tB T 0 2)) := by rw [r1 103 27 (by omega)]; exact q5.1
        refine ⟨S, ?_, Fr_rows (fun a k h => r1 a k (by unfold PScr at h; omega)) r2⟩
        rw [f_X10_made_L32, ho, if_pos (by rw [iI_le (by omega) (by omega)]; omega), h32]
        by_cases hx : x = 0
        · rw [if_pos hx, if_pos hx]
        · rw [if_neg hx, if_neg hx]
          unfold f_X10_isBuilt madeS
          rw [show Int32.toNatClampNeg 1 = 1 from rfl]
          dsimp only [Nat.reduceAdd]
          rw [h32, h34, r1 103 19 (by omega), r1 105 1 (by omega), q4.1, q3.2.2.1.1 1 (by omega)]
          by_cases c1 : tB T 0 0 ≤ sumR (tB T) (tB T 0 2) (tR T) (cntL (tB T) (tB T 0 2))
          · rw [if_neg (by rw [iI_lt (by omega) (by omega)]; omega)]
            by_cases c2 : tB T 0 1 ≤ whoR (tB T) (tB T 0 2) (tR T) (cntL (tB T) (tB T 0 2))
            · rw [if_neg (by rw [iI_lt (by omega) (by omega)]; omega), decide_eq_true ⟨c1, c2⟩]; rfl
            · rw [if_pos (by rw [iI_lt (by omega) (by omega)]; omega), decide_eq_false (fun q => c2 q.2)]; rfl
          · rw [if_pos (by rw [iI_lt (by omega) (by omega)]; omega), decide_eq_false (fun q => c1 q.1)]; rfl
      | succ m ih =>
        intro N p S hp hN r1 r2 h32 h34
        obtain ⟨N, rfl⟩ : ∃ k, N = k + 1 := ⟨N - 1, by omega⟩
        have hpc : p < cntL (tB T) (tB T 0 2) := by omega
        have f1 := atL_lt hpc
        have hr := hR (atL (tB T) (tB T 0 2) p)
        have ho : S.1 103 27 = iI (cntL (tB T) (tB T 0 2)) := by rw [r1 103 27 (by omega)]; exact q5.1
        have hok : S.1 121 p = iI (atL (tB T) (tB T 0 2) p) := by rw [r1 121 p (by omega)]; exact q5.2 p hpc
        have hrow : S.1 119 (atL (tB T) (tB T 0 2) p) = iI (tR T (atL (tB T) (tB T 0 2) p)) := by rw [r1 119 _ (by omega)]; exact q3.2.2.2.1 _ (by omega)
        have e1 : sumR (tB T) (tB T 0 2) (tR T) (p + 1) = sumR (tB T) (tB T 0 2) (tR T) p + tR T (atL (tB T) (tB T 0 2) p) := rfl
        have e2 : whoR (tB T) (tB T 0 2) (tR T) (p + 1) = whoR (tB T) (tB T 0 2) (tR T) p + (if 0 < tR T (atL (tB T) (tB T 0 2) p) then 1 else 0) := rfl
        rw [f_X10_made_L32, ho, if_neg (by rw [iI_le (by omega) (by omega)]; omega), ob_iI (by omega), iI_nat (by omega)]
        dsimp only [sq, Nat.reduceAdd]
        rw [hok, ob_iI (by omega), iI_nat (by omega), h32, hrow, ob_iI (by omega), show iI (sumR (tB T) (tB T 0 2) (tR T) p) + iI (tR T (atL (tB T) (tB T 0 2) p)) = iI (sumR (tB T) (tB T 0 2) (tR T) (p + 1)) by rw [e1]; exact iI_add _ _, show iI p + (1 : Int32) = iI (p + 1 : Nat) from iI_add p 1]
        have a1 : (pI S 103 32 (iI (sumR (tB T) (tB T 0 2) (tR T) (p + 1)))).1 121 p = iI (atL (tB T) (tB T 0 2) p) := by rw [pI_row (by omega)]; exact hok
        have a2 : (pI S 103 32 (iI (sumR (tB T) (tB T 0 2) (tR T) (p + 1)))).1 119 (atL (tB T) (tB T 0 2) p) = iI (tR T (atL (tB T) (tB T 0 2) p)) := by rw [pI_row (by omega)]; exact hrow
        have a3 : (pI S 103 32 (iI (sumR (tB T) (tB T 0 2) (tR T) (p + 1)))).1 103 34 = iI (whoR (tB T) (tB T 0 2) (tR T) p) := by rw [pI_1, if_neg (by omega)]; exact h34
        rw [a1, ob_iI (by omega), iI_nat (by omega), a2, a3]
        have fin : ∀ d : Nat, d = (if 0 < tR T (atL (tB T) (tB T 0 2) p) then 1 else 0) → ∃ S2 : St, f_X10_made_L32 N 103 x (iI (p + 1 : Nat)) (pI (pI S 103 32 (iI (sumR (tB T) (tB T 0 2) (tR T) (p + 1)))) 103 34 (iI (whoR (tB T) (tB T 0 2) (tR T) p) + iI d)) = some (if x = 0 then iI (sumR (tB T) (tB T 0 2) (tR T) (cntL (tB T) (tB T 0 2))) else bI (madeS (tB T) (tB T 0 2) (tR T)), S2) ∧ Fr PScr S5 S2 := fun d hd => by
          refine ih N (p + 1) _ (by omega) (by omega) (fun a k h => ?_) r2 ?_ ?_
          · rw [pI_1, if_neg (by omega), pI_1, if_neg (by omega)]; exact r1 a k h
          · rw [pI_1, if_neg (by omega), pI_1, if_pos ⟨rfl, rfl⟩]
          · rw [pI_1, if_pos ⟨rfl, rfl⟩, e2, ← hd]; exact iI_add _ _
        by_cases hc : 0 < tR T (atL (tB T) (tB T 0 2) p)
        · rw [if_neg (by rw [show (0 : Int32) = iI 0 from rfl, iI_le (by omega) (by omega)]; omega)]
          exact fin 1 (by rw [if_pos hc])
        · rw [if_pos (by rw [show (0 : Int32) = iI 0 from rfl, iI_le (by omega) (by omega)]; omega)]
          exact fin 0 (by rw [if_neg hc])
    obtain ⟨S6, z1, z2⟩ := key (cntL (tB T) (tB T 0 2)) FU 0 (pI (pI S5 103 32 0) 103 34 0) (by omega) (by unfold FU; omega) (fun a k h => by rw [pI_1, if_neg (by omega), pI_1, if_neg (by omega)]) rfl (by rw [pI_1, if_neg (by omega), pI_1, if_pos ⟨rfl, rfl⟩, show sumR (tB T) (tB T 0 2) (tR T) 0 = 0 from rfl]; rfl) (by rw [pI_1, if_pos ⟨rfl, rfl⟩, show whoR (tB T) (tB T 0 2) (tR T) 0 = 0 from rfl]; rfl)
    refine ⟨S6, ?_, q6.tr z2⟩
    unfold f_X10_made
    rw [bd_ok (in_ok hb), if_neg (by decide), bd_ok q1, bd_ok q2, sq_k, sq_k]
    exact z1
