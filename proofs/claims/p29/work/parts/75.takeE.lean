/-! texts read: the class takes an item -/
def eK (k : Nat) : Nat := if k = 7 then 9 else if k = 8 then 7 else if k = 9 then 8 else k
theorem eK_inj {j k : Nat} (hj : j ≤ 9) (hk : k ≤ 9) (h : eK j = eK k) : j = k := by
  unfold eK at h
  by_cases a1 : j = 7
  · rw [if_pos a1] at h
    by_cases b1 : k = 7
    · omega
    · rw [if_neg b1] at h
      by_cases b2 : k = 8
      · rw [if_pos b2] at h; omega
      · rw [if_neg b2] at h
        by_cases b3 : k = 9
        · rw [if_pos b3] at h; omega
        · rw [if_neg b3] at h; omega
  · rw [if_neg a1] at h
    by_cases a2 : j = 8
    · rw [if_pos a2] at h
      by_cases b1 : k = 7
      · rw [if_pos b1] at h; omega
      · rw [if_neg b1] at h
        by_cases b2 : k = 8
        · omega
        · rw [if_neg b2] at h
          by_cases b3 : k = 9
          · rw [if_pos b3] at h; omega
          · rw [if_neg b3] at h; omega
    · rw [if_neg a2] at h
      by_cases a3 : j = 9
      · rw [if_pos a3] at h
        by_cases b1 : k = 7
        · rw [if_pos b1] at h; omega
        · rw [if_neg b1] at h
          by_cases b2 : k = 8
          · rw [if_pos b2] at h; omega
          · rw [if_neg b2] at h
            by_cases b3 : k = 9
            · omega
            · rw [if_neg b3] at h; omega
      · rw [if_neg a3] at h
        by_cases b1 : k = 7
        · rw [if_pos b1] at h; omega
        · rw [if_neg b1] at h
          by_cases b2 : k = 8
          · rw [if_pos b2] at h; omega
          · rw [if_neg b2] at h
            by_cases b3 : k = 9
            · rw [if_pos b3] at h; omega
            · rw [if_neg b3] at h; exact h
def BEa (S : St) (P : Nat) (B : Bd) : Prop := S.1 P 0 = iI (B 0 0) ∧ S.1 P 1 = iI (B 0 1) ∧ S.1 P 2 = iI (B 0 2) ∧ S.1 P 3 = iI (B 0 3) ∧ S.1 P 4 = iI (B 0 4) ∧ S.1 P 5 = iI (B 0 5) ∧ S.1 P 6 = iI (B 0 6) ∧ S.1 P 9 = iI (B 0 7) ∧ S.1 P 7 = iI (B 0 8) ∧ S.1 P 8 = iI (B 0 9)
def BEb (S : St) (P : Nat) (B : Bd) : Prop := S.1 (P + 1) 0 = iI (B 9 0) ∧ S.1 (P + 1) 1 = iI (B 9 1) ∧
  (∀ s, s < B 9 0 → S.1 (P + 2) s = iI (B 1 s) ∧ S.1 (P + 3) s = iI (B 2 s) ∧ S.1 (P + 4) s = iI (B 3 s) ∧ S.1 (P + 5) s = iI (B 4 s) ∧ ∀ k, k < B 4 s → S.1 (P + 6) (3 * s + k) = iI (B 5 (3 * s + k)) ∧ S.1 (P + 7) (3 * s + k) = iI (B 6 (3 * s + k))) ∧
  (∀ i, i < B 9 1 → S.1 (P + 8) i = iI (B 7 i) ∧ S.1 (P + 9) i = iI (B 8 i))
theorem BE_ab {S : St} {P : Nat} {B : Bd} : BE S P B ↔ BEa S P B ∧ BEb S P B := Iff.rfl
theorem BEa_all {S : St} {P : Nat} {B : Bd} : BEa S P B ↔ ∀ j, j ≤ 9 → S.1 P (eK j) = iI (B 0 j) := by
  constructor
  · rintro ⟨h0, h1, h2, h3, h4, h5, h6, h7, h8, h9⟩ j hj
    rcases (show j = 0 ∨ j = 1 ∨ j = 2 ∨ j = 3 ∨ j = 4 ∨ j = 5 ∨ j = 6 ∨ j = 7 ∨ j = 8 ∨ j = 9 by omega) with rfl | rfl | rfl | rfl | rfl | rfl | rfl | rfl | rfl | rfl
    · exact h0
    · exact h1
    · exact h2
    · exact h3
    · exact h4
    · exact h5
    · exact h6
    · exact h7
    · exact h8
    · exact h9
  · intro h
    exact ⟨h 0 (by omega), h 1 (by omega), h 2 (by omega), h 3 (by omega), h 4 (by omega), h 5 (by omega), h 6 (by omega), h 7 (by omega), h 8 (by omega), h 9 (by omega)⟩
theorem BE_set {S : St} {Q k v : Nat} {B : Bd} (hk : k ≤ 9) (h : BE S Q B) : BE (pI S Q (eK k) (iI v)) Q (up1B B k v) := by
  obtain ⟨ha, hb⟩ := BE_ab.mp h
  refine BE_ab.mpr ⟨BEa_all.mpr (fun j hj => ?_), ?_⟩
  · rw [pI_1, up1B_0]
    by_cases hjk : j = k
    · rw [if_pos ⟨rfl, by rw [hjk]⟩, if_pos hjk]
    · rw [if_neg (fun z => hjk (eK_inj hj hk z.2)), if_neg hjk]
      exact BEa_all.mp ha j hj
  · unfold BEb at hb ⊢
    rw [up1B_r B k v 9 (by omega), up1B_r B k v 1 (by omega), up1B_r B k v 2 (by omega), up1B_r B k v 3 (by omega), up1B_r B k v 4 (by omega), up1B_r B k v 5 (by omega), up1B_r B k v 6 (by omega), up1B_r B k v 7 (by omega), up1B_r B k v 8 (by omega), pI_row (show Q + 1 ≠ Q by omega), pI_row (show Q + 2 ≠ Q by omega), pI_row (show Q + 3 ≠ Q by omega), pI_row (show Q + 4 ≠ Q by omega), pI_row (show Q + 5 ≠ Q by omega), pI_row (show Q + 6 ≠ Q by omega), pI_row (show Q + 7 ≠ Q by omega), pI_row (show Q + 8 ≠ Q by omega), pI_row (show Q + 9 ≠ Q by omega)]
    exact hb
def PQ (Q a : Nat) (_ : Nat) : Prop := Q ≤ a ∧ a ≤ Q + 9
def RT (o : Option Bd) (Q : Nat) (S : St) (R : Option (Int32 × St)) : Prop := ∃ (S2 : St) (b : Bool), R = some (bI b, S2) ∧ Fr (PQ Q) S S2 ∧ (o = none → b = false) ∧ ∀ B2, o = some B2 → b = true ∧ BE S2 Q B2
theorem RT_no {Q : Nat} {S S2 : St} {R : Option (Int32 × St)} (h : R = some (0, S2)) (hf : Fr (PQ Q) S S2) : RT none Q S R := ⟨S2, false, h, hf, fun _ => rfl, fun B2 h => absurd h (by simp)⟩
theorem RT_yes {Q : Nat} {S S2 : St} {R : Option (Int32 × St)} {B2 : Bd} (h : R = some (1, S2)) (hf : Fr (PQ Q) S S2) (hB : BE S2 Q B2) : RT (some B2) Q S R := ⟨S2, true, h, hf, fun h => absurd h (by simp), fun B3 h => ⟨rfl, by rw [← Option.some.inj h]; exact hB⟩⟩
theorem E_upTo {S : St} {k h v : Nat} (hk : k ≤ 4) (hv : S.1 4 k = iI v) (hv9 : v ≤ 999) (hh : h ≤ 999) : f_X3_upTo 3 (iI k) (iI h) S = some (bI (decide (v ≤ h)), S) := by
  unfold f_X3_upTo
  dsimp only [Nat.reduceAdd]
  rw [show (0 : Int32) = iI 0 from rfl, if_neg (by rw [iI_lt (by omega) (by omega)]; omega), show (5 : Int32) = iI 5 from rfl, if_neg (by rw [iI_le (by omega) (by omega)]; omega), ob_iI (by omega), iI_nat (by omega), hv]
  by_cases hc : v ≤ h
  · rw [if_neg (by rw [iI_lt (by omega) (by omega)]; omega), decide_eq_true hc]; rfl
  · rw [if_pos (by rw [iI_lt (by omega) (by omega)]; omega), decide_eq_false hc]; rfl
theorem ckbI {α : Type} (b : Bool) (k : Option α) : ck (bI b = 0 ∨ bI b = 1) k = k := ck_pos (by cases b <;> decide)
theorem PQ_Q (Q k : Nat) : PQ Q Q k := ⟨Nat.le_refl _, by omega⟩
theorem cl0 : Int32.toNatClampNeg 0 = 0 := rfl
theorem cl1 : Int32.toNatClampNeg 1 = 1 := rfl
theorem cl2 : Int32.toNatClampNeg 2 = 2 := rfl
theorem cl3 : Int32.toNatClampNeg 3 = 3 := rfl
theorem cl4 : Int32.toNatClampNeg 4 = 4 := rfl
section TakeE
variable {S : St} {Q : Nat} {B : Bd} {v : Nat → Nat}
theorem E_t98 (hQ : Q = 5 ∨ Q = 15) (hB : BE S Q B) (hv : ∀ j, j < 2 → S.1 4 j = iI (v j)) (h9 : ∀ j, v j ≤ 999) : RT (takeS 98 v B) Q S (f_X3_take 3 (iI (98 : Nat)) Q S) := by
  have v0 := hv 0 (by omega)
  have v1 := hv 1 (by omega)
  have a0 := h9 0
  have a1 := h9 1
  have u0 : f_X3_upTo 3 0 60 S = some (bI (decide (v 0 ≤ 60)), S) := E_upTo (k := 0) (h := 60) (by omega) v0 a0 (by omega)
  have u1 : f_X3_upTo 3 1 8 S = some (bI (decide (v 1 ≤ 8)), S) := E_upTo (k := 1) (h := 8) (by omega) v1 a1 (by omega)
  have e : takeS 98 v B = if 1 ≤ v 0 ∧ v 0 ≤ 60 ∧ v 1 ≤ 8 then some (up1B (up1B B 0 (v 0)) 1 (v 1)) else none := rfl
  have pre : ∀ R, (if iI (v 0) < (1 : Int32) then some ((0 : Int32), S) else if bI (decide (v 0 ≤ 60)) = 0 then some (0, S) else if bI (decide (v 1 ≤ 8)) = 0 then some (0, S) else some ((1 : Int32), pI (pI S Q 0 (iI (v 0))) Q 1 (iI (v 1)))) = R → f_X3_take 3 (iI (98 : Nat)) Q S = R := by
    intro R hR
    unfold f_X3_take
    rw [if_pos (by decide)]
    dsimp only [Nat.reduceAdd]
    rw [cl0, cl1, v0, u0, bd_ok rfl, u1, bd_ok rfl, v0, v1]
    unfold f_X2_setBar
    rw [sq_k, sq_k, bd_ok rfl]
    exact hR
  rw [e]
  by_cases c1 : 1 ≤ v 0
  · by_cases c2 : v 0 ≤ 60
    · by_cases c3 : v 1 ≤ 8
      · rw [if_pos ⟨c1, c2, c3⟩]
        refine RT_yes (pre _ (by rw [show (1 : Int32) = iI 1 from rfl, if_neg (by rw [iI_lt (by omega) (by omega)]; omega), decide_eq_true c2, if_neg (by decide), decide_eq_true c3, if_neg (by decide)]; rfl)) ((Fr.pI (PQ_Q Q _)).tr (Fr.pI (PQ_Q Q _))) (BE_set (k := 1) (by omega) (BE_set (k := 0) (by omega) hB))
      · rw [if_neg (fun z => c3 z.2.2)]
        exact RT_no (pre _ (by rw [show (1 : Int32) = iI 1 from rfl, if_neg (by rw [iI_lt (by omega) (by omega)]; omega), decide_eq_true c2, if_neg (by decide), decide_eq_false c3, if_pos (by decide)])) Fr.rf
    · rw [if_neg (fun z => c2 z.2.1)]
      exact RT_no (pre _ (by rw [show (1 : Int32) = iI 1 from rfl, if_neg (by rw [iI_lt (by omega) (by omega)]; omega), decide_eq_false c2, if_pos (by decide)])) Fr.rf
  · rw [if_neg (fun z => c1 z.1)]
    exact RT_no (pre _ (by rw [show (1 : Int32) = iI 1 from rfl, if_pos (by rw [iI_lt (by omega) (by omega)]; omega)])) Fr.rf
/-- one number, written ahead of the test -/
theorem E_t1 {k h : Nat} (hQ : Q = 5 ∨ Q = 15) (hB : BE S Q B) (hk : k ≤ 9) (hh : h ≤ 999) (v0 : S.1 4 0 = iI (v 0)) (a0 : v 0 ≤ 999) (R : Option (Int32 × St)) (hR : R = bd (f_X3_upTo 3 0 (iI h) (pI S Q (eK k) (iI (v 0)))) fun x S2 => ck (x = 0 ∨ x = 1) (some (x, S2))) : RT (if v 0 ≤ h then some (up1B B k (v 0)) else none) Q S R := by
  have u0 : f_X3_upTo 3 0 (iI h) (pI S Q (eK k) (iI (v 0))) = some (bI (decide (v 0 ≤ h)), pI S Q (eK k) (iI (v 0))) := E_upTo (k := 0) (by omega) (by rw [pI_row (by omega)]; exact v0) a0 hh
  rw [u0, bd_ok rfl, ckbI] at hR
  by_cases c : v 0 ≤ h
  · rw [if_pos c]
    rw [decide_eq_true c] at hR
    exact RT_yes hR (Fr.pI (PQ_Q Q _)) (BE_set hk hB)
  · rw [if_neg c]
    rw [decide_eq_false c] at hR
    exact RT_no hR (Fr.pI (PQ_Q Q _))
theorem E_t99 (hQ : Q = 5 ∨ Q = 15) (hB : BE S Q B) (hv : ∀ j, j < 1 → S.1 4 j = iI (v j)) (h9 : ∀ j, v j ≤ 999) : RT (takeS 99 v B) Q S (f_X3_take 3 (iI (99 : Nat)) Q S) := by
  have v0 := hv 0 (by omega)
  refine E_t1 (k := 3) (h := 199) hQ hB (by omega) (by omega) v0 (h9 0) _ ?_
  unfold f_X3_take
  rw [if_neg (by decide), if_pos (by decide)]
  dsimp only [Nat.reduceAdd]
  rw [cl0, v0, sq_k]
  rfl
theorem E_t100 (hQ : Q = 5 ∨ Q = 15) (hB : BE S Q B) (hv : ∀ j, j < 1 → S.1 4 j = iI (v j)) (h9 : ∀ j, v j ≤ 999) : RT (takeS 100 v B) Q S (f_X3_take 3 (iI (100 : Nat)) Q S) := by
  have v0 := hv 0 (by omega)
  refine E_t1 (k := 2) (h := 30) hQ hB (by omega) (by omega) v0 (h9 0) _ ?_
  unfold f_X3_take
  rw [if_neg (by decide), if_neg (by decide), if_pos (by decide)]
  dsimp only [Nat.reduceAdd]
  rw [cl0, v0, sq_k]
  rfl
theorem E_t112 (hQ : Q = 5 ∨ Q = 15) (hB : BE S Q B) (hv : ∀ j, j < 1 → S.1 4 j = iI (v j)) (h9 : ∀ j, v j ≤ 999) : RT (takeS 112 v B) Q S (f_X3_take 3 (iI (112 : Nat)) Q S) := by
  have v0 := hv 0 (by omega)
  refine E_t1 (k := 4) (h := 9) hQ hB (by omega) (by omega) v0 (h9 0) _ ?_
  unfold f_X3_take
  rw [if_neg (by decide), if_neg (by decide), if_neg (by decide), if_neg (by decide), if_neg (by decide), if_pos (by decide)]
  dsimp only [Nat.reduceAdd]
  rw [cl0, v0, sq_k]
  rfl
theorem E_t111 (hQ : Q = 5 ∨ Q = 15) (hB : BE S Q B) (hv : ∀ j, j < 1 → S.1 4 j = iI (v j)) (h9 : ∀ j, v j ≤ 999) : RT (takeS 111 v B) Q S (f_X3_take 3 (iI (111 : Nat)) Q S) := by
  have v0 := hv 0 (by omega)
  have a0 := h9 0
  have e : takeS 111 v B = if v 0 ≤ 1 then some (up1B B 7 (v 0)) else none := rfl
  have pre : ∀ k1 : Int32, (k1 = 0 ∨ k1 = 1) → (if iI (v 0) = (1 : Int32) then (1 : Int32) else 0) = k1 → f_X3_take 3 (iI (111 : Nat)) Q S = some (bI (decide (v 0 ≤ 1)), pI S Q 9 k1) := by
    intro k1 hk hk1
    have u0 : f_X3_upTo 3 0 1 (pI S Q 9 k1) = some (bI (decide (v 0 ≤ 1)), pI S Q 9 k1) := E_upTo (k := 0) (h := 1) (by omega) (by rw [pI_row (by omega)]; exact v0) a0 (by omega)
    have j : f_X3_take_J251 3 (iI (111 : Nat)) Q Q k1 S = some (bI (decide (v 0 ≤ 1)), pI S Q 9 k1) := by
      unfold f_X3_take_J251
      rw [ck_pos hk, sq_k, u0, bd_ok rfl, ckbI]
    unfold f_X3_take
    rw [if_neg (by decide), if_neg (by decide), if_neg (by decide), if_neg (by decide), if_pos (by decide)]
    dsimp only [Nat.reduceAdd]
    rw [cl0, v0]
    by_cases hc : iI (v 0) = (1 : Int32)
    · rw [if_pos hc] at hk1 ⊢
      rw [hk1]; exact j
    · rw [if_neg hc] at hk1 ⊢
      rw [hk1]; exact j
  rw [e]
  by_cases c : v 0 ≤ 1
  · rw [if_pos c]
    have hk1 : (if iI (v 0) = (1 : Int32) then (1 : Int32) else 0) = iI (v 0) := by
      rcases (show v 0 = 0 ∨ v 0 = 1 by omega) with h | h
      · rw [h]; decide
      · rw [h]; decide
    have z := pre (iI (v 0)) (by
      rcases (show v 0 = 0 ∨ v 0 = 1 by omega) with h | h
      · rw [h]; exact Or.inl rfl
      · rw [h]; exact Or.inr rfl) hk1
    rw [decide_eq_true c] at z
    exact RT_yes z (Fr.pI (PQ_Q Q _)) (BE_set (k := 7) (by omega) hB)
  · rw [if_neg c]
    have z := pre 0 (Or.inl rfl) (by rw [show (1 : Int32) = iI 1 from rfl, if_neg (by rw [iI_eq (by omega) (by omega)]; omega)])
    rw [decide_eq_false c] at z
    exact RT_no z (Fr.pI (PQ_Q Q _))
theorem E_t101 (hQ : Q = 5 ∨ Q = 15) (hB : BE S Q B) (hv : ∀ j, j < 2 → S.1 4 j = iI (v j)) (h9 : ∀ j, v j ≤ 999) : RT (takeS 101 v B) Q S (f_X3_take 3 (iI (101 : Nat)) Q S) := by
  have v0 := hv 0 (by omega)
  have v1 := hv 1 (by omega)
  obtain ⟨S3, hS3⟩ : ∃ S3, S3 = pI (pI S Q 5 (iI (v 0))) Q 6 (iI (v 1)) := ⟨_, rfl⟩
  have r4 : ∀ k, S3.1 4 k = S.1 4 k := fun k => by rw [hS3, pI_row (by omega), pI_row (by omega)]
  have f3 : Fr (PQ Q) S S3 := by rw [hS3]; exact (Fr.pI (PQ_Q Q _)).tr (Fr.pI (PQ_Q Q _))
  have hB3 : BE S3 Q (up1B (up1B B 5 (v 0)) 6 (v 1)) := by rw [hS3]; exact BE_set (k := 6) (by omega) (BE_set (k := 5) (by omega) hB)
  have u0 : f_X3_upTo 3 0 9 S3 = some (bI (decide (v 0 ≤ 9)), S3) := E_upTo (k := 0) (h := 9) (by omega) (by rw [r4]; exact v0) (h9 0) (by omega)
  have u1 : f_X3_upTo 3 1 30 S3 = some (bI (decide (v 1 ≤ 30)), S3) := E_upTo (k := 1) (h := 30) (by omega) (by rw [r4]; exact v1) (h9 1) (by omega)
  have e : takeS 101 v B = if v 0 ≤ 9 ∧ v 1 ≤ 30 then some (up1B (up1B B 5 (v 0)) 6 (v 1)) else none := rfl
  have pre : f_X3_take 3 (iI (101 : Nat)) Q S = (if bI (decide (v 0 ≤ 9)) = 0 then some ((0 : Int32), S3) else if bI (decide (v 1 ≤ 30)) = 0 then some (0, S3) else some ((1 : Int32), S3)) := by
    unfold f_X3_take
    rw [if_neg (by decide), if_neg (by decide), if_neg (by decide), if_pos (by decide)]
    unfold f_X2_setExtra
    dsimp only [Nat.reduceAdd]
    rw [cl0, cl1, v0, v1, sq_k, sq_k, ← hS3, bd_ok rfl, u0, bd_ok rfl, u1, bd_ok rfl]
  rw [e, pre]
  by_cases c2 : v 0 ≤ 9
  · by_cases c3 : v 1 ≤ 30
    · rw [if_pos ⟨c2, c3⟩, decide_eq_true c2, if_neg (by decide), decide_eq_true c3, if_neg (by decide)]
      exact RT_yes rfl f3 hB3
    · rw [if_neg (fun z => c3 z.2), decide_eq_true c2, if_neg (by decide), decide_eq_false c3, if_pos (by decide)]
      exact RT_no rfl f3
  · rw [if_neg (fun z => c2 z.1), decide_eq_false c2, if_pos (by decide)]
    exact RT_no rfl f3
theorem E_t115 (hQ : Q = 5 ∨ Q = 15) (hB : BE S Q B) (hv : ∀ j, j < 2 → S.1 4 j = iI (v j)) (h9 : ∀ j, v j ≤ 999) : RT (takeS 115 v B) Q S (f_X3_take 3 (iI (115 : Nat)) Q S) := by
  have v0 := hv 0 (by omega)
  have v1 := hv 1 (by omega)
  have a0 := h9 0
  obtain ⟨S3, hS3⟩ : ∃ S3, S3 = pI (pI S Q 7 (iI (v 0))) Q 8 (iI (v 1)) := ⟨_, rfl⟩
  have r4 : ∀ k, S3.1 4 k = S.1 4 k := fun k => by rw [hS3, pI_row (by omega), pI_row (by omega)]
  have f3 : Fr (PQ Q) S S3 := by rw [hS3]; exact (Fr.pI (PQ_Q Q _)).tr (Fr.pI (PQ_Q Q _))
  have hB3 : BE S3 Q (up1B (up1B B 8 (v 0)) 9 (v 1)) := by rw [hS3]; exact BE_set (k := 9) (by omega) (BE_set (k := 8) (by omega) hB)
  have u0 : f_X3_upTo 3 0 60 S3 = some (bI (decide (v 0 ≤ 60)), S3) := E_upTo (k := 0) (h := 60) (by omega) (by rw [r4]; exact v0) (h9 0) (by omega)
  have u1 : f_X3_upTo 3 1 99 S3 = some (bI (decide (v 1 ≤ 99)), S3) := E_upTo (k := 1) (h := 99) (by omega) (by rw [r4]; exact v1) (h9 1) (by omega)
  have e : takeS 115 v B = if 1 ≤ v 0 ∧ v 0 ≤ 60 ∧ v 1 ≤ 99 then some (up1B (up1B B 8 (v 0)) 9 (v 1)) else none := rfl
  have pre : f_X3_take 3 (iI (115 : Nat)) Q S = (if iI (v 0) < (1 : Int32) then some ((0 : Int32), S3) else if bI (decide (v 0 ≤ 60)) = 0 then some ((0 : Int32), S3) else if bI (decide (v 1 ≤ 99)) = 0 then some (0, S3) else some ((1 : Int32), S3)) := by
    unfold f_X3_take
    rw [if_neg (by decide), if_neg (by decide), if_neg (by decide), if_neg (by decide), if_neg (by decide), if_neg (by decide), if_pos (by decide)]
    unfold f_X2_setSecond
    dsimp only [Nat.reduceAdd]
    rw [cl0, cl1, v0, v1, sq_k, sq_k, ← hS3, bd_ok rfl, u0, bd_ok rfl, u1, bd_ok rfl, r4, v0]
  rw [e, pre]
  by_cases c1 : 1 ≤ v 0
  · rw [show (1 : Int32) = iI 1 from rfl, if_neg (show ¬ iI (v 0) < iI 1 by rw [iI_lt (by omega) (by omega)]; omega)]
    by_cases c2 : v 0 ≤ 60
    · by_cases c3 : v 1 ≤ 99
      · rw [if_pos ⟨c1, c2, c3⟩, decide_eq_true c2, if_neg (by decide), decide_eq_true c3, if_neg (by decide)]
        exact RT_yes rfl f3 hB3
      · rw [if_neg (fun z => c3 z.2.2), decide_eq_true c2, if_neg (by decide), decide_eq_false c3, if_pos (by decide)]
        exact RT_no rfl f3
    · rw [if_neg (fun z => c2 z.2.1), decide_eq_false c2, if_pos (by decide)]
      exact RT_no rfl f3
  · rw [show (1 : Int32) = iI 1 from rfl, if_pos (show iI (v 0) < iI 1 by rw [iI_lt (by omega) (by omega)]; omega), if_neg (fun z => c1 z.1)]
    exact RT_no rfl f3
end TakeE
