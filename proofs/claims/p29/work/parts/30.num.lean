/-! LEVEL 2. Int32 and Int64 by their numbers -/
def iI (z : Int) : Int32 := Int32.ofInt z
def lI (z : Int) : Int64 := Int64.ofInt z
theorem iI_lit (n : Nat) : (OfNat.ofNat n : Int32) = iI (OfNat.ofNat n) := rfl
theorem lI_lit (n : Nat) : (OfNat.ofNat n : Int64) = lI (OfNat.ofNat n) := rfl
theorem iI_nI (n : Nat) : nI n = iI n := rfl
theorem iI_add (a b : Int) : iI a + iI b = iI (a + b) := (Int32.ofInt_add a b).symm
theorem iI_sub (a b : Int) : iI a - iI b = iI (a - b) := (Int32.ofInt_sub a b).symm
theorem iI_mul (a b : Int) : iI a * iI b = iI (a * b) := (Int32.ofInt_mul a b).symm
theorem iI_neg (a : Int) : -iI a = iI (-a) := (Int32.ofInt_neg a).symm
theorem lI_add (a b : Int) : lI a + lI b = lI (a + b) := (Int64.ofInt_add a b).symm
theorem lI_sub (a b : Int) : lI a - lI b = lI (a - b) := (Int64.ofInt_sub a b).symm
theorem lI_mul (a b : Int) : lI a * lI b = lI (a * b) := (Int64.ofInt_mul a b).symm
theorem lI_neg (a : Int) : -lI a = lI (-a) := (Int64.ofInt_neg a).symm
theorem iI_toInt {a : Int} (h : -2147483648 ≤ a ∧ a < 2147483648) : (iI a).toInt = a := Int32.toInt_ofInt_of_le h.1 h.2
theorem lI_toInt {a : Int} (h : -9223372036854775808 ≤ a ∧ a < 9223372036854775808) : (lI a).toInt = a := Int64.toInt_ofInt_of_le h.1 h.2
theorem iI_of (x : Int32) : iI x.toInt = x := Int32.ofInt_toInt x
theorem lI_of (x : Int64) : lI x.toInt = x := Int64.ofInt_toInt x
theorem iI_lt {a b : Int} (ha : -2147483648 ≤ a ∧ a < 2147483648) (hb : -2147483648 ≤ b ∧ b < 2147483648) : (iI a < iI b) ↔ a < b := by rw [Int32.lt_iff_toInt_lt, iI_toInt ha, iI_toInt hb]
theorem iI_le {a b : Int} (ha : -2147483648 ≤ a ∧ a < 2147483648) (hb : -2147483648 ≤ b ∧ b < 2147483648) : (iI a ≤ iI b) ↔ a ≤ b := by rw [Int32.le_iff_toInt_le, iI_toInt ha, iI_toInt hb]
theorem iI_eq {a b : Int} (ha : -2147483648 ≤ a ∧ a < 2147483648) (hb : -2147483648 ≤ b ∧ b < 2147483648) : (iI a = iI b) ↔ a = b := by rw [← Int32.toInt_inj, iI_toInt ha, iI_toInt hb]
theorem lI_lt {a b : Int} (ha : -9223372036854775808 ≤ a ∧ a < 9223372036854775808) (hb : -9223372036854775808 ≤ b ∧ b < 9223372036854775808) : (lI a < lI b) ↔ a < b := by rw [Int64.lt_iff_toInt_lt, lI_toInt ha, lI_toInt hb]
theorem lI_le {a b : Int} (ha : -9223372036854775808 ≤ a ∧ a < 9223372036854775808) (hb : -9223372036854775808 ≤ b ∧ b < 9223372036854775808) : (lI a ≤ lI b) ↔ a ≤ b := by rw [Int64.le_iff_toInt_le, lI_toInt ha, lI_toInt hb]
theorem lI_eq {a b : Int} (ha : -9223372036854775808 ≤ a ∧ a < 9223372036854775808) (hb : -9223372036854775808 ≤ b ∧ b < 9223372036854775808) : (lI a = lI b) ↔ a = b := by rw [← Int64.toInt_inj, lI_toInt ha, lI_toInt hb]
theorem iI_range (x : Int32) : -2147483648 ≤ x.toInt ∧ x.toInt < 2147483648 := ⟨Int32.le_toInt x, Int32.toInt_lt x⟩
theorem lI_range (x : Int64) : -9223372036854775808 ≤ x.toInt ∧ x.toInt < 9223372036854775808 := ⟨Int64.le_toInt x, Int64.toInt_lt x⟩
theorem iI_nat {n : Nat} (h : n < 2147483648) : (iI n).toNatClampNeg = n := nI_clamp h
theorem iI_clamp {a : Int} (h : 0 ≤ a ∧ a < 2147483648) : (iI a).toNatClampNeg = a.toNat := by
  obtain ⟨n, rfl⟩ : ∃ n : Nat, a = n := ⟨a.toNat, by omega⟩
  rw [iI_nat (by omega)]; omega
theorem ob_iI {α : Type} {a : Int} {n : Nat} {k : Option α} (h : 0 ≤ a ∧ a < n ∧ n < 2147483648) : ob (iI a) n k = k := by
  apply ob_in
  obtain ⟨m, rfl⟩ : ∃ m : Nat, a = m := ⟨a.toNat, by omega⟩
  exact vp_in_nI (by omega) (by omega)
theorem ck_pos {α : Type} {p : Prop} [Decidable p] {k : Option α} (h : p) : ck p k = k := if_pos h
theorem iI_l {a : Int} (h : -2147483648 ≤ a ∧ a < 2147483648) : (iI a).toInt64 = lI a := by
  apply Int64.toInt_inj.mp
  rw [Int32.toInt_toInt64, iI_toInt h, lI_toInt (by omega)]
theorem lI_i {a : Int} : (lI a).toInt32 = iI a := by
  unfold lI iI; exact Int64.toInt32_ofInt
theorem iI_div {a b : Int} (ha : 0 ≤ a ∧ a < 2147483648) (hb : 0 < b ∧ b < 2147483648) : iI a / iI b = iI (a / b) := by
  obtain ⟨n, rfl⟩ : ∃ n : Nat, a = n := ⟨a.toNat, by omega⟩
  obtain ⟨m, rfl⟩ : ∃ m : Nat, b = m := ⟨b.toNat, by omega⟩
  have := pk_div (a := n) (d := m) (by omega) (by omega) (by omega)
  rw [iI_nI, iI_nI, iI_nI] at this
  rw [this]; rfl
theorem iI_rem {a b : Int} (ha : 0 ≤ a ∧ a < 2147483648) (hb : 0 < b ∧ b < 2147483648) : iI a - iI a / iI b * iI b = iI (a % b) := by
  rw [iI_div ha hb, iI_mul, iI_sub]; congr 1; have := Int.mul_ediv_add_emod a b; have := Int.mul_comm (a / b) b; omega
theorem lI_div {a b : Int} (ha : 0 ≤ a ∧ a < 9223372036854775808) (hb : 0 < b ∧ b < 9223372036854775808) : lI a / lI b = lI (a / b) := by
  obtain ⟨n, rfl⟩ : ∃ n : Nat, a = n := ⟨a.toNat, by omega⟩
  obtain ⟨m, rfl⟩ : ∃ m : Nat, b = m := ⟨b.toNat, by omega⟩
  have := pk_lDiv (a := n) (b := m) (by omega) (by omega) (by omega)
  exact this
theorem lI_rem {a b : Int} (ha : 0 ≤ a ∧ a < 9223372036854775808) (hb : 0 < b ∧ b < 9223372036854775808) : lI a - lI a / lI b * lI b = lI (a % b) := by
  rw [lI_div ha hb, lI_mul, lI_sub]; congr 1; have := Int.mul_ediv_add_emod a b; have := Int.mul_comm (a / b) b; omega
theorem imin_iI {a b : Int} (ha : -2147483648 ≤ a ∧ a < 2147483648) (hb : -2147483648 ≤ b ∧ b < 2147483648) : imin (iI a) (iI b) = iI (min a b) := by
  unfold imin
  by_cases h : iI b < iI a
  · rw [if_pos h]; rw [iI_lt hb ha] at h; rw [Int.min_eq_right (by omega)]
  · rw [if_neg h]; rw [iI_lt hb ha] at h; rw [Int.min_eq_left (by omega)]
theorem imax_iI {a b : Int} (ha : -2147483648 ≤ a ∧ a < 2147483648) (hb : -2147483648 ≤ b ∧ b < 2147483648) : imax (iI a) (iI b) = iI (max a b) := by
  unfold imax
  by_cases h : iI a < iI b
  · rw [if_pos h]; rw [iI_lt ha hb] at h; rw [Int.max_eq_right (by omega)]
  · rw [if_neg h]; rw [iI_lt ha hb] at h; rw [Int.max_eq_left (by omega)]
/-! the memory -/
theorem up2_app {α : Type} (f : Nat → Nat → α) (c k a b : Nat) (v : α) : up2 f c k v a b = if a = c ∧ b = k then v else f a b := by
  unfold up2
  by_cases h : a = c
  · subst h; rw [if_pos rfl]; by_cases hb : b = k <;> simp [hb]
  · rw [if_neg h, if_neg (fun e => h e.1)]
theorem pI_1 (S : St) (c k a b : Nat) (v : Int32) : (pI S c k v).1 a b = if a = c ∧ b = k then v else S.1 a b := up2_app _ _ _ _ _ _
theorem pI_2 (S : St) (c k : Nat) (v : Int32) : (pI S c k v).2 = S.2 := rfl
theorem pJ_1 (S : St) (c k : Nat) (v : Int64) : (pJ S c k v).1 = S.1 := rfl
theorem pJ_2 (S : St) (c k a b : Nat) (v : Int64) : (pJ S c k v).2.1 a b = if a = c ∧ b = k then v else S.2.1 a b := up2_app _ _ _ _ _ _
theorem pJ_3 (S : St) (c k : Nat) (v : Int64) : (pJ S c k v).2.2 = S.2.2 := rfl
theorem pR_1 (S : St) (c k : Nat) (v : Nat) : (pR S c k v).1 = S.1 := rfl
theorem pR_2 (S : St) (c k : Nat) (v : Nat) : (pR S c k v).2.1 = S.2.1 := rfl
theorem pR_3 (S : St) (c k a b : Nat) (v : Nat) : (pR S c k v).2.2 a b = if a = c ∧ b = k then v else S.2.2 a b := up2_app _ _ _ _ _ _
theorem pRow_1 (S : St) (c a : Nat) (r : Nat → Int32) : (pRow S c r).1 a = if a = c then r else S.1 a := rfl
theorem pRow_2 (S : St) (c : Nat) (r : Nat → Int32) : (pRow S c r).2 = S.2 := rfl
theorem bd_ok {α β : Type} {o : Option (α × St)} {v : α} {S : St} {k : α → St → Option β} (h : o = some (v, S)) : bd o k = k v S := by rw [h]; rfl
/-- only the cells of P are written -/
def Fr (P : Nat → Nat → Prop) (S S2 : St) : Prop := (∀ a k, ¬ P a k → S2.1 a k = S.1 a k) ∧ (∀ a k, ¬ P a k → S2.2.1 a k = S.2.1 a k) ∧ (∀ a k, ¬ P a k → S2.2.2 a k = S.2.2 a k)
theorem Fr.rf {P : Nat → Nat → Prop} {S : St} : Fr P S S := ⟨fun _ _ _ => rfl, fun _ _ _ => rfl, fun _ _ _ => rfl⟩
theorem Fr.tr {P : Nat → Nat → Prop} {S S2 S3 : St} (h : Fr P S S2) (h2 : Fr P S2 S3) : Fr P S S3 := ⟨fun a k n => (h2.1 a k n).trans (h.1 a k n), fun a k n => (h2.2.1 a k n).trans (h.2.1 a k n), fun a k n => (h2.2.2 a k n).trans (h.2.2 a k n)⟩
theorem Fr.wk {P P2 : Nat → Nat → Prop} {S S2 : St} (h : Fr P S S2) (hp : ∀ a k, P a k → P2 a k) : Fr P2 S S2 := ⟨fun a k n => h.1 a k (fun x => n (hp a k x)), fun a k n => h.2.1 a k (fun x => n (hp a k x)), fun a k n => h.2.2 a k (fun x => n (hp a k x))⟩
theorem Fr.pI {P : Nat → Nat → Prop} {S : St} {c k : Nat} {v : Int32} (h : P c k) : Fr P S (pI S c k v) := ⟨fun a b n => by rw [pI_1, if_neg]; rintro ⟨rfl, rfl⟩; exact n h, fun _ _ _ => rfl, fun _ _ _ => rfl⟩
theorem Fr.pJ {P : Nat → Nat → Prop} {S : St} {c k : Nat} {v : Int64} (h : P c k) : Fr P S (pJ S c k v) := ⟨fun _ _ _ => rfl, fun a b n => by rw [pJ_2, if_neg]; rintro ⟨rfl, rfl⟩; exact n h, fun _ _ _ => rfl⟩
theorem Fr.pR {P : Nat → Nat → Prop} {S : St} {c k : Nat} {v : Nat} (h : P c k) : Fr P S (pR S c k v) := ⟨fun _ _ _ => rfl, fun _ _ _ => rfl, fun a b n => by rw [pR_3, if_neg]; rintro ⟨rfl, rfl⟩; exact n h⟩
theorem Fr.pRow {P : Nat → Nat → Prop} {S : St} {c : Nat} {r : Nat → Int32} (h : ∀ k, P c k) : Fr P S (pRow S c r) := ⟨fun a b n => by rw [pRow_1, if_neg]; rintro rfl; exact n (h b), fun _ _ _ => rfl, fun _ _ _ => rfl⟩
theorem FU_succ : ∃ n, FU = n + 1 := ⟨9999, rfl⟩
