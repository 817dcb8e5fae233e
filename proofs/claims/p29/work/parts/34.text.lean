/-! write, keep, back -/
def byE (v : Int64) (k : Int32) : Int32 := (Int64.toInt32 ((Int64.toUInt64 v >>> (Int64.toUInt64 (Int32.toInt64 ((8 : Int32) * k)) &&& Int64.toUInt64 63)).toInt64)) &&& (255 : Int32)
def byM (v : Int64) (k : Int32) : Int32 := Int64.toInt32 (((v >>> (Int32.toInt64 ((8 : Int32) * k) &&& 63))) &&& (255 : Int64))
theorem by_bits (x : BitVec 64) (n : Nat) (hn : n < 57) : (BitVec.signExtend 32 (x >>> n)) &&& 255#32 = BitVec.signExtend 32 ((x.sshiftRight n) &&& 255#64) := by
  apply BitVec.eq_of_getLsbD_eq
  intro i hi
  have h64 : i < 64 := by omega
  have h64' : ¬ 64 ≤ i := by omega
  by_cases h8 : i < 8
  · have h1 : n + i < 64 := by omega
    have e1 : (255#32).getLsbD i = true := by
      have : ∀ j : Fin 8, (255#32).getLsbD j.val = true := by decide
      exact this ⟨i, h8⟩
    have e2 : (255#64).getLsbD i = true := by
      have : ∀ j : Fin 8, (255#64).getLsbD j.val = true := by decide
      exact this ⟨i, h8⟩
    simp only [BitVec.getLsbD_and, BitVec.getLsbD_signExtend, BitVec.getLsbD_ushiftRight, BitVec.getLsbD_sshiftRight, e1, e2, if_pos h64, if_pos h1, h64', hi, decide_true, decide_false, Bool.true_and, Bool.and_true, Bool.not_false]
  · have e1 : (255#32).getLsbD i = false := by
      have : ∀ j : Fin 32, 8 ≤ j.val → (255#32).getLsbD j.val = false := by decide
      exact this ⟨i, hi⟩ (Nat.not_lt.mp h8)
    have e2 : (255#64).getLsbD i = false := by
      have : ∀ j : Fin 64, 8 ≤ j.val → (255#64).getLsbD j.val = false := by decide
      exact this ⟨i, h64⟩ (Nat.not_lt.mp h8)
    simp only [BitVec.getLsbD_and, BitVec.getLsbD_signExtend, e1, e2, if_pos h64, Bool.and_false]
theorem byE_0 (v : Int64) : (byE v (iI 0)).toBitVec = (BitVec.signExtend 32 (v.toBitVec >>> 0)) &&& 255#32 := by
  unfold byE
  rw [show (Int64.toUInt64 (Int32.toInt64 ((8 : Int32) * iI 0)) &&& Int64.toUInt64 63) = 0 from by decide]
  rfl
theorem byM_0 (v : Int64) : (byM v (iI 0)).toBitVec = BitVec.signExtend 32 ((v.toBitVec.sshiftRight 0) &&& 255#64) := by
  unfold byM
  rw [show (Int32.toInt64 ((8 : Int32) * iI 0) &&& 63) = 0 from by decide]
  rfl
theorem byE_1 (v : Int64) : (byE v (iI 1)).toBitVec = (BitVec.signExtend 32 (v.toBitVec >>> 8)) &&& 255#32 := by
  unfold byE
  rw [show (Int64.toUInt64 (Int32.toInt64 ((8 : Int32) * iI 1)) &&& Int64.toUInt64 63) = 8 from by decide]
  rfl
theorem byM_1 (v : Int64) : (byM v (iI 1)).toBitVec = BitVec.signExtend 32 ((v.toBitVec.sshiftRight 8) &&& 255#64) := by
  unfold byM
  rw [show (Int32.toInt64 ((8 : Int32) * iI 1) &&& 63) = 8 from by decide]
  rfl
theorem byE_2 (v : Int64) : (byE v (iI 2)).toBitVec = (BitVec.signExtend 32 (v.toBitVec >>> 16)) &&& 255#32 := by
  unfold byE
  rw [show (Int64.toUInt64 (Int32.toInt64 ((8 : Int32) * iI 2)) &&& Int64.toUInt64 63) = 16 from by decide]
  rfl
theorem byM_2 (v : Int64) : (byM v (iI 2)).toBitVec = BitVec.signExtend 32 ((v.toBitVec.sshiftRight 16) &&& 255#64) := by
  unfold byM
  rw [show (Int32.toInt64 ((8 : Int32) * iI 2) &&& 63) = 16 from by decide]
  rfl
theorem byE_3 (v : Int64) : (byE v (iI 3)).toBitVec = (BitVec.signExtend 32 (v.toBitVec >>> 24)) &&& 255#32 := by
  unfold byE
  rw [show (Int64.toUInt64 (Int32.toInt64 ((8 : Int32) * iI 3)) &&& Int64.toUInt64 63) = 24 from by decide]
  rfl
theorem byM_3 (v : Int64) : (byM v (iI 3)).toBitVec = BitVec.signExtend 32 ((v.toBitVec.sshiftRight 24) &&& 255#64) := by
  unfold byM
  rw [show (Int32.toInt64 ((8 : Int32) * iI 3) &&& 63) = 24 from by decide]
  rfl
theorem byE_4 (v : Int64) : (byE v (iI 4)).toBitVec = (BitVec.signExtend 32 (v.toBitVec >>> 32)) &&& 255#32 := by
  unfold byE
  rw [show (Int64.toUInt64 (Int32.toInt64 ((8 : Int32) * iI 4)) &&& Int64.toUInt64 63) = 32 from by decide]
  rfl
theorem byM_4 (v : Int64) : (byM v (iI 4)).toBitVec = BitVec.signExtend 32 ((v.toBitVec.sshiftRight 32) &&& 255#64) := by
  unfold byM
  rw [show (Int32.toInt64 ((8 : Int32) * iI 4) &&& 63) = 32 from by decide]
  rfl
theorem byE_5 (v : Int64) : (byE v (iI 5)).toBitVec = (BitVec.signExtend 32 (v.toBitVec >>> 40)) &&& 255#32 := by
  unfold byE
  rw [show (Int64.toUInt64 (Int32.toInt64 ((8 : Int32) * iI 5)) &&& Int64.toUInt64 63) = 40 from by decide]
  rfl
theorem byM_5 (v : Int64) : (byM v (iI 5)).toBitVec = BitVec.signExtend 32 ((v.toBitVec.sshiftRight 40) &&& 255#64) := by
  unfold byM
  rw [show (Int32.toInt64 ((8 : Int32) * iI 5) &&& 63) = 40 from by decide]
  rfl
theorem byE_6 (v : Int64) : (byE v (iI 6)).toBitVec = (BitVec.signExtend 32 (v.toBitVec >>> 48)) &&& 255#32 := by
  unfold byE
  rw [show (Int64.toUInt64 (Int32.toInt64 ((8 : Int32) * iI 6)) &&& Int64.toUInt64 63) = 48 from by decide]
  rfl
theorem byM_6 (v : Int64) : (byM v (iI 6)).toBitVec = BitVec.signExtend 32 ((v.toBitVec.sshiftRight 48) &&& 255#64) := by
  unfold byM
  rw [show (Int32.toInt64 ((8 : Int32) * iI 6) &&& 63) = 48 from by decide]
  rfl
theorem byE_7 (v : Int64) : (byE v (iI 7)).toBitVec = (BitVec.signExtend 32 (v.toBitVec >>> 56)) &&& 255#32 := by
  unfold byE
  rw [show (Int64.toUInt64 (Int32.toInt64 ((8 : Int32) * iI 7)) &&& Int64.toUInt64 63) = 56 from by decide]
  rfl
theorem byM_7 (v : Int64) : (byM v (iI 7)).toBitVec = BitVec.signExtend 32 ((v.toBitVec.sshiftRight 56) &&& 255#64) := by
  unfold byM
  rw [show (Int32.toInt64 ((8 : Int32) * iI 7) &&& 63) = 56 from by decide]
  rfl
theorem by_eq (v : Int64) : ∀ k : Nat, k < 8 → byE v (iI k) = byM v (iI k) := by
  intro k hk
  apply Int32.toBitVec_inj.mp
  match k, hk with
  | 0, _ => exact (byE_0 v).trans ((by_bits v.toBitVec 0 (by decide)).trans (byM_0 v).symm)
  | 1, _ => exact (byE_1 v).trans ((by_bits v.toBitVec 8 (by decide)).trans (byM_1 v).symm)
  | 2, _ => exact (byE_2 v).trans ((by_bits v.toBitVec 16 (by decide)).trans (byM_2 v).symm)
  | 3, _ => exact (byE_3 v).trans ((by_bits v.toBitVec 24 (by decide)).trans (byM_3 v).symm)
  | 4, _ => exact (byE_4 v).trans ((by_bits v.toBitVec 32 (by decide)).trans (byM_4 v).symm)
  | 5, _ => exact (byE_5 v).trans ((by_bits v.toBitVec 40 (by decide)).trans (byM_5 v).symm)
  | 6, _ => exact (byE_6 v).trans ((by_bits v.toBitVec 48 (by decide)).trans (byM_6 v).symm)
  | 7, _ => exact (byE_7 v).trans ((by_bits v.toBitVec 56 (by decide)).trans (byM_7 v).symm)
  | k + 8, h => exact absurd h (by omega)
def byN (v : Int64) (k : Nat) : Nat := (byE v (iI k)).toBitVec.toNat
theorem byN_lt (v : Int64) (k : Nat) : byE v (iI k) = iI (byN v k) ∧ byN v k < 256 := by
  unfold byN byE
  rw [pk_and _ 8 (by decide)]
  have h : ∀ z : Nat, (nI (z % 2 ^ 8)).toBitVec.toNat = z % 2 ^ 8 := fun z => pk_tn (by have := Nat.mod_lt z (show 2 ^ 8 > 0 by decide); omega)
  rw [h]
  exact ⟨rfl, Nat.mod_lt _ (by decide)⟩
theorem iI_n1 : (-1 : Int32) = iI (-1) := by decide +kernel
theorem iI_n2 : (-2 : Int32) = iI (-2) := by decide +kernel
theorem iI_n3 : (-3 : Int32) = iI (-3) := by decide +kernel
theorem iI_n4 : (-4 : Int32) = iI (-4) := by decide +kernel
