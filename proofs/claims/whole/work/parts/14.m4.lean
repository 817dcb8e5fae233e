def rm_X10_in : Room := { frames := 0, cells := 0, slots := 0, locals := 0 }
def f_X10_in (a0 : Int64) (a2 : Int64) (a4 : Int64) (S : St) : Option (Int32 × St) := if a0 < a2 then some ((0 : Int32), S) else if a4 < a0 then some ((0 : Int32), S) else some ((1 : Int32), S)
set_option maxHeartbeats 4000000 in
set_option maxRecDepth 100000 in
theorem m_X10_in (l : Launch) {g : Gl} (hg : GOK g) {a0 : Int64} {a2 : Int64} {a4 : Int64} {S : St} {r : Int32 × St}  (h : f_X10_in a0 a2 a4 S = some r) : MW l yX10_in cX10_in 6 (some .boolean) rm_X10_in g S [.long a0, .long a2, .long a4] (QWi g r) := by
  refine startW [(0, .long a0), (2, .long a2), (4, .long a4)] (by decide +kernel) (Nat.le_of_ble_eq_true rfl) rfl hg (fun p e s m args below meth c cx => ?_)
  have cx : Cx p s m args meth c cX10_in 6 (some .boolean) RX10 g (Ap g) := cx
  rw [f_X10_in] at h
  refine wa_lload_n cx (i := 0) dX10_in_0 rfl rfl ?_
  refine wa_lload_n cx (i := 2) dX10_in_1 rfl rfl ?_
  refine wa_lcmp_lt cx dX10_in_2 dX10_in_3 17 (by decide) (fun q1 => ?_) (fun q1 => ?_)
  · rw [if_pos q1] at h
    refine wa_iconst cx dX10_in_17 (0 : Int32) (by decide) ?_
    exact wa_zret cx (by decide) h dX10_in_18
  · rw [if_neg q1] at h
    refine wa_lload_n cx (i := 0) dX10_in_6 rfl rfl ?_
    refine wa_lload cx dX10_in_7 rfl ?_
    refine wa_lcmp_gt cx dX10_in_9 dX10_in_10 17 (by decide) (fun q2 => ?_) (fun q2 => ?_)
    · rw [if_pos q2] at h
      refine wa_iconst cx dX10_in_17 (0 : Int32) (by decide) ?_
      exact wa_zret cx (by decide) h dX10_in_18
    · rw [if_neg q2] at h
      refine wa_iconst cx dX10_in_13 (1 : Int32) (by decide) ?_
      refine wa_goto cx dX10_in_14 18 (by decide) ?_
      exact wa_zret cx (by decide) h dX10_in_18
def rm_X10_noBoard : Room := { frames := 0, cells := 0, slots := 0, locals := 0 }
def f_X10_noBoard (c0 : Nat) (a1 : Int32) (S : St) : Option (Unit × St) := sq ((10 : Int32) * a1) fun x1 => ob x1 20 (sq (pI S (c0 + 2) (Int32.toNatClampNeg x1) (20 : Int32)) fun S3 => ob (x1 + (1 : Int32)) 20 (sq (pI S3 (c0 + 2) (Int32.toNatClampNeg (x1 + (1 : Int32))) (0 : Int32)) fun S5 => ob (x1 + (2 : Int32)) 20 (sq (pI S5 (c0 + 2) (Int32.toNatClampNeg (x1 + (2 : Int32))) (9 : Int32)) fun S7 => ob (x1 + (3 : Int32)) 20 (sq (pI S7 (c0 + 2) (Int32.toNatClampNeg (x1 + (3 : Int32))) (20 : Int32)) fun S9 => ob (x1 + (4 : Int32)) 20 (sq (pI S9 (c0 + 2) (Int32.toNatClampNeg (x1 + (4 : Int32))) (0 : Int32)) fun S11 => ob (x1 + (5 : Int32)) 20 (sq (pI S11 (c0 + 2) (Int32.toNatClampNeg (x1 + (5 : Int32))) (0 : Int32)) fun S13 => ob (x1 + (6 : Int32)) 20 (sq (pI S13 (c0 + 2) (Int32.toNatClampNeg (x1 + (6 : Int32))) (0 : Int32)) fun S15 => ob (x1 + (7 : Int32)) 20 (sq (pI S15 (c0 + 2) (Int32.toNatClampNeg (x1 + (7 : Int32))) (0 : Int32)) fun S17 => ob (x1 + (8 : Int32)) 20 (sq (pI S17 (c0 + 2) (Int32.toNatClampNeg (x1 + (8 : Int32))) (0 : Int32)) fun S19 => ob (x1 + (9 : Int32)) 20 (sq (pI S19 (c0 + 2) (Int32.toNatClampNeg (x1 + (9 : Int32))) (0 : Int32)) fun S21 => ob a1 2 (sq (pI S21 (c0 + 3) (Int32.toNatClampNeg a1) (0 : Int32)) fun S23 => some ((), S23))))))))))))
set_option maxHeartbeats 4000000 in
set_option maxRecDepth 100000 in
theorem m_X10_noBoard (l : Launch) {g : Gl} (hg : GOK g) {c0 : Nat} {a1 : Int32} {S : St} {r : Unit × St} (h_c0 : kd g c0 = 10) (h : f_X10_noBoard c0 a1 S = some r) : MW l yX10_noBoard cX10_noBoard 3 none rm_X10_noBoard g S [.ref (ad g c0), .int a1] (QWv g r) := by
  refine startW [(0, .ref (ad g c0)), (1, .int a1)] (by decide +kernel) (Nat.le_of_ble_eq_true rfl) rfl hg (fun p e s m args below meth c cx => ?_)
  have cx : Cx p s m args meth c cX10_noBoard 3 none RX10 g (Ap g) := cx
  rw [f_X10_noBoard] at h
  refine wa_bipush cx dX10_noBoard_0 (10 : Int32) (by decide) ?_
  refine wa_iload_n cx (i := 1) dX10_noBoard_2 rfl rfl ?_
  refine wa_imul cx dX10_noBoard_3 ?_
  replace h := sq_eq h
  generalize ((10 : Int32) * a1) = x1 at h ⊢
  refine wa_istore_n cx (i := 2) dX10_noBoard_4 [(0, .ref (ad g c0)), (1, .int a1), (2, .int x1)] rfl (Nat.le_of_ble_eq_true rfl) rfl (lvs_c rfl (lvs_c rfl (lvs_c rfl (lvs_n)))) ?_
  refine wa_aload_n cx (i := 0) dX10_noBoard_5 rfl rfl ?_
  refine gf_X10_13 cx h_c0 dX10_noBoard_6 ?_
  refine wa_iload_n cx (i := 2) dX10_noBoard_9 rfl rfl ?_
  refine wa_bipush cx dX10_noBoard_10 (20 : Int32) (by decide) ?_
  obtain ⟨b2, h⟩ := ob_some h
  refine wa_iast cx dX10_noBoard_12 (kq10_2 cx.2.2.2.2.2.2.1 h_c0) b2 ?_
  replace h := sq_eq h
  generalize (pI S (c0 + 2) (Int32.toNatClampNeg x1) (20 : Int32)) = S3 at h ⊢
  refine wa_aload_n cx (i := 0) dX10_noBoard_13 rfl rfl ?_
  refine gf_X10_13 cx h_c0 dX10_noBoard_14 ?_
  refine wa_iload_n cx (i := 2) dX10_noBoard_17 rfl rfl ?_
  refine wa_iconst cx dX10_noBoard_18 (1 : Int32) (by decide) ?_
  refine wa_iadd cx dX10_noBoard_19 ?_
  refine wa_iconst cx dX10_noBoard_20 (0 : Int32) (by decide) ?_
  obtain ⟨b4, h⟩ := ob_some h
  refine wa_iast cx dX10_noBoard_21 (kq10_2 cx.2.2.2.2.2.2.1 h_c0) b4 ?_
  replace h := sq_eq h
  generalize (pI S3 (c0 + 2) (Int32.toNatClampNeg (x1 + (1 : Int32))) (0 : Int32)) = S5 at h ⊢
  refine wa_aload_n cx (i := 0) dX10_noBoard_22 rfl rfl ?_
  refine gf_X10_13 cx h_c0 dX10_noBoard_23 ?_
  refine wa_iload_n cx (i := 2) dX10_noBoard_26 rfl rfl ?_
  refine wa_iconst cx dX10_noBoard_27 (2 : Int32) (by decide) ?_
  refine wa_iadd cx dX10_noBoard_28 ?_
  refine wa_bipush cx dX10_noBoard_29 (9 : Int32) (by decide) ?_
  obtain ⟨b6, h⟩ := ob_some h
  refine wa_iast cx dX10_noBoard_31 (kq10_2 cx.2.2.2.2.2.2.1 h_c0) b6 ?_
  replace h := sq_eq h
  generalize (pI S5 (c0 + 2) (Int32.toNatClampNeg (x1 + (2 : Int32))) (9 : Int32)) = S7 at h ⊢
  refine wa_aload_n cx (i := 0) dX10_noBoard_32 rfl rfl ?_
  refine gf_X10_13 cx h_c0 dX10_noBoard_33 ?_
  refine wa_iload_n cx (i := 2) dX10_noBoard_36 rfl rfl ?_
  refine wa_iconst cx dX10_noBoard_37 (3 : Int32) (by decide) ?_
  refine wa_iadd cx dX10_noBoard_38 ?_
  refine wa_bipush cx dX10_noBoard_39 (20 : Int32) (by decide) ?_
  obtain ⟨b8, h⟩ := ob_some h
  refine wa_iast cx dX10_noBoard_41 (kq10_2 cx.2.2.2.2.2.2.1 h_c0) b8 ?_
  replace h := sq_eq h
  generalize (pI S7 (c0 + 2) (Int32.toNatClampNeg (x1 + (3 : Int32))) (20 : Int32)) = S9 at h ⊢
  refine wa_aload_n cx (i := 0) dX10_noBoard_42 rfl rfl ?_
  refine gf_X10_13 cx h_c0 dX10_noBoard_43 ?_
  refine wa_iload_n cx (i := 2) dX10_noBoard_46 rfl rfl ?_
  refine wa_iconst cx dX10_noBoard_47 (4 : Int32) (by decide) ?_
  refine wa_iadd cx dX10_noBoard_48 ?_
  refine wa_iconst cx dX10_noBoard_49 (0 : Int32) (by decide) ?_
  obtain ⟨b10, h⟩ := ob_some h
  refine wa_iast cx dX10_noBoard_50 (kq10_2 cx.2.2.2.2.2.2.1 h_c0) b10 ?_
  replace h := sq_eq h
  generalize (pI S9 (c0 + 2) (Int32.toNatClampNeg (x1 + (4 : Int32))) (0 : Int32)) = S11 at h ⊢
  refine wa_aload_n cx (i := 0) dX10_noBoard_51 rfl rfl ?_
  refine gf_X10_13 cx h_c0 dX10_noBoard_52 ?_
  refine wa_iload_n cx (i := 2) dX10_noBoard_55 rfl rfl ?_
  refine wa_iconst cx dX10_noBoard_56 (5 : Int32) (by decide) ?_
  refine wa_iadd cx dX10_noBoard_57 ?_
  refine wa_iconst cx dX10_noBoard_58 (0 : Int32) (by decide) ?_
  obtain ⟨b12, h⟩ := ob_some h
  refine wa_iast cx dX10_noBoard_59 (kq10_2 cx.2.2.2.2.2.2.1 h_c0) b12 ?_
  replace h := sq_eq h
  generalize (pI S11 (c0 + 2) (Int32.toNatClampNeg (x1 + (5 : Int32))) (0 : Int32)) = S13 at h ⊢
  refine wa_aload_n cx (i := 0) dX10_noBoard_60 rfl rfl ?_
  refine gf_X10_13 cx h_c0 dX10_noBoard_61 ?_
  refine wa_iload_n cx (i := 2) dX10_noBoard_64 rfl rfl ?_
  refine wa_bipush cx dX10_noBoard_65 (6 : Int32) (by decide) ?_
  refine wa_iadd cx dX10_noBoard_67 ?_
  refine wa_iconst cx dX10_noBoard_68 (0 : Int32) (by decide) ?_
  obtain ⟨b14, h⟩ := ob_some h
  refine wa_iast cx dX10_noBoard_69 (kq10_2 cx.2.2.2.2.2.2.1 h_c0) b14 ?_
  replace h := sq_eq h
  generalize (pI S13 (c0 + 2) (Int32.toNatClampNeg (x1 + (6 : Int32))) (0 : Int32)) = S15 at h ⊢
  refine wa_aload_n cx (i := 0) dX10_noBoard_70 rfl rfl ?_
  refine gf_X10_13 cx h_c0 dX10_noBoard_71 ?_
  refine wa_iload_n cx (i := 2) dX10_noBoard_74 rfl rfl ?_
  refine wa_bipush cx dX10_noBoard_75 (7 : Int32) (by decide) ?_
  refine wa_iadd cx dX10_noBoard_77 ?_
  refine wa_iconst cx dX10_noBoard_78 (0 : Int32) (by decide) ?_
  obtain ⟨b16, h⟩ := ob_some h
  refine wa_iast cx dX10_noBoard_79 (kq10_2 cx.2.2.2.2.2.2.1 h_c0) b16 ?_
  replace h := sq_eq h
  generalize (pI S15 (c0 + 2) (Int32.toNatClampNeg (x1 + (7 : Int32))) (0 : Int32)) = S17 at h ⊢
  refine wa_aload_n cx (i := 0) dX10_noBoard_80 rfl rfl ?_
  refine gf_X10_13 cx h_c0 dX10_noBoard_81 ?_
  refine wa_iload_n cx (i := 2) dX10_noBoard_84 rfl rfl ?_
  refine wa_bipush cx dX10_noBoard_85 (8 : Int32) (by decide) ?_
  refine wa_iadd cx dX10_noBoard_87 ?_
  refine wa_iconst cx dX10_noBoard_88 (0 : Int32) (by decide) ?_
  obtain ⟨b18, h⟩ := ob_some h
  refine wa_iast cx dX10_noBoard_89 (kq10_2 cx.2.2.2.2.2.2.1 h_c0) b18 ?_
  replace h := sq_eq h
  generalize (pI S17 (c0 + 2) (Int32.toNatClampNeg (x1 + (8 : Int32))) (0 : Int32)) = S19 at h ⊢
  refine wa_aload_n cx (i := 0) dX10_noBoard_90 rfl rfl ?_
  refine gf_X10_13 cx h_c0 dX10_noBoard_91 ?_
  refine wa_iload_n cx (i := 2) dX10_noBoard_94 rfl rfl ?_
  refine wa_bipush cx dX10_noBoard_95 (9 : Int32) (by decide) ?_
  refine wa_iadd cx dX10_noBoard_97 ?_
  refine wa_iconst cx dX10_noBoard_98 (0 : Int32) (by decide) ?_
  obtain ⟨b20, h⟩ := ob_some h
  refine wa_iast cx dX10_noBoard_99 (kq10_2 cx.2.2.2.2.2.2.1 h_c0) b20 ?_
  replace h := sq_eq h
  generalize (pI S19 (c0 + 2) (Int32.toNatClampNeg (x1 + (9 : Int32))) (0 : Int32)) = S21 at h ⊢
  refine wa_aload_n cx (i := 0) dX10_noBoard_100 rfl rfl ?_
  refine gf_X10_16 cx h_c0 dX10_noBoard_101 ?_
  refine wa_iload_n cx (i := 1) dX10_noBoard_104 rfl rfl ?_
  refine wa_iconst cx dX10_noBoard_105 (0 : Int32) (by decide) ?_
  obtain ⟨b22, h⟩ := ob_some h
  refine wa_iast cx dX10_noBoard_106 (kq10_3 cx.2.2.2.2.2.2.1 h_c0) b22 ?_
  replace h := sq_eq h
  generalize (pI S21 (c0 + 3) (Int32.toNatClampNeg a1) (0 : Int32)) = S23 at h ⊢
  exact wa_vret cx h dX10_noBoard_107
def rm_X10_write : Room := { frames := 1, cells := 0, slots := 0, locals := 25 }
def f_X10_write_L34 : Nat → Nat → Int32 → Int64 → Int32 → St → Option (Int32 × St)
  | 0, _, _, _, _, _ => none
  | n + 1, c0, a1, a2, l4, S => if l4 < 0 then some ((S.1 c0 0), S) else ob (S.1 c0 0) 300 (sq (pI S (c0 + 1) (Int32.toNatClampNeg (S.1 c0 0)) (Int64.toInt32 (((a2 >>> (Int32.toInt64 ((8 : Int32) * l4) &&& 63))) &&& (255 : Int64)))) fun S3 => sq (pI S3 c0 0 ((S3.1 c0 0) + (1 : Int32))) fun S4 => f_X10_write_L34 n c0 a1 a2 (l4 + (-1 : Int32)) S4)
set_option maxHeartbeats 4000000 in
set_option maxRecDepth 100000 in
theorem w_X10_write_L34 {p : Program} {l : Launch} {e : Env} {s : State} {m : MethodId} {args : Array Value} {below : List Frame} {meth : Method} {c : Code} {g : Gl} {r : Int32 × St} {c0 : Nat} {a1 : Int32} {a2 : Int64} (cx : Cx p s m args meth c cX10_write 5 (some .int) RX10 g (Ap g)) (h_c0 : kd g c0 = 10) : ∀ n : Nat, ∀ (l4 : Int32) (S : St), f_X10_write_L34 n c0 a1 a2 l4 S = some r → WA p l e rm_X10_write s m args below meth c 0 0 (MQ below (QWi g r) args s 0 0 (Ap g)) 5 g (Ap g) S 34 [(0, .ref (ad g c0)), (2, .long a2), (4, .int l4)] [] := by
  intro n
  induction n with
  | zero => intro l4 S h; rw [f_X10_write_L34] at h; cases h
  | succ n ih =>
    intro l4 S h
    rw [f_X10_write_L34] at h
    refine wa_iload cx dX10_write_34 rfl ?_
    refine wa_if_lt cx dX10_write_36 76 (by decide) (fun q1 => ?_) (fun q1 => ?_)
    · rw [if_pos q1] at h
      refine wa_aload_n cx (i := 0) dX10_write_76 rfl rfl ?_
      refine gf_X10_99 cx h_c0 dX10_write_77 ?_
      exact wa_iret cx h dX10_write_80
    · rw [if_neg q1] at h
      refine wa_aload_n cx (i := 0) dX10_write_39 rfl rfl ?_
      refine gf_X10_7 cx h_c0 dX10_write_40 ?_
      refine wa_aload_n cx (i := 0) dX10_write_43 rfl rfl ?_
      refine gf_X10_99 cx h_c0 dX10_write_44 ?_
      refine wa_lload_n cx (i := 2) dX10_write_47 rfl rfl ?_
      refine wa_bipush cx dX10_write_48 (8 : Int32) (by decide) ?_
      refine wa_iload cx dX10_write_50 rfl ?_
      refine wa_imul cx dX10_write_52 ?_
      refine wa_lshr cx dX10_write_53 ?_
      refine wa_ldc2 cx dX10_write_54 (255 : Int64) kc_X10_103 ?_
      refine wa_land cx dX10_write_57 ?_
      refine wa_l2i cx dX10_write_58 ?_
      obtain ⟨b2, h⟩ := ob_some h
      refine wa_iast cx dX10_write_59 (kq10_1 cx.2.2.2.2.2.2.1 h_c0) b2 ?_
      replace h := sq_eq h
      generalize (pI S (c0 + 1) (Int32.toNatClampNeg (S.1 c0 0)) (Int64.toInt32 (((a2 >>> (Int32.toInt64 ((8 : Int32) * l4) &&& 63))) &&& (255 : Int64)))) = S3 at h ⊢
      refine wa_aload_n cx (i := 0) dX10_write_60 rfl rfl ?_
      refine wa_dup cx dX10_write_61 rfl ?_
      refine gf_X10_99 cx h_c0 dX10_write_62 ?_
      refine wa_iconst cx dX10_write_65 (1 : Int32) (by decide) ?_
      refine wa_iadd cx dX10_write_66 ?_
      refine pf_X10_99 cx h_c0 dX10_write_67 ?_
      replace h := sq_eq h
      generalize (pI S3 c0 0 ((S3.1 c0 0) + (1 : Int32))) = S4 at h ⊢
      refine wa_iinc cx dX10_write_70 (l4 + (-1 : Int32)) [(0, .ref (ad g c0)), (2, .long a2), (4, .int (l4 + (-1 : Int32)))] rfl rfl (Nat.le_of_ble_eq_true rfl) rfl (lvs_c rfl (lvs_c rfl (lvs_c rfl (lvs_n)))) ?_
      refine wa_goto cx dX10_write_73 34 (by decide) ?_
      refine wa_sub (lv' := [(0, .ref (ad g c0)), (2, .long a2), (4, .int (l4 + (-1 : Int32)))]) (lvs_c rfl (lvs_c rfl (lvs_c rfl (lvs_n)))) ?_
      exact ih (l4 + (-1 : Int32)) S4  h
def f_X10_write (c0 : Nat) (a1 : Int32) (a2 : Int64) (S : St) : Option (Int32 × St) := bd (f_X10_in (Int32.toInt64 a1) (1 : Int64) (8 : Int64) S) fun x5 S6 => if x5 = 0 then some ((-1 : Int32), S6) else if ((S6.1 c0 0) + a1) ≤ (300 : Int32) then sq (a1 - (1 : Int32)) fun x10 => f_X10_write_L34 FU c0 a1 a2 x10 S6 else some ((-3 : Int32), S6)
set_option maxHeartbeats 4000000 in
set_option maxRecDepth 100000 in
theorem m_X10_write (l : Launch) {g : Gl} (hg : GOK g) {c0 : Nat} {a1 : Int32} {a2 : Int64} {S : St} {r : Int32 × St} (h_c0 : kd g c0 = 10) (h : f_X10_write c0 a1 a2 S = some r) : MW l yX10_write cX10_write 5 (some .int) rm_X10_write g S [.ref (ad g c0), .int a1, .long a2] (QWi g r) := by
  refine startW [(0, .ref (ad g c0)), (1, .int a1), (2, .long a2)] (by decide +kernel) (Nat.le_of_ble_eq_true rfl) rfl hg (fun p e s m args below meth c cx => ?_)
  have cx : Cx p s m args meth c cX10_write 5 (some .int) RX10 g (Ap g) := cx
  rw [f_X10_write] at h
  refine wa_iload_n cx (i := 1) dX10_write_0 rfl rfl ?_
  refine wa_i2l cx dX10_write_1 ?_
  refine wa_lconst cx dX10_write_2 (1 : Int64) (by decide) ?_
  refine wa_ldc2 cx dX10_write_3 (8 : Int64) kc_X10_93 ?_
  obtain ⟨x5, S6, e7, h⟩ := bd_some h
  refine wa_callSi cx (m_X10_in l cx.2.2.2.2.2.2.1  e7) vl_X10_95 ⟨Nat.le_of_ble_eq_true rfl, Nat.le_of_ble_eq_true rfl⟩ ⟨rfl, rfl⟩ ⟨Nat.zero_le _, Nat.zero_le _⟩ rfl (Nat.le_of_ble_eq_true rfl) dX10_write_6 rfl ?_
  refine wa_if_ne cx dX10_write_9 14 (by decide) (fun q8 => ?_) (fun q8 => ?_)
  · rw [if_neg q8] at h
    refine wa_aload_n cx (i := 0) dX10_write_14 rfl rfl ?_
    refine gf_X10_99 cx h_c0 dX10_write_15 ?_
    refine wa_iload_n cx (i := 1) dX10_write_18 rfl rfl ?_
    refine wa_iadd cx dX10_write_19 ?_
    refine wa_sipush cx dX10_write_20 (300 : Int32) (by decide) ?_
    refine wa_icmp_le cx dX10_write_23 29 (by decide) (fun q9 => ?_) (fun q9 => ?_)
    · rw [if_pos q9] at h
      refine wa_iload_n cx (i := 1) dX10_write_29 rfl rfl ?_
      refine wa_iconst cx dX10_write_30 (1 : Int32) (by decide) ?_
      refine wa_isub cx dX10_write_31 ?_
      replace h := sq_eq h
      generalize (a1 - (1 : Int32)) = x10 at h ⊢
      refine wa_istore cx dX10_write_32 [(0, .ref (ad g c0)), (2, .long a2), (4, .int x10)] (Nat.le_of_ble_eq_true rfl) rfl (lvs_c rfl (lvs_c rfl (lvs_c rfl (lvs_n)))) ?_
      refine wa_sub (lv' := [(0, .ref (ad g c0)), (2, .long a2), (4, .int x10)]) (lvs_c rfl (lvs_c rfl (lvs_c rfl (lvs_n)))) ?_
      exact w_X10_write_L34 cx h_c0  FU x10 S6  h
    · rw [if_neg q9] at h
      refine wa_bipush cx dX10_write_26 (-3 : Int32) (by decide) ?_
      exact wa_iret cx h dX10_write_28
  · rw [if_pos q8] at h
    refine wa_iconst cx dX10_write_12 (-1 : Int32) (by decide) ?_
    exact wa_iret cx h dX10_write_13
def rm_X10_wipe : Room := { frames := 0, cells := 0, slots := 0, locals := 0 }
def f_X10_wipe (c0 : Nat) (S : St) : Option (Int32 × St) := sq (S.1 c0 0) fun x1 => sq (pI S c0 0 (0 : Int32)) fun S2 => some (x1, S2)
set_option maxHeartbeats 4000000 in
set_option maxRecDepth 100000 in
theorem m_X10_wipe (l : Launch) {g : Gl} (hg : GOK g) {c0 : Nat} {S : St} {r : Int32 × St} (h_c0 : kd g c0 = 10) (h : f_X10_wipe c0 S = some r) : MW l yX10_wipe cX10_wipe 2 (some .int) rm_X10_wipe g S [.ref (ad g c0)] (QWi g r) := by
  refine startW [(0, .ref (ad g c0))] (by decide +kernel) (Nat.le_of_ble_eq_true rfl) rfl hg (fun p e s m args below meth c cx => ?_)
  have cx : Cx p s m args meth c cX10_wipe 2 (some .int) RX10 g (Ap g) := cx
  rw [f_X10_wipe] at h
  refine wa_aload_n cx (i := 0) dX10_wipe_0 rfl rfl ?_
  refine gf_X10_99 cx h_c0 dX10_wipe_1 ?_
  replace h := sq_eq h
  generalize (S.1 c0 0) = x1 at h ⊢
  refine wa_istore_n cx (i := 1) dX10_wipe_4 [(0, .ref (ad g c0)), (1, .int x1)] rfl (Nat.le_of_ble_eq_true rfl) rfl (lvs_c rfl (lvs_c rfl (lvs_n))) ?_
  refine wa_aload_n cx (i := 0) dX10_wipe_5 rfl rfl ?_
  refine wa_iconst cx dX10_wipe_6 (0 : Int32) (by decide) ?_
  refine pf_X10_99 cx h_c0 dX10_wipe_7 ?_
  replace h := sq_eq h
  generalize (pI S c0 0 (0 : Int32)) = S2 at h ⊢
  refine wa_iload_n cx (i := 1) dX10_wipe_10 rfl rfl ?_
  exact wa_iret cx h dX10_wipe_11
def rm_X10_byteAt : Room := { frames := 0, cells := 0, slots := 0, locals := 0 }
def f_X10_byteAt (c0 : Nat) (a1 : Int32) (S : St) : Option (Int32 × St) := if (S.1 c0 0) ≤ a1 then some ((0 : Int32), S) else ob a1 300 (some ((S.1 (c0 + 1) (Int32.toNatClampNeg a1)), S))
set_option maxHeartbeats 4000000 in
set_option maxRecDepth 100000 in
theorem m_X10_byteAt (l : Launch) {g : Gl} (hg : GOK g) {c0 : Nat} {a1 : Int32} {S : St} {r : Int32 × St} (h_c0 : kd g c0 = 10) (h : f_X10_byteAt c0 a1 S = some r) : MW l yX10_byteAt cX10_byteAt 2 (some .int) rm_X10_byteAt g S [.ref (ad g c0), .int a1] (QWi g r) := by
  refine startW [(0, .ref (ad g c0)), (1, .int a1)] (by decide +kernel) (Nat.le_of_ble_eq_true rfl) rfl hg (fun p e s m args below meth c cx => ?_)
  have cx : Cx p s m args meth c cX10_byteAt 2 (some .int) RX10 g (Ap g) := cx
  rw [f_X10_byteAt] at h
  refine wa_iload_n cx (i := 1) dX10_byteAt_0 rfl rfl ?_
  refine wa_aload_n cx (i := 0) dX10_byteAt_1 rfl rfl ?_
  refine gf_X10_99 cx h_c0 dX10_byteAt_2 ?_
  refine wa_icmp_ge cx dX10_byteAt_5 17 (by decide) (fun q1 => ?_) (fun q1 => ?_)
  · rw [if_pos q1] at h
    refine wa_iconst cx dX10_byteAt_17 (0 : Int32) (by decide) ?_
    exact wa_iret cx h dX10_byteAt_18
  · rw [if_neg q1] at h
    refine wa_aload_n cx (i := 0) dX10_byteAt_8 rfl rfl ?_
    refine gf_X10_7 cx h_c0 dX10_byteAt_9 ?_
    refine wa_iload_n cx (i := 1) dX10_byteAt_12 rfl rfl ?_
    obtain ⟨b2, h⟩ := ob_some h
    refine wa_iald cx dX10_byteAt_13 (kq10_1 cx.2.2.2.2.2.2.1 h_c0) b2 ?_
    refine wa_goto cx dX10_byteAt_14 18 (by decide) ?_
    exact wa_iret cx h dX10_byteAt_18
def rm_X10_figures : Room := { frames := 1, cells := 0, slots := 0, locals := 25 }
def f_X10_figures_J107 (c0 : Nat) (a1 : Int32) (kb2 : Int32 → St → Option (Int32 × St)) (l2 : Int32) (l4 : Int32) (k0 : Int32) (k1 : Int32) (S : St) : Option (Int32 × St) := if k0 = k1 then ob l2 5 (sq (pI S (c0 + 17) (Int32.toNatClampNeg l2) l4) fun S3 => sq (pI S3 c0 25 ((S3.1 c0 25) + (1 : Int32))) fun S4 => kb2 (l2 + (1 : Int32)) S4) else some ((0 : Int32), S)
set_option maxHeartbeats 4000000 in
set_option maxRecDepth 100000 in
theorem w_X10_figures_J107 {p : Program} {l : Launch} {e : Env} {s : State} {m : MethodId} {args : Array Value} {below : List Frame} {meth : Method} {c : Code} {g : Gl} {r : Int32 × St} {c0 : Nat} {a1 : Int32} {kb2 : Int32 → St → Option (Int32 × St)} (cx : Cx p s m args meth c cX10_figures 5 (some .boolean) RX10 g (Ap g)) (h_c0 : kd g c0 = 10) (hkb2 : ∀ (l2 : Int32) (S : St), kb2 l2 S = some r → WA p l e rm_X10_figures s m args below meth c 0 0 (MQ below (QWi g r) args s 0 0 (Ap g)) 5 g (Ap g) S 2 [(0, .ref (ad g c0)), (1, .int a1), (2, .int l2)] []) : ∀ (l2 : Int32) (l4 : Int32) (k0 : Int32) (k1 : Int32) (S : St), f_X10_figures_J107 c0 a1 kb2 l2 l4 k0 k1 S = some r → WA p l e rm_X10_figures s m args below meth c 0 0 (MQ below (QWi g r) args s 0 0 (Ap g)) 5 g (Ap g) S 107 [(0, .ref (ad g c0)), (1, .int a1), (2, .int l2), (4, .int l4)] [.int k1, .int k0] := by
  intro l2 l4 k0 k1 S h
  rw [f_X10_figures_J107] at h
  refine wa_icmp_eq cx dX10_figures_107 112 (by decide) (fun q1 => ?_) (fun q1 => ?_)
  · rw [if_pos q1] at h
    refine wa_aload_n cx (i := 0) dX10_figures_112 rfl rfl ?_
    refine gf_X10_58 cx h_c0 dX10_figures_113 ?_
    refine wa_iload_n cx (i := 2) dX10_figures_116 rfl rfl ?_
    refine wa_iload cx dX10_figures_117 rfl ?_
    obtain ⟨b2, h⟩ := ob_some h
    refine wa_iast cx dX10_figures_119 (kq10_26 cx.2.2.2.2.2.2.1 h_c0) b2 ?_
    replace h := sq_eq h
    generalize (pI S (c0 + 17) (Int32.toNatClampNeg l2) l4) = S3 at h ⊢
    refine wa_aload_n cx (i := 0) dX10_figures_120 rfl rfl ?_
    refine wa_dup cx dX10_figures_121 rfl ?_
    refine gf_X10_105 cx h_c0 dX10_figures_122 ?_
    refine wa_iconst cx dX10_figures_125 (1 : Int32) (by decide) ?_
    refine wa_iadd cx dX10_figures_126 ?_
    refine pf_X10_105 cx h_c0 dX10_figures_127 ?_
    replace h := sq_eq h
    generalize (pI S3 c0 25 ((S3.1 c0 25) + (1 : Int32))) = S4 at h ⊢
    refine wa_iinc cx dX10_figures_130 (l2 + (1 : Int32)) [(0, .ref (ad g c0)), (1, .int a1), (2, .int (l2 + (1 : Int32)))] rfl rfl (Nat.le_of_ble_eq_true rfl) rfl (lvs_c rfl (lvs_c rfl (lvs_c rfl (lvs_n)))) ?_
    refine wa_goto cx dX10_figures_133 2 (by decide) ?_
    refine wa_sub (lv' := [(0, .ref (ad g c0)), (1, .int a1), (2, .int (l2 + (1 : Int32)))]) (lvs_c rfl (lvs_c rfl (lvs_c rfl (lvs_n)))) ?_
    exact hkb2 (l2 + (1 : Int32)) S4  h
  · rw [if_neg q1] at h
    refine wa_iconst cx dX10_figures_110 (0 : Int32) (by decide) ?_
    exact wa_zret cx (by decide) h dX10_figures_111
def f_X10_figures_J73 (c0 : Nat) (a1 : Int32) (kb2 : Int32 → St → Option (Int32 × St)) (l2 : Int32) (l3 : Int32) (l4 : Int32) (S : St) : Option (Int32 × St) := bd (f_X10_in (Int32.toInt64 l3) (1 : Int64) (3 : Int64) S) fun x5 S6 => if x5 = 0 then some ((0 : Int32), S6) else bd (f_X10_byteAt c0 (S6.1 c0 25) S6) fun x9 S10 => if (a1 - (1 : Int32)) ≤ l2 then f_X10_figures_J107 c0 a1 kb2 l2 l4 x9 (59 : Int32) S10 else f_X10_figures_J107 c0 a1 kb2 l2 l4 x9 (44 : Int32) S10
set_option maxHeartbeats 4000000 in
set_option maxRecDepth 100000 in
theorem w_X10_figures_J73 {p : Program} {l : Launch} {e : Env} {s : State} {m : MethodId} {args : Array Value} {below : List Frame} {meth : Method} {c : Code} {g : Gl} {r : Int32 × St} {c0 : Nat} {a1 : Int32} {kb2 : Int32 → St → Option (Int32 × St)} (cx : Cx p s m args meth c cX10_figures 5 (some .boolean) RX10 g (Ap g)) (h_c0 : kd g c0 = 10) (hkb2 : ∀ (l2 : Int32) (S : St), kb2 l2 S = some r → WA p l e rm_X10_figures s m args below meth c 0 0 (MQ below (QWi g r) args s 0 0 (Ap g)) 5 g (Ap g) S 2 [(0, .ref (ad g c0)), (1, .int a1), (2, .int l2)] []) : ∀ (l2 : Int32) (l3 : Int32) (l4 : Int32) (S : St), f_X10_figures_J73 c0 a1 kb2 l2 l3 l4 S = some r → WA p l e rm_X10_figures s m args below meth c 0 0 (MQ below (QWi g r) args s 0 0 (Ap g)) 5 g (Ap g) S 73 [(0, .ref (ad g c0)), (1, .int a1), (2, .int l2), (3, .int l3), (4, .int l4)] [] := by
  intro l2 l3 l4 S h
  rw [f_X10_figures_J73] at h
  refine wa_iload_n cx (i := 3) dX10_figures_73 rfl rfl ?_
  refine wa_i2l cx dX10_figures_74 ?_
  refine wa_lconst cx dX10_figures_75 (1 : Int64) (by decide) ?_
  refine wa_ldc2 cx dX10_figures_76 (3 : Int64) kc_X10_116 ?_
  obtain ⟨x5, S6, e7, h⟩ := bd_some h
  refine wa_callSi cx (m_X10_in l cx.2.2.2.2.2.2.1  e7) vl_X10_95 ⟨Nat.le_of_ble_eq_true rfl, Nat.le_of_ble_eq_true rfl⟩ ⟨rfl, rfl⟩ ⟨Nat.zero_le _, Nat.zero_le _⟩ rfl (Nat.le_of_ble_eq_true rfl) dX10_figures_79 rfl ?_
  refine wa_if_eq cx dX10_figures_82 110 (by decide) (fun q8 => ?_) (fun q8 => ?_)
  · rw [if_pos q8] at h
    refine wa_iconst cx dX10_figures_110 (0 : Int32) (by decide) ?_
    exact wa_zret cx (by decide) h dX10_figures_111
  · rw [if_neg q8] at h
    refine wa_aload_n cx (i := 0) dX10_figures_85 rfl rfl ?_
    refine wa_aload_n cx (i := 0) dX10_figures_86 rfl rfl ?_
    refine gf_X10_105 cx h_c0 dX10_figures_87 ?_
    obtain ⟨x9, S10, e11, h⟩ := bd_some h
    refine wa_callVi cx (m_X10_byteAt l cx.2.2.2.2.2.2.1 h_c0 e11) vl_X10_108 h_c0 (by decide) rfl rfl ⟨_, cell_eq10 (kd_lt h_c0 (by decide)).2⟩ ⟨Nat.le_of_ble_eq_true rfl, Nat.le_of_ble_eq_true rfl⟩ ⟨rfl, rfl⟩ ⟨Nat.zero_le _, Nat.zero_le _⟩ rfl (Nat.le_of_ble_eq_true rfl) dX10_figures_90 rfl ?_
    refine wa_iload_n cx (i := 2) dX10_figures_93 rfl rfl ?_
    refine wa_iload_n cx (i := 1) dX10_figures_94 rfl rfl ?_
    refine wa_iconst cx dX10_figures_95 (1 : Int32) (by decide) ?_
    refine wa_isub cx dX10_figures_96 ?_
    refine wa_icmp_ge cx dX10_figures_97 105 (by decide) (fun q12 => ?_) (fun q12 => ?_)
    · rw [if_pos q12] at h
      refine wa_bipush cx dX10_figures_105 (59 : Int32) (by decide) ?_
      refine wa_sub (lv' := [(0, .ref (ad g c0)), (1, .int a1), (2, .int l2), (4, .int l4)]) (lvs_c rfl (lvs_c rfl (lvs_c rfl (lvs_c rfl (lvs_n))))) ?_
      exact w_X10_figures_J107 cx h_c0 hkb2  l2 l4 x9 (59 : Int32) S10  h
    · rw [if_neg q12] at h
      refine wa_bipush cx dX10_figures_100 (44 : Int32) (by decide) ?_
      refine wa_goto cx dX10_figures_102 107 (by decide) ?_
      refine wa_sub (lv' := [(0, .ref (ad g c0)), (1, .int a1), (2, .int l2), (4, .int l4)]) (lvs_c rfl (lvs_c rfl (lvs_c rfl (lvs_c rfl (lvs_n))))) ?_
      exact w_X10_figures_J107 cx h_c0 hkb2  l2 l4 x9 (44 : Int32) S10  h
def f_X10_figures_L12 : Nat → Nat → Int32 → (Int32 → St → Option (Int32 × St)) → Int32 → Int32 → Int32 → St → Option (Int32 × St)
  | 0, _, _, _, _, _, _, _ => none
  | n + 1, c0, a1, kb2, l2, l3, l4, S => bd (f_X10_byteAt c0 (S.1 c0 25) S) fun x13 S14 => bd (f_X10_in (Int32.toInt64 x13) (48 : Int64) (57 : Int64) S14) fun x16 S17 => if x16 = 0 then f_X10_figures_J73 c0 a1 kb2 l2 l3 l4 S17 else if (4 : Int32) ≤ l3 then f_X10_figures_J73 c0 a1 kb2 l2 l3 l4 S17 else bd (f_X10_byteAt c0 (S17.1 c0 25) S17) fun x21 S22 => sq ((((10 : Int32) * l4) + x21) - (48 : Int32)) fun x24 => sq (pI S22 c0 25 ((S22.1 c0 25) + (1 : Int32))) fun S25 => f_X10_figures_L12 n c0 a1 kb2 l2 (l3 + (1 : Int32)) x24 S25
set_option maxHeartbeats 4000000 in
set_option maxRecDepth 100000 in
theorem w_X10_figures_L12 {p : Program} {l : Launch} {e : Env} {s : State} {m : MethodId} {args : Array Value} {below : List Frame} {meth : Method} {c : Code} {g : Gl} {r : Int32 × St} {c0 : Nat} {a1 : Int32} {kb2 : Int32 → St → Option (Int32 × St)} (cx : Cx p s m args meth c cX10_figures 5 (some .boolean) RX10 g (Ap g)) (h_c0 : kd g c0 = 10) (hkb2 : ∀ (l2 : Int32) (S : St), kb2 l2 S = some r → WA p l e rm_X10_figures s m args below meth c 0 0 (MQ below (QWi g r) args s 0 0 (Ap g)) 5 g (Ap g) S 2 [(0, .ref (ad g c0)), (1, .int a1), (2, .int l2)] []) : ∀ n : Nat, ∀ (l2 : Int32) (l3 : Int32) (l4 : Int32) (S : St), f_X10_figures_L12 n c0 a1 kb2 l2 l3 l4 S = some r → WA p l e rm_X10_figures s m args below meth c 0 0 (MQ below (QWi g r) args s 0 0 (Ap g)) 5 g (Ap g) S 12 [(0, .ref (ad g c0)), (1, .int a1), (2, .int l2), (3, .int l3), (4, .int l4)] [] := by
  intro n
  induction n with
  | zero => intro l2 l3 l4 S h; rw [f_X10_figures_L12] at h; cases h
  | succ n ih =>
    intro l2 l3 l4 S h
    rw [f_X10_figures_L12] at h
    refine wa_aload_n cx (i := 0) dX10_figures_12 rfl rfl ?_
    refine wa_aload_n cx (i := 0) dX10_figures_13 rfl rfl ?_
    refine gf_X10_105 cx h_c0 dX10_figures_14 ?_
    obtain ⟨x13, S14, e15, h⟩ := bd_some h
    refine wa_callVi cx (m_X10_byteAt l cx.2.2.2.2.2.2.1 h_c0 e15) vl_X10_108 h_c0 (by decide) rfl rfl ⟨_, cell_eq10 (kd_lt h_c0 (by decide)).2⟩ ⟨Nat.le_of_ble_eq_true rfl, Nat.le_of_ble_eq_true rfl⟩ ⟨rfl, rfl⟩ ⟨Nat.zero_le _, Nat.zero_le _⟩ rfl (Nat.le_of_ble_eq_true rfl) dX10_figures_17 rfl ?_
    refine wa_i2l cx dX10_figures_20 ?_
    refine wa_ldc2 cx dX10_figures_21 (48 : Int64) kc_X10_112 ?_
    refine wa_ldc2 cx dX10_figures_24 (57 : Int64) kc_X10_114 ?_
    obtain ⟨x16, S17, e18, h⟩ := bd_some h
    refine wa_callSi cx (m_X10_in l cx.2.2.2.2.2.2.1  e18) vl_X10_95 ⟨Nat.le_of_ble_eq_true rfl, Nat.le_of_ble_eq_true rfl⟩ ⟨rfl, rfl⟩ ⟨Nat.zero_le _, Nat.zero_le _⟩ rfl (Nat.le_of_ble_eq_true rfl) dX10_figures_27 rfl ?_
    refine wa_if_eq cx dX10_figures_30 73 (by decide) (fun q19 => ?_) (fun q19 => ?_)
    · rw [if_pos q19] at h
      refine wa_sub (lv' := [(0, .ref (ad g c0)), (1, .int a1), (2, .int l2), (3, .int l3), (4, .int l4)]) (lvs_c rfl (lvs_c rfl (lvs_c rfl (lvs_c rfl (lvs_c rfl (lvs_n)))))) ?_
      exact w_X10_figures_J73 cx h_c0 hkb2  l2 l3 l4 S17  h
    · rw [if_neg q19] at h
      refine wa_iload_n cx (i := 3) dX10_figures_33 rfl rfl ?_
      refine wa_iconst cx dX10_figures_34 (4 : Int32) (by decide) ?_
      refine wa_icmp_ge cx dX10_figures_35 73 (by decide) (fun q20 => ?_) (fun q20 => ?_)
      · rw [if_pos q20] at h
        refine wa_sub (lv' := [(0, .ref (ad g c0)), (1, .int a1), (2, .int l2), (3, .int l3), (4, .int l4)]) (lvs_c rfl (lvs_c rfl (lvs_c rfl (lvs_c rfl (lvs_c rfl (lvs_n)))))) ?_
        exact w_X10_figures_J73 cx h_c0 hkb2  l2 l3 l4 S17  h
      · rw [if_neg q20] at h
        refine wa_bipush cx dX10_figures_38 (10 : Int32) (by decide) ?_
        refine wa_iload cx dX10_figures_40 rfl ?_
        refine wa_imul cx dX10_figures_42 ?_
        refine wa_aload_n cx (i := 0) dX10_figures_43 rfl rfl ?_
        refine wa_aload_n cx (i := 0) dX10_figures_44 rfl rfl ?_
        refine gf_X10_105 cx h_c0 dX10_figures_45 ?_
        obtain ⟨x21, S22, e23, h⟩ := bd_some h
        refine wa_callVi cx (m_X10_byteAt l cx.2.2.2.2.2.2.1 h_c0 e23) vl_X10_108 h_c0 (by decide) rfl rfl ⟨_, cell_eq10 (kd_lt h_c0 (by decide)).2⟩ ⟨Nat.le_of_ble_eq_true rfl, Nat.le_of_ble_eq_true rfl⟩ ⟨rfl, rfl⟩ ⟨Nat.zero_le _, Nat.zero_le _⟩ rfl (Nat.le_of_ble_eq_true rfl) dX10_figures_48 rfl ?_
        refine wa_iadd cx dX10_figures_51 ?_
        refine wa_bipush cx dX10_figures_52 (48 : Int32) (by decide) ?_
        refine wa_isub cx dX10_figures_54 ?_
        replace h := sq_eq h
        generalize ((((10 : Int32) * l4) + x21) - (48 : Int32)) = x24 at h ⊢
        refine wa_istore cx dX10_figures_55 [(0, .ref (ad g c0)), (1, .int a1), (2, .int l2), (3, .int l3), (4, .int x24)] (Nat.le_of_ble_eq_true rfl) rfl (lvs_c rfl (lvs_c rfl (lvs_c rfl (lvs_c rfl (lvs_c rfl (lvs_n)))))) ?_
        refine wa_iinc cx dX10_figures_57 (l3 + (1 : Int32)) [(0, .ref (ad g c0)), (1, .int a1), (2, .int l2), (3, .int (l3 + (1 : Int32))), (4, .int x24)] rfl rfl (Nat.le_of_ble_eq_true rfl) rfl (lvs_c rfl (lvs_c rfl (lvs_c rfl (lvs_c rfl (lvs_c rfl (lvs_n)))))) ?_
        refine wa_aload_n cx (i := 0) dX10_figures_60 rfl rfl ?_
        refine wa_dup cx dX10_figures_61 rfl ?_
        refine gf_X10_105 cx h_c0 dX10_figures_62 ?_
        refine wa_iconst cx dX10_figures_65 (1 : Int32) (by decide) ?_
        refine wa_iadd cx dX10_figures_66 ?_
        refine pf_X10_105 cx h_c0 dX10_figures_67 ?_
        replace h := sq_eq h
        generalize (pI S22 c0 25 ((S22.1 c0 25) + (1 : Int32))) = S25 at h ⊢
        refine wa_goto cx dX10_figures_70 12 (by decide) ?_
        refine wa_sub (lv' := [(0, .ref (ad g c0)), (1, .int a1), (2, .int l2), (3, .int (l3 + (1 : Int32))), (4, .int x24)]) (lvs_c rfl (lvs_c rfl (lvs_c rfl (lvs_c rfl (lvs_c rfl (lvs_n)))))) ?_
        exact ih l2 (l3 + (1 : Int32)) x24 S25  h
def f_X10_figures_L2 : Nat → Nat → Int32 → Int32 → St → Option (Int32 × St)
  | 0, _, _, _, _ => none
  | n + 1, c0, a1, l2, S => if a1 ≤ l2 then some ((1 : Int32), S) else f_X10_figures_L12 FU c0 a1 (fun l2 S => f_X10_figures_L2 n c0 a1 l2 S) l2 (0 : Int32) (0 : Int32) S
set_option maxHeartbeats 4000000 in
set_option maxRecDepth 100000 in
theorem w_X10_figures_L2 {p : Program} {l : Launch} {e : Env} {s : State} {m : MethodId} {args : Array Value} {below : List Frame} {meth : Method} {c : Code} {g : Gl} {r : Int32 × St} {c0 : Nat} {a1 : Int32} (cx : Cx p s m args meth c cX10_figures 5 (some .boolean) RX10 g (Ap g)) (h_c0 : kd g c0 = 10) : ∀ n : Nat, ∀ (l2 : Int32) (S : St), f_X10_figures_L2 n c0 a1 l2 S = some r → WA p l e rm_X10_figures s m args below meth c 0 0 (MQ below (QWi g r) args s 0 0 (Ap g)) 5 g (Ap g) S 2 [(0, .ref (ad g c0)), (1, .int a1), (2, .int l2)] [] := by
  intro n
  induction n with
  | zero => intro l2 S h; rw [f_X10_figures_L2] at h; cases h
  | succ n ih =>
    intro l2 S h
    rw [f_X10_figures_L2] at h
    refine wa_iload_n cx (i := 2) dX10_figures_2 rfl rfl ?_
    refine wa_iload_n cx (i := 1) dX10_figures_3 rfl rfl ?_
    refine wa_icmp_ge cx dX10_figures_4 136 (by decide) (fun q26 => ?_) (fun q26 => ?_)
    · rw [if_pos q26] at h
      refine wa_iconst cx dX10_figures_136 (1 : Int32) (by decide) ?_
      exact wa_zret cx (by decide) h dX10_figures_137
    · rw [if_neg q26] at h
      refine wa_iconst cx dX10_figures_7 (0 : Int32) (by decide) ?_
      refine wa_istore_n cx (i := 3) dX10_figures_8 [(0, .ref (ad g c0)), (1, .int a1), (2, .int l2), (3, .int (0 : Int32))] rfl (Nat.le_of_ble_eq_true rfl) rfl (lvs_c rfl (lvs_c rfl (lvs_c rfl (lvs_c rfl (lvs_n))))) ?_
      refine wa_iconst cx dX10_figures_9 (0 : Int32) (by decide) ?_
      refine wa_istore cx dX10_figures_10 [(0, .ref (ad g c0)), (1, .int a1), (2, .int l2), (3, .int (0 : Int32)), (4, .int (0 : Int32))] (Nat.le_of_ble_eq_true rfl) rfl (lvs_c rfl (lvs_c rfl (lvs_c rfl (lvs_c rfl (lvs_c rfl (lvs_n)))))) ?_
      refine wa_sub (lv' := [(0, .ref (ad g c0)), (1, .int a1), (2, .int l2), (3, .int (0 : Int32)), (4, .int (0 : Int32))]) (lvs_c rfl (lvs_c rfl (lvs_c rfl (lvs_c rfl (lvs_c rfl (lvs_n)))))) ?_
      exact w_X10_figures_L12 cx h_c0 ih FU l2 (0 : Int32) (0 : Int32) S  h
def f_X10_figures (c0 : Nat) (a1 : Int32) (S : St) : Option (Int32 × St) := f_X10_figures_L2 FU c0 a1 (0 : Int32) S
set_option maxHeartbeats 4000000 in
set_option maxRecDepth 100000 in
theorem m_X10_figures (l : Launch) {g : Gl} (hg : GOK g) {c0 : Nat} {a1 : Int32} {S : St} {r : Int32 × St} (h_c0 : kd g c0 = 10) (h : f_X10_figures c0 a1 S = some r) : MW l yX10_figures cX10_figures 5 (some .boolean) rm_X10_figures g S [.ref (ad g c0), .int a1] (QWi g r) := by
  refine startW [(0, .ref (ad g c0)), (1, .int a1)] (by decide +kernel) (Nat.le_of_ble_eq_true rfl) rfl hg (fun p e s m args below meth c cx => ?_)
  have cx : Cx p s m args meth c cX10_figures 5 (some .boolean) RX10 g (Ap g) := cx
  rw [f_X10_figures] at h
  refine wa_iconst cx dX10_figures_0 (0 : Int32) (by decide) ?_
  refine wa_istore_n cx (i := 2) dX10_figures_1 [(0, .ref (ad g c0)), (1, .int a1), (2, .int (0 : Int32))] rfl (Nat.le_of_ble_eq_true rfl) rfl (lvs_c rfl (lvs_c rfl (lvs_c rfl (lvs_n)))) ?_
  refine wa_sub (lv' := [(0, .ref (ad g c0)), (1, .int a1), (2, .int (0 : Int32))]) (lvs_c rfl (lvs_c rfl (lvs_c rfl (lvs_n)))) ?_
  exact w_X10_figures_L2 cx h_c0  FU (0 : Int32) S  h
def rm_X10_numberItem : Room := { frames := 2, cells := 0, slots := 0, locals := 49 }
def f_X10_numberItem_L47 : Nat → Nat → Int32 → Int32 → Int32 → Int32 → Int32 → Int32 → St → Option (Int32 × St)
  | 0, _, _, _, _, _, _, _, _ => none
  | n + 1, c0, a1, a2, a3, a4, a5, l6, S => if a2 ≤ l6 then some ((1 : Int32), S) else ob l6 5 (ob (((10 : Int32) + a1) + l6) 20 (sq (pI S (c0 + 2) (Int32.toNatClampNeg (((10 : Int32) + a1) + l6)) (S.1 (c0 + 17) (Int32.toNatClampNeg l6))) fun S4 => f_X10_numberItem_L47 n c0 a1 a2 a3 a4 a5 (l6 + (1 : Int32)) S4))
set_option maxHeartbeats 4000000 in
set_option maxRecDepth 100000 in
theorem w_X10_numberItem_L47 {p : Program} {l : Launch} {e : Env} {s : State} {m : MethodId} {args : Array Value} {below : List Frame} {meth : Method} {c : Code} {g : Gl} {r : Int32 × St} {c0 : Nat} {a1 : Int32} {a2 : Int32} {a3 : Int32} {a4 : Int32} {a5 : Int32} (cx : Cx p s m args meth c cX10_numberItem 7 (some .boolean) RX10 g (Ap g)) (h_c0 : kd g c0 = 10) : ∀ n : Nat, ∀ (l6 : Int32) (S : St), f_X10_numberItem_L47 n c0 a1 a2 a3 a4 a5 l6 S = some r → WA p l e rm_X10_numberItem s m args below meth c 0 0 (MQ below (QWi g r) args s 0 0 (Ap g)) 7 g (Ap g) S 47 [(0, .ref (ad g c0)), (1, .int a1), (2, .int a2), (6, .int l6)] [] := by
  intro n
  induction n with
  | zero => intro l6 S h; rw [f_X10_numberItem_L47] at h; cases h
  | succ n ih =>
    intro l6 S h
    rw [f_X10_numberItem_L47] at h
    refine wa_iload cx dX10_numberItem_47 rfl ?_
    refine wa_iload_n cx (i := 2) dX10_numberItem_49 rfl rfl ?_
    refine wa_icmp_ge cx dX10_numberItem_50 78 (by decide) (fun q1 => ?_) (fun q1 => ?_)
    · rw [if_pos q1] at h
      refine wa_iconst cx dX10_numberItem_78 (1 : Int32) (by decide) ?_
      exact wa_zret cx (by decide) h dX10_numberItem_79
    · rw [if_neg q1] at h
      refine wa_aload_n cx (i := 0) dX10_numberItem_53 rfl rfl ?_
      refine gf_X10_13 cx h_c0 dX10_numberItem_54 ?_
      refine wa_bipush cx dX10_numberItem_57 (10 : Int32) (by decide) ?_
      refine wa_iload_n cx (i := 1) dX10_numberItem_59 rfl rfl ?_
      refine wa_iadd cx dX10_numberItem_60 ?_
      refine wa_iload cx dX10_numberItem_61 rfl ?_
      refine wa_iadd cx dX10_numberItem_63 ?_
      refine wa_aload_n cx (i := 0) dX10_numberItem_64 rfl rfl ?_
      refine gf_X10_58 cx h_c0 dX10_numberItem_65 ?_
      refine wa_iload cx dX10_numberItem_68 rfl ?_
      obtain ⟨b2, h⟩ := ob_some h
      refine wa_iald cx dX10_numberItem_70 (kq10_26 cx.2.2.2.2.2.2.1 h_c0) b2 ?_
      obtain ⟨b3, h⟩ := ob_some h
      refine wa_iast cx dX10_numberItem_71 (kq10_2 cx.2.2.2.2.2.2.1 h_c0) b3 ?_
      replace h := sq_eq h
      generalize (pI S (c0 + 2) (Int32.toNatClampNeg (((10 : Int32) + a1) + l6)) (S.1 (c0 + 17) (Int32.toNatClampNeg l6))) = S4 at h ⊢
      refine wa_iinc cx dX10_numberItem_72 (l6 + (1 : Int32)) [(0, .ref (ad g c0)), (1, .int a1), (2, .int a2), (6, .int (l6 + (1 : Int32)))] rfl rfl (Nat.le_of_ble_eq_true rfl) rfl (lvs_c rfl (lvs_c rfl (lvs_c rfl (lvs_c rfl (lvs_n))))) ?_
      refine wa_goto cx dX10_numberItem_75 47 (by decide) ?_
      refine wa_sub (lv' := [(0, .ref (ad g c0)), (1, .int a1), (2, .int a2), (6, .int (l6 + (1 : Int32)))]) (lvs_c rfl (lvs_c rfl (lvs_c rfl (lvs_c rfl (lvs_n))))) ?_
      exact ih (l6 + (1 : Int32)) S4  h
def f_X10_numberItem (c0 : Nat) (a1 : Int32) (a2 : Int32) (a3 : Int32) (a4 : Int32) (a5 : Int32) (S : St) : Option (Int32 × St) := bd (f_X10_figures c0 a2 S) fun x5 S6 => if x5 = 0 then some ((0 : Int32), S6) else bd (f_X10_in (Int32.toInt64 (S6.1 (c0 + 17) (Int32.toNatClampNeg (0 : Int32)))) (Int32.toInt64 a3) (Int32.toInt64 a4) S6) fun x9 S10 => if x9 = 0 then some ((0 : Int32), S10) else if a2 = (2 : Int32) then if (S10.1 (c0 + 17) (Int32.toNatClampNeg (1 : Int32))) ≤ a5 then f_X10_numberItem_L47 FU c0 a1 a2 a3 a4 a5 (0 : Int32) S10 else some ((0 : Int32), S10) else f_X10_numberItem_L47 FU c0 a1 a2 a3 a4 a5 (0 : Int32) S10
set_option maxHeartbeats 4000000 in
set_option maxRecDepth 100000 in
theorem m_X10_numberItem (l : Launch) {g : Gl} (hg : GOK g) {c0 : Nat} {a1 : Int32} {a2 : Int32} {a3 : Int32} {a4 : Int32} {a5 : Int32} {S : St} {r : Int32 × St} (h_c0 : kd g c0 = 10) (h : f_X10_numberItem c0 a1 a2 a3 a4 a5 S = some r) : MW l yX10_numberItem cX10_numberItem 7 (some .boolean) rm_X10_numberItem g S [.ref (ad g c0), .int a1, .int a2, .int a3, .int a4, .int a5] (QWi g r) := by
  refine startW [(0, .ref (ad g c0)), (1, .int a1), (2, .int a2), (3, .int a3), (4, .int a4), (5, .int a5)] (by decide +kernel) (Nat.le_of_ble_eq_true rfl) rfl hg (fun p e s m args below meth c cx => ?_)
  have cx : Cx p s m args meth c cX10_numberItem 7 (some .boolean) RX10 g (Ap g) := cx
  rw [f_X10_numberItem] at h
  refine wa_aload_n cx (i := 0) dX10_numberItem_0 rfl rfl ?_
  refine wa_iload_n cx (i := 2) dX10_numberItem_1 rfl rfl ?_
  obtain ⟨x5, S6, e7, h⟩ := bd_some h
  refine wa_callVi cx (m_X10_figures l cx.2.2.2.2.2.2.1 h_c0 e7) vl_X10_118 h_c0 (by decide) rfl rfl ⟨_, cell_eq10 (kd_lt h_c0 (by decide)).2⟩ ⟨Nat.le_of_ble_eq_true rfl, Nat.le_of_ble_eq_true rfl⟩ ⟨rfl, rfl⟩ ⟨Nat.zero_le _, Nat.zero_le _⟩ rfl (Nat.le_of_ble_eq_true rfl) dX10_numberItem_2 rfl ?_
  refine wa_if_eq cx dX10_numberItem_5 42 (by decide) (fun q8 => ?_) (fun q8 => ?_)
  · rw [if_pos q8] at h
    refine wa_iconst cx dX10_numberItem_42 (0 : Int32) (by decide) ?_
    exact wa_zret cx (by decide) h dX10_numberItem_43
  · rw [if_neg q8] at h
    refine wa_aload_n cx (i := 0) dX10_numberItem_8 rfl rfl ?_
    refine gf_X10_58 cx h_c0 dX10_numberItem_9 ?_
    refine wa_iconst cx dX10_numberItem_12 (0 : Int32) (by decide) ?_
    refine wa_iald cx dX10_numberItem_13 (kq10_26 cx.2.2.2.2.2.2.1 h_c0) (vinl (by decide)) ?_
    refine wa_i2l cx dX10_numberItem_14 ?_
    refine wa_iload_n cx (i := 3) dX10_numberItem_15 rfl rfl ?_
    refine wa_i2l cx dX10_numberItem_16 ?_
    refine wa_iload cx dX10_numberItem_17 rfl ?_
    refine wa_i2l cx dX10_numberItem_19 ?_
    obtain ⟨x9, S10, e11, h⟩ := bd_some h
    refine wa_callSi cx (m_X10_in l cx.2.2.2.2.2.2.1  e11) vl_X10_95 ⟨Nat.le_of_ble_eq_true rfl, Nat.le_of_ble_eq_true rfl⟩ ⟨rfl, rfl⟩ ⟨Nat.zero_le _, Nat.zero_le _⟩ rfl (Nat.le_of_ble_eq_true rfl) dX10_numberItem_20 rfl ?_
    refine wa_if_eq cx dX10_numberItem_23 42 (by decide) (fun q12 => ?_) (fun q12 => ?_)
    · rw [if_pos q12] at h
      refine wa_iconst cx dX10_numberItem_42 (0 : Int32) (by decide) ?_
      exact wa_zret cx (by decide) h dX10_numberItem_43
    · rw [if_neg q12] at h
      refine wa_iload_n cx (i := 2) dX10_numberItem_26 rfl rfl ?_
      refine wa_iconst cx dX10_numberItem_27 (2 : Int32) (by decide) ?_
      refine wa_icmp_ne cx dX10_numberItem_28 44 (by decide) (fun q13 => ?_) (fun q13 => ?_)
      · rw [if_neg q13] at h
        refine wa_iconst cx dX10_numberItem_44 (0 : Int32) (by decide) ?_
        refine wa_istore cx dX10_numberItem_45 [(0, .ref (ad g c0)), (1, .int a1), (2, .int a2), (6, .int (0 : Int32))] (Nat.le_of_ble_eq_true rfl) rfl (lvs_c rfl (lvs_c rfl (lvs_c rfl (lvs_c rfl (lvs_n))))) ?_
        refine wa_sub (lv' := [(0, .ref (ad g c0)), (1, .int a1), (2, .int a2), (6, .int (0 : Int32))]) (lvs_c rfl (lvs_c rfl (lvs_c rfl (lvs_c rfl (lvs_n))))) ?_
        exact w_X10_numberItem_L47 cx h_c0  FU (0 : Int32) S10  h
      · rw [if_pos q13] at h
        refine wa_aload_n cx (i := 0) dX10_numberItem_31 rfl rfl ?_
        refine gf_X10_58 cx h_c0 dX10_numberItem_32 ?_
        refine wa_iconst cx dX10_numberItem_35 (1 : Int32) (by decide) ?_
        refine wa_iald cx dX10_numberItem_36 (kq10_26 cx.2.2.2.2.2.2.1 h_c0) (vinl (by decide)) ?_
        refine wa_iload cx dX10_numberItem_37 rfl ?_
        refine wa_icmp_le cx dX10_numberItem_39 44 (by decide) (fun q14 => ?_) (fun q14 => ?_)
        · rw [if_pos q14] at h
          refine wa_iconst cx dX10_numberItem_44 (0 : Int32) (by decide) ?_
          refine wa_istore cx dX10_numberItem_45 [(0, .ref (ad g c0)), (1, .int a1), (2, .int a2), (6, .int (0 : Int32))] (Nat.le_of_ble_eq_true rfl) rfl (lvs_c rfl (lvs_c rfl (lvs_c rfl (lvs_c rfl (lvs_n))))) ?_
          refine wa_sub (lv' := [(0, .ref (ad g c0)), (1, .int a1), (2, .int a2), (6, .int (0 : Int32))]) (lvs_c rfl (lvs_c rfl (lvs_c rfl (lvs_c rfl (lvs_n))))) ?_
          exact w_X10_numberItem_L47 cx h_c0  FU (0 : Int32) S10  h
        · rw [if_neg q14] at h
          refine wa_iconst cx dX10_numberItem_42 (0 : Int32) (by decide) ?_
          exact wa_zret cx (by decide) h dX10_numberItem_43
def rm_X10_readGivers : Room := { frames := 0, cells := 0, slots := 0, locals := 0 }
def f_X10_readGivers_L4 : Nat → Nat → Int32 → Int32 → St → Option (Int32 × St)
  | 0, _, _, _, _ => none
  | n + 1, c0, l1, l2, S => if (S.1 (c0 + 3) (Int32.toNatClampNeg (1 : Int32))) ≤ l2 then some (l1, S) else ob ((6 : Int32) + l2) 12 (sq (l1 + (S.1 (c0 + 4) (Int32.toNatClampNeg ((6 : Int32) + l2)))) fun x3 => f_X10_readGivers_L4 n c0 x3 (l2 + (1 : Int32)) S)
set_option maxHeartbeats 4000000 in
set_option maxRecDepth 100000 in
theorem w_X10_readGivers_L4 {p : Program} {l : Launch} {e : Env} {s : State} {m : MethodId} {args : Array Value} {below : List Frame} {meth : Method} {c : Code} {g : Gl} {r : Int32 × St} {c0 : Nat} (cx : Cx p s m args meth c cX10_readGivers 3 (some .int) RX10 g (Ap g)) (h_c0 : kd g c0 = 10) : ∀ n : Nat, ∀ (l1 : Int32) (l2 : Int32) (S : St), f_X10_readGivers_L4 n c0 l1 l2 S = some r → WA p l e rm_X10_readGivers s m args below meth c 0 0 (MQ below (QWi g r) args s 0 0 (Ap g)) 3 g (Ap g) S 4 [(0, .ref (ad g c0)), (1, .int l1), (2, .int l2)] [] := by
  intro n
  induction n with
  | zero => intro l1 l2 S h; rw [f_X10_readGivers_L4] at h; cases h
  | succ n ih =>
    intro l1 l2 S h
    rw [f_X10_readGivers_L4] at h
    refine wa_iload_n cx (i := 2) dX10_readGivers_4 rfl rfl ?_
    refine wa_aload_n cx (i := 0) dX10_readGivers_5 rfl rfl ?_
    refine gf_X10_16 cx h_c0 dX10_readGivers_6 ?_
    refine wa_iconst cx dX10_readGivers_9 (1 : Int32) (by decide) ?_
    refine wa_iald cx dX10_readGivers_10 (kq10_3 cx.2.2.2.2.2.2.1 h_c0) (vinl (by decide)) ?_
    refine wa_icmp_ge cx dX10_readGivers_11 32 (by decide) (fun q1 => ?_) (fun q1 => ?_)
    · rw [if_pos q1] at h
      refine wa_iload_n cx (i := 1) dX10_readGivers_32 rfl rfl ?_
      exact wa_iret cx h dX10_readGivers_33
    · rw [if_neg q1] at h
      refine wa_iload_n cx (i := 1) dX10_readGivers_14 rfl rfl ?_
      refine wa_aload_n cx (i := 0) dX10_readGivers_15 rfl rfl ?_
      refine gf_X10_19 cx h_c0 dX10_readGivers_16 ?_
      refine wa_bipush cx dX10_readGivers_19 (6 : Int32) (by decide) ?_
      refine wa_iload_n cx (i := 2) dX10_readGivers_21 rfl rfl ?_
      refine wa_iadd cx dX10_readGivers_22 ?_
      obtain ⟨b2, h⟩ := ob_some h
      refine wa_iald cx dX10_readGivers_23 (kq10_4 cx.2.2.2.2.2.2.1 h_c0) b2 ?_
      refine wa_iadd cx dX10_readGivers_24 ?_
      replace h := sq_eq h
      generalize (l1 + (S.1 (c0 + 4) (Int32.toNatClampNeg ((6 : Int32) + l2)))) = x3 at h ⊢
      refine wa_istore_n cx (i := 1) dX10_readGivers_25 [(0, .ref (ad g c0)), (1, .int x3), (2, .int l2)] rfl (Nat.le_of_ble_eq_true rfl) rfl (lvs_c rfl (lvs_c rfl (lvs_c rfl (lvs_n)))) ?_
      refine wa_iinc cx dX10_readGivers_26 (l2 + (1 : Int32)) [(0, .ref (ad g c0)), (1, .int x3), (2, .int (l2 + (1 : Int32)))] rfl rfl (Nat.le_of_ble_eq_true rfl) rfl (lvs_c rfl (lvs_c rfl (lvs_c rfl (lvs_n)))) ?_
      refine wa_goto cx dX10_readGivers_29 4 (by decide) ?_
      refine wa_sub (lv' := [(0, .ref (ad g c0)), (1, .int x3), (2, .int (l2 + (1 : Int32)))]) (lvs_c rfl (lvs_c rfl (lvs_c rfl (lvs_n)))) ?_
      exact ih x3 (l2 + (1 : Int32)) S  h
def f_X10_readGivers (c0 : Nat) (S : St) : Option (Int32 × St) := f_X10_readGivers_L4 FU c0 (0 : Int32) (0 : Int32) S
set_option maxHeartbeats 4000000 in
set_option maxRecDepth 100000 in
theorem m_X10_readGivers (l : Launch) {g : Gl} (hg : GOK g) {c0 : Nat} {S : St} {r : Int32 × St} (h_c0 : kd g c0 = 10) (h : f_X10_readGivers c0 S = some r) : MW l yX10_readGivers cX10_readGivers 3 (some .int) rm_X10_readGivers g S [.ref (ad g c0)] (QWi g r) := by
  refine startW [(0, .ref (ad g c0))] (by decide +kernel) (Nat.le_of_ble_eq_true rfl) rfl hg (fun p e s m args below meth c cx => ?_)
  have cx : Cx p s m args meth c cX10_readGivers 3 (some .int) RX10 g (Ap g) := cx
  rw [f_X10_readGivers] at h
  refine wa_iconst cx dX10_readGivers_0 (0 : Int32) (by decide) ?_
  refine wa_istore_n cx (i := 1) dX10_readGivers_1 [(0, .ref (ad g c0)), (1, .int (0 : Int32))] rfl (Nat.le_of_ble_eq_true rfl) rfl (lvs_c rfl (lvs_c rfl (lvs_n))) ?_
  refine wa_iconst cx dX10_readGivers_2 (0 : Int32) (by decide) ?_
  refine wa_istore_n cx (i := 2) dX10_readGivers_3 [(0, .ref (ad g c0)), (1, .int (0 : Int32)), (2, .int (0 : Int32))] rfl (Nat.le_of_ble_eq_true rfl) rfl (lvs_c rfl (lvs_c rfl (lvs_c rfl (lvs_n)))) ?_
  refine wa_sub (lv' := [(0, .ref (ad g c0)), (1, .int (0 : Int32)), (2, .int (0 : Int32))]) (lvs_c rfl (lvs_c rfl (lvs_c rfl (lvs_n)))) ?_
  exact w_X10_readGivers_L4 cx h_c0  FU (0 : Int32) (0 : Int32) S  h
def rm_X10_sortItem : Room := { frames := 2, cells := 0, slots := 0, locals := 49 }
def f_X10_sortItem (c0 : Nat) (S : St) : Option (Int32 × St) := sq ((6 : Int32) + (S.1 (c0 + 3) (Int32.toNatClampNeg (1 : Int32)))) fun x1 => bd (f_X10_figures c0 (5 : Int32) S) fun x2 S3 => if x2 = 0 then some ((0 : Int32), S3) else if (S3.1 (c0 + 3) (Int32.toNatClampNeg (1 : Int32))) = (6 : Int32) then some ((0 : Int32), S3) else bd (f_X10_in (Int32.toInt64 (S3.1 (c0 + 17) (Int32.toNatClampNeg (0 : Int32)))) (1 : Int64) (8 : Int64) S3) fun x7 S8 => if x7 = 0 then some ((0 : Int32), S8) else bd (f_X10_readGivers c0 S8) fun x11 S12 => if (8 : Int32) < (x11 + (S12.1 (c0 + 17) (Int32.toNatClampNeg (0 : Int32)))) then some ((0 : Int32), S12) else if (5 : Int32) < (S12.1 (c0 + 17) (Int32.toNatClampNeg (1 : Int32))) then some ((0 : Int32), S12) else if (30 : Int32) < (S12.1 (c0 + 17) (Int32.toNatClampNeg (2 : Int32))) then some ((0 : Int32), S12) else if (30 : Int32) < (S12.1 (c0 + 17) (Int32.toNatClampNeg (3 : Int32))) then some ((0 : Int32), S12) else if (S12.1 (c0 + 17) (Int32.toNatClampNeg (4 : Int32))) ≤ (9 : Int32) then ob x1 12 (sq (pI S12 (c0 + 4) (Int32.toNatClampNeg x1) (S12.1 (c0 + 17) (Int32.toNatClampNeg (0 : Int32)))) fun S20 => ob x1 12 (sq (pI S20 (c0 + 5) (Int32.toNatClampNeg x1) (S20.1 (c0 + 17) (Int32.toNatClampNeg (1 : Int32)))) fun S22 => ob x1 12 (sq (pI S22 (c0 + 6) (Int32.toNatClampNeg x1) (S22.1 (c0 + 17) (Int32.toNatClampNeg (2 : Int32)))) fun S24 => ob x1 12 (sq (pI S24 (c0 + 7) (Int32.toNatClampNeg x1) (S24.1 (c0 + 17) (Int32.toNatClampNeg (3 : Int32)))) fun S26 => ob x1 12 (sq (pI S26 (c0 + 8) (Int32.toNatClampNeg x1) (S26.1 (c0 + 17) (Int32.toNatClampNeg (4 : Int32)))) fun S28 => ob x1 12 (sq (pI S28 (c0 + 9) (Int32.toNatClampNeg x1) (0 : Int32)) fun S30 => ob x1 12 (sq (pI S30 (c0 + 10) (Int32.toNatClampNeg x1) (0 : Int32)) fun S32 => sq (pI S32 (c0 + 3) (Int32.toNatClampNeg (1 : Int32)) ((S32.1 (c0 + 3) (Int32.toNatClampNeg (1 : Int32))) + (1 : Int32))) fun S33 => some ((1 : Int32), S33)))))))) else some ((0 : Int32), S12)
set_option maxHeartbeats 4000000 in
set_option maxRecDepth 100000 in
theorem m_X10_sortItem (l : Launch) {g : Gl} (hg : GOK g) {c0 : Nat} {S : St} {r : Int32 × St} (h_c0 : kd g c0 = 10) (h : f_X10_sortItem c0 S = some r) : MW l yX10_sortItem cX10_sortItem 2 (some .boolean) rm_X10_sortItem g S [.ref (ad g c0)] (QWi g r) := by
  refine startW [(0, .ref (ad g c0))] (by decide +kernel) (Nat.le_of_ble_eq_true rfl) rfl hg (fun p e s m args below meth c cx => ?_)
  have cx : Cx p s m args meth c cX10_sortItem 2 (some .boolean) RX10 g (Ap g) := cx
  rw [f_X10_sortItem] at h
  refine wa_bipush cx dX10_sortItem_0 (6 : Int32) (by decide) ?_
  refine wa_aload_n cx (i := 0) dX10_sortItem_2 rfl rfl ?_
  refine gf_X10_16 cx h_c0 dX10_sortItem_3 ?_
  refine wa_iconst cx dX10_sortItem_6 (1 : Int32) (by decide) ?_
  refine wa_iald cx dX10_sortItem_7 (kq10_3 cx.2.2.2.2.2.2.1 h_c0) (vinl (by decide)) ?_
  refine wa_iadd cx dX10_sortItem_8 ?_
  replace h := sq_eq h
  generalize ((6 : Int32) + (S.1 (c0 + 3) (Int32.toNatClampNeg (1 : Int32)))) = x1 at h ⊢
  refine wa_istore_n cx (i := 1) dX10_sortItem_9 [(0, .ref (ad g c0)), (1, .int x1)] rfl (Nat.le_of_ble_eq_true rfl) rfl (lvs_c rfl (lvs_c rfl (lvs_n))) ?_
  refine wa_aload_n cx (i := 0) dX10_sortItem_10 rfl rfl ?_
  refine wa_iconst cx dX10_sortItem_11 (5 : Int32) (by decide) ?_
  obtain ⟨x2, S3, e4, h⟩ := bd_some h
  refine wa_callVi cx (m_X10_figures l cx.2.2.2.2.2.2.1 h_c0 e4) vl_X10_118 h_c0 (by decide) rfl rfl ⟨_, cell_eq10 (kd_lt h_c0 (by decide)).2⟩ ⟨Nat.le_of_ble_eq_true rfl, Nat.le_of_ble_eq_true rfl⟩ ⟨rfl, rfl⟩ ⟨Nat.zero_le _, Nat.zero_le _⟩ rfl (Nat.le_of_ble_eq_true rfl) dX10_sortItem_12 rfl ?_
  refine wa_if_eq cx dX10_sortItem_15 105 (by decide) (fun q5 => ?_) (fun q5 => ?_)
  · rw [if_pos q5] at h
    refine wa_iconst cx dX10_sortItem_105 (0 : Int32) (by decide) ?_
    exact wa_zret cx (by decide) h dX10_sortItem_106
  · rw [if_neg q5] at h
    refine wa_aload_n cx (i := 0) dX10_sortItem_18 rfl rfl ?_
    refine gf_X10_16 cx h_c0 dX10_sortItem_19 ?_
    refine wa_iconst cx dX10_sortItem_22 (1 : Int32) (by decide) ?_
    refine wa_iald cx dX10_sortItem_23 (kq10_3 cx.2.2.2.2.2.2.1 h_c0) (vinl (by decide)) ?_
    refine wa_bipush cx dX10_sortItem_24 (6 : Int32) (by decide) ?_
    refine wa_icmp_eq cx dX10_sortItem_26 105 (by decide) (fun q6 => ?_) (fun q6 => ?_)
    · rw [if_pos q6] at h
      refine wa_iconst cx dX10_sortItem_105 (0 : Int32) (by decide) ?_
      exact wa_zret cx (by decide) h dX10_sortItem_106
    · rw [if_neg q6] at h
      refine wa_aload_n cx (i := 0) dX10_sortItem_29 rfl rfl ?_
      refine gf_X10_58 cx h_c0 dX10_sortItem_30 ?_
      refine wa_iconst cx dX10_sortItem_33 (0 : Int32) (by decide) ?_
      refine wa_iald cx dX10_sortItem_34 (kq10_26 cx.2.2.2.2.2.2.1 h_c0) (vinl (by decide)) ?_
      refine wa_i2l cx dX10_sortItem_35 ?_
      refine wa_lconst cx dX10_sortItem_36 (1 : Int64) (by decide) ?_
      refine wa_ldc2 cx dX10_sortItem_37 (8 : Int64) kc_X10_93 ?_
      obtain ⟨x7, S8, e9, h⟩ := bd_some h
      refine wa_callSi cx (m_X10_in l cx.2.2.2.2.2.2.1  e9) vl_X10_95 ⟨Nat.le_of_ble_eq_true rfl, Nat.le_of_ble_eq_true rfl⟩ ⟨rfl, rfl⟩ ⟨Nat.zero_le _, Nat.zero_le _⟩ rfl (Nat.le_of_ble_eq_true rfl) dX10_sortItem_40 rfl ?_
      refine wa_if_eq cx dX10_sortItem_43 105 (by decide) (fun q10 => ?_) (fun q10 => ?_)
      · rw [if_pos q10] at h
        refine wa_iconst cx dX10_sortItem_105 (0 : Int32) (by decide) ?_
        exact wa_zret cx (by decide) h dX10_sortItem_106
      · rw [if_neg q10] at h
        refine wa_aload_n cx (i := 0) dX10_sortItem_46 rfl rfl ?_
        obtain ⟨x11, S12, e13, h⟩ := bd_some h
        refine wa_callVi cx (m_X10_readGivers l cx.2.2.2.2.2.2.1 h_c0 e13) vl_X10_122 h_c0 (by decide) rfl rfl ⟨_, cell_eq10 (kd_lt h_c0 (by decide)).2⟩ ⟨Nat.le_of_ble_eq_true rfl, Nat.le_of_ble_eq_true rfl⟩ ⟨rfl, rfl⟩ ⟨Nat.zero_le _, Nat.zero_le _⟩ rfl (Nat.le_of_ble_eq_true rfl) dX10_sortItem_47 rfl ?_
        refine wa_aload_n cx (i := 0) dX10_sortItem_50 rfl rfl ?_
        refine gf_X10_58 cx h_c0 dX10_sortItem_51 ?_
        refine wa_iconst cx dX10_sortItem_54 (0 : Int32) (by decide) ?_
        refine wa_iald cx dX10_sortItem_55 (kq10_26 cx.2.2.2.2.2.2.1 h_c0) (vinl (by decide)) ?_
        refine wa_iadd cx dX10_sortItem_56 ?_
        refine wa_bipush cx dX10_sortItem_57 (8 : Int32) (by decide) ?_
        refine wa_icmp_gt cx dX10_sortItem_59 105 (by decide) (fun q14 => ?_) (fun q14 => ?_)
        · rw [if_pos q14] at h
          refine wa_iconst cx dX10_sortItem_105 (0 : Int32) (by decide) ?_
          exact wa_zret cx (by decide) h dX10_sortItem_106
        · rw [if_neg q14] at h
          refine wa_aload_n cx (i := 0) dX10_sortItem_62 rfl rfl ?_
          refine gf_X10_58 cx h_c0 dX10_sortItem_63 ?_
          refine wa_iconst cx dX10_sortItem_66 (1 : Int32) (by decide) ?_
          refine wa_iald cx dX10_sortItem_67 (kq10_26 cx.2.2.2.2.2.2.1 h_c0) (vinl (by decide)) ?_
          refine wa_iconst cx dX10_sortItem_68 (5 : Int32) (by decide) ?_
          refine wa_icmp_gt cx dX10_sortItem_69 105 (by decide) (fun q15 => ?_) (fun q15 => ?_)
          · rw [if_pos q15] at h
            refine wa_iconst cx dX10_sortItem_105 (0 : Int32) (by decide) ?_
            exact wa_zret cx (by decide) h dX10_sortItem_106
          · rw [if_neg q15] at h
            refine wa_aload_n cx (i := 0) dX10_sortItem_72 rfl rfl ?_
            refine gf_X10_58 cx h_c0 dX10_sortItem_73 ?_
            refine wa_iconst cx dX10_sortItem_76 (2 : Int32) (by decide) ?_
            refine wa_iald cx dX10_sortItem_77 (kq10_26 cx.2.2.2.2.2.2.1 h_c0) (vinl (by decide)) ?_
            refine wa_bipush cx dX10_sortItem_78 (30 : Int32) (by decide) ?_
            refine wa_icmp_gt cx dX10_sortItem_80 105 (by decide) (fun q16 => ?_) (fun q16 => ?_)
            · rw [if_pos q16] at h
              refine wa_iconst cx dX10_sortItem_105 (0 : Int32) (by decide) ?_
              exact wa_zret cx (by decide) h dX10_sortItem_106
            · rw [if_neg q16] at h
              refine wa_aload_n cx (i := 0) dX10_sortItem_83 rfl rfl ?_
              refine gf_X10_58 cx h_c0 dX10_sortItem_84 ?_
              refine wa_iconst cx dX10_sortItem_87 (3 : Int32) (by decide) ?_
              refine wa_iald cx dX10_sortItem_88 (kq10_26 cx.2.2.2.2.2.2.1 h_c0) (vinl (by decide)) ?_
              refine wa_bipush cx dX10_sortItem_89 (30 : Int32) (by decide) ?_
              refine wa_icmp_gt cx dX10_sortItem_91 105 (by decide) (fun q17 => ?_) (fun q17 => ?_)
              · rw [if_pos q17] at h
                refine wa_iconst cx dX10_sortItem_105 (0 : Int32) (by decide) ?_
                exact wa_zret cx (by decide) h dX10_sortItem_106
              · rw [if_neg q17] at h
                refine wa_aload_n cx (i := 0) dX10_sortItem_94 rfl rfl ?_
                refine gf_X10_58 cx h_c0 dX10_sortItem_95 ?_
                refine wa_iconst cx dX10_sortItem_98 (4 : Int32) (by decide) ?_
                refine wa_iald cx dX10_sortItem_99 (kq10_26 cx.2.2.2.2.2.2.1 h_c0) (vinl (by decide)) ?_
                refine wa_bipush cx dX10_sortItem_100 (9 : Int32) (by decide) ?_
                refine wa_icmp_le cx dX10_sortItem_102 107 (by decide) (fun q18 => ?_) (fun q18 => ?_)
                · rw [if_pos q18] at h
                  refine wa_aload_n cx (i := 0) dX10_sortItem_107 rfl rfl ?_
                  refine gf_X10_19 cx h_c0 dX10_sortItem_108 ?_
                  refine wa_iload_n cx (i := 1) dX10_sortItem_111 rfl rfl ?_
                  refine wa_aload_n cx (i := 0) dX10_sortItem_112 rfl rfl ?_
                  refine gf_X10_58 cx h_c0 dX10_sortItem_113 ?_
                  refine wa_iconst cx dX10_sortItem_116 (0 : Int32) (by decide) ?_
                  refine wa_iald cx dX10_sortItem_117 (kq10_26 cx.2.2.2.2.2.2.1 h_c0) (vinl (by decide)) ?_
                  obtain ⟨b19, h⟩ := ob_some h
                  refine wa_iast cx dX10_sortItem_118 (kq10_4 cx.2.2.2.2.2.2.1 h_c0) b19 ?_
                  replace h := sq_eq h
                  generalize (pI S12 (c0 + 4) (Int32.toNatClampNeg x1) (S12.1 (c0 + 17) (Int32.toNatClampNeg (0 : Int32)))) = S20 at h ⊢
                  refine wa_aload_n cx (i := 0) dX10_sortItem_119 rfl rfl ?_
                  refine gf_X10_22 cx h_c0 dX10_sortItem_120 ?_
                  refine wa_iload_n cx (i := 1) dX10_sortItem_123 rfl rfl ?_
                  refine wa_aload_n cx (i := 0) dX10_sortItem_124 rfl rfl ?_
                  refine gf_X10_58 cx h_c0 dX10_sortItem_125 ?_
                  refine wa_iconst cx dX10_sortItem_128 (1 : Int32) (by decide) ?_
                  refine wa_iald cx dX10_sortItem_129 (kq10_26 cx.2.2.2.2.2.2.1 h_c0) (vinl (by decide)) ?_
                  obtain ⟨b21, h⟩ := ob_some h
                  refine wa_iast cx dX10_sortItem_130 (kq10_5 cx.2.2.2.2.2.2.1 h_c0) b21 ?_
                  replace h := sq_eq h
                  generalize (pI S20 (c0 + 5) (Int32.toNatClampNeg x1) (S20.1 (c0 + 17) (Int32.toNatClampNeg (1 : Int32)))) = S22 at h ⊢
                  refine wa_aload_n cx (i := 0) dX10_sortItem_131 rfl rfl ?_
                  refine gf_X10_25 cx h_c0 dX10_sortItem_132 ?_
                  refine wa_iload_n cx (i := 1) dX10_sortItem_135 rfl rfl ?_
                  refine wa_aload_n cx (i := 0) dX10_sortItem_136 rfl rfl ?_
                  refine gf_X10_58 cx h_c0 dX10_sortItem_137 ?_
                  refine wa_iconst cx dX10_sortItem_140 (2 : Int32) (by decide) ?_
                  refine wa_iald cx dX10_sortItem_141 (kq10_26 cx.2.2.2.2.2.2.1 h_c0) (vinl (by decide)) ?_
                  obtain ⟨b23, h⟩ := ob_some h
                  refine wa_iast cx dX10_sortItem_142 (kq10_6 cx.2.2.2.2.2.2.1 h_c0) b23 ?_
                  replace h := sq_eq h
                  generalize (pI S22 (c0 + 6) (Int32.toNatClampNeg x1) (S22.1 (c0 + 17) (Int32.toNatClampNeg (2 : Int32)))) = S24 at h ⊢
                  refine wa_aload_n cx (i := 0) dX10_sortItem_143 rfl rfl ?_
                  refine gf_X10_28 cx h_c0 dX10_sortItem_144 ?_
                  refine wa_iload_n cx (i := 1) dX10_sortItem_147 rfl rfl ?_
                  refine wa_aload_n cx (i := 0) dX10_sortItem_148 rfl rfl ?_
                  refine gf_X10_58 cx h_c0 dX10_sortItem_149 ?_
                  refine wa_iconst cx dX10_sortItem_152 (3 : Int32) (by decide) ?_
                  refine wa_iald cx dX10_sortItem_153 (kq10_26 cx.2.2.2.2.2.2.1 h_c0) (vinl (by decide)) ?_
                  obtain ⟨b25, h⟩ := ob_some h
                  refine wa_iast cx dX10_sortItem_154 (kq10_7 cx.2.2.2.2.2.2.1 h_c0) b25 ?_
                  replace h := sq_eq h
                  generalize (pI S24 (c0 + 7) (Int32.toNatClampNeg x1) (S24.1 (c0 + 17) (Int32.toNatClampNeg (3 : Int32)))) = S26 at h ⊢
                  refine wa_aload_n cx (i := 0) dX10_sortItem_155 rfl rfl ?_
                  refine gf_X10_31 cx h_c0 dX10_sortItem_156 ?_
                  refine wa_iload_n cx (i := 1) dX10_sortItem_159 rfl rfl ?_
                  refine wa_aload_n cx (i := 0) dX10_sortItem_160 rfl rfl ?_
                  refine gf_X10_58 cx h_c0 dX10_sortItem_161 ?_
                  refine wa_iconst cx dX10_sortItem_164 (4 : Int32) (by decide) ?_
                  refine wa_iald cx dX10_sortItem_165 (kq10_26 cx.2.2.2.2.2.2.1 h_c0) (vinl (by decide)) ?_
                  obtain ⟨b27, h⟩ := ob_some h
                  refine wa_iast cx dX10_sortItem_166 (kq10_8 cx.2.2.2.2.2.2.1 h_c0) b27 ?_
                  replace h := sq_eq h
                  generalize (pI S26 (c0 + 8) (Int32.toNatClampNeg x1) (S26.1 (c0 + 17) (Int32.toNatClampNeg (4 : Int32)))) = S28 at h ⊢
                  refine wa_aload_n cx (i := 0) dX10_sortItem_167 rfl rfl ?_
                  refine gf_X10_34 cx h_c0 dX10_sortItem_168 ?_
                  refine wa_iload_n cx (i := 1) dX10_sortItem_171 rfl rfl ?_
                  refine wa_iconst cx dX10_sortItem_172 (0 : Int32) (by decide) ?_
                  obtain ⟨b29, h⟩ := ob_some h
                  refine wa_iast cx dX10_sortItem_173 (kq10_9 cx.2.2.2.2.2.2.1 h_c0) b29 ?_
                  replace h := sq_eq h
                  generalize (pI S28 (c0 + 9) (Int32.toNatClampNeg x1) (0 : Int32)) = S30 at h ⊢
                  refine wa_aload_n cx (i := 0) dX10_sortItem_174 rfl rfl ?_
                  refine gf_X10_37 cx h_c0 dX10_sortItem_175 ?_
                  refine wa_iload_n cx (i := 1) dX10_sortItem_178 rfl rfl ?_
                  refine wa_iconst cx dX10_sortItem_179 (0 : Int32) (by decide) ?_
                  obtain ⟨b31, h⟩ := ob_some h
                  refine wa_iast cx dX10_sortItem_180 (kq10_10 cx.2.2.2.2.2.2.1 h_c0) b31 ?_
                  replace h := sq_eq h
                  generalize (pI S30 (c0 + 10) (Int32.toNatClampNeg x1) (0 : Int32)) = S32 at h ⊢
                  refine wa_aload_n cx (i := 0) dX10_sortItem_181 rfl rfl ?_
                  refine gf_X10_16 cx h_c0 dX10_sortItem_182 ?_
                  refine wa_iconst cx dX10_sortItem_185 (1 : Int32) (by decide) ?_
                  refine wa_dup2 cx dX10_sortItem_186 rfl rfl ?_
                  refine wa_iald cx dX10_sortItem_187 (kq10_3 cx.2.2.2.2.2.2.1 h_c0) (vinl (by decide)) ?_
                  refine wa_iconst cx dX10_sortItem_188 (1 : Int32) (by decide) ?_
                  refine wa_iadd cx dX10_sortItem_189 ?_
                  refine wa_iast cx dX10_sortItem_190 (kq10_3 cx.2.2.2.2.2.2.1 h_c0) (vinl (by decide)) ?_
                  replace h := sq_eq h
                  generalize (pI S32 (c0 + 3) (Int32.toNatClampNeg (1 : Int32)) ((S32.1 (c0 + 3) (Int32.toNatClampNeg (1 : Int32))) + (1 : Int32))) = S33 at h ⊢
                  refine wa_iconst cx dX10_sortItem_191 (1 : Int32) (by decide) ?_
                  exact wa_zret cx (by decide) h dX10_sortItem_192
                · rw [if_neg q18] at h
                  refine wa_iconst cx dX10_sortItem_105 (0 : Int32) (by decide) ?_
                  exact wa_zret cx (by decide) h dX10_sortItem_106
def rm_X10_worthItem : Room := { frames := 2, cells := 0, slots := 0, locals := 49 }
def f_X10_worthItem (c0 : Nat) (S : St) : Option (Int32 × St) := bd (f_X10_figures c0 (3 : Int32) S) fun x1 S2 => if x1 = 0 then some ((0 : Int32), S2) else if (S2.1 (c0 + 3) (Int32.toNatClampNeg (1 : Int32))) ≤ (S2.1 (c0 + 17) (Int32.toNatClampNeg (0 : Int32))) then some ((0 : Int32), S2) else if (30 : Int32) < (S2.1 (c0 + 17) (Int32.toNatClampNeg (1 : Int32))) then some ((0 : Int32), S2) else bd (f_X10_in (Int32.toInt64 (S2.1 (c0 + 17) (Int32.toNatClampNeg (2 : Int32)))) (1 : Int64) (10 : Int64) S2) fun x7 S8 => if x7 = 0 then some ((0 : Int32), S8) else ob ((6 : Int32) + (S8.1 (c0 + 17) (Int32.toNatClampNeg (0 : Int32)))) 12 (if (S8.1 (c0 + 10) (Int32.toNatClampNeg ((6 : Int32) + (S8.1 (c0 + 17) (Int32.toNatClampNeg (0 : Int32)))))) = (3 : Int32) then some ((0 : Int32), S8) else sq ((6 : Int32) + (S8.1 (c0 + 17) (Int32.toNatClampNeg (0 : Int32)))) fun x13 => ob x13 12 (ob (((3 : Int32) * x13) + (S8.1 (c0 + 10) (Int32.toNatClampNeg x13))) 36 (sq (pI S8 (c0 + 11) (Int32.toNatClampNeg (((3 : Int32) * x13) + (S8.1 (c0 + 10) (Int32.toNatClampNeg x13)))) (S8.1 (c0 + 17) (Int32.toNatClampNeg (1 : Int32)))) fun S16 => ob x13 12 (ob (((3 : Int32) * x13) + (S16.1 (c0 + 10) (Int32.toNatClampNeg x13))) 36 (sq (pI S16 (c0 + 12) (Int32.toNatClampNeg (((3 : Int32) * x13) + (S16.1 (c0 + 10) (Int32.toNatClampNeg x13)))) (S16.1 (c0 + 17) (Int32.toNatClampNeg (2 : Int32)))) fun S19 => ob x13 12 (ob x13 12 (sq (pI S19 (c0 + 10) (Int32.toNatClampNeg x13) ((S19.1 (c0 + 10) (Int32.toNatClampNeg x13)) + (1 : Int32))) fun S22 => some ((1 : Int32), S22))))))))
set_option maxHeartbeats 4000000 in
set_option maxRecDepth 100000 in
theorem m_X10_worthItem (l : Launch) {g : Gl} (hg : GOK g) {c0 : Nat} {S : St} {r : Int32 × St} (h_c0 : kd g c0 = 10) (h : f_X10_worthItem c0 S = some r) : MW l yX10_worthItem cX10_worthItem 2 (some .boolean) rm_X10_worthItem g S [.ref (ad g c0)] (QWi g r) := by
  refine startW [(0, .ref (ad g c0))] (by decide +kernel) (Nat.le_of_ble_eq_true rfl) rfl hg (fun p e s m args below meth c cx => ?_)
  have cx : Cx p s m args meth c cX10_worthItem 2 (some .boolean) RX10 g (Ap g) := cx
  rw [f_X10_worthItem] at h
  refine wa_aload_n cx (i := 0) dX10_worthItem_0 rfl rfl ?_
  refine wa_iconst cx dX10_worthItem_1 (3 : Int32) (by decide) ?_
  obtain ⟨x1, S2, e3, h⟩ := bd_some h
  refine wa_callVi cx (m_X10_figures l cx.2.2.2.2.2.2.1 h_c0 e3) vl_X10_118 h_c0 (by decide) rfl rfl ⟨_, cell_eq10 (kd_lt h_c0 (by decide)).2⟩ ⟨Nat.le_of_ble_eq_true rfl, Nat.le_of_ble_eq_true rfl⟩ ⟨rfl, rfl⟩ ⟨Nat.zero_le _, Nat.zero_le _⟩ rfl (Nat.le_of_ble_eq_true rfl) dX10_worthItem_2 rfl ?_
  refine wa_if_eq cx dX10_worthItem_5 69 (by decide) (fun q4 => ?_) (fun q4 => ?_)
  · rw [if_pos q4] at h
    refine wa_iconst cx dX10_worthItem_69 (0 : Int32) (by decide) ?_
    exact wa_zret cx (by decide) h dX10_worthItem_70
  · rw [if_neg q4] at h
    refine wa_aload_n cx (i := 0) dX10_worthItem_8 rfl rfl ?_
    refine gf_X10_58 cx h_c0 dX10_worthItem_9 ?_
    refine wa_iconst cx dX10_worthItem_12 (0 : Int32) (by decide) ?_
    refine wa_iald cx dX10_worthItem_13 (kq10_26 cx.2.2.2.2.2.2.1 h_c0) (vinl (by decide)) ?_
    refine wa_aload_n cx (i := 0) dX10_worthItem_14 rfl rfl ?_
    refine gf_X10_16 cx h_c0 dX10_worthItem_15 ?_
    refine wa_iconst cx dX10_worthItem_18 (1 : Int32) (by decide) ?_
    refine wa_iald cx dX10_worthItem_19 (kq10_3 cx.2.2.2.2.2.2.1 h_c0) (vinl (by decide)) ?_
    refine wa_icmp_ge cx dX10_worthItem_20 69 (by decide) (fun q5 => ?_) (fun q5 => ?_)
    · rw [if_pos q5] at h
      refine wa_iconst cx dX10_worthItem_69 (0 : Int32) (by decide) ?_
      exact wa_zret cx (by decide) h dX10_worthItem_70
    · rw [if_neg q5] at h
      refine wa_aload_n cx (i := 0) dX10_worthItem_23 rfl rfl ?_
      refine gf_X10_58 cx h_c0 dX10_worthItem_24 ?_
      refine wa_iconst cx dX10_worthItem_27 (1 : Int32) (by decide) ?_
      refine wa_iald cx dX10_worthItem_28 (kq10_26 cx.2.2.2.2.2.2.1 h_c0) (vinl (by decide)) ?_
      refine wa_bipush cx dX10_worthItem_29 (30 : Int32) (by decide) ?_
      refine wa_icmp_gt cx dX10_worthItem_31 69 (by decide) (fun q6 => ?_) (fun q6 => ?_)
      · rw [if_pos q6] at h
        refine wa_iconst cx dX10_worthItem_69 (0 : Int32) (by decide) ?_
        exact wa_zret cx (by decide) h dX10_worthItem_70
      · rw [if_neg q6] at h
        refine wa_aload_n cx (i := 0) dX10_worthItem_34 rfl rfl ?_
        refine gf_X10_58 cx h_c0 dX10_worthItem_35 ?_
        refine wa_iconst cx dX10_worthItem_38 (2 : Int32) (by decide) ?_
        refine wa_iald cx dX10_worthItem_39 (kq10_26 cx.2.2.2.2.2.2.1 h_c0) (vinl (by decide)) ?_
        refine wa_i2l cx dX10_worthItem_40 ?_
        refine wa_lconst cx dX10_worthItem_41 (1 : Int64) (by decide) ?_
        refine wa_ldc2 cx dX10_worthItem_42 (10 : Int64) kc_X10_126 ?_
        obtain ⟨x7, S8, e9, h⟩ := bd_some h
        refine wa_callSi cx (m_X10_in l cx.2.2.2.2.2.2.1  e9) vl_X10_95 ⟨Nat.le_of_ble_eq_true rfl, Nat.le_of_ble_eq_true rfl⟩ ⟨rfl, rfl⟩ ⟨Nat.zero_le _, Nat.zero_le _⟩ rfl (Nat.le_of_ble_eq_true rfl) dX10_worthItem_45 rfl ?_
        refine wa_if_eq cx dX10_worthItem_48 69 (by decide) (fun q10 => ?_) (fun q10 => ?_)
        · rw [if_pos q10] at h
          refine wa_iconst cx dX10_worthItem_69 (0 : Int32) (by decide) ?_
          exact wa_zret cx (by decide) h dX10_worthItem_70
        · rw [if_neg q10] at h
          refine wa_aload_n cx (i := 0) dX10_worthItem_51 rfl rfl ?_
          refine gf_X10_37 cx h_c0 dX10_worthItem_52 ?_
          refine wa_bipush cx dX10_worthItem_55 (6 : Int32) (by decide) ?_
          refine wa_aload_n cx (i := 0) dX10_worthItem_57 rfl rfl ?_
          refine gf_X10_58 cx h_c0 dX10_worthItem_58 ?_
          refine wa_iconst cx dX10_worthItem_61 (0 : Int32) (by decide) ?_
          refine wa_iald cx dX10_worthItem_62 (kq10_26 cx.2.2.2.2.2.2.1 h_c0) (vinl (by decide)) ?_
          refine wa_iadd cx dX10_worthItem_63 ?_
          obtain ⟨b11, h⟩ := ob_some h
          refine wa_iald cx dX10_worthItem_64 (kq10_10 cx.2.2.2.2.2.2.1 h_c0) b11 ?_
          refine wa_iconst cx dX10_worthItem_65 (3 : Int32) (by decide) ?_
          refine wa_icmp_ne cx dX10_worthItem_66 71 (by decide) (fun q12 => ?_) (fun q12 => ?_)
          · rw [if_neg q12] at h
            refine wa_bipush cx dX10_worthItem_71 (6 : Int32) (by decide) ?_
            refine wa_aload_n cx (i := 0) dX10_worthItem_73 rfl rfl ?_
            refine gf_X10_58 cx h_c0 dX10_worthItem_74 ?_
            refine wa_iconst cx dX10_worthItem_77 (0 : Int32) (by decide) ?_
            refine wa_iald cx dX10_worthItem_78 (kq10_26 cx.2.2.2.2.2.2.1 h_c0) (vinl (by decide)) ?_
            refine wa_iadd cx dX10_worthItem_79 ?_
            replace h := sq_eq h
            generalize ((6 : Int32) + (S8.1 (c0 + 17) (Int32.toNatClampNeg (0 : Int32)))) = x13 at h ⊢
            refine wa_istore_n cx (i := 1) dX10_worthItem_80 [(0, .ref (ad g c0)), (1, .int x13)] rfl (Nat.le_of_ble_eq_true rfl) rfl (lvs_c rfl (lvs_c rfl (lvs_n))) ?_
            refine wa_aload_n cx (i := 0) dX10_worthItem_81 rfl rfl ?_
            refine gf_X10_40 cx h_c0 dX10_worthItem_82 ?_
            refine wa_iconst cx dX10_worthItem_85 (3 : Int32) (by decide) ?_
            refine wa_iload_n cx (i := 1) dX10_worthItem_86 rfl rfl ?_
            refine wa_imul cx dX10_worthItem_87 ?_
            refine wa_aload_n cx (i := 0) dX10_worthItem_88 rfl rfl ?_
            refine gf_X10_37 cx h_c0 dX10_worthItem_89 ?_
            refine wa_iload_n cx (i := 1) dX10_worthItem_92 rfl rfl ?_
            obtain ⟨b14, h⟩ := ob_some h
            refine wa_iald cx dX10_worthItem_93 (kq10_10 cx.2.2.2.2.2.2.1 h_c0) b14 ?_
            refine wa_iadd cx dX10_worthItem_94 ?_
            refine wa_aload_n cx (i := 0) dX10_worthItem_95 rfl rfl ?_
            refine gf_X10_58 cx h_c0 dX10_worthItem_96 ?_
            refine wa_iconst cx dX10_worthItem_99 (1 : Int32) (by decide) ?_
            refine wa_iald cx dX10_worthItem_100 (kq10_26 cx.2.2.2.2.2.2.1 h_c0) (vinl (by decide)) ?_
            obtain ⟨b15, h⟩ := ob_some h
            refine wa_iast cx dX10_worthItem_101 (kq10_11 cx.2.2.2.2.2.2.1 h_c0) b15 ?_
            replace h := sq_eq h
            generalize (pI S8 (c0 + 11) (Int32.toNatClampNeg (((3 : Int32) * x13) + (S8.1 (c0 + 10) (Int32.toNatClampNeg x13)))) (S8.1 (c0 + 17) (Int32.toNatClampNeg (1 : Int32)))) = S16 at h ⊢
            refine wa_aload_n cx (i := 0) dX10_worthItem_102 rfl rfl ?_
            refine gf_X10_43 cx h_c0 dX10_worthItem_103 ?_
            refine wa_iconst cx dX10_worthItem_106 (3 : Int32) (by decide) ?_
            refine wa_iload_n cx (i := 1) dX10_worthItem_107 rfl rfl ?_
            refine wa_imul cx dX10_worthItem_108 ?_
            refine wa_aload_n cx (i := 0) dX10_worthItem_109 rfl rfl ?_
            refine gf_X10_37 cx h_c0 dX10_worthItem_110 ?_
            refine wa_iload_n cx (i := 1) dX10_worthItem_113 rfl rfl ?_
            obtain ⟨b17, h⟩ := ob_some h
            refine wa_iald cx dX10_worthItem_114 (kq10_10 cx.2.2.2.2.2.2.1 h_c0) b17 ?_
            refine wa_iadd cx dX10_worthItem_115 ?_
            refine wa_aload_n cx (i := 0) dX10_worthItem_116 rfl rfl ?_
            refine gf_X10_58 cx h_c0 dX10_worthItem_117 ?_
            refine wa_iconst cx dX10_worthItem_120 (2 : Int32) (by decide) ?_
            refine wa_iald cx dX10_worthItem_121 (kq10_26 cx.2.2.2.2.2.2.1 h_c0) (vinl (by decide)) ?_
            obtain ⟨b18, h⟩ := ob_some h
            refine wa_iast cx dX10_worthItem_122 (kq10_12 cx.2.2.2.2.2.2.1 h_c0) b18 ?_
            replace h := sq_eq h
            generalize (pI S16 (c0 + 12) (Int32.toNatClampNeg (((3 : Int32) * x13) + (S16.1 (c0 + 10) (Int32.toNatClampNeg x13)))) (S16.1 (c0 + 17) (Int32.toNatClampNeg (2 : Int32)))) = S19 at h ⊢
            refine wa_aload_n cx (i := 0) dX10_worthItem_123 rfl rfl ?_
            refine gf_X10_37 cx h_c0 dX10_worthItem_124 ?_
            refine wa_iload_n cx (i := 1) dX10_worthItem_127 rfl rfl ?_
            refine wa_dup2 cx dX10_worthItem_128 rfl rfl ?_
            obtain ⟨b20, h⟩ := ob_some h
            refine wa_iald cx dX10_worthItem_129 (kq10_10 cx.2.2.2.2.2.2.1 h_c0) b20 ?_
            refine wa_iconst cx dX10_worthItem_130 (1 : Int32) (by decide) ?_
            refine wa_iadd cx dX10_worthItem_131 ?_
            obtain ⟨b21, h⟩ := ob_some h
            refine wa_iast cx dX10_worthItem_132 (kq10_10 cx.2.2.2.2.2.2.1 h_c0) b21 ?_
            replace h := sq_eq h
            generalize (pI S19 (c0 + 10) (Int32.toNatClampNeg x13) ((S19.1 (c0 + 10) (Int32.toNatClampNeg x13)) + (1 : Int32))) = S22 at h ⊢
            refine wa_iconst cx dX10_worthItem_133 (1 : Int32) (by decide) ?_
            exact wa_zret cx (by decide) h dX10_worthItem_134
          · rw [if_pos q12] at h
            refine wa_iconst cx dX10_worthItem_69 (0 : Int32) (by decide) ?_
            exact wa_zret cx (by decide) h dX10_worthItem_70
def rm_X10_item : Room := { frames := 3, cells := 0, slots := 0, locals := 75 }
def f_X10_item (c0 : Nat) (S : St) : Option (Int32 × St) := bd (f_X10_byteAt c0 (S.1 c0 25) S) fun x1 S2 => sq (pI S2 c0 25 ((S2.1 c0 25) + (1 : Int32))) fun S4 => if x1 = (98 : Int32) then bd (f_X10_numberItem c0 (0 : Int32) (2 : Int32) (1 : Int32) (60 : Int32) (8 : Int32) S4) fun x6 S7 => ck (x6 = 0 ∨ x6 = 1) (some (x6, S7)) else if x1 = (99 : Int32) then bd (f_X10_numberItem c0 (3 : Int32) (1 : Int32) (0 : Int32) (199 : Int32) (0 : Int32) S4) fun x11 S12 => ck (x11 = 0 ∨ x11 = 1) (some (x11, S12)) else if x1 = (100 : Int32) then bd (f_X10_numberItem c0 (2 : Int32) (1 : Int32) (0 : Int32) (30 : Int32) (0 : Int32) S4) fun x16 S17 => ck (x16 = 0 ∨ x16 = 1) (some (x16, S17)) else if x1 = (101 : Int32) then bd (f_X10_numberItem c0 (5 : Int32) (2 : Int32) (0 : Int32) (9 : Int32) (30 : Int32) S4) fun x21 S22 => ck (x21 = 0 ∨ x21 = 1) (some (x21, S22)) else if x1 = (103 : Int32) then bd (f_X10_sortItem c0 S4) fun x26 S27 => ck (x26 = 0 ∨ x26 = 1) (some (x26, S27)) else if x1 = (111 : Int32) then bd (f_X10_numberItem c0 (7 : Int32) (1 : Int32) (0 : Int32) (1 : Int32) (0 : Int32) S4) fun x31 S32 => ck (x31 = 0 ∨ x31 = 1) (some (x31, S32)) else if x1 = (112 : Int32) then bd (f_X10_numberItem c0 (4 : Int32) (1 : Int32) (0 : Int32) (9 : Int32) (0 : Int32) S4) fun x36 S37 => ck (x36 = 0 ∨ x36 = 1) (some (x36, S37)) else if x1 = (115 : Int32) then bd (f_X10_numberItem c0 (8 : Int32) (2 : Int32) (1 : Int32) (60 : Int32) (99 : Int32) S4) fun x41 S42 => ck (x41 = 0 ∨ x41 = 1) (some (x41, S42)) else if x1 = (116 : Int32) then bd (f_X10_figures c0 (2 : Int32) S4) fun x46 S47 => if x46 = 0 then some ((0 : Int32), S47) else if (S47.1 (c0 + 3) (Int32.toNatClampNeg (1 : Int32))) ≤ (S47.1 (c0 + 17) (Int32.toNatClampNeg (0 : Int32))) then some ((0 : Int32), S47) else if (S47.1 (c0 + 17) (Int32.toNatClampNeg (1 : Int32))) ≤ (30 : Int32) then ob ((6 : Int32) + (S47.1 (c0 + 17) (Int32.toNatClampNeg (0 : Int32)))) 12 (sq (pI S47 (c0 + 9) (Int32.toNatClampNeg ((6 : Int32) + (S47.1 (c0 + 17) (Int32.toNatClampNeg (0 : Int32))))) (S47.1 (c0 + 17) (Int32.toNatClampNeg (1 : Int32)))) fun S53 => some ((1 : Int32), S53)) else some ((0 : Int32), S47) else if x1 = (119 : Int32) then bd (f_X10_worthItem c0 S4) fun x55 S56 => ck (x55 = 0 ∨ x55 = 1) (some (x55, S56)) else some ((0 : Int32), S4)
set_option maxHeartbeats 4000000 in
set_option maxRecDepth 100000 in
theorem m_X10_item (l : Launch) {g : Gl} (hg : GOK g) {c0 : Nat} {S : St} {r : Int32 × St} (h_c0 : kd g c0 = 10) (h : f_X10_item c0 S = some r) : MW l yX10_item cX10_item 2 (some .boolean) rm_X10_item g S [.ref (ad g c0)] (QWi g r) := by
  refine startW [(0, .ref (ad g c0))] (by decide +kernel) (Nat.le_of_ble_eq_true rfl) rfl hg (fun p e s m args below meth c cx => ?_)
  have cx : Cx p s m args meth c cX10_item 2 (some .boolean) RX10 g (Ap g) := cx
  rw [f_X10_item] at h
  refine wa_aload_n cx (i := 0) dX10_item_0 rfl rfl ?_
  refine wa_aload_n cx (i := 0) dX10_item_1 rfl rfl ?_
  refine gf_X10_105 cx h_c0 dX10_item_2 ?_
  obtain ⟨x1, S2, e3, h⟩ := bd_some h
  refine wa_callVi cx (m_X10_byteAt l cx.2.2.2.2.2.2.1 h_c0 e3) vl_X10_108 h_c0 (by decide) rfl rfl ⟨_, cell_eq10 (kd_lt h_c0 (by decide)).2⟩ ⟨Nat.le_of_ble_eq_true rfl, Nat.le_of_ble_eq_true rfl⟩ ⟨rfl, rfl⟩ ⟨Nat.zero_le _, Nat.zero_le _⟩ rfl (Nat.le_of_ble_eq_true rfl) dX10_item_5 rfl ?_
  refine wa_istore_n cx (i := 1) dX10_item_8 [(0, .ref (ad g c0)), (1, .int x1)] rfl (Nat.le_of_ble_eq_true rfl) rfl (lvs_c rfl (lvs_c rfl (lvs_n))) ?_
  refine wa_aload_n cx (i := 0) dX10_item_9 rfl rfl ?_
  refine wa_dup cx dX10_item_10 rfl ?_
  refine gf_X10_105 cx h_c0 dX10_item_11 ?_
  refine wa_iconst cx dX10_item_14 (1 : Int32) (by decide) ?_
  refine wa_iadd cx dX10_item_15 ?_
  refine pf_X10_105 cx h_c0 dX10_item_16 ?_
  replace h := sq_eq h
  generalize (pI S2 c0 25 ((S2.1 c0 25) + (1 : Int32))) = S4 at h ⊢
  refine wa_iload_n cx (i := 1) dX10_item_19 rfl rfl ?_
  by_cases q5 : x1 = (98 : Int32)
  · rw [if_pos q5] at h
    refine wa_tabIn cx dX10_item_20 124 (by rw [q5]; decide) (by rw [q5]; decide) (by rw [q5] <;> rfl) (by decide) ?_
    refine wa_aload_n cx (i := 0) dX10_item_124 rfl rfl ?_
    refine wa_iconst cx dX10_item_125 (0 : Int32) (by decide) ?_
    refine wa_iconst cx dX10_item_126 (2 : Int32) (by decide) ?_
    refine wa_iconst cx dX10_item_127 (1 : Int32) (by decide) ?_
    refine wa_bipush cx dX10_item_128 (60 : Int32) (by decide) ?_
    refine wa_bipush cx dX10_item_130 (8 : Int32) (by decide) ?_
    obtain ⟨x6, S7, e8, h⟩ := bd_some h
    refine wa_callVi cx (m_X10_numberItem l cx.2.2.2.2.2.2.1 h_c0 e8) vl_X10_128 h_c0 (by decide) rfl rfl ⟨_, cell_eq10 (kd_lt h_c0 (by decide)).2⟩ ⟨Nat.le_of_ble_eq_true rfl, Nat.le_of_ble_eq_true rfl⟩ ⟨rfl, rfl⟩ ⟨Nat.zero_le _, Nat.zero_le _⟩ rfl (Nat.le_of_ble_eq_true rfl) dX10_item_132 rfl ?_
    obtain ⟨b9, h⟩ := ck_some h
    exact wa_zret cx b9 h dX10_item_135
  rw [if_neg q5] at h
  by_cases q10 : x1 = (99 : Int32)
  · rw [if_pos q10] at h
    refine wa_tabIn cx dX10_item_20 147 (by rw [q10]; decide) (by rw [q10]; decide) (by rw [q10] <;> rfl) (by decide) ?_
    refine wa_aload_n cx (i := 0) dX10_item_147 rfl rfl ?_
    refine wa_iconst cx dX10_item_148 (3 : Int32) (by decide) ?_
    refine wa_iconst cx dX10_item_149 (1 : Int32) (by decide) ?_
    refine wa_iconst cx dX10_item_150 (0 : Int32) (by decide) ?_
    refine wa_sipush cx dX10_item_151 (199 : Int32) (by decide) ?_
    refine wa_iconst cx dX10_item_154 (0 : Int32) (by decide) ?_
    obtain ⟨x11, S12, e13, h⟩ := bd_some h
    refine wa_callVi cx (m_X10_numberItem l cx.2.2.2.2.2.2.1 h_c0 e13) vl_X10_128 h_c0 (by decide) rfl rfl ⟨_, cell_eq10 (kd_lt h_c0 (by decide)).2⟩ ⟨Nat.le_of_ble_eq_true rfl, Nat.le_of_ble_eq_true rfl⟩ ⟨rfl, rfl⟩ ⟨Nat.zero_le _, Nat.zero_le _⟩ rfl (Nat.le_of_ble_eq_true rfl) dX10_item_155 rfl ?_
    obtain ⟨b14, h⟩ := ck_some h
    exact wa_zret cx b14 h dX10_item_158
  rw [if_neg q10] at h
  by_cases q15 : x1 = (100 : Int32)
  · rw [if_pos q15] at h
    refine wa_tabIn cx dX10_item_20 136 (by rw [q15]; decide) (by rw [q15]; decide) (by rw [q15] <;> rfl) (by decide) ?_
    refine wa_aload_n cx (i := 0) dX10_item_136 rfl rfl ?_
    refine wa_iconst cx dX10_item_137 (2 : Int32) (by decide) ?_
    refine wa_iconst cx dX10_item_138 (1 : Int32) (by decide) ?_
    refine wa_iconst cx dX10_item_139 (0 : Int32) (by decide) ?_
    refine wa_bipush cx dX10_item_140 (30 : Int32) (by decide) ?_
    refine wa_iconst cx dX10_item_142 (0 : Int32) (by decide) ?_
    obtain ⟨x16, S17, e18, h⟩ := bd_some h
    refine wa_callVi cx (m_X10_numberItem l cx.2.2.2.2.2.2.1 h_c0 e18) vl_X10_128 h_c0 (by decide) rfl rfl ⟨_, cell_eq10 (kd_lt h_c0 (by decide)).2⟩ ⟨Nat.le_of_ble_eq_true rfl, Nat.le_of_ble_eq_true rfl⟩ ⟨rfl, rfl⟩ ⟨Nat.zero_le _, Nat.zero_le _⟩ rfl (Nat.le_of_ble_eq_true rfl) dX10_item_143 rfl ?_
    obtain ⟨b19, h⟩ := ck_some h
    exact wa_zret cx b19 h dX10_item_146
  rw [if_neg q15] at h
  by_cases q20 : x1 = (101 : Int32)
  · rw [if_pos q20] at h
    refine wa_tabIn cx dX10_item_20 170 (by rw [q20]; decide) (by rw [q20]; decide) (by rw [q20] <;> rfl) (by decide) ?_
    refine wa_aload_n cx (i := 0) dX10_item_170 rfl rfl ?_
    refine wa_iconst cx dX10_item_171 (5 : Int32) (by decide) ?_
    refine wa_iconst cx dX10_item_172 (2 : Int32) (by decide) ?_
    refine wa_iconst cx dX10_item_173 (0 : Int32) (by decide) ?_
    refine wa_bipush cx dX10_item_174 (9 : Int32) (by decide) ?_
    refine wa_bipush cx dX10_item_176 (30 : Int32) (by decide) ?_
    obtain ⟨x21, S22, e23, h⟩ := bd_some h
    refine wa_callVi cx (m_X10_numberItem l cx.2.2.2.2.2.2.1 h_c0 e23) vl_X10_128 h_c0 (by decide) rfl rfl ⟨_, cell_eq10 (kd_lt h_c0 (by decide)).2⟩ ⟨Nat.le_of_ble_eq_true rfl, Nat.le_of_ble_eq_true rfl⟩ ⟨rfl, rfl⟩ ⟨Nat.zero_le _, Nat.zero_le _⟩ rfl (Nat.le_of_ble_eq_true rfl) dX10_item_178 rfl ?_
    obtain ⟨b24, h⟩ := ck_some h
    exact wa_zret cx b24 h dX10_item_181
  rw [if_neg q20] at h
  by_cases q25 : x1 = (103 : Int32)
  · rw [if_pos q25] at h
    refine wa_tabIn cx dX10_item_20 206 (by rw [q25]; decide) (by rw [q25]; decide) (by rw [q25] <;> rfl) (by decide) ?_
    refine wa_aload_n cx (i := 0) dX10_item_206 rfl rfl ?_
    obtain ⟨x26, S27, e28, h⟩ := bd_some h
    refine wa_callVi cx (m_X10_sortItem l cx.2.2.2.2.2.2.1 h_c0 e28) vl_X10_132 h_c0 (by decide) rfl rfl ⟨_, cell_eq10 (kd_lt h_c0 (by decide)).2⟩ ⟨Nat.le_of_ble_eq_true rfl, Nat.le_of_ble_eq_true rfl⟩ ⟨rfl, rfl⟩ ⟨Nat.zero_le _, Nat.zero_le _⟩ rfl (Nat.le_of_ble_eq_true rfl) dX10_item_207 rfl ?_
    obtain ⟨b29, h⟩ := ck_some h
    exact wa_zret cx b29 h dX10_item_210
  rw [if_neg q25] at h
  by_cases q30 : x1 = (111 : Int32)
  · rw [if_pos q30] at h
    refine wa_tabIn cx dX10_item_20 182 (by rw [q30]; decide) (by rw [q30]; decide) (by rw [q30] <;> rfl) (by decide) ?_
    refine wa_aload_n cx (i := 0) dX10_item_182 rfl rfl ?_
    refine wa_bipush cx dX10_item_183 (7 : Int32) (by decide) ?_
    refine wa_iconst cx dX10_item_185 (1 : Int32) (by decide) ?_
    refine wa_iconst cx dX10_item_186 (0 : Int32) (by decide) ?_
    refine wa_iconst cx dX10_item_187 (1 : Int32) (by decide) ?_
    refine wa_iconst cx dX10_item_188 (0 : Int32) (by decide) ?_
    obtain ⟨x31, S32, e33, h⟩ := bd_some h
    refine wa_callVi cx (m_X10_numberItem l cx.2.2.2.2.2.2.1 h_c0 e33) vl_X10_128 h_c0 (by decide) rfl rfl ⟨_, cell_eq10 (kd_lt h_c0 (by decide)).2⟩ ⟨Nat.le_of_ble_eq_true rfl, Nat.le_of_ble_eq_true rfl⟩ ⟨rfl, rfl⟩ ⟨Nat.zero_le _, Nat.zero_le _⟩ rfl (Nat.le_of_ble_eq_true rfl) dX10_item_189 rfl ?_
    obtain ⟨b34, h⟩ := ck_some h
    exact wa_zret cx b34 h dX10_item_192
  rw [if_neg q30] at h
  by_cases q35 : x1 = (112 : Int32)
  · rw [if_pos q35] at h
    refine wa_tabIn cx dX10_item_20 159 (by rw [q35]; decide) (by rw [q35]; decide) (by rw [q35] <;> rfl) (by decide) ?_
    refine wa_aload_n cx (i := 0) dX10_item_159 rfl rfl ?_
    refine wa_iconst cx dX10_item_160 (4 : Int32) (by decide) ?_
    refine wa_iconst cx dX10_item_161 (1 : Int32) (by decide) ?_
    refine wa_iconst cx dX10_item_162 (0 : Int32) (by decide) ?_
    refine wa_bipush cx dX10_item_163 (9 : Int32) (by decide) ?_
    refine wa_iconst cx dX10_item_165 (0 : Int32) (by decide) ?_
    obtain ⟨x36, S37, e38, h⟩ := bd_some h
    refine wa_callVi cx (m_X10_numberItem l cx.2.2.2.2.2.2.1 h_c0 e38) vl_X10_128 h_c0 (by decide) rfl rfl ⟨_, cell_eq10 (kd_lt h_c0 (by decide)).2⟩ ⟨Nat.le_of_ble_eq_true rfl, Nat.le_of_ble_eq_true rfl⟩ ⟨rfl, rfl⟩ ⟨Nat.zero_le _, Nat.zero_le _⟩ rfl (Nat.le_of_ble_eq_true rfl) dX10_item_166 rfl ?_
    obtain ⟨b39, h⟩ := ck_some h
    exact wa_zret cx b39 h dX10_item_169
  rw [if_neg q35] at h
  by_cases q40 : x1 = (115 : Int32)
  · rw [if_pos q40] at h
    refine wa_tabIn cx dX10_item_20 193 (by rw [q40]; decide) (by rw [q40]; decide) (by rw [q40] <;> rfl) (by decide) ?_
    refine wa_aload_n cx (i := 0) dX10_item_193 rfl rfl ?_
    refine wa_bipush cx dX10_item_194 (8 : Int32) (by decide) ?_
    refine wa_iconst cx dX10_item_196 (2 : Int32) (by decide) ?_
    refine wa_iconst cx dX10_item_197 (1 : Int32) (by decide) ?_
    refine wa_bipush cx dX10_item_198 (60 : Int32) (by decide) ?_
    refine wa_bipush cx dX10_item_200 (99 : Int32) (by decide) ?_
    obtain ⟨x41, S42, e43, h⟩ := bd_some h
    refine wa_callVi cx (m_X10_numberItem l cx.2.2.2.2.2.2.1 h_c0 e43) vl_X10_128 h_c0 (by decide) rfl rfl ⟨_, cell_eq10 (kd_lt h_c0 (by decide)).2⟩ ⟨Nat.le_of_ble_eq_true rfl, Nat.le_of_ble_eq_true rfl⟩ ⟨rfl, rfl⟩ ⟨Nat.zero_le _, Nat.zero_le _⟩ rfl (Nat.le_of_ble_eq_true rfl) dX10_item_202 rfl ?_
    obtain ⟨b44, h⟩ := ck_some h
    exact wa_zret cx b44 h dX10_item_205
  rw [if_neg q40] at h
  by_cases q45 : x1 = (116 : Int32)
  · rw [if_pos q45] at h
    refine wa_tabIn cx dX10_item_20 216 (by rw [q45]; decide) (by rw [q45]; decide) (by rw [q45] <;> rfl) (by decide) ?_
    refine wa_aload_n cx (i := 0) dX10_item_216 rfl rfl ?_
    refine wa_iconst cx dX10_item_217 (2 : Int32) (by decide) ?_
    obtain ⟨x46, S47, e48, h⟩ := bd_some h
    refine wa_callVi cx (m_X10_figures l cx.2.2.2.2.2.2.1 h_c0 e48) vl_X10_118 h_c0 (by decide) rfl rfl ⟨_, cell_eq10 (kd_lt h_c0 (by decide)).2⟩ ⟨Nat.le_of_ble_eq_true rfl, Nat.le_of_ble_eq_true rfl⟩ ⟨rfl, rfl⟩ ⟨Nat.zero_le _, Nat.zero_le _⟩ rfl (Nat.le_of_ble_eq_true rfl) dX10_item_218 rfl ?_
    refine wa_if_eq cx dX10_item_221 250 (by decide) (fun q49 => ?_) (fun q49 => ?_)
    · rw [if_pos q49] at h
      refine wa_iconst cx dX10_item_250 (0 : Int32) (by decide) ?_
      exact wa_zret cx (by decide) h dX10_item_251
    · rw [if_neg q49] at h
      refine wa_aload_n cx (i := 0) dX10_item_224 rfl rfl ?_
      refine gf_X10_58 cx h_c0 dX10_item_225 ?_
      refine wa_iconst cx dX10_item_228 (0 : Int32) (by decide) ?_
      refine wa_iald cx dX10_item_229 (kq10_26 cx.2.2.2.2.2.2.1 h_c0) (vinl (by decide)) ?_
      refine wa_aload_n cx (i := 0) dX10_item_230 rfl rfl ?_
      refine gf_X10_16 cx h_c0 dX10_item_231 ?_
      refine wa_iconst cx dX10_item_234 (1 : Int32) (by decide) ?_
      refine wa_iald cx dX10_item_235 (kq10_3 cx.2.2.2.2.2.2.1 h_c0) (vinl (by decide)) ?_
      refine wa_icmp_ge cx dX10_item_236 250 (by decide) (fun q50 => ?_) (fun q50 => ?_)
      · rw [if_pos q50] at h
        refine wa_iconst cx dX10_item_250 (0 : Int32) (by decide) ?_
        exact wa_zret cx (by decide) h dX10_item_251
      · rw [if_neg q50] at h
        refine wa_aload_n cx (i := 0) dX10_item_239 rfl rfl ?_
        refine gf_X10_58 cx h_c0 dX10_item_240 ?_
        refine wa_iconst cx dX10_item_243 (1 : Int32) (by decide) ?_
        refine wa_iald cx dX10_item_244 (kq10_26 cx.2.2.2.2.2.2.1 h_c0) (vinl (by decide)) ?_
        refine wa_bipush cx dX10_item_245 (30 : Int32) (by decide) ?_
        refine wa_icmp_le cx dX10_item_247 252 (by decide) (fun q51 => ?_) (fun q51 => ?_)
        · rw [if_pos q51] at h
          refine wa_aload_n cx (i := 0) dX10_item_252 rfl rfl ?_
          refine gf_X10_34 cx h_c0 dX10_item_253 ?_
          refine wa_bipush cx dX10_item_256 (6 : Int32) (by decide) ?_
          refine wa_aload_n cx (i := 0) dX10_item_258 rfl rfl ?_
          refine gf_X10_58 cx h_c0 dX10_item_259 ?_
          refine wa_iconst cx dX10_item_262 (0 : Int32) (by decide) ?_
          refine wa_iald cx dX10_item_263 (kq10_26 cx.2.2.2.2.2.2.1 h_c0) (vinl (by decide)) ?_
          refine wa_iadd cx dX10_item_264 ?_
          refine wa_aload_n cx (i := 0) dX10_item_265 rfl rfl ?_
          refine gf_X10_58 cx h_c0 dX10_item_266 ?_
          refine wa_iconst cx dX10_item_269 (1 : Int32) (by decide) ?_
          refine wa_iald cx dX10_item_270 (kq10_26 cx.2.2.2.2.2.2.1 h_c0) (vinl (by decide)) ?_
          obtain ⟨b52, h⟩ := ob_some h
          refine wa_iast cx dX10_item_271 (kq10_9 cx.2.2.2.2.2.2.1 h_c0) b52 ?_
          replace h := sq_eq h
          generalize (pI S47 (c0 + 9) (Int32.toNatClampNeg ((6 : Int32) + (S47.1 (c0 + 17) (Int32.toNatClampNeg (0 : Int32))))) (S47.1 (c0 + 17) (Int32.toNatClampNeg (1 : Int32)))) = S53 at h ⊢
          refine wa_iconst cx dX10_item_272 (1 : Int32) (by decide) ?_
          exact wa_zret cx (by decide) h dX10_item_273
        · rw [if_neg q51] at h
          refine wa_iconst cx dX10_item_250 (0 : Int32) (by decide) ?_
          exact wa_zret cx (by decide) h dX10_item_251
  rw [if_neg q45] at h
  by_cases q54 : x1 = (119 : Int32)
  · rw [if_pos q54] at h
    refine wa_tabIn cx dX10_item_20 211 (by rw [q54]; decide) (by rw [q54]; decide) (by rw [q54] <;> rfl) (by decide) ?_
    refine wa_aload_n cx (i := 0) dX10_item_211 rfl rfl ?_
    obtain ⟨x55, S56, e57, h⟩ := bd_some h
    refine wa_callVi cx (m_X10_worthItem l cx.2.2.2.2.2.2.1 h_c0 e57) vl_X10_136 h_c0 (by decide) rfl rfl ⟨_, cell_eq10 (kd_lt h_c0 (by decide)).2⟩ ⟨Nat.le_of_ble_eq_true rfl, Nat.le_of_ble_eq_true rfl⟩ ⟨rfl, rfl⟩ ⟨Nat.zero_le _, Nat.zero_le _⟩ rfl (Nat.le_of_ble_eq_true rfl) dX10_item_212 rfl ?_
    obtain ⟨b58, h⟩ := ck_some h
    exact wa_zret cx b58 h dX10_item_215
  rw [if_neg q54] at h
  refine wa_tabDef cx dX10_item_20 274 [98, 99, 100, 101, 103, 111, 112, 115, 116, 119] (by decide) (by decide) (show allne _ _ from ⟨ne_toInt q5, ne_toInt q10, ne_toInt q15, ne_toInt q20, ne_toInt q25, ne_toInt q30, ne_toInt q35, ne_toInt q40, ne_toInt q45, ne_toInt q54, trivial⟩) (by decide) ?_
  refine wa_iconst cx dX10_item_274 (0 : Int32) (by decide) ?_
  exact wa_zret cx (by decide) h dX10_item_275
def rm_X10_areWhole : Room := { frames := 0, cells := 0, slots := 0, locals := 0 }
def f_X10_areWhole_L23 : Nat → Nat → (Int32 → Int32 → St → Option (Int32 × St)) → Int32 → Int32 → Int32 → Int32 → St → Option (Int32 × St)
  | 0, _, _, _, _, _, _, _ => none
  | n + 1, c0, kb5, l1, l2, l3, l4, S => ob l2 12 (if (S.1 (c0 + 10) (Int32.toNatClampNeg l2)) ≤ l4 then if l1 = 0 then kb5 (0 : Int32) (l2 + (1 : Int32)) S else if l3 = (10 : Int32) then kb5 (1 : Int32) (l2 + (1 : Int32)) S else kb5 (0 : Int32) (l2 + (1 : Int32)) S else ob (((3 : Int32) * l2) + l4) 36 (sq (l3 + (S.1 (c0 + 12) (Int32.toNatClampNeg (((3 : Int32) * l2) + l4)))) fun x6 => f_X10_areWhole_L23 n c0 kb5 l1 l2 x6 (l4 + (1 : Int32)) S))
set_option maxHeartbeats 4000000 in
set_option maxRecDepth 100000 in
theorem w_X10_areWhole_L23 {p : Program} {l : Launch} {e : Env} {s : State} {m : MethodId} {args : Array Value} {below : List Frame} {meth : Method} {c : Code} {g : Gl} {r : Int32 × St} {c0 : Nat} {kb5 : Int32 → Int32 → St → Option (Int32 × St)} (cx : Cx p s m args meth c cX10_areWhole 5 (some .boolean) RX10 g (Ap g)) (h_c0 : kd g c0 = 10) (hkb5 : ∀ (l1 : Int32) (l2 : Int32) (S : St), kb5 l1 l2 S = some r → WA p l e rm_X10_areWhole s m args below meth c 0 0 (MQ below (QWi g r) args s 0 0 (Ap g)) 5 g (Ap g) S 5 [(0, .ref (ad g c0)), (1, .int l1), (2, .int l2)] []) : ∀ n : Nat, ∀ (l1 : Int32) (l2 : Int32) (l3 : Int32) (l4 : Int32) (S : St), f_X10_areWhole_L23 n c0 kb5 l1 l2 l3 l4 S = some r → WA p l e rm_X10_areWhole s m args below meth c 0 0 (MQ below (QWi g r) args s 0 0 (Ap g)) 5 g (Ap g) S 23 [(0, .ref (ad g c0)), (1, .int l1), (2, .int l2), (3, .int l3), (4, .int l4)] [] := by
  intro n
  induction n with
  | zero => intro l1 l2 l3 l4 S h; rw [f_X10_areWhole_L23] at h; cases h
  | succ n ih =>
    intro l1 l2 l3 l4 S h
    rw [f_X10_areWhole_L23] at h
    refine wa_iload cx dX10_areWhole_23 rfl ?_
    refine wa_aload_n cx (i := 0) dX10_areWhole_25 rfl rfl ?_
    refine gf_X10_37 cx h_c0 dX10_areWhole_26 ?_
    refine wa_iload_n cx (i := 2) dX10_areWhole_29 rfl rfl ?_
    obtain ⟨b1, h⟩ := ob_some h
    refine wa_iald cx dX10_areWhole_30 (kq10_10 cx.2.2.2.2.2.2.1 h_c0) b1 ?_
    refine wa_icmp_ge cx dX10_areWhole_31 54 (by decide) (fun q2 => ?_) (fun q2 => ?_)
    · rw [if_pos q2] at h
      refine wa_iload_n cx (i := 1) dX10_areWhole_54 rfl rfl ?_
      refine wa_if_eq cx dX10_areWhole_55 68 (by decide) (fun q3 => ?_) (fun q3 => ?_)
      · rw [if_pos q3] at h
        refine wa_iconst cx dX10_areWhole_68 (0 : Int32) (by decide) ?_
        refine wa_istore_n cx (i := 1) dX10_areWhole_69 [(0, .ref (ad g c0)), (1, .int (0 : Int32)), (2, .int l2)] rfl (Nat.le_of_ble_eq_true rfl) rfl (lvs_c rfl (lvs_c rfl (lvs_c rfl (lvs_n)))) ?_
        refine wa_iinc cx dX10_areWhole_70 (l2 + (1 : Int32)) [(0, .ref (ad g c0)), (1, .int (0 : Int32)), (2, .int (l2 + (1 : Int32)))] rfl rfl (Nat.le_of_ble_eq_true rfl) rfl (lvs_c rfl (lvs_c rfl (lvs_c rfl (lvs_n)))) ?_
        refine wa_goto cx dX10_areWhole_73 5 (by decide) ?_
        refine wa_sub (lv' := [(0, .ref (ad g c0)), (1, .int (0 : Int32)), (2, .int (l2 + (1 : Int32)))]) (lvs_c rfl (lvs_c rfl (lvs_c rfl (lvs_n)))) ?_
        exact hkb5 (0 : Int32) (l2 + (1 : Int32)) S  h
      · rw [if_neg q3] at h
        refine wa_iload_n cx (i := 3) dX10_areWhole_58 rfl rfl ?_
        refine wa_bipush cx dX10_areWhole_59 (10 : Int32) (by decide) ?_
        refine wa_icmp_ne cx dX10_areWhole_61 68 (by decide) (fun q4 => ?_) (fun q4 => ?_)
        · rw [if_neg q4] at h
          refine wa_iconst cx dX10_areWhole_68 (0 : Int32) (by decide) ?_
          refine wa_istore_n cx (i := 1) dX10_areWhole_69 [(0, .ref (ad g c0)), (1, .int (0 : Int32)), (2, .int l2)] rfl (Nat.le_of_ble_eq_true rfl) rfl (lvs_c rfl (lvs_c rfl (lvs_c rfl (lvs_n)))) ?_
          refine wa_iinc cx dX10_areWhole_70 (l2 + (1 : Int32)) [(0, .ref (ad g c0)), (1, .int (0 : Int32)), (2, .int (l2 + (1 : Int32)))] rfl rfl (Nat.le_of_ble_eq_true rfl) rfl (lvs_c rfl (lvs_c rfl (lvs_c rfl (lvs_n)))) ?_
          refine wa_goto cx dX10_areWhole_73 5 (by decide) ?_
          refine wa_sub (lv' := [(0, .ref (ad g c0)), (1, .int (0 : Int32)), (2, .int (l2 + (1 : Int32)))]) (lvs_c rfl (lvs_c rfl (lvs_c rfl (lvs_n)))) ?_
          exact hkb5 (0 : Int32) (l2 + (1 : Int32)) S  h
        · rw [if_pos q4] at h
          refine wa_iconst cx dX10_areWhole_64 (1 : Int32) (by decide) ?_
          refine wa_goto cx dX10_areWhole_65 69 (by decide) ?_
          refine wa_istore_n cx (i := 1) dX10_areWhole_69 [(0, .ref (ad g c0)), (1, .int (1 : Int32)), (2, .int l2)] rfl (Nat.le_of_ble_eq_true rfl) rfl (lvs_c rfl (lvs_c rfl (lvs_c rfl (lvs_n)))) ?_
          refine wa_iinc cx dX10_areWhole_70 (l2 + (1 : Int32)) [(0, .ref (ad g c0)), (1, .int (1 : Int32)), (2, .int (l2 + (1 : Int32)))] rfl rfl (Nat.le_of_ble_eq_true rfl) rfl (lvs_c rfl (lvs_c rfl (lvs_c rfl (lvs_n)))) ?_
          refine wa_goto cx dX10_areWhole_73 5 (by decide) ?_
          refine wa_sub (lv' := [(0, .ref (ad g c0)), (1, .int (1 : Int32)), (2, .int (l2 + (1 : Int32)))]) (lvs_c rfl (lvs_c rfl (lvs_c rfl (lvs_n)))) ?_
          exact hkb5 (1 : Int32) (l2 + (1 : Int32)) S  h
    · rw [if_neg q2] at h
      refine wa_iload_n cx (i := 3) dX10_areWhole_34 rfl rfl ?_
      refine wa_aload_n cx (i := 0) dX10_areWhole_35 rfl rfl ?_
      refine gf_X10_43 cx h_c0 dX10_areWhole_36 ?_
      refine wa_iconst cx dX10_areWhole_39 (3 : Int32) (by decide) ?_
      refine wa_iload_n cx (i := 2) dX10_areWhole_40 rfl rfl ?_
      refine wa_imul cx dX10_areWhole_41 ?_
      refine wa_iload cx dX10_areWhole_42 rfl ?_
      refine wa_iadd cx dX10_areWhole_44 ?_
      obtain ⟨b5, h⟩ := ob_some h
      refine wa_iald cx dX10_areWhole_45 (kq10_12 cx.2.2.2.2.2.2.1 h_c0) b5 ?_
      refine wa_iadd cx dX10_areWhole_46 ?_
      replace h := sq_eq h
      generalize (l3 + (S.1 (c0 + 12) (Int32.toNatClampNeg (((3 : Int32) * l2) + l4)))) = x6 at h ⊢
      refine wa_istore_n cx (i := 3) dX10_areWhole_47 [(0, .ref (ad g c0)), (1, .int l1), (2, .int l2), (3, .int x6), (4, .int l4)] rfl (Nat.le_of_ble_eq_true rfl) rfl (lvs_c rfl (lvs_c rfl (lvs_c rfl (lvs_c rfl (lvs_c rfl (lvs_n)))))) ?_
      refine wa_iinc cx dX10_areWhole_48 (l4 + (1 : Int32)) [(0, .ref (ad g c0)), (1, .int l1), (2, .int l2), (3, .int x6), (4, .int (l4 + (1 : Int32)))] rfl rfl (Nat.le_of_ble_eq_true rfl) rfl (lvs_c rfl (lvs_c rfl (lvs_c rfl (lvs_c rfl (lvs_c rfl (lvs_n)))))) ?_
      refine wa_goto cx dX10_areWhole_51 23 (by decide) ?_
      refine wa_sub (lv' := [(0, .ref (ad g c0)), (1, .int l1), (2, .int l2), (3, .int x6), (4, .int (l4 + (1 : Int32)))]) (lvs_c rfl (lvs_c rfl (lvs_c rfl (lvs_c rfl (lvs_c rfl (lvs_n)))))) ?_
      exact ih l1 l2 x6 (l4 + (1 : Int32)) S  h
def f_X10_areWhole_L5 : Nat → Nat → Int32 → Int32 → St → Option (Int32 × St)
  | 0, _, _, _, _ => none
  | n + 1, c0, l1, l2, S => if ((6 : Int32) + (S.1 (c0 + 3) (Int32.toNatClampNeg (1 : Int32)))) ≤ l2 then ck (l1 = 0 ∨ l1 = 1) (some (l1, S)) else f_X10_areWhole_L23 FU c0 (fun l1 l2 S => f_X10_areWhole_L5 n c0 l1 l2 S) l1 l2 (0 : Int32) (0 : Int32) S
set_option maxHeartbeats 4000000 in
set_option maxRecDepth 100000 in
theorem w_X10_areWhole_L5 {p : Program} {l : Launch} {e : Env} {s : State} {m : MethodId} {args : Array Value} {below : List Frame} {meth : Method} {c : Code} {g : Gl} {r : Int32 × St} {c0 : Nat} (cx : Cx p s m args meth c cX10_areWhole 5 (some .boolean) RX10 g (Ap g)) (h_c0 : kd g c0 = 10) : ∀ n : Nat, ∀ (l1 : Int32) (l2 : Int32) (S : St), f_X10_areWhole_L5 n c0 l1 l2 S = some r → WA p l e rm_X10_areWhole s m args below meth c 0 0 (MQ below (QWi g r) args s 0 0 (Ap g)) 5 g (Ap g) S 5 [(0, .ref (ad g c0)), (1, .int l1), (2, .int l2)] [] := by
  intro n
  induction n with
  | zero => intro l1 l2 S h; rw [f_X10_areWhole_L5] at h; cases h
  | succ n ih =>
    intro l1 l2 S h
    rw [f_X10_areWhole_L5] at h
    refine wa_iload_n cx (i := 2) dX10_areWhole_5 rfl rfl ?_
    refine wa_bipush cx dX10_areWhole_6 (6 : Int32) (by decide) ?_
    refine wa_aload_n cx (i := 0) dX10_areWhole_8 rfl rfl ?_
    refine gf_X10_16 cx h_c0 dX10_areWhole_9 ?_
    refine wa_iconst cx dX10_areWhole_12 (1 : Int32) (by decide) ?_
    refine wa_iald cx dX10_areWhole_13 (kq10_3 cx.2.2.2.2.2.2.1 h_c0) (vinl (by decide)) ?_
    refine wa_iadd cx dX10_areWhole_14 ?_
    refine wa_icmp_ge cx dX10_areWhole_15 76 (by decide) (fun q7 => ?_) (fun q7 => ?_)
    · rw [if_pos q7] at h
      refine wa_iload_n cx (i := 1) dX10_areWhole_76 rfl rfl ?_
      obtain ⟨b8, h⟩ := ck_some h
      exact wa_zret cx b8 h dX10_areWhole_77
    · rw [if_neg q7] at h
      refine wa_iconst cx dX10_areWhole_18 (0 : Int32) (by decide) ?_
      refine wa_istore_n cx (i := 3) dX10_areWhole_19 [(0, .ref (ad g c0)), (1, .int l1), (2, .int l2), (3, .int (0 : Int32))] rfl (Nat.le_of_ble_eq_true rfl) rfl (lvs_c rfl (lvs_c rfl (lvs_c rfl (lvs_c rfl (lvs_n))))) ?_
      refine wa_iconst cx dX10_areWhole_20 (0 : Int32) (by decide) ?_
      refine wa_istore cx dX10_areWhole_21 [(0, .ref (ad g c0)), (1, .int l1), (2, .int l2), (3, .int (0 : Int32)), (4, .int (0 : Int32))] (Nat.le_of_ble_eq_true rfl) rfl (lvs_c rfl (lvs_c rfl (lvs_c rfl (lvs_c rfl (lvs_c rfl (lvs_n)))))) ?_
      refine wa_sub (lv' := [(0, .ref (ad g c0)), (1, .int l1), (2, .int l2), (3, .int (0 : Int32)), (4, .int (0 : Int32))]) (lvs_c rfl (lvs_c rfl (lvs_c rfl (lvs_c rfl (lvs_c rfl (lvs_n)))))) ?_
      exact w_X10_areWhole_L23 cx h_c0 ih FU l1 l2 (0 : Int32) (0 : Int32) S  h
def f_X10_areWhole (c0 : Nat) (S : St) : Option (Int32 × St) := f_X10_areWhole_L5 FU c0 (1 : Int32) (6 : Int32) S
set_option maxHeartbeats 4000000 in
set_option maxRecDepth 100000 in
theorem m_X10_areWhole (l : Launch) {g : Gl} (hg : GOK g) {c0 : Nat} {S : St} {r : Int32 × St} (h_c0 : kd g c0 = 10) (h : f_X10_areWhole c0 S = some r) : MW l yX10_areWhole cX10_areWhole 5 (some .boolean) rm_X10_areWhole g S [.ref (ad g c0)] (QWi g r) := by
  refine startW [(0, .ref (ad g c0))] (by decide +kernel) (Nat.le_of_ble_eq_true rfl) rfl hg (fun p e s m args below meth c cx => ?_)
  have cx : Cx p s m args meth c cX10_areWhole 5 (some .boolean) RX10 g (Ap g) := cx
  rw [f_X10_areWhole] at h
  refine wa_iconst cx dX10_areWhole_0 (1 : Int32) (by decide) ?_
  refine wa_istore_n cx (i := 1) dX10_areWhole_1 [(0, .ref (ad g c0)), (1, .int (1 : Int32))] rfl (Nat.le_of_ble_eq_true rfl) rfl (lvs_c rfl (lvs_c rfl (lvs_n))) ?_
  refine wa_bipush cx dX10_areWhole_2 (6 : Int32) (by decide) ?_
  refine wa_istore_n cx (i := 2) dX10_areWhole_4 [(0, .ref (ad g c0)), (1, .int (1 : Int32)), (2, .int (6 : Int32))] rfl (Nat.le_of_ble_eq_true rfl) rfl (lvs_c rfl (lvs_c rfl (lvs_c rfl (lvs_n)))) ?_
  refine wa_sub (lv' := [(0, .ref (ad g c0)), (1, .int (1 : Int32)), (2, .int (6 : Int32))]) (lvs_c rfl (lvs_c rfl (lvs_c rfl (lvs_n)))) ?_
  exact w_X10_areWhole_L5 cx h_c0  FU (1 : Int32) (6 : Int32) S  h
def rm_X10_readAll : Room := { frames := 4, cells := 0, slots := 0, locals := 96 }
def f_X10_readAll_L10 : Nat → Nat → St → Option (Int32 × St)
  | 0, _, _ => none
  | n + 1, c0, S => if (S.1 c0 0) ≤ (S.1 c0 25) then bd (f_X10_areWhole c0 S) fun x2 S3 => if x2 = 0 then some ((S3.1 c0 0), S3) else some ((-4 : Int32), S3) else sq (S.1 c0 25) fun x6 => bd (f_X10_item c0 S) fun x7 S8 => if x7 = 0 then some (x6, S8) else f_X10_readAll_L10 n c0 S8
set_option maxHeartbeats 4000000 in
set_option maxRecDepth 100000 in
theorem w_X10_readAll_L10 {p : Program} {l : Launch} {e : Env} {s : State} {m : MethodId} {args : Array Value} {below : List Frame} {meth : Method} {c : Code} {g : Gl} {r : Int32 × St} {c0 : Nat} (cx : Cx p s m args meth c cX10_readAll 2 (some .int) RX10 g (Ap g)) (h_c0 : kd g c0 = 10) : ∀ n : Nat, ∀ (S : St), f_X10_readAll_L10 n c0 S = some r → WA p l e rm_X10_readAll s m args below meth c 0 0 (MQ below (QWi g r) args s 0 0 (Ap g)) 2 g (Ap g) S 10 [(0, .ref (ad g c0))] [] := by
  intro n
  induction n with
  | zero => intro S h; rw [f_X10_readAll_L10] at h; cases h
  | succ n ih =>
    intro S h
    rw [f_X10_readAll_L10] at h
    refine wa_aload_n cx (i := 0) dX10_readAll_10 rfl rfl ?_
    refine gf_X10_105 cx h_c0 dX10_readAll_11 ?_
    refine wa_aload_n cx (i := 0) dX10_readAll_14 rfl rfl ?_
    refine gf_X10_99 cx h_c0 dX10_readAll_15 ?_
    refine wa_icmp_ge cx dX10_readAll_18 38 (by decide) (fun q1 => ?_) (fun q1 => ?_)
    · rw [if_pos q1] at h
      refine wa_aload_n cx (i := 0) dX10_readAll_38 rfl rfl ?_
      obtain ⟨x2, S3, e4, h⟩ := bd_some h
      refine wa_callVi cx (m_X10_areWhole l cx.2.2.2.2.2.2.1 h_c0 e4) vl_X10_142 h_c0 (by decide) rfl rfl ⟨_, cell_eq10 (kd_lt h_c0 (by decide)).2⟩ ⟨Nat.le_of_ble_eq_true rfl, Nat.le_of_ble_eq_true rfl⟩ ⟨rfl, rfl⟩ ⟨Nat.zero_le _, Nat.zero_le _⟩ rfl (Nat.le_of_ble_eq_true rfl) dX10_readAll_39 rfl ?_
      refine wa_if_eq cx dX10_readAll_42 50 (by decide) (fun q5 => ?_) (fun q5 => ?_)
      · rw [if_pos q5] at h
        refine wa_aload_n cx (i := 0) dX10_readAll_50 rfl rfl ?_
        refine gf_X10_99 cx h_c0 dX10_readAll_51 ?_
        exact wa_iret cx h dX10_readAll_54
      · rw [if_neg q5] at h
        refine wa_bipush cx dX10_readAll_45 (-4 : Int32) (by decide) ?_
        refine wa_goto cx dX10_readAll_47 54 (by decide) ?_
        exact wa_iret cx h dX10_readAll_54
    · rw [if_neg q1] at h
      refine wa_aload_n cx (i := 0) dX10_readAll_21 rfl rfl ?_
      refine gf_X10_105 cx h_c0 dX10_readAll_22 ?_
      replace h := sq_eq h
      generalize (S.1 c0 25) = x6 at h ⊢
      refine wa_istore_n cx (i := 1) dX10_readAll_25 [(0, .ref (ad g c0)), (1, .int x6)] rfl (Nat.le_of_ble_eq_true rfl) rfl (lvs_c rfl (lvs_c rfl (lvs_n))) ?_
      refine wa_aload_n cx (i := 0) dX10_readAll_26 rfl rfl ?_
      obtain ⟨x7, S8, e9, h⟩ := bd_some h
      refine wa_callVi cx (m_X10_item l cx.2.2.2.2.2.2.1 h_c0 e9) vl_X10_139 h_c0 (by decide) rfl rfl ⟨_, cell_eq10 (kd_lt h_c0 (by decide)).2⟩ ⟨Nat.le_of_ble_eq_true rfl, Nat.le_of_ble_eq_true rfl⟩ ⟨rfl, rfl⟩ ⟨Nat.zero_le _, Nat.zero_le _⟩ rfl (Nat.le_of_ble_eq_true rfl) dX10_readAll_27 rfl ?_
      refine wa_if_ne cx dX10_readAll_30 35 (by decide) (fun q10 => ?_) (fun q10 => ?_)
      · rw [if_neg q10] at h
        refine wa_goto cx dX10_readAll_35 10 (by decide) ?_
        refine wa_sub (lv' := [(0, .ref (ad g c0))]) (lvs_c rfl (lvs_n)) ?_
        exact ih S8  h
      · rw [if_pos q10] at h
        refine wa_iload_n cx (i := 1) dX10_readAll_33 rfl rfl ?_
        exact wa_iret cx h dX10_readAll_34
def f_X10_readAll (c0 : Nat) (S : St) : Option (Int32 × St) := bd (f_X10_noBoard c0 (1 : Int32) S) fun _ S11 => sq (pI S11 c0 25 (0 : Int32)) fun S14 => f_X10_readAll_L10 FU c0 S14
set_option maxHeartbeats 4000000 in
set_option maxRecDepth 100000 in
theorem m_X10_readAll (l : Launch) {g : Gl} (hg : GOK g) {c0 : Nat} {S : St} {r : Int32 × St} (h_c0 : kd g c0 = 10) (h : f_X10_readAll c0 S = some r) : MW l yX10_readAll cX10_readAll 2 (some .int) rm_X10_readAll g S [.ref (ad g c0)] (QWi g r) := by
  refine startW [(0, .ref (ad g c0))] (by decide +kernel) (Nat.le_of_ble_eq_true rfl) rfl hg (fun p e s m args below meth c cx => ?_)
  have cx : Cx p s m args meth c cX10_readAll 2 (some .int) RX10 g (Ap g) := cx
  rw [f_X10_readAll] at h
  refine wa_aload_n cx (i := 0) dX10_readAll_0 rfl rfl ?_
  refine wa_iconst cx dX10_readAll_1 (1 : Int32) (by decide) ?_
  obtain ⟨u13, S11, e12, h⟩ := bd_some h
  refine wa_callVv cx (m_X10_noBoard l cx.2.2.2.2.2.2.1 h_c0 e12) vl_X10_86 h_c0 (by decide) rfl rfl ⟨_, cell_eq10 (kd_lt h_c0 (by decide)).2⟩ ⟨Nat.le_of_ble_eq_true rfl, Nat.le_of_ble_eq_true rfl⟩ ⟨rfl, rfl⟩ ⟨Nat.zero_le _, Nat.zero_le _⟩ rfl (Nat.le_of_ble_eq_true rfl) dX10_readAll_2 rfl ?_
  refine wa_aload_n cx (i := 0) dX10_readAll_5 rfl rfl ?_
  refine wa_iconst cx dX10_readAll_6 (0 : Int32) (by decide) ?_
  refine pf_X10_105 cx h_c0 dX10_readAll_7 ?_
  replace h := sq_eq h
  generalize (pI S11 c0 25 (0 : Int32)) = S14 at h ⊢
  refine wa_sub (lv' := [(0, .ref (ad g c0))]) (lvs_c rfl (lvs_n)) ?_
  exact w_X10_readAll_L10 cx h_c0  FU S14  h
def rm_X10_fault : Room := { frames := 5, cells := 0, slots := 0, locals := 117 }
def f_X10_fault (c0 : Nat) (S : St) : Option (Int32 × St) := bd (f_X10_readAll c0 S) fun x1 S2 => some (x1, S2)
set_option maxHeartbeats 4000000 in
set_option maxRecDepth 100000 in
theorem m_X10_fault (l : Launch) {g : Gl} (hg : GOK g) {c0 : Nat} {S : St} {r : Int32 × St} (h_c0 : kd g c0 = 10) (h : f_X10_fault c0 S = some r) : MW l yX10_fault cX10_fault 1 (some .int) rm_X10_fault g S [.ref (ad g c0)] (QWi g r) := by
  refine startW [(0, .ref (ad g c0))] (by decide +kernel) (Nat.le_of_ble_eq_true rfl) rfl hg (fun p e s m args below meth c cx => ?_)
  have cx : Cx p s m args meth c cX10_fault 1 (some .int) RX10 g (Ap g) := cx
  rw [f_X10_fault] at h
  refine wa_aload_n cx (i := 0) dX10_fault_0 rfl rfl ?_
  obtain ⟨x1, S2, e3, h⟩ := bd_some h
  refine wa_callVi cx (m_X10_readAll l cx.2.2.2.2.2.2.1 h_c0 e3) vl_X10_145 h_c0 (by decide) rfl rfl ⟨_, cell_eq10 (kd_lt h_c0 (by decide)).2⟩ ⟨Nat.le_of_ble_eq_true rfl, Nat.le_of_ble_eq_true rfl⟩ ⟨rfl, rfl⟩ ⟨Nat.zero_le _, Nat.zero_le _⟩ rfl (Nat.le_of_ble_eq_true rfl) dX10_fault_1 rfl ?_
  exact wa_iret cx h dX10_fault_4
def rm_X10_plain : Room := { frames := 0, cells := 0, slots := 0, locals := 0 }
def f_X10_plain (c0 : Nat) (S : St) : Option (Unit × St) := sq (pI S c0 19 (S.1 (c0 + 2) (Int32.toNatClampNeg (0 : Int32)))) fun S1 => sq (pI S1 c0 20 (S1.1 (c0 + 2) (Int32.toNatClampNeg (2 : Int32)))) fun S2 => sq (pI S2 c0 21 (S2.1 (c0 + 2) (Int32.toNatClampNeg (5 : Int32)))) fun S3 => sq (pI S3 c0 22 (S3.1 (c0 + 15) (Int32.toNatClampNeg (0 : Int32)))) fun S4 => sq (pI S4 c0 23 (0 : Int32)) fun S5 => sq (pI S5 c0 24 (-4 : Int32)) fun S6 => some ((), S6)
set_option maxHeartbeats 4000000 in
set_option maxRecDepth 100000 in
theorem m_X10_plain (l : Launch) {g : Gl} (hg : GOK g) {c0 : Nat} {S : St} {r : Unit × St} (h_c0 : kd g c0 = 10) (h : f_X10_plain c0 S = some r) : MW l yX10_plain cX10_plain 1 none rm_X10_plain g S [.ref (ad g c0)] (QWv g r) := by
  refine startW [(0, .ref (ad g c0))] (by decide +kernel) (Nat.le_of_ble_eq_true rfl) rfl hg (fun p e s m args below meth c cx => ?_)
  have cx : Cx p s m args meth c cX10_plain 1 none RX10 g (Ap g) := cx
  rw [f_X10_plain] at h
  refine wa_aload_n cx (i := 0) dX10_plain_0 rfl rfl ?_
  refine wa_aload_n cx (i := 0) dX10_plain_1 rfl rfl ?_
  refine gf_X10_13 cx h_c0 dX10_plain_2 ?_
  refine wa_iconst cx dX10_plain_5 (0 : Int32) (by decide) ?_
  refine wa_iald cx dX10_plain_6 (kq10_2 cx.2.2.2.2.2.2.1 h_c0) (vinl (by decide)) ?_
  refine pf_X10_154 cx h_c0 dX10_plain_7 ?_
  replace h := sq_eq h
  generalize (pI S c0 19 (S.1 (c0 + 2) (Int32.toNatClampNeg (0 : Int32)))) = S1 at h ⊢
  refine wa_aload_n cx (i := 0) dX10_plain_10 rfl rfl ?_
  refine wa_aload_n cx (i := 0) dX10_plain_11 rfl rfl ?_
  refine gf_X10_13 cx h_c0 dX10_plain_12 ?_
  refine wa_iconst cx dX10_plain_15 (2 : Int32) (by decide) ?_
  refine wa_iald cx dX10_plain_16 (kq10_2 cx.2.2.2.2.2.2.1 h_c0) (vinl (by decide)) ?_
  refine pf_X10_157 cx h_c0 dX10_plain_17 ?_
  replace h := sq_eq h
  generalize (pI S1 c0 20 (S1.1 (c0 + 2) (Int32.toNatClampNeg (2 : Int32)))) = S2 at h ⊢
  refine wa_aload_n cx (i := 0) dX10_plain_20 rfl rfl ?_
  refine wa_aload_n cx (i := 0) dX10_plain_21 rfl rfl ?_
  refine gf_X10_13 cx h_c0 dX10_plain_22 ?_
  refine wa_iconst cx dX10_plain_25 (5 : Int32) (by decide) ?_
  refine wa_iald cx dX10_plain_26 (kq10_2 cx.2.2.2.2.2.2.1 h_c0) (vinl (by decide)) ?_
  refine pf_X10_160 cx h_c0 dX10_plain_27 ?_
  replace h := sq_eq h
  generalize (pI S2 c0 21 (S2.1 (c0 + 2) (Int32.toNatClampNeg (5 : Int32)))) = S3 at h ⊢
  refine wa_aload_n cx (i := 0) dX10_plain_30 rfl rfl ?_
  refine wa_aload_n cx (i := 0) dX10_plain_31 rfl rfl ?_
  refine gf_X10_52 cx h_c0 dX10_plain_32 ?_
  refine wa_iconst cx dX10_plain_35 (0 : Int32) (by decide) ?_
  refine wa_iald cx dX10_plain_36 (kq10_16 cx.2.2.2.2.2.2.1 h_c0) (vinl (by decide)) ?_
  refine pf_X10_163 cx h_c0 dX10_plain_37 ?_
  replace h := sq_eq h
  generalize (pI S3 c0 22 (S3.1 (c0 + 15) (Int32.toNatClampNeg (0 : Int32)))) = S4 at h ⊢
  refine wa_aload_n cx (i := 0) dX10_plain_40 rfl rfl ?_
  refine wa_iconst cx dX10_plain_41 (0 : Int32) (by decide) ?_
  refine pf_X10_166 cx h_c0 dX10_plain_42 ?_
  replace h := sq_eq h
  generalize (pI S4 c0 23 (0 : Int32)) = S5 at h ⊢
  refine wa_aload_n cx (i := 0) dX10_plain_45 rfl rfl ?_
  refine wa_bipush cx dX10_plain_46 (-4 : Int32) (by decide) ?_
  refine pf_X10_169 cx h_c0 dX10_plain_48 ?_
  replace h := sq_eq h
  generalize (pI S5 c0 24 (-4 : Int32)) = S6 at h ⊢
  exact wa_vret cx h dX10_plain_51
def rm_X10_layGivers : Room := { frames := 1, cells := 0, slots := 0, locals := 20 }
def f_X10_layGivers_L19 : Nat → Nat → (Int32 → St → Option (Unit × St)) → Int32 → Int32 → St → Option (Unit × St)
  | 0, _, _, _, _, _ => none
  | n + 1, c0, kb7, l1, l2, S => ob l1 12 (if (S.1 (c0 + 4) (Int32.toNatClampNeg l1)) ≤ l2 then kb7 (l1 + (1 : Int32)) S else ob (S.1 c0 13) 8 (sq (pI S (c0 + 13) (Int32.toNatClampNeg (S.1 c0 13)) l1) fun S4 => ob l1 12 (ob l1 12 (ob (S4.1 c0 13) 8 (sq (pI S4 (c0 + 14) (Int32.toNatClampNeg (S4.1 c0 13)) ((S4.1 (c0 + 7) (Int32.toNatClampNeg l1)) + (l2 * (S4.1 (c0 + 8) (Int32.toNatClampNeg l1))))) fun S8 => sq (pI S8 c0 13 ((S8.1 c0 13) + (1 : Int32))) fun S9 => f_X10_layGivers_L19 n c0 kb7 l1 (l2 + (1 : Int32)) S9)))))
set_option maxHeartbeats 4000000 in
set_option maxRecDepth 100000 in
theorem w_X10_layGivers_L19 {p : Program} {l : Launch} {e : Env} {s : State} {m : MethodId} {args : Array Value} {below : List Frame} {meth : Method} {c : Code} {g : Gl} {r : Unit × St} {c0 : Nat} {kb7 : Int32 → St → Option (Unit × St)} (cx : Cx p s m args meth c cX10_layGivers 3 none RX10 g (Ap g)) (h_c0 : kd g c0 = 10) (hkb7 : ∀ (l1 : Int32) (S : St), kb7 l1 S = some r → WA p l e rm_X10_layGivers s m args below meth c 0 0 (MQ below (QWv g r) args s 0 0 (Ap g)) 3 g (Ap g) S 7 [(0, .ref (ad g c0)), (1, .int l1)] []) : ∀ n : Nat, ∀ (l1 : Int32) (l2 : Int32) (S : St), f_X10_layGivers_L19 n c0 kb7 l1 l2 S = some r → WA p l e rm_X10_layGivers s m args below meth c 0 0 (MQ below (QWv g r) args s 0 0 (Ap g)) 3 g (Ap g) S 19 [(0, .ref (ad g c0)), (1, .int l1), (2, .int l2)] [] := by
  intro n
  induction n with
  | zero => intro l1 l2 S h; rw [f_X10_layGivers_L19] at h; cases h
  | succ n ih =>
    intro l1 l2 S h
    rw [f_X10_layGivers_L19] at h
    refine wa_iload_n cx (i := 2) dX10_layGivers_19 rfl rfl ?_
    refine wa_aload_n cx (i := 0) dX10_layGivers_20 rfl rfl ?_
    refine gf_X10_19 cx h_c0 dX10_layGivers_21 ?_
    refine wa_iload_n cx (i := 1) dX10_layGivers_24 rfl rfl ?_
    obtain ⟨b1, h⟩ := ob_some h
    refine wa_iald cx dX10_layGivers_25 (kq10_4 cx.2.2.2.2.2.2.1 h_c0) b1 ?_
    refine wa_icmp_ge cx dX10_layGivers_26 79 (by decide) (fun q2 => ?_) (fun q2 => ?_)
    · rw [if_pos q2] at h
      refine wa_iinc cx dX10_layGivers_79 (l1 + (1 : Int32)) [(0, .ref (ad g c0)), (1, .int (l1 + (1 : Int32)))] rfl rfl (Nat.le_of_ble_eq_true rfl) rfl (lvs_c rfl (lvs_c rfl (lvs_n))) ?_
      refine wa_goto cx dX10_layGivers_82 7 (by decide) ?_
      refine wa_sub (lv' := [(0, .ref (ad g c0)), (1, .int (l1 + (1 : Int32)))]) (lvs_c rfl (lvs_c rfl (lvs_n))) ?_
      exact hkb7 (l1 + (1 : Int32)) S  h
    · rw [if_neg q2] at h
      refine wa_aload_n cx (i := 0) dX10_layGivers_29 rfl rfl ?_
      refine gf_X10_46 cx h_c0 dX10_layGivers_30 ?_
      refine wa_aload_n cx (i := 0) dX10_layGivers_33 rfl rfl ?_
      refine gf_X10_148 cx h_c0 dX10_layGivers_34 ?_
      refine wa_iload_n cx (i := 1) dX10_layGivers_37 rfl rfl ?_
      obtain ⟨b3, h⟩ := ob_some h
      refine wa_iast cx dX10_layGivers_38 (kq10_14 cx.2.2.2.2.2.2.1 h_c0) b3 ?_
      replace h := sq_eq h
      generalize (pI S (c0 + 13) (Int32.toNatClampNeg (S.1 c0 13)) l1) = S4 at h ⊢
      refine wa_aload_n cx (i := 0) dX10_layGivers_39 rfl rfl ?_
      refine gf_X10_49 cx h_c0 dX10_layGivers_40 ?_
      refine wa_aload_n cx (i := 0) dX10_layGivers_43 rfl rfl ?_
      refine gf_X10_148 cx h_c0 dX10_layGivers_44 ?_
      refine wa_aload_n cx (i := 0) dX10_layGivers_47 rfl rfl ?_
      refine gf_X10_28 cx h_c0 dX10_layGivers_48 ?_
      refine wa_iload_n cx (i := 1) dX10_layGivers_51 rfl rfl ?_
      obtain ⟨b5, h⟩ := ob_some h
      refine wa_iald cx dX10_layGivers_52 (kq10_7 cx.2.2.2.2.2.2.1 h_c0) b5 ?_
      refine wa_iload_n cx (i := 2) dX10_layGivers_53 rfl rfl ?_
      refine wa_aload_n cx (i := 0) dX10_layGivers_54 rfl rfl ?_
      refine gf_X10_31 cx h_c0 dX10_layGivers_55 ?_
      refine wa_iload_n cx (i := 1) dX10_layGivers_58 rfl rfl ?_
      obtain ⟨b6, h⟩ := ob_some h
      refine wa_iald cx dX10_layGivers_59 (kq10_8 cx.2.2.2.2.2.2.1 h_c0) b6 ?_
      refine wa_imul cx dX10_layGivers_60 ?_
      refine wa_iadd cx dX10_layGivers_61 ?_
      obtain ⟨b7, h⟩ := ob_some h
      refine wa_iast cx dX10_layGivers_62 (kq10_15 cx.2.2.2.2.2.2.1 h_c0) b7 ?_
      replace h := sq_eq h
      generalize (pI S4 (c0 + 14) (Int32.toNatClampNeg (S4.1 c0 13)) ((S4.1 (c0 + 7) (Int32.toNatClampNeg l1)) + (l2 * (S4.1 (c0 + 8) (Int32.toNatClampNeg l1))))) = S8 at h ⊢
      refine wa_aload_n cx (i := 0) dX10_layGivers_63 rfl rfl ?_
      refine wa_dup cx dX10_layGivers_64 rfl ?_
      refine gf_X10_148 cx h_c0 dX10_layGivers_65 ?_
      refine wa_iconst cx dX10_layGivers_68 (1 : Int32) (by decide) ?_
      refine wa_iadd cx dX10_layGivers_69 ?_
      refine pf_X10_148 cx h_c0 dX10_layGivers_70 ?_
      replace h := sq_eq h
      generalize (pI S8 c0 13 ((S8.1 c0 13) + (1 : Int32))) = S9 at h ⊢
      refine wa_iinc cx dX10_layGivers_73 (l2 + (1 : Int32)) [(0, .ref (ad g c0)), (1, .int l1), (2, .int (l2 + (1 : Int32)))] rfl rfl (Nat.le_of_ble_eq_true rfl) rfl (lvs_c rfl (lvs_c rfl (lvs_c rfl (lvs_n)))) ?_
      refine wa_goto cx dX10_layGivers_76 19 (by decide) ?_
      refine wa_sub (lv' := [(0, .ref (ad g c0)), (1, .int l1), (2, .int (l2 + (1 : Int32)))]) (lvs_c rfl (lvs_c rfl (lvs_c rfl (lvs_n)))) ?_
      exact ih l1 (l2 + (1 : Int32)) S9  h
def f_X10_layGivers_L7 : Nat → Nat → Int32 → St → Option (Unit × St)
  | 0, _, _, _ => none
  | n + 1, c0, l1, S => if (S.1 (c0 + 3) (Int32.toNatClampNeg (0 : Int32))) ≤ l1 then bd (f_X10_plain c0 S) fun _ S11 => some ((), S11) else f_X10_layGivers_L19 FU c0 (fun l1 S => f_X10_layGivers_L7 n c0 l1 S) l1 (0 : Int32) S
set_option maxHeartbeats 4000000 in
set_option maxRecDepth 100000 in
theorem w_X10_layGivers_L7 {p : Program} {l : Launch} {e : Env} {s : State} {m : MethodId} {args : Array Value} {below : List Frame} {meth : Method} {c : Code} {g : Gl} {r : Unit × St} {c0 : Nat} (cx : Cx p s m args meth c cX10_layGivers 3 none RX10 g (Ap g)) (h_c0 : kd g c0 = 10) : ∀ n : Nat, ∀ (l1 : Int32) (S : St), f_X10_layGivers_L7 n c0 l1 S = some r → WA p l e rm_X10_layGivers s m args below meth c 0 0 (MQ below (QWv g r) args s 0 0 (Ap g)) 3 g (Ap g) S 7 [(0, .ref (ad g c0)), (1, .int l1)] [] := by
  intro n
  induction n with
  | zero => intro l1 S h; rw [f_X10_layGivers_L7] at h; cases h
  | succ n ih =>
    intro l1 S h
    rw [f_X10_layGivers_L7] at h
    refine wa_iload_n cx (i := 1) dX10_layGivers_7 rfl rfl ?_
    refine wa_aload_n cx (i := 0) dX10_layGivers_8 rfl rfl ?_
    refine gf_X10_16 cx h_c0 dX10_layGivers_9 ?_
    refine wa_iconst cx dX10_layGivers_12 (0 : Int32) (by decide) ?_
    refine wa_iald cx dX10_layGivers_13 (kq10_3 cx.2.2.2.2.2.2.1 h_c0) (vinl (by decide)) ?_
    refine wa_icmp_ge cx dX10_layGivers_14 85 (by decide) (fun q10 => ?_) (fun q10 => ?_)
    · rw [if_pos q10] at h
      refine wa_aload_n cx (i := 0) dX10_layGivers_85 rfl rfl ?_
      obtain ⟨u13, S11, e12, h⟩ := bd_some h
      refine wa_callVv cx (m_X10_plain l cx.2.2.2.2.2.2.1 h_c0 e12) vl_X10_151 h_c0 (by decide) rfl rfl ⟨_, cell_eq10 (kd_lt h_c0 (by decide)).2⟩ ⟨Nat.le_of_ble_eq_true rfl, Nat.le_of_ble_eq_true rfl⟩ ⟨rfl, rfl⟩ ⟨Nat.zero_le _, Nat.zero_le _⟩ rfl (Nat.le_of_ble_eq_true rfl) dX10_layGivers_86 rfl ?_
      exact wa_vret cx h dX10_layGivers_89
    · rw [if_neg q10] at h
      refine wa_iconst cx dX10_layGivers_17 (0 : Int32) (by decide) ?_
      refine wa_istore_n cx (i := 2) dX10_layGivers_18 [(0, .ref (ad g c0)), (1, .int l1), (2, .int (0 : Int32))] rfl (Nat.le_of_ble_eq_true rfl) rfl (lvs_c rfl (lvs_c rfl (lvs_c rfl (lvs_n)))) ?_
      refine wa_sub (lv' := [(0, .ref (ad g c0)), (1, .int l1), (2, .int (0 : Int32))]) (lvs_c rfl (lvs_c rfl (lvs_c rfl (lvs_n)))) ?_
      exact w_X10_layGivers_L19 cx h_c0 ih FU l1 (0 : Int32) S  h
def f_X10_layGivers (c0 : Nat) (S : St) : Option (Unit × St) := sq (pI S c0 13 (0 : Int32)) fun S14 => f_X10_layGivers_L7 FU c0 (0 : Int32) S14
set_option maxHeartbeats 4000000 in
set_option maxRecDepth 100000 in
theorem m_X10_layGivers (l : Launch) {g : Gl} (hg : GOK g) {c0 : Nat} {S : St} {r : Unit × St} (h_c0 : kd g c0 = 10) (h : f_X10_layGivers c0 S = some r) : MW l yX10_layGivers cX10_layGivers 3 none rm_X10_layGivers g S [.ref (ad g c0)] (QWv g r) := by
  refine startW [(0, .ref (ad g c0))] (by decide +kernel) (Nat.le_of_ble_eq_true rfl) rfl hg (fun p e s m args below meth c cx => ?_)
  have cx : Cx p s m args meth c cX10_layGivers 3 none RX10 g (Ap g) := cx
  rw [f_X10_layGivers] at h
  refine wa_aload_n cx (i := 0) dX10_layGivers_0 rfl rfl ?_
  refine wa_iconst cx dX10_layGivers_1 (0 : Int32) (by decide) ?_
  refine pf_X10_148 cx h_c0 dX10_layGivers_2 ?_
  replace h := sq_eq h
  generalize (pI S c0 13 (0 : Int32)) = S14 at h ⊢
  refine wa_iconst cx dX10_layGivers_5 (0 : Int32) (by decide) ?_
  refine wa_istore_n cx (i := 1) dX10_layGivers_6 [(0, .ref (ad g c0)), (1, .int (0 : Int32))] rfl (Nat.le_of_ble_eq_true rfl) rfl (lvs_c rfl (lvs_c rfl (lvs_n))) ?_
  refine wa_sub (lv' := [(0, .ref (ad g c0)), (1, .int (0 : Int32))]) (lvs_c rfl (lvs_c rfl (lvs_n))) ?_
  exact w_X10_layGivers_L7 cx h_c0  FU (0 : Int32) S14  h
def rm_X10_lay : Room := { frames := 5, cells := 0, slots := 0, locals := 117 }
def f_X10_lay_L227 : Nat → Nat → Int32 → St → Option (Int32 × St)
  | 0, _, _, _ => none
  | n + 1, c0, l1, S => if (8 : Int32) ≤ l1 then sq (pI S (c0 + 15) (Int32.toNatClampNeg (0 : Int32)) (0 : Int32)) fun S2 => sq (pI S2 c0 18 (0 : Int32)) fun S3 => bd (f_X10_layGivers c0 S3) fun _ S4 => some ((S4.1 c0 13), S4) else ob l1 24 (sq (pI S (c0 + 16) (Int32.toNatClampNeg l1) (0 : Int32)) fun S8 => f_X10_lay_L227 n c0 (l1 + (1 : Int32)) S8)
set_option maxHeartbeats 4000000 in
set_option maxRecDepth 100000 in
theorem w_X10_lay_L227 {p : Program} {l : Launch} {e : Env} {s : State} {m : MethodId} {args : Array Value} {below : List Frame} {meth : Method} {c : Code} {g : Gl} {r : Int32 × St} {c0 : Nat} (cx : Cx p s m args meth c cX10_lay 2 (some .int) RX10 g (Ap g)) (h_c0 : kd g c0 = 10) : ∀ n : Nat, ∀ (l1 : Int32) (S : St), f_X10_lay_L227 n c0 l1 S = some r → WA p l e rm_X10_lay s m args below meth c 0 0 (MQ below (QWi g r) args s 0 0 (Ap g)) 2 g (Ap g) S 227 [(0, .ref (ad g c0)), (1, .int l1)] [] := by
  intro n
  induction n with
  | zero => intro l1 S h; rw [f_X10_lay_L227] at h; cases h
  | succ n ih =>
    intro l1 S h
    rw [f_X10_lay_L227] at h
    refine wa_iload_n cx (i := 1) dX10_lay_227 rfl rfl ?_
    refine wa_bipush cx dX10_lay_228 (8 : Int32) (by decide) ?_
    refine wa_icmp_ge cx dX10_lay_230 246 (by decide) (fun q1 => ?_) (fun q1 => ?_)
    · rw [if_pos q1] at h
      refine wa_aload_n cx (i := 0) dX10_lay_246 rfl rfl ?_
      refine gf_X10_52 cx h_c0 dX10_lay_247 ?_
      refine wa_iconst cx dX10_lay_250 (0 : Int32) (by decide) ?_
      refine wa_iconst cx dX10_lay_251 (0 : Int32) (by decide) ?_
      refine wa_iast cx dX10_lay_252 (kq10_16 cx.2.2.2.2.2.2.1 h_c0) (vinl (by decide)) ?_
      replace h := sq_eq h
      generalize (pI S (c0 + 15) (Int32.toNatClampNeg (0 : Int32)) (0 : Int32)) = S2 at h ⊢
      refine wa_aload_n cx (i := 0) dX10_lay_253 rfl rfl ?_
      refine wa_iconst cx dX10_lay_254 (0 : Int32) (by decide) ?_
      refine pf_X10_172 cx h_c0 dX10_lay_255 ?_
      replace h := sq_eq h
      generalize (pI S2 c0 18 (0 : Int32)) = S3 at h ⊢
      refine wa_aload_n cx (i := 0) dX10_lay_258 rfl rfl ?_
      obtain ⟨u6, S4, e5, h⟩ := bd_some h
      refine wa_callVv cx (m_X10_layGivers l cx.2.2.2.2.2.2.1 h_c0 e5) vl_X10_90 h_c0 (by decide) rfl rfl ⟨_, cell_eq10 (kd_lt h_c0 (by decide)).2⟩ ⟨Nat.le_of_ble_eq_true rfl, Nat.le_of_ble_eq_true rfl⟩ ⟨rfl, rfl⟩ ⟨Nat.zero_le _, Nat.zero_le _⟩ rfl (Nat.le_of_ble_eq_true rfl) dX10_lay_259 rfl ?_
      refine wa_aload_n cx (i := 0) dX10_lay_262 rfl rfl ?_
      refine gf_X10_148 cx h_c0 dX10_lay_263 ?_
      exact wa_iret cx h dX10_lay_266
    · rw [if_neg q1] at h
      refine wa_aload_n cx (i := 0) dX10_lay_233 rfl rfl ?_
      refine gf_X10_55 cx h_c0 dX10_lay_234 ?_
      refine wa_iload_n cx (i := 1) dX10_lay_237 rfl rfl ?_
      refine wa_iconst cx dX10_lay_238 (0 : Int32) (by decide) ?_
      obtain ⟨b7, h⟩ := ob_some h
      refine wa_iast cx dX10_lay_239 (kq10_17 cx.2.2.2.2.2.2.1 h_c0) b7 ?_
      replace h := sq_eq h
      generalize (pI S (c0 + 16) (Int32.toNatClampNeg l1) (0 : Int32)) = S8 at h ⊢
      refine wa_iinc cx dX10_lay_240 (l1 + (1 : Int32)) [(0, .ref (ad g c0)), (1, .int (l1 + (1 : Int32)))] rfl rfl (Nat.le_of_ble_eq_true rfl) rfl (lvs_c rfl (lvs_c rfl (lvs_n))) ?_
      refine wa_goto cx dX10_lay_243 227 (by decide) ?_
      refine wa_sub (lv' := [(0, .ref (ad g c0)), (1, .int (l1 + (1 : Int32)))]) (lvs_c rfl (lvs_c rfl (lvs_n))) ?_
      exact ih (l1 + (1 : Int32)) S8  h
def f_X10_lay_L183 : Nat → Nat → Int32 → St → Option (Int32 × St)
  | 0, _, _, _ => none
  | n + 1, c0, l1, S => if (18 : Int32) ≤ l1 then f_X10_lay_L227 FU c0 (0 : Int32) S else ob ((18 : Int32) + l1) 36 (ob l1 36 (sq (pI S (c0 + 11) (Int32.toNatClampNeg l1) (S.1 (c0 + 11) (Int32.toNatClampNeg ((18 : Int32) + l1)))) fun S12 => ob ((18 : Int32) + l1) 36 (ob l1 36 (sq (pI S12 (c0 + 12) (Int32.toNatClampNeg l1) (S12.1 (c0 + 12) (Int32.toNatClampNeg ((18 : Int32) + l1)))) fun S15 => f_X10_lay_L183 n c0 (l1 + (1 : Int32)) S15))))
set_option maxHeartbeats 4000000 in
set_option maxRecDepth 100000 in
theorem w_X10_lay_L183 {p : Program} {l : Launch} {e : Env} {s : State} {m : MethodId} {args : Array Value} {below : List Frame} {meth : Method} {c : Code} {g : Gl} {r : Int32 × St} {c0 : Nat} (cx : Cx p s m args meth c cX10_lay 2 (some .int) RX10 g (Ap g)) (h_c0 : kd g c0 = 10) : ∀ n : Nat, ∀ (l1 : Int32) (S : St), f_X10_lay_L183 n c0 l1 S = some r → WA p l e rm_X10_lay s m args below meth c 0 0 (MQ below (QWi g r) args s 0 0 (Ap g)) 2 g (Ap g) S 183 [(0, .ref (ad g c0)), (1, .int l1)] [] := by
  intro n
  induction n with
  | zero => intro l1 S h; rw [f_X10_lay_L183] at h; cases h
  | succ n ih =>
    intro l1 S h
    rw [f_X10_lay_L183] at h
    refine wa_iload_n cx (i := 1) dX10_lay_183 rfl rfl ?_
    refine wa_bipush cx dX10_lay_184 (18 : Int32) (by decide) ?_
    refine wa_icmp_ge cx dX10_lay_186 225 (by decide) (fun q9 => ?_) (fun q9 => ?_)
    · rw [if_pos q9] at h
      refine wa_iconst cx dX10_lay_225 (0 : Int32) (by decide) ?_
      refine wa_istore_n cx (i := 1) dX10_lay_226 [(0, .ref (ad g c0)), (1, .int (0 : Int32))] rfl (Nat.le_of_ble_eq_true rfl) rfl (lvs_c rfl (lvs_c rfl (lvs_n))) ?_
      refine wa_sub (lv' := [(0, .ref (ad g c0)), (1, .int (0 : Int32))]) (lvs_c rfl (lvs_c rfl (lvs_n))) ?_
      exact w_X10_lay_L227 cx h_c0  FU (0 : Int32) S  h
    · rw [if_neg q9] at h
      refine wa_aload_n cx (i := 0) dX10_lay_189 rfl rfl ?_
      refine gf_X10_40 cx h_c0 dX10_lay_190 ?_
      refine wa_iload_n cx (i := 1) dX10_lay_193 rfl rfl ?_
      refine wa_aload_n cx (i := 0) dX10_lay_194 rfl rfl ?_
      refine gf_X10_40 cx h_c0 dX10_lay_195 ?_
      refine wa_bipush cx dX10_lay_198 (18 : Int32) (by decide) ?_
      refine wa_iload_n cx (i := 1) dX10_lay_200 rfl rfl ?_
      refine wa_iadd cx dX10_lay_201 ?_
      obtain ⟨b10, h⟩ := ob_some h
      refine wa_iald cx dX10_lay_202 (kq10_11 cx.2.2.2.2.2.2.1 h_c0) b10 ?_
      obtain ⟨b11, h⟩ := ob_some h
      refine wa_iast cx dX10_lay_203 (kq10_11 cx.2.2.2.2.2.2.1 h_c0) b11 ?_
      replace h := sq_eq h
      generalize (pI S (c0 + 11) (Int32.toNatClampNeg l1) (S.1 (c0 + 11) (Int32.toNatClampNeg ((18 : Int32) + l1)))) = S12 at h ⊢
      refine wa_aload_n cx (i := 0) dX10_lay_204 rfl rfl ?_
      refine gf_X10_43 cx h_c0 dX10_lay_205 ?_
      refine wa_iload_n cx (i := 1) dX10_lay_208 rfl rfl ?_
      refine wa_aload_n cx (i := 0) dX10_lay_209 rfl rfl ?_
      refine gf_X10_43 cx h_c0 dX10_lay_210 ?_
      refine wa_bipush cx dX10_lay_213 (18 : Int32) (by decide) ?_
      refine wa_iload_n cx (i := 1) dX10_lay_215 rfl rfl ?_
      refine wa_iadd cx dX10_lay_216 ?_
      obtain ⟨b13, h⟩ := ob_some h
      refine wa_iald cx dX10_lay_217 (kq10_12 cx.2.2.2.2.2.2.1 h_c0) b13 ?_
      obtain ⟨b14, h⟩ := ob_some h
      refine wa_iast cx dX10_lay_218 (kq10_12 cx.2.2.2.2.2.2.1 h_c0) b14 ?_
      replace h := sq_eq h
      generalize (pI S12 (c0 + 12) (Int32.toNatClampNeg l1) (S12.1 (c0 + 12) (Int32.toNatClampNeg ((18 : Int32) + l1)))) = S15 at h ⊢
      refine wa_iinc cx dX10_lay_219 (l1 + (1 : Int32)) [(0, .ref (ad g c0)), (1, .int (l1 + (1 : Int32)))] rfl rfl (Nat.le_of_ble_eq_true rfl) rfl (lvs_c rfl (lvs_c rfl (lvs_n))) ?_
      refine wa_goto cx dX10_lay_222 183 (by decide) ?_
      refine wa_sub (lv' := [(0, .ref (ad g c0)), (1, .int (l1 + (1 : Int32)))]) (lvs_c rfl (lvs_c rfl (lvs_n))) ?_
      exact ih (l1 + (1 : Int32)) S15  h
def f_X10_lay_L64 : Nat → Nat → Int32 → St → Option (Int32 × St)
  | 0, _, _, _ => none
  | n + 1, c0, l1, S => if (6 : Int32) ≤ l1 then f_X10_lay_L183 FU c0 (0 : Int32) S else ob ((6 : Int32) + l1) 12 (ob l1 12 (sq (pI S (c0 + 4) (Int32.toNatClampNeg l1) (S.1 (c0 + 4) (Int32.toNatClampNeg ((6 : Int32) + l1)))) fun S19 => ob ((6 : Int32) + l1) 12 (ob l1 12 (sq (pI S19 (c0 + 5) (Int32.toNatClampNeg l1) (S19.1 (c0 + 5) (Int32.toNatClampNeg ((6 : Int32) + l1)))) fun S22 => ob ((6 : Int32) + l1) 12 (ob l1 12 (sq (pI S22 (c0 + 6) (Int32.toNatClampNeg l1) (S22.1 (c0 + 6) (Int32.toNatClampNeg ((6 : Int32) + l1)))) fun S25 => ob ((6 : Int32) + l1) 12 (ob l1 12 (sq (pI S25 (c0 + 7) (Int32.toNatClampNeg l1) (S25.1 (c0 + 7) (Int32.toNatClampNeg ((6 : Int32) + l1)))) fun S28 => ob ((6 : Int32) + l1) 12 (ob l1 12 (sq (pI S28 (c0 + 8) (Int32.toNatClampNeg l1) (S28.1 (c0 + 8) (Int32.toNatClampNeg ((6 : Int32) + l1)))) fun S31 => ob ((6 : Int32) + l1) 12 (ob l1 12 (sq (pI S31 (c0 + 9) (Int32.toNatClampNeg l1) (S31.1 (c0 + 9) (Int32.toNatClampNeg ((6 : Int32) + l1)))) fun S34 => ob ((6 : Int32) + l1) 12 (ob l1 12 (sq (pI S34 (c0 + 10) (Int32.toNatClampNeg l1) (S34.1 (c0 + 10) (Int32.toNatClampNeg ((6 : Int32) + l1)))) fun S37 => f_X10_lay_L64 n c0 (l1 + (1 : Int32)) S37))))))))))))))
set_option maxHeartbeats 4000000 in
set_option maxRecDepth 100000 in
theorem w_X10_lay_L64 {p : Program} {l : Launch} {e : Env} {s : State} {m : MethodId} {args : Array Value} {below : List Frame} {meth : Method} {c : Code} {g : Gl} {r : Int32 × St} {c0 : Nat} (cx : Cx p s m args meth c cX10_lay 2 (some .int) RX10 g (Ap g)) (h_c0 : kd g c0 = 10) : ∀ n : Nat, ∀ (l1 : Int32) (S : St), f_X10_lay_L64 n c0 l1 S = some r → WA p l e rm_X10_lay s m args below meth c 0 0 (MQ below (QWi g r) args s 0 0 (Ap g)) 2 g (Ap g) S 64 [(0, .ref (ad g c0)), (1, .int l1)] [] := by
  intro n
  induction n with
  | zero => intro l1 S h; rw [f_X10_lay_L64] at h; cases h
  | succ n ih =>
    intro l1 S h
    rw [f_X10_lay_L64] at h
    refine wa_iload_n cx (i := 1) dX10_lay_64 rfl rfl ?_
    refine wa_bipush cx dX10_lay_65 (6 : Int32) (by decide) ?_
    refine wa_icmp_ge cx dX10_lay_67 181 (by decide) (fun q16 => ?_) (fun q16 => ?_)
    · rw [if_pos q16] at h
      refine wa_iconst cx dX10_lay_181 (0 : Int32) (by decide) ?_
      refine wa_istore_n cx (i := 1) dX10_lay_182 [(0, .ref (ad g c0)), (1, .int (0 : Int32))] rfl (Nat.le_of_ble_eq_true rfl) rfl (lvs_c rfl (lvs_c rfl (lvs_n))) ?_
      refine wa_sub (lv' := [(0, .ref (ad g c0)), (1, .int (0 : Int32))]) (lvs_c rfl (lvs_c rfl (lvs_n))) ?_
      exact w_X10_lay_L183 cx h_c0  FU (0 : Int32) S  h
    · rw [if_neg q16] at h
      refine wa_aload_n cx (i := 0) dX10_lay_70 rfl rfl ?_
      refine gf_X10_19 cx h_c0 dX10_lay_71 ?_
      refine wa_iload_n cx (i := 1) dX10_lay_74 rfl rfl ?_
      refine wa_aload_n cx (i := 0) dX10_lay_75 rfl rfl ?_
      refine gf_X10_19 cx h_c0 dX10_lay_76 ?_
      refine wa_bipush cx dX10_lay_79 (6 : Int32) (by decide) ?_
      refine wa_iload_n cx (i := 1) dX10_lay_81 rfl rfl ?_
      refine wa_iadd cx dX10_lay_82 ?_
      obtain ⟨b17, h⟩ := ob_some h
      refine wa_iald cx dX10_lay_83 (kq10_4 cx.2.2.2.2.2.2.1 h_c0) b17 ?_
      obtain ⟨b18, h⟩ := ob_some h
      refine wa_iast cx dX10_lay_84 (kq10_4 cx.2.2.2.2.2.2.1 h_c0) b18 ?_
      replace h := sq_eq h
      generalize (pI S (c0 + 4) (Int32.toNatClampNeg l1) (S.1 (c0 + 4) (Int32.toNatClampNeg ((6 : Int32) + l1)))) = S19 at h ⊢
      refine wa_aload_n cx (i := 0) dX10_lay_85 rfl rfl ?_
      refine gf_X10_22 cx h_c0 dX10_lay_86 ?_
      refine wa_iload_n cx (i := 1) dX10_lay_89 rfl rfl ?_
      refine wa_aload_n cx (i := 0) dX10_lay_90 rfl rfl ?_
      refine gf_X10_22 cx h_c0 dX10_lay_91 ?_
      refine wa_bipush cx dX10_lay_94 (6 : Int32) (by decide) ?_
      refine wa_iload_n cx (i := 1) dX10_lay_96 rfl rfl ?_
      refine wa_iadd cx dX10_lay_97 ?_
      obtain ⟨b20, h⟩ := ob_some h
      refine wa_iald cx dX10_lay_98 (kq10_5 cx.2.2.2.2.2.2.1 h_c0) b20 ?_
      obtain ⟨b21, h⟩ := ob_some h
      refine wa_iast cx dX10_lay_99 (kq10_5 cx.2.2.2.2.2.2.1 h_c0) b21 ?_
      replace h := sq_eq h
      generalize (pI S19 (c0 + 5) (Int32.toNatClampNeg l1) (S19.1 (c0 + 5) (Int32.toNatClampNeg ((6 : Int32) + l1)))) = S22 at h ⊢
      refine wa_aload_n cx (i := 0) dX10_lay_100 rfl rfl ?_
      refine gf_X10_25 cx h_c0 dX10_lay_101 ?_
      refine wa_iload_n cx (i := 1) dX10_lay_104 rfl rfl ?_
      refine wa_aload_n cx (i := 0) dX10_lay_105 rfl rfl ?_
      refine gf_X10_25 cx h_c0 dX10_lay_106 ?_
      refine wa_bipush cx dX10_lay_109 (6 : Int32) (by decide) ?_
      refine wa_iload_n cx (i := 1) dX10_lay_111 rfl rfl ?_
      refine wa_iadd cx dX10_lay_112 ?_
      obtain ⟨b23, h⟩ := ob_some h
      refine wa_iald cx dX10_lay_113 (kq10_6 cx.2.2.2.2.2.2.1 h_c0) b23 ?_
      obtain ⟨b24, h⟩ := ob_some h
      refine wa_iast cx dX10_lay_114 (kq10_6 cx.2.2.2.2.2.2.1 h_c0) b24 ?_
      replace h := sq_eq h
      generalize (pI S22 (c0 + 6) (Int32.toNatClampNeg l1) (S22.1 (c0 + 6) (Int32.toNatClampNeg ((6 : Int32) + l1)))) = S25 at h ⊢
      refine wa_aload_n cx (i := 0) dX10_lay_115 rfl rfl ?_
      refine gf_X10_28 cx h_c0 dX10_lay_116 ?_
      refine wa_iload_n cx (i := 1) dX10_lay_119 rfl rfl ?_
      refine wa_aload_n cx (i := 0) dX10_lay_120 rfl rfl ?_
      refine gf_X10_28 cx h_c0 dX10_lay_121 ?_
      refine wa_bipush cx dX10_lay_124 (6 : Int32) (by decide) ?_
      refine wa_iload_n cx (i := 1) dX10_lay_126 rfl rfl ?_
      refine wa_iadd cx dX10_lay_127 ?_
      obtain ⟨b26, h⟩ := ob_some h
      refine wa_iald cx dX10_lay_128 (kq10_7 cx.2.2.2.2.2.2.1 h_c0) b26 ?_
      obtain ⟨b27, h⟩ := ob_some h
      refine wa_iast cx dX10_lay_129 (kq10_7 cx.2.2.2.2.2.2.1 h_c0) b27 ?_
      replace h := sq_eq h
      generalize (pI S25 (c0 + 7) (Int32.toNatClampNeg l1) (S25.1 (c0 + 7) (Int32.toNatClampNeg ((6 : Int32) + l1)))) = S28 at h ⊢
      refine wa_aload_n cx (i := 0) dX10_lay_130 rfl rfl ?_
      refine gf_X10_31 cx h_c0 dX10_lay_131 ?_
      refine wa_iload_n cx (i := 1) dX10_lay_134 rfl rfl ?_
      refine wa_aload_n cx (i := 0) dX10_lay_135 rfl rfl ?_
      refine gf_X10_31 cx h_c0 dX10_lay_136 ?_
      refine wa_bipush cx dX10_lay_139 (6 : Int32) (by decide) ?_
      refine wa_iload_n cx (i := 1) dX10_lay_141 rfl rfl ?_
      refine wa_iadd cx dX10_lay_142 ?_
      obtain ⟨b29, h⟩ := ob_some h
      refine wa_iald cx dX10_lay_143 (kq10_8 cx.2.2.2.2.2.2.1 h_c0) b29 ?_
      obtain ⟨b30, h⟩ := ob_some h
      refine wa_iast cx dX10_lay_144 (kq10_8 cx.2.2.2.2.2.2.1 h_c0) b30 ?_
      replace h := sq_eq h
      generalize (pI S28 (c0 + 8) (Int32.toNatClampNeg l1) (S28.1 (c0 + 8) (Int32.toNatClampNeg ((6 : Int32) + l1)))) = S31 at h ⊢
      refine wa_aload_n cx (i := 0) dX10_lay_145 rfl rfl ?_
      refine gf_X10_34 cx h_c0 dX10_lay_146 ?_
      refine wa_iload_n cx (i := 1) dX10_lay_149 rfl rfl ?_
      refine wa_aload_n cx (i := 0) dX10_lay_150 rfl rfl ?_
      refine gf_X10_34 cx h_c0 dX10_lay_151 ?_
      refine wa_bipush cx dX10_lay_154 (6 : Int32) (by decide) ?_
      refine wa_iload_n cx (i := 1) dX10_lay_156 rfl rfl ?_
      refine wa_iadd cx dX10_lay_157 ?_
      obtain ⟨b32, h⟩ := ob_some h
      refine wa_iald cx dX10_lay_158 (kq10_9 cx.2.2.2.2.2.2.1 h_c0) b32 ?_
      obtain ⟨b33, h⟩ := ob_some h
      refine wa_iast cx dX10_lay_159 (kq10_9 cx.2.2.2.2.2.2.1 h_c0) b33 ?_
      replace h := sq_eq h
      generalize (pI S31 (c0 + 9) (Int32.toNatClampNeg l1) (S31.1 (c0 + 9) (Int32.toNatClampNeg ((6 : Int32) + l1)))) = S34 at h ⊢
      refine wa_aload_n cx (i := 0) dX10_lay_160 rfl rfl ?_
      refine gf_X10_37 cx h_c0 dX10_lay_161 ?_
      refine wa_iload_n cx (i := 1) dX10_lay_164 rfl rfl ?_
      refine wa_aload_n cx (i := 0) dX10_lay_165 rfl rfl ?_
      refine gf_X10_37 cx h_c0 dX10_lay_166 ?_
      refine wa_bipush cx dX10_lay_169 (6 : Int32) (by decide) ?_
      refine wa_iload_n cx (i := 1) dX10_lay_171 rfl rfl ?_
      refine wa_iadd cx dX10_lay_172 ?_
      obtain ⟨b35, h⟩ := ob_some h
      refine wa_iald cx dX10_lay_173 (kq10_10 cx.2.2.2.2.2.2.1 h_c0) b35 ?_
      obtain ⟨b36, h⟩ := ob_some h
      refine wa_iast cx dX10_lay_174 (kq10_10 cx.2.2.2.2.2.2.1 h_c0) b36 ?_
      replace h := sq_eq h
      generalize (pI S34 (c0 + 10) (Int32.toNatClampNeg l1) (S34.1 (c0 + 10) (Int32.toNatClampNeg ((6 : Int32) + l1)))) = S37 at h ⊢
      refine wa_iinc cx dX10_lay_175 (l1 + (1 : Int32)) [(0, .ref (ad g c0)), (1, .int (l1 + (1 : Int32)))] rfl rfl (Nat.le_of_ble_eq_true rfl) rfl (lvs_c rfl (lvs_c rfl (lvs_n))) ?_
      refine wa_goto cx dX10_lay_178 64 (by decide) ?_
      refine wa_sub (lv' := [(0, .ref (ad g c0)), (1, .int (l1 + (1 : Int32)))]) (lvs_c rfl (lvs_c rfl (lvs_n))) ?_
      exact ih (l1 + (1 : Int32)) S37  h
def f_X10_lay_L23 : Nat → Nat → Int32 → St → Option (Int32 × St)
  | 0, _, _, _ => none
  | n + 1, c0, l1, S => if (10 : Int32) ≤ l1 then sq (pI S (c0 + 3) (Int32.toNatClampNeg (0 : Int32)) (S.1 (c0 + 3) (Int32.toNatClampNeg (1 : Int32)))) fun S39 => f_X10_lay_L64 FU c0 (0 : Int32) S39 else ob ((10 : Int32) + l1) 20 (ob l1 20 (sq (pI S (c0 + 2) (Int32.toNatClampNeg l1) (S.1 (c0 + 2) (Int32.toNatClampNeg ((10 : Int32) + l1)))) fun S42 => f_X10_lay_L23 n c0 (l1 + (1 : Int32)) S42))
set_option maxHeartbeats 4000000 in
set_option maxRecDepth 100000 in
theorem w_X10_lay_L23 {p : Program} {l : Launch} {e : Env} {s : State} {m : MethodId} {args : Array Value} {below : List Frame} {meth : Method} {c : Code} {g : Gl} {r : Int32 × St} {c0 : Nat} (cx : Cx p s m args meth c cX10_lay 2 (some .int) RX10 g (Ap g)) (h_c0 : kd g c0 = 10) : ∀ n : Nat, ∀ (l1 : Int32) (S : St), f_X10_lay_L23 n c0 l1 S = some r → WA p l e rm_X10_lay s m args below meth c 0 0 (MQ below (QWi g r) args s 0 0 (Ap g)) 2 g (Ap g) S 23 [(0, .ref (ad g c0)), (1, .int l1)] [] := by
  intro n
  induction n with
  | zero => intro l1 S h; rw [f_X10_lay_L23] at h; cases h
  | succ n ih =>
    intro l1 S h
    rw [f_X10_lay_L23] at h
    refine wa_iload_n cx (i := 1) dX10_lay_23 rfl rfl ?_
    refine wa_bipush cx dX10_lay_24 (10 : Int32) (by decide) ?_
    refine wa_icmp_ge cx dX10_lay_26 50 (by decide) (fun q38 => ?_) (fun q38 => ?_)
    · rw [if_pos q38] at h
      refine wa_aload_n cx (i := 0) dX10_lay_50 rfl rfl ?_
      refine gf_X10_16 cx h_c0 dX10_lay_51 ?_
      refine wa_iconst cx dX10_lay_54 (0 : Int32) (by decide) ?_
      refine wa_aload_n cx (i := 0) dX10_lay_55 rfl rfl ?_
      refine gf_X10_16 cx h_c0 dX10_lay_56 ?_
      refine wa_iconst cx dX10_lay_59 (1 : Int32) (by decide) ?_
      refine wa_iald cx dX10_lay_60 (kq10_3 cx.2.2.2.2.2.2.1 h_c0) (vinl (by decide)) ?_
      refine wa_iast cx dX10_lay_61 (kq10_3 cx.2.2.2.2.2.2.1 h_c0) (vinl (by decide)) ?_
      replace h := sq_eq h
      generalize (pI S (c0 + 3) (Int32.toNatClampNeg (0 : Int32)) (S.1 (c0 + 3) (Int32.toNatClampNeg (1 : Int32)))) = S39 at h ⊢
      refine wa_iconst cx dX10_lay_62 (0 : Int32) (by decide) ?_
      refine wa_istore_n cx (i := 1) dX10_lay_63 [(0, .ref (ad g c0)), (1, .int (0 : Int32))] rfl (Nat.le_of_ble_eq_true rfl) rfl (lvs_c rfl (lvs_c rfl (lvs_n))) ?_
      refine wa_sub (lv' := [(0, .ref (ad g c0)), (1, .int (0 : Int32))]) (lvs_c rfl (lvs_c rfl (lvs_n))) ?_
      exact w_X10_lay_L64 cx h_c0  FU (0 : Int32) S39  h
    · rw [if_neg q38] at h
      refine wa_aload_n cx (i := 0) dX10_lay_29 rfl rfl ?_
      refine gf_X10_13 cx h_c0 dX10_lay_30 ?_
      refine wa_iload_n cx (i := 1) dX10_lay_33 rfl rfl ?_
      refine wa_aload_n cx (i := 0) dX10_lay_34 rfl rfl ?_
      refine gf_X10_13 cx h_c0 dX10_lay_35 ?_
      refine wa_bipush cx dX10_lay_38 (10 : Int32) (by decide) ?_
      refine wa_iload_n cx (i := 1) dX10_lay_40 rfl rfl ?_
      refine wa_iadd cx dX10_lay_41 ?_
      obtain ⟨b40, h⟩ := ob_some h
      refine wa_iald cx dX10_lay_42 (kq10_2 cx.2.2.2.2.2.2.1 h_c0) b40 ?_
      obtain ⟨b41, h⟩ := ob_some h
      refine wa_iast cx dX10_lay_43 (kq10_2 cx.2.2.2.2.2.2.1 h_c0) b41 ?_
      replace h := sq_eq h
      generalize (pI S (c0 + 2) (Int32.toNatClampNeg l1) (S.1 (c0 + 2) (Int32.toNatClampNeg ((10 : Int32) + l1)))) = S42 at h ⊢
      refine wa_iinc cx dX10_lay_44 (l1 + (1 : Int32)) [(0, .ref (ad g c0)), (1, .int (l1 + (1 : Int32)))] rfl rfl (Nat.le_of_ble_eq_true rfl) rfl (lvs_c rfl (lvs_c rfl (lvs_n))) ?_
      refine wa_goto cx dX10_lay_47 23 (by decide) ?_
      refine wa_sub (lv' := [(0, .ref (ad g c0)), (1, .int (l1 + (1 : Int32)))]) (lvs_c rfl (lvs_c rfl (lvs_n))) ?_
      exact ih (l1 + (1 : Int32)) S42  h
def f_X10_lay (c0 : Nat) (S : St) : Option (Int32 × St) := bd (f_X10_readAll c0 S) fun x43 S44 => if x43 = (-4 : Int32) then if (S44.1 (c0 + 3) (Int32.toNatClampNeg (1 : Int32))) = 0 then some ((-2 : Int32), S44) else f_X10_lay_L23 FU c0 (0 : Int32) S44 else some ((-2 : Int32), S44)
set_option maxHeartbeats 4000000 in
set_option maxRecDepth 100000 in
theorem m_X10_lay (l : Launch) {g : Gl} (hg : GOK g) {c0 : Nat} {S : St} {r : Int32 × St} (h_c0 : kd g c0 = 10) (h : f_X10_lay c0 S = some r) : MW l yX10_lay cX10_lay 2 (some .int) rm_X10_lay g S [.ref (ad g c0)] (QWi g r) := by
  refine startW [(0, .ref (ad g c0))] (by decide +kernel) (Nat.le_of_ble_eq_true rfl) rfl hg (fun p e s m args below meth c cx => ?_)
  have cx : Cx p s m args meth c cX10_lay 2 (some .int) RX10 g (Ap g) := cx
  rw [f_X10_lay] at h
  refine wa_aload_n cx (i := 0) dX10_lay_0 rfl rfl ?_
  obtain ⟨x43, S44, e45, h⟩ := bd_some h
  refine wa_callVi cx (m_X10_readAll l cx.2.2.2.2.2.2.1 h_c0 e45) vl_X10_145 h_c0 (by decide) rfl rfl ⟨_, cell_eq10 (kd_lt h_c0 (by decide)).2⟩ ⟨Nat.le_of_ble_eq_true rfl, Nat.le_of_ble_eq_true rfl⟩ ⟨rfl, rfl⟩ ⟨Nat.zero_le _, Nat.zero_le _⟩ rfl (Nat.le_of_ble_eq_true rfl) dX10_lay_1 rfl ?_
  refine wa_bipush cx dX10_lay_4 (-4 : Int32) (by decide) ?_
  refine wa_icmp_ne cx dX10_lay_6 18 (by decide) (fun q46 => ?_) (fun q46 => ?_)
  · rw [if_neg q46] at h
    refine wa_bipush cx dX10_lay_18 (-2 : Int32) (by decide) ?_
    exact wa_iret cx h dX10_lay_20
  · rw [if_pos q46] at h
    refine wa_aload_n cx (i := 0) dX10_lay_9 rfl rfl ?_
    refine gf_X10_16 cx h_c0 dX10_lay_10 ?_
    refine wa_iconst cx dX10_lay_13 (1 : Int32) (by decide) ?_
    refine wa_iald cx dX10_lay_14 (kq10_3 cx.2.2.2.2.2.2.1 h_c0) (vinl (by decide)) ?_
    refine wa_if_ne cx dX10_lay_15 21 (by decide) (fun q47 => ?_) (fun q47 => ?_)
    · rw [if_neg q47] at h
      refine wa_iconst cx dX10_lay_21 (0 : Int32) (by decide) ?_
      refine wa_istore_n cx (i := 1) dX10_lay_22 [(0, .ref (ad g c0)), (1, .int (0 : Int32))] rfl (Nat.le_of_ble_eq_true rfl) rfl (lvs_c rfl (lvs_c rfl (lvs_n))) ?_
      refine wa_sub (lv' := [(0, .ref (ad g c0)), (1, .int (0 : Int32))]) (lvs_c rfl (lvs_c rfl (lvs_n))) ?_
      exact w_X10_lay_L23 cx h_c0  FU (0 : Int32) S44  h
    · rw [if_pos q47] at h
      refine wa_bipush cx dX10_lay_18 (-2 : Int32) (by decide) ?_
      exact wa_iret cx h dX10_lay_20
def rm_X10_isGiver : Room := { frames := 1, cells := 0, slots := 0, locals := 25 }
def f_X10_isGiver (c0 : Nat) (a1 : Int32) (S : St) : Option (Int32 × St) := bd (f_X10_in (Int32.toInt64 a1) (0 : Int64) (Int32.toInt64 ((S.1 c0 13) - (1 : Int32))) S) fun x1 S2 => ck (x1 = 0 ∨ x1 = 1) (some (x1, S2))
set_option maxHeartbeats 4000000 in
set_option maxRecDepth 100000 in
theorem m_X10_isGiver (l : Launch) {g : Gl} (hg : GOK g) {c0 : Nat} {a1 : Int32} {S : St} {r : Int32 × St} (h_c0 : kd g c0 = 10) (h : f_X10_isGiver c0 a1 S = some r) : MW l yX10_isGiver cX10_isGiver 2 (some .boolean) rm_X10_isGiver g S [.ref (ad g c0), .int a1] (QWi g r) := by
  refine startW [(0, .ref (ad g c0)), (1, .int a1)] (by decide +kernel) (Nat.le_of_ble_eq_true rfl) rfl hg (fun p e s m args below meth c cx => ?_)
  have cx : Cx p s m args meth c cX10_isGiver 2 (some .boolean) RX10 g (Ap g) := cx
  rw [f_X10_isGiver] at h
  refine wa_iload_n cx (i := 1) dX10_isGiver_0 rfl rfl ?_
  refine wa_i2l cx dX10_isGiver_1 ?_
  refine wa_lconst cx dX10_isGiver_2 (0 : Int64) (by decide) ?_
  refine wa_aload_n cx (i := 0) dX10_isGiver_3 rfl rfl ?_
  refine gf_X10_148 cx h_c0 dX10_isGiver_4 ?_
  refine wa_iconst cx dX10_isGiver_7 (1 : Int32) (by decide) ?_
  refine wa_isub cx dX10_isGiver_8 ?_
  refine wa_i2l cx dX10_isGiver_9 ?_
  obtain ⟨x1, S2, e3, h⟩ := bd_some h
  refine wa_callSi cx (m_X10_in l cx.2.2.2.2.2.2.1  e3) vl_X10_95 ⟨Nat.le_of_ble_eq_true rfl, Nat.le_of_ble_eq_true rfl⟩ ⟨rfl, rfl⟩ ⟨Nat.zero_le _, Nat.zero_le _⟩ rfl (Nat.le_of_ble_eq_true rfl) dX10_isGiver_10 rfl ?_
  obtain ⟨b4, h⟩ := ck_some h
  exact wa_zret cx b4 h dX10_isGiver_13
def rm_X10_dayOf : Room := { frames := 0, cells := 0, slots := 0, locals := 0 }
def f_X10_dayOf (c0 : Nat) (a1 : Int32) (S : St) : Option (Int32 × St) := ob a1 8 (ob (S.1 (c0 + 13) (Int32.toNatClampNeg a1)) 12 (if (S.1 (c0 + 5) (Int32.toNatClampNeg (S.1 (c0 + 13) (Int32.toNatClampNeg a1)))) = (4 : Int32) then some ((S.1 c0 20), S) else ob a1 8 (some ((S.1 (c0 + 14) (Int32.toNatClampNeg a1)), S))))
set_option maxHeartbeats 4000000 in
set_option maxRecDepth 100000 in
theorem m_X10_dayOf (l : Launch) {g : Gl} (hg : GOK g) {c0 : Nat} {a1 : Int32} {S : St} {r : Int32 × St} (h_c0 : kd g c0 = 10) (h : f_X10_dayOf c0 a1 S = some r) : MW l yX10_dayOf cX10_dayOf 2 (some .int) rm_X10_dayOf g S [.ref (ad g c0), .int a1] (QWi g r) := by
  refine startW [(0, .ref (ad g c0)), (1, .int a1)] (by decide +kernel) (Nat.le_of_ble_eq_true rfl) rfl hg (fun p e s m args below meth c cx => ?_)
  have cx : Cx p s m args meth c cX10_dayOf 2 (some .int) RX10 g (Ap g) := cx
  rw [f_X10_dayOf] at h
  refine wa_aload_n cx (i := 0) dX10_dayOf_0 rfl rfl ?_
  refine gf_X10_22 cx h_c0 dX10_dayOf_1 ?_
  refine wa_aload_n cx (i := 0) dX10_dayOf_4 rfl rfl ?_
  refine gf_X10_46 cx h_c0 dX10_dayOf_5 ?_
  refine wa_iload_n cx (i := 1) dX10_dayOf_8 rfl rfl ?_
  obtain ⟨b1, h⟩ := ob_some h
  refine wa_iald cx dX10_dayOf_9 (kq10_14 cx.2.2.2.2.2.2.1 h_c0) b1 ?_
  obtain ⟨b2, h⟩ := ob_some h
  refine wa_iald cx dX10_dayOf_10 (kq10_5 cx.2.2.2.2.2.2.1 h_c0) b2 ?_
  refine wa_iconst cx dX10_dayOf_11 (4 : Int32) (by decide) ?_
  refine wa_icmp_ne cx dX10_dayOf_12 22 (by decide) (fun q3 => ?_) (fun q3 => ?_)
  · rw [if_neg q3] at h
    refine wa_aload_n cx (i := 0) dX10_dayOf_22 rfl rfl ?_
    refine gf_X10_49 cx h_c0 dX10_dayOf_23 ?_
    refine wa_iload_n cx (i := 1) dX10_dayOf_26 rfl rfl ?_
    obtain ⟨b4, h⟩ := ob_some h
    refine wa_iald cx dX10_dayOf_27 (kq10_15 cx.2.2.2.2.2.2.1 h_c0) b4 ?_
    exact wa_iret cx h dX10_dayOf_28
  · rw [if_pos q3] at h
    refine wa_aload_n cx (i := 0) dX10_dayOf_15 rfl rfl ?_
    refine gf_X10_157 cx h_c0 dX10_dayOf_16 ?_
    refine wa_goto cx dX10_dayOf_19 28 (by decide) ?_
    exact wa_iret cx h dX10_dayOf_28
def rm_X10_layOrder : Room := { frames := 1, cells := 0, slots := 0, locals := 21 }
def f_X10_layOrder_L17 : Nat → Nat → (Int32 → St → Option (Unit × St)) → Int32 → Int32 → St → Option (Unit × St)
  | 0, _, _, _, _, _ => none
  | n + 1, c0, kb7, l1, l2, S => if (S.1 c0 13) ≤ l2 then kb7 (l1 + (1 : Int32)) S else bd (f_X10_dayOf c0 l2 S) fun x2 S3 => if x2 = l1 then ob (S3.1 c0 27) 8 (sq (pI S3 (c0 + 18) (Int32.toNatClampNeg (S3.1 c0 27)) l2) fun S7 => sq (pI S7 c0 27 ((S7.1 c0 27) + (1 : Int32))) fun S8 => f_X10_layOrder_L17 n c0 kb7 l1 (l2 + (1 : Int32)) S8) else f_X10_layOrder_L17 n c0 kb7 l1 (l2 + (1 : Int32)) S3
set_option maxHeartbeats 4000000 in
set_option maxRecDepth 100000 in
theorem w_X10_layOrder_L17 {p : Program} {l : Launch} {e : Env} {s : State} {m : MethodId} {args : Array Value} {below : List Frame} {meth : Method} {c : Code} {g : Gl} {r : Unit × St} {c0 : Nat} {kb7 : Int32 → St → Option (Unit × St)} (cx : Cx p s m args meth c cX10_layOrder 3 none RX10 g (Ap g)) (h_c0 : kd g c0 = 10) (hkb7 : ∀ (l1 : Int32) (S : St), kb7 l1 S = some r → WA p l e rm_X10_layOrder s m args below meth c 0 0 (MQ below (QWv g r) args s 0 0 (Ap g)) 3 g (Ap g) S 7 [(0, .ref (ad g c0)), (1, .int l1)] []) : ∀ n : Nat, ∀ (l1 : Int32) (l2 : Int32) (S : St), f_X10_layOrder_L17 n c0 kb7 l1 l2 S = some r → WA p l e rm_X10_layOrder s m args below meth c 0 0 (MQ below (QWv g r) args s 0 0 (Ap g)) 3 g (Ap g) S 17 [(0, .ref (ad g c0)), (1, .int l1), (2, .int l2)] [] := by
  intro n
  induction n with
  | zero => intro l1 l2 S h; rw [f_X10_layOrder_L17] at h; cases h
  | succ n ih =>
    intro l1 l2 S h
    rw [f_X10_layOrder_L17] at h
    refine wa_iload_n cx (i := 2) dX10_layOrder_17 rfl rfl ?_
    refine wa_aload_n cx (i := 0) dX10_layOrder_18 rfl rfl ?_
    refine gf_X10_148 cx h_c0 dX10_layOrder_19 ?_
    refine wa_icmp_ge cx dX10_layOrder_22 60 (by decide) (fun q1 => ?_) (fun q1 => ?_)
    · rw [if_pos q1] at h
      refine wa_iinc cx dX10_layOrder_60 (l1 + (1 : Int32)) [(0, .ref (ad g c0)), (1, .int (l1 + (1 : Int32)))] rfl rfl (Nat.le_of_ble_eq_true rfl) rfl (lvs_c rfl (lvs_c rfl (lvs_n))) ?_
      refine wa_goto cx dX10_layOrder_63 7 (by decide) ?_
      refine wa_sub (lv' := [(0, .ref (ad g c0)), (1, .int (l1 + (1 : Int32)))]) (lvs_c rfl (lvs_c rfl (lvs_n))) ?_
      exact hkb7 (l1 + (1 : Int32)) S  h
    · rw [if_neg q1] at h
      refine wa_aload_n cx (i := 0) dX10_layOrder_25 rfl rfl ?_
      refine wa_iload_n cx (i := 2) dX10_layOrder_26 rfl rfl ?_
      obtain ⟨x2, S3, e4, h⟩ := bd_some h
      refine wa_callVi cx (m_X10_dayOf l cx.2.2.2.2.2.2.1 h_c0 e4) vl_X10_178 h_c0 (by decide) rfl rfl ⟨_, cell_eq10 (kd_lt h_c0 (by decide)).2⟩ ⟨Nat.le_of_ble_eq_true rfl, Nat.le_of_ble_eq_true rfl⟩ ⟨rfl, rfl⟩ ⟨Nat.zero_le _, Nat.zero_le _⟩ rfl (Nat.le_of_ble_eq_true rfl) dX10_layOrder_27 rfl ?_
      refine wa_iload_n cx (i := 1) dX10_layOrder_30 rfl rfl ?_
      refine wa_icmp_ne cx dX10_layOrder_31 54 (by decide) (fun q5 => ?_) (fun q5 => ?_)
      · rw [if_neg q5] at h
        refine wa_iinc cx dX10_layOrder_54 (l2 + (1 : Int32)) [(0, .ref (ad g c0)), (1, .int l1), (2, .int (l2 + (1 : Int32)))] rfl rfl (Nat.le_of_ble_eq_true rfl) rfl (lvs_c rfl (lvs_c rfl (lvs_c rfl (lvs_n)))) ?_
        refine wa_goto cx dX10_layOrder_57 17 (by decide) ?_
        refine wa_sub (lv' := [(0, .ref (ad g c0)), (1, .int l1), (2, .int (l2 + (1 : Int32)))]) (lvs_c rfl (lvs_c rfl (lvs_c rfl (lvs_n)))) ?_
        exact ih l1 (l2 + (1 : Int32)) S3  h
      · rw [if_pos q5] at h
        refine wa_aload_n cx (i := 0) dX10_layOrder_34 rfl rfl ?_
        refine gf_X10_61 cx h_c0 dX10_layOrder_35 ?_
        refine wa_aload_n cx (i := 0) dX10_layOrder_38 rfl rfl ?_
        refine gf_X10_175 cx h_c0 dX10_layOrder_39 ?_
        refine wa_iload_n cx (i := 2) dX10_layOrder_42 rfl rfl ?_
        obtain ⟨b6, h⟩ := ob_some h
        refine wa_iast cx dX10_layOrder_43 (kq10_28 cx.2.2.2.2.2.2.1 h_c0) b6 ?_
        replace h := sq_eq h
        generalize (pI S3 (c0 + 18) (Int32.toNatClampNeg (S3.1 c0 27)) l2) = S7 at h ⊢
        refine wa_aload_n cx (i := 0) dX10_layOrder_44 rfl rfl ?_
        refine wa_dup cx dX10_layOrder_45 rfl ?_
        refine gf_X10_175 cx h_c0 dX10_layOrder_46 ?_
        refine wa_iconst cx dX10_layOrder_49 (1 : Int32) (by decide) ?_
        refine wa_iadd cx dX10_layOrder_50 ?_
        refine pf_X10_175 cx h_c0 dX10_layOrder_51 ?_
        replace h := sq_eq h
        generalize (pI S7 c0 27 ((S7.1 c0 27) + (1 : Int32))) = S8 at h ⊢
        refine wa_iinc cx dX10_layOrder_54 (l2 + (1 : Int32)) [(0, .ref (ad g c0)), (1, .int l1), (2, .int (l2 + (1 : Int32)))] rfl rfl (Nat.le_of_ble_eq_true rfl) rfl (lvs_c rfl (lvs_c rfl (lvs_c rfl (lvs_n)))) ?_
        refine wa_goto cx dX10_layOrder_57 17 (by decide) ?_
        refine wa_sub (lv' := [(0, .ref (ad g c0)), (1, .int l1), (2, .int (l2 + (1 : Int32)))]) (lvs_c rfl (lvs_c rfl (lvs_c rfl (lvs_n)))) ?_
        exact ih l1 (l2 + (1 : Int32)) S8  h
def f_X10_layOrder_L7 : Nat → Nat → Int32 → St → Option (Unit × St)
  | 0, _, _, _ => none
  | n + 1, c0, l1, S => if (S.1 c0 20) < l1 then some ((), S) else f_X10_layOrder_L17 FU c0 (fun l1 S => f_X10_layOrder_L7 n c0 l1 S) l1 (0 : Int32) S
set_option maxHeartbeats 4000000 in
set_option maxRecDepth 100000 in
theorem w_X10_layOrder_L7 {p : Program} {l : Launch} {e : Env} {s : State} {m : MethodId} {args : Array Value} {below : List Frame} {meth : Method} {c : Code} {g : Gl} {r : Unit × St} {c0 : Nat} (cx : Cx p s m args meth c cX10_layOrder 3 none RX10 g (Ap g)) (h_c0 : kd g c0 = 10) : ∀ n : Nat, ∀ (l1 : Int32) (S : St), f_X10_layOrder_L7 n c0 l1 S = some r → WA p l e rm_X10_layOrder s m args below meth c 0 0 (MQ below (QWv g r) args s 0 0 (Ap g)) 3 g (Ap g) S 7 [(0, .ref (ad g c0)), (1, .int l1)] [] := by
  intro n
  induction n with
  | zero => intro l1 S h; rw [f_X10_layOrder_L7] at h; cases h
  | succ n ih =>
    intro l1 S h
    rw [f_X10_layOrder_L7] at h
    refine wa_iload_n cx (i := 1) dX10_layOrder_7 rfl rfl ?_
    refine wa_aload_n cx (i := 0) dX10_layOrder_8 rfl rfl ?_
    refine gf_X10_157 cx h_c0 dX10_layOrder_9 ?_
    refine wa_icmp_gt cx dX10_layOrder_12 66 (by decide) (fun q9 => ?_) (fun q9 => ?_)
    · rw [if_pos q9] at h
      exact wa_vret cx h dX10_layOrder_66
    · rw [if_neg q9] at h
      refine wa_iconst cx dX10_layOrder_15 (0 : Int32) (by decide) ?_
      refine wa_istore_n cx (i := 2) dX10_layOrder_16 [(0, .ref (ad g c0)), (1, .int l1), (2, .int (0 : Int32))] rfl (Nat.le_of_ble_eq_true rfl) rfl (lvs_c rfl (lvs_c rfl (lvs_c rfl (lvs_n)))) ?_
      refine wa_sub (lv' := [(0, .ref (ad g c0)), (1, .int l1), (2, .int (0 : Int32))]) (lvs_c rfl (lvs_c rfl (lvs_c rfl (lvs_n)))) ?_
      exact w_X10_layOrder_L17 cx h_c0 ih FU l1 (0 : Int32) S  h
def f_X10_layOrder (c0 : Nat) (S : St) : Option (Unit × St) := sq (pI S c0 27 (0 : Int32)) fun S10 => f_X10_layOrder_L7 FU c0 (0 : Int32) S10
set_option maxHeartbeats 4000000 in
set_option maxRecDepth 100000 in
theorem m_X10_layOrder (l : Launch) {g : Gl} (hg : GOK g) {c0 : Nat} {S : St} {r : Unit × St} (h_c0 : kd g c0 = 10) (h : f_X10_layOrder c0 S = some r) : MW l yX10_layOrder cX10_layOrder 3 none rm_X10_layOrder g S [.ref (ad g c0)] (QWv g r) := by
  refine startW [(0, .ref (ad g c0))] (by decide +kernel) (Nat.le_of_ble_eq_true rfl) rfl hg (fun p e s m args below meth c cx => ?_)
  have cx : Cx p s m args meth c cX10_layOrder 3 none RX10 g (Ap g) := cx
  rw [f_X10_layOrder] at h
  refine wa_aload_n cx (i := 0) dX10_layOrder_0 rfl rfl ?_
  refine wa_iconst cx dX10_layOrder_1 (0 : Int32) (by decide) ?_
  refine pf_X10_175 cx h_c0 dX10_layOrder_2 ?_
  replace h := sq_eq h
  generalize (pI S c0 27 (0 : Int32)) = S10 at h ⊢
  refine wa_iconst cx dX10_layOrder_5 (0 : Int32) (by decide) ?_
  refine wa_istore_n cx (i := 1) dX10_layOrder_6 [(0, .ref (ad g c0)), (1, .int (0 : Int32))] rfl (Nat.le_of_ble_eq_true rfl) rfl (lvs_c rfl (lvs_c rfl (lvs_n))) ?_
  refine wa_sub (lv' := [(0, .ref (ad g c0)), (1, .int (0 : Int32))]) (lvs_c rfl (lvs_c rfl (lvs_n))) ?_
  exact w_X10_layOrder_L7 cx h_c0  FU (0 : Int32) S10  h
def rm_X10_placeOf : Room := { frames := 0, cells := 0, slots := 0, locals := 0 }
def f_X10_placeOf_L2 : Nat → Nat → Int32 → Int32 → St → Option (Int32 × St)
  | 0, _, _, _, _ => none
  | n + 1, c0, a1, l2, S => if (S.1 c0 27) ≤ l2 then some ((-4 : Int32), S) else ob l2 8 (if (S.1 (c0 + 18) (Int32.toNatClampNeg l2)) = a1 then some (l2, S) else f_X10_placeOf_L2 n c0 a1 (l2 + (1 : Int32)) S)
set_option maxHeartbeats 4000000 in
set_option maxRecDepth 100000 in
theorem w_X10_placeOf_L2 {p : Program} {l : Launch} {e : Env} {s : State} {m : MethodId} {args : Array Value} {below : List Frame} {meth : Method} {c : Code} {g : Gl} {r : Int32 × St} {c0 : Nat} {a1 : Int32} (cx : Cx p s m args meth c cX10_placeOf 3 (some .int) RX10 g (Ap g)) (h_c0 : kd g c0 = 10) : ∀ n : Nat, ∀ (l2 : Int32) (S : St), f_X10_placeOf_L2 n c0 a1 l2 S = some r → WA p l e rm_X10_placeOf s m args below meth c 0 0 (MQ below (QWi g r) args s 0 0 (Ap g)) 3 g (Ap g) S 2 [(0, .ref (ad g c0)), (1, .int a1), (2, .int l2)] [] := by
  intro n
  induction n with
  | zero => intro l2 S h; rw [f_X10_placeOf_L2] at h; cases h
  | succ n ih =>
    intro l2 S h
    rw [f_X10_placeOf_L2] at h
    refine wa_iload_n cx (i := 2) dX10_placeOf_2 rfl rfl ?_
    refine wa_aload_n cx (i := 0) dX10_placeOf_3 rfl rfl ?_
    refine gf_X10_175 cx h_c0 dX10_placeOf_4 ?_
    refine wa_icmp_ge cx dX10_placeOf_7 28 (by decide) (fun q1 => ?_) (fun q1 => ?_)
    · rw [if_pos q1] at h
      refine wa_bipush cx dX10_placeOf_28 (-4 : Int32) (by decide) ?_
      exact wa_iret cx h dX10_placeOf_30
    · rw [if_neg q1] at h
      refine wa_aload_n cx (i := 0) dX10_placeOf_10 rfl rfl ?_
      refine gf_X10_61 cx h_c0 dX10_placeOf_11 ?_
      refine wa_iload_n cx (i := 2) dX10_placeOf_14 rfl rfl ?_
      obtain ⟨b2, h⟩ := ob_some h
      refine wa_iald cx dX10_placeOf_15 (kq10_28 cx.2.2.2.2.2.2.1 h_c0) b2 ?_
      refine wa_iload_n cx (i := 1) dX10_placeOf_16 rfl rfl ?_
      refine wa_icmp_ne cx dX10_placeOf_17 22 (by decide) (fun q3 => ?_) (fun q3 => ?_)
      · rw [if_neg q3] at h
        refine wa_iinc cx dX10_placeOf_22 (l2 + (1 : Int32)) [(0, .ref (ad g c0)), (1, .int a1), (2, .int (l2 + (1 : Int32)))] rfl rfl (Nat.le_of_ble_eq_true rfl) rfl (lvs_c rfl (lvs_c rfl (lvs_c rfl (lvs_n)))) ?_
        refine wa_goto cx dX10_placeOf_25 2 (by decide) ?_
        refine wa_sub (lv' := [(0, .ref (ad g c0)), (1, .int a1), (2, .int (l2 + (1 : Int32)))]) (lvs_c rfl (lvs_c rfl (lvs_c rfl (lvs_n)))) ?_
        exact ih (l2 + (1 : Int32)) S  h
      · rw [if_pos q3] at h
        refine wa_iload_n cx (i := 2) dX10_placeOf_20 rfl rfl ?_
        exact wa_iret cx h dX10_placeOf_21
def f_X10_placeOf (c0 : Nat) (a1 : Int32) (S : St) : Option (Int32 × St) := f_X10_placeOf_L2 FU c0 a1 (0 : Int32) S
set_option maxHeartbeats 4000000 in
set_option maxRecDepth 100000 in
theorem m_X10_placeOf (l : Launch) {g : Gl} (hg : GOK g) {c0 : Nat} {a1 : Int32} {S : St} {r : Int32 × St} (h_c0 : kd g c0 = 10) (h : f_X10_placeOf c0 a1 S = some r) : MW l yX10_placeOf cX10_placeOf 3 (some .int) rm_X10_placeOf g S [.ref (ad g c0), .int a1] (QWi g r) := by
  refine startW [(0, .ref (ad g c0)), (1, .int a1)] (by decide +kernel) (Nat.le_of_ble_eq_true rfl) rfl hg (fun p e s m args below meth c cx => ?_)
  have cx : Cx p s m args meth c cX10_placeOf 3 (some .int) RX10 g (Ap g) := cx
  rw [f_X10_placeOf] at h
  refine wa_iconst cx dX10_placeOf_0 (0 : Int32) (by decide) ?_
  refine wa_istore_n cx (i := 2) dX10_placeOf_1 [(0, .ref (ad g c0)), (1, .int a1), (2, .int (0 : Int32))] rfl (Nat.le_of_ble_eq_true rfl) rfl (lvs_c rfl (lvs_c rfl (lvs_c rfl (lvs_n)))) ?_
  refine wa_sub (lv' := [(0, .ref (ad g c0)), (1, .int a1), (2, .int (0 : Int32))]) (lvs_c rfl (lvs_c rfl (lvs_c rfl (lvs_n)))) ?_
  exact w_X10_placeOf_L2 cx h_c0  FU (0 : Int32) S  h
def rm_X10_giver : Room := { frames := 2, cells := 0, slots := 0, locals := 46 }
def f_X10_giver (c0 : Nat) (a1 : Int32) (a2 : Int32) (S : St) : Option (Int32 × St) := bd (f_X10_isGiver c0 a1 S) fun x1 S2 => if x1 = 0 then some ((-1 : Int32), S2) else bd (f_X10_in (Int32.toInt64 a2) (0 : Int64) (3 : Int64) S2) fun x5 S6 => if x5 = 0 then some ((-1 : Int32), S6) else bd (f_X10_plain c0 S6) fun _ S9 => bd (f_X10_layOrder c0 S9) fun _ S12 => if (2 : Int32) ≤ a2 then bd (f_X10_placeOf c0 a1 S12) fun x16 S17 => if x16 = (-4 : Int32) then some ((-4 : Int32), S17) else if a2 = (2 : Int32) then bd (f_X10_dayOf c0 a1 S17) fun x24 S25 => some (x24, S25) else bd (f_X10_placeOf c0 a1 S17) fun x21 S22 => some (x21, S22) else if a2 = 0 then ob a1 8 (some ((S12.1 (c0 + 13) (Int32.toNatClampNeg a1)), S12)) else ob a1 8 (ob (S12.1 (c0 + 13) (Int32.toNatClampNeg a1)) 12 (some ((S12.1 (c0 + 5) (Int32.toNatClampNeg (S12.1 (c0 + 13) (Int32.toNatClampNeg a1)))), S12)))
set_option maxHeartbeats 4000000 in
set_option maxRecDepth 100000 in
theorem m_X10_giver (l : Launch) {g : Gl} (hg : GOK g) {c0 : Nat} {a1 : Int32} {a2 : Int32} {S : St} {r : Int32 × St} (h_c0 : kd g c0 = 10) (h : f_X10_giver c0 a1 a2 S = some r) : MW l yX10_giver cX10_giver 3 (some .int) rm_X10_giver g S [.ref (ad g c0), .int a1, .int a2] (QWi g r) := by
  refine startW [(0, .ref (ad g c0)), (1, .int a1), (2, .int a2)] (by decide +kernel) (Nat.le_of_ble_eq_true rfl) rfl hg (fun p e s m args below meth c cx => ?_)
  have cx : Cx p s m args meth c cX10_giver 3 (some .int) RX10 g (Ap g) := cx
  rw [f_X10_giver] at h
  refine wa_aload_n cx (i := 0) dX10_giver_0 rfl rfl ?_
  refine wa_iload_n cx (i := 1) dX10_giver_1 rfl rfl ?_
  obtain ⟨x1, S2, e3, h⟩ := bd_some h
  refine wa_callVi cx (m_X10_isGiver l cx.2.2.2.2.2.2.1 h_c0 e3) vl_X10_181 h_c0 (by decide) rfl rfl ⟨_, cell_eq10 (kd_lt h_c0 (by decide)).2⟩ ⟨Nat.le_of_ble_eq_true rfl, Nat.le_of_ble_eq_true rfl⟩ ⟨rfl, rfl⟩ ⟨Nat.zero_le _, Nat.zero_le _⟩ rfl (Nat.le_of_ble_eq_true rfl) dX10_giver_2 rfl ?_
  refine wa_if_eq cx dX10_giver_5 20 (by decide) (fun q4 => ?_) (fun q4 => ?_)
  · rw [if_pos q4] at h
    refine wa_iconst cx dX10_giver_20 (-1 : Int32) (by decide) ?_
    exact wa_iret cx h dX10_giver_21
  · rw [if_neg q4] at h
    refine wa_iload_n cx (i := 2) dX10_giver_8 rfl rfl ?_
    refine wa_i2l cx dX10_giver_9 ?_
    refine wa_lconst cx dX10_giver_10 (0 : Int64) (by decide) ?_
    refine wa_ldc2 cx dX10_giver_11 (3 : Int64) kc_X10_116 ?_
    obtain ⟨x5, S6, e7, h⟩ := bd_some h
    refine wa_callSi cx (m_X10_in l cx.2.2.2.2.2.2.1  e7) vl_X10_95 ⟨Nat.le_of_ble_eq_true rfl, Nat.le_of_ble_eq_true rfl⟩ ⟨rfl, rfl⟩ ⟨Nat.zero_le _, Nat.zero_le _⟩ rfl (Nat.le_of_ble_eq_true rfl) dX10_giver_14 rfl ?_
    refine wa_if_ne cx dX10_giver_17 22 (by decide) (fun q8 => ?_) (fun q8 => ?_)
    · rw [if_neg q8] at h
      refine wa_aload_n cx (i := 0) dX10_giver_22 rfl rfl ?_
      obtain ⟨u11, S9, e10, h⟩ := bd_some h
      refine wa_callVv cx (m_X10_plain l cx.2.2.2.2.2.2.1 h_c0 e10) vl_X10_151 h_c0 (by decide) rfl rfl ⟨_, cell_eq10 (kd_lt h_c0 (by decide)).2⟩ ⟨Nat.le_of_ble_eq_true rfl, Nat.le_of_ble_eq_true rfl⟩ ⟨rfl, rfl⟩ ⟨Nat.zero_le _, Nat.zero_le _⟩ rfl (Nat.le_of_ble_eq_true rfl) dX10_giver_23 rfl ?_
      refine wa_aload_n cx (i := 0) dX10_giver_26 rfl rfl ?_
      obtain ⟨u14, S12, e13, h⟩ := bd_some h
      refine wa_callVv cx (m_X10_layOrder l cx.2.2.2.2.2.2.1 h_c0 e13) vl_X10_184 h_c0 (by decide) rfl rfl ⟨_, cell_eq10 (kd_lt h_c0 (by decide)).2⟩ ⟨Nat.le_of_ble_eq_true rfl, Nat.le_of_ble_eq_true rfl⟩ ⟨rfl, rfl⟩ ⟨Nat.zero_le _, Nat.zero_le _⟩ rfl (Nat.le_of_ble_eq_true rfl) dX10_giver_27 rfl ?_
      refine wa_iload_n cx (i := 2) dX10_giver_30 rfl rfl ?_
      refine wa_iconst cx dX10_giver_31 (2 : Int32) (by decide) ?_
      refine wa_icmp_ge cx dX10_giver_32 60 (by decide) (fun q15 => ?_) (fun q15 => ?_)
      · rw [if_pos q15] at h
        refine wa_aload_n cx (i := 0) dX10_giver_60 rfl rfl ?_
        refine wa_iload_n cx (i := 1) dX10_giver_61 rfl rfl ?_
        obtain ⟨x16, S17, e18, h⟩ := bd_some h
        refine wa_callVi cx (m_X10_placeOf l cx.2.2.2.2.2.2.1 h_c0 e18) vl_X10_187 h_c0 (by decide) rfl rfl ⟨_, cell_eq10 (kd_lt h_c0 (by decide)).2⟩ ⟨Nat.le_of_ble_eq_true rfl, Nat.le_of_ble_eq_true rfl⟩ ⟨rfl, rfl⟩ ⟨Nat.zero_le _, Nat.zero_le _⟩ rfl (Nat.le_of_ble_eq_true rfl) dX10_giver_62 rfl ?_
        refine wa_bipush cx dX10_giver_65 (-4 : Int32) (by decide) ?_
        refine wa_icmp_ne cx dX10_giver_67 75 (by decide) (fun q19 => ?_) (fun q19 => ?_)
        · rw [if_neg q19] at h
          refine wa_iload_n cx (i := 2) dX10_giver_75 rfl rfl ?_
          refine wa_iconst cx dX10_giver_76 (2 : Int32) (by decide) ?_
          refine wa_icmp_ne cx dX10_giver_77 88 (by decide) (fun q20 => ?_) (fun q20 => ?_)
          · rw [if_neg q20] at h
            refine wa_aload_n cx (i := 0) dX10_giver_88 rfl rfl ?_
            refine wa_iload_n cx (i := 1) dX10_giver_89 rfl rfl ?_
            obtain ⟨x21, S22, e23, h⟩ := bd_some h
            refine wa_callVi cx (m_X10_placeOf l cx.2.2.2.2.2.2.1 h_c0 e23) vl_X10_187 h_c0 (by decide) rfl rfl ⟨_, cell_eq10 (kd_lt h_c0 (by decide)).2⟩ ⟨Nat.le_of_ble_eq_true rfl, Nat.le_of_ble_eq_true rfl⟩ ⟨rfl, rfl⟩ ⟨Nat.zero_le _, Nat.zero_le _⟩ rfl (Nat.le_of_ble_eq_true rfl) dX10_giver_90 rfl ?_
            exact wa_iret cx h dX10_giver_93
          · rw [if_pos q20] at h
            refine wa_aload_n cx (i := 0) dX10_giver_80 rfl rfl ?_
            refine wa_iload_n cx (i := 1) dX10_giver_81 rfl rfl ?_
            obtain ⟨x24, S25, e26, h⟩ := bd_some h
            refine wa_callVi cx (m_X10_dayOf l cx.2.2.2.2.2.2.1 h_c0 e26) vl_X10_178 h_c0 (by decide) rfl rfl ⟨_, cell_eq10 (kd_lt h_c0 (by decide)).2⟩ ⟨Nat.le_of_ble_eq_true rfl, Nat.le_of_ble_eq_true rfl⟩ ⟨rfl, rfl⟩ ⟨Nat.zero_le _, Nat.zero_le _⟩ rfl (Nat.le_of_ble_eq_true rfl) dX10_giver_82 rfl ?_
            refine wa_goto cx dX10_giver_85 93 (by decide) ?_
            exact wa_iret cx h dX10_giver_93
        · rw [if_pos q19] at h
          refine wa_bipush cx dX10_giver_70 (-4 : Int32) (by decide) ?_
          refine wa_goto cx dX10_giver_72 93 (by decide) ?_
          exact wa_iret cx h dX10_giver_93
      · rw [if_neg q15] at h
        refine wa_iload_n cx (i := 2) dX10_giver_35 rfl rfl ?_
        refine wa_if_ne cx dX10_giver_36 48 (by decide) (fun q27 => ?_) (fun q27 => ?_)
        · rw [if_neg q27] at h
          refine wa_aload_n cx (i := 0) dX10_giver_48 rfl rfl ?_
          refine gf_X10_22 cx h_c0 dX10_giver_49 ?_
          refine wa_aload_n cx (i := 0) dX10_giver_52 rfl rfl ?_
          refine gf_X10_46 cx h_c0 dX10_giver_53 ?_
          refine wa_iload_n cx (i := 1) dX10_giver_56 rfl rfl ?_
          obtain ⟨b28, h⟩ := ob_some h
          refine wa_iald cx dX10_giver_57 (kq10_14 cx.2.2.2.2.2.2.1 h_c0) b28 ?_
          obtain ⟨b29, h⟩ := ob_some h
          refine wa_iald cx dX10_giver_58 (kq10_5 cx.2.2.2.2.2.2.1 h_c0) b29 ?_
          exact wa_iret cx h dX10_giver_59
        · rw [if_pos q27] at h
          refine wa_aload_n cx (i := 0) dX10_giver_39 rfl rfl ?_
          refine gf_X10_46 cx h_c0 dX10_giver_40 ?_
          refine wa_iload_n cx (i := 1) dX10_giver_43 rfl rfl ?_
          obtain ⟨b30, h⟩ := ob_some h
          refine wa_iald cx dX10_giver_44 (kq10_14 cx.2.2.2.2.2.2.1 h_c0) b30 ?_
          refine wa_goto cx dX10_giver_45 59 (by decide) ?_
          exact wa_iret cx h dX10_giver_59
    · rw [if_pos q8] at h
      refine wa_iconst cx dX10_giver_20 (-1 : Int32) (by decide) ?_
      exact wa_iret cx h dX10_giver_21
def rm_X10_show : Room := { frames := 1, cells := 0, slots := 0, locals := 25 }
def f_X10_show (c0 : Nat) (a1 : Int32) (S : St) : Option (Int32 × St) := bd (f_X10_in (Int32.toInt64 a1) (0 : Int64) (2 : Int64) S) fun x1 S2 => if x1 = 0 then some ((-1 : Int32), S2) else sq (S2.1 (c0 + 15) (Int32.toNatClampNeg (0 : Int32))) fun x5 => sq (pI S2 (c0 + 15) (Int32.toNatClampNeg (0 : Int32)) a1) fun S6 => some (x5, S6)
set_option maxHeartbeats 4000000 in
set_option maxRecDepth 100000 in
theorem m_X10_show (l : Launch) {g : Gl} (hg : GOK g) {c0 : Nat} {a1 : Int32} {S : St} {r : Int32 × St} (h_c0 : kd g c0 = 10) (h : f_X10_show c0 a1 S = some r) : MW l yX10_show cX10_show 3 (some .int) rm_X10_show g S [.ref (ad g c0), .int a1] (QWi g r) := by
  refine startW [(0, .ref (ad g c0)), (1, .int a1)] (by decide +kernel) (Nat.le_of_ble_eq_true rfl) rfl hg (fun p e s m args below meth c cx => ?_)
  have cx : Cx p s m args meth c cX10_show 3 (some .int) RX10 g (Ap g) := cx
  rw [f_X10_show] at h
  refine wa_iload_n cx (i := 1) dX10_show_0 rfl rfl ?_
  refine wa_i2l cx dX10_show_1 ?_
  refine wa_lconst cx dX10_show_2 (0 : Int64) (by decide) ?_
  refine wa_ldc2 cx dX10_show_3 (2 : Int64) kc_X10_190 ?_
  obtain ⟨x1, S2, e3, h⟩ := bd_some h
  refine wa_callSi cx (m_X10_in l cx.2.2.2.2.2.2.1  e3) vl_X10_95 ⟨Nat.le_of_ble_eq_true rfl, Nat.le_of_ble_eq_true rfl⟩ ⟨rfl, rfl⟩ ⟨Nat.zero_le _, Nat.zero_le _⟩ rfl (Nat.le_of_ble_eq_true rfl) dX10_show_6 rfl ?_
  refine wa_if_ne cx dX10_show_9 14 (by decide) (fun q4 => ?_) (fun q4 => ?_)
  · rw [if_neg q4] at h
    refine wa_aload_n cx (i := 0) dX10_show_14 rfl rfl ?_
    refine gf_X10_52 cx h_c0 dX10_show_15 ?_
    refine wa_iconst cx dX10_show_18 (0 : Int32) (by decide) ?_
    refine wa_iald cx dX10_show_19 (kq10_16 cx.2.2.2.2.2.2.1 h_c0) (vinl (by decide)) ?_
    replace h := sq_eq h
    generalize (S2.1 (c0 + 15) (Int32.toNatClampNeg (0 : Int32))) = x5 at h ⊢
    refine wa_istore_n cx (i := 2) dX10_show_20 [(0, .ref (ad g c0)), (1, .int a1), (2, .int x5)] rfl (Nat.le_of_ble_eq_true rfl) rfl (lvs_c rfl (lvs_c rfl (lvs_c rfl (lvs_n)))) ?_
    refine wa_aload_n cx (i := 0) dX10_show_21 rfl rfl ?_
    refine gf_X10_52 cx h_c0 dX10_show_22 ?_
    refine wa_iconst cx dX10_show_25 (0 : Int32) (by decide) ?_
    refine wa_iload_n cx (i := 1) dX10_show_26 rfl rfl ?_
    refine wa_iast cx dX10_show_27 (kq10_16 cx.2.2.2.2.2.2.1 h_c0) (vinl (by decide)) ?_
    replace h := sq_eq h
    generalize (pI S2 (c0 + 15) (Int32.toNatClampNeg (0 : Int32)) a1) = S6 at h ⊢
    refine wa_iload_n cx (i := 2) dX10_show_28 rfl rfl ?_
    exact wa_iret cx h dX10_show_29
  · rw [if_pos q4] at h
    refine wa_iconst cx dX10_show_12 (-1 : Int32) (by decide) ?_
    exact wa_iret cx h dX10_show_13
