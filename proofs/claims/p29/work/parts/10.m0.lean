def rm_J7_fill_d0a16 : Room := { frames := 0, cells := 0, slots := 0, locals := 0 }
def f_J7_fill_d0a16_L6 : Nat → Nat → Int64 → Int32 → Int32 → St → Option (Unit × St)
  | 0, _, _, _, _, _ => none
  | n + 1, a0, a1, l3, l4, S => if l4 ≤ l3 then some ((), S) else ob l3 (lnT a0) (sq (pJ S a0 (Int32.toNatClampNeg l3) a1) fun S3 => f_J7_fill_d0a16_L6 n a0 a1 (l3 + (1 : Int32)) l4 S3)
set_option maxHeartbeats 4000000 in
set_option maxRecDepth 100000 in
theorem w_J7_fill_d0a16_L6 {p : Program} {l : Launch} {e : Env} {s : State} {m : MethodId} {args : Array Value} {below : List Frame} {meth : Method} {c : Code} {g : Gl} {r : Unit × St} {a0 : Nat} {a1 : Int64} (cx : Cx p s m args meth c cJ7_fill_d0a16 5 none RJ7 g (Ap g)) (h_a0 : kd g a0 = 12 ∧ lnT a0 = lnT a0) : ∀ n : Nat, ∀ (l3 : Int32) (l4 : Int32) (S : St), f_J7_fill_d0a16_L6 n a0 a1 l3 l4 S = some r → WA p l e rm_J7_fill_d0a16 s m args below meth c 0 0 (MQ below (QWv g r) args s 0 0 (Ap g)) 5 g (Ap g) S 6 [(0, .ref (ad g a0)), (1, .long a1), (3, .int l3), (4, .int l4)] [] := by
  intro n
  induction n with
  | zero => intro l3 l4 S h; rw [f_J7_fill_d0a16_L6] at h; cases h
  | succ n ih =>
    intro l3 l4 S h
    rw [f_J7_fill_d0a16_L6] at h
    refine wa_iload_n cx (i := 3) dJ7_fill_d0a16_6 rfl rfl ?_
    refine wa_iload cx dJ7_fill_d0a16_7 rfl ?_
    refine wa_icmp_ge cx dJ7_fill_d0a16_9 22 (by decide) (fun q1 => ?_) (fun q1 => ?_)
    · rw [if_pos q1] at h
      exact wa_vret cx h dJ7_fill_d0a16_22
    · rw [if_neg q1] at h
      refine wa_aload_n cx (i := 0) dJ7_fill_d0a16_12 rfl rfl ?_
      refine wa_iload_n cx (i := 3) dJ7_fill_d0a16_13 rfl rfl ?_
      refine wa_lload_n cx (i := 1) dJ7_fill_d0a16_14 rfl rfl ?_
      obtain ⟨b2, h⟩ := ob_some h
      refine wa_last cx dJ7_fill_d0a16_15 h_a0 b2 ?_
      replace h := sq_eq h
      generalize (pJ S a0 (Int32.toNatClampNeg l3) a1) = S3 at h ⊢
      refine wa_iinc cx dJ7_fill_d0a16_16 (l3 + (1 : Int32)) [(0, .ref (ad g a0)), (1, .long a1), (3, .int (l3 + (1 : Int32))), (4, .int l4)] rfl rfl (Nat.le_of_ble_eq_true rfl) rfl (lvs_c rfl (lvs_c rfl (lvs_c rfl (lvs_c rfl (lvs_n))))) ?_
      refine wa_goto cx dJ7_fill_d0a16_19 6 (by decide) ?_
      refine wa_sub (lv' := [(0, .ref (ad g a0)), (1, .long a1), (3, .int (l3 + (1 : Int32))), (4, .int l4)]) (lvs_c rfl (lvs_c rfl (lvs_c rfl (lvs_c rfl (lvs_n))))) ?_
      exact ih (l3 + (1 : Int32)) l4 S3  h
def f_J7_fill_d0a16 (a0 : Nat) (a1 : Int64) (S : St) : Option (Unit × St) := sq (nI (lnT a0)) fun x4 => f_J7_fill_d0a16_L6 FU a0 a1 (0 : Int32) x4 S
set_option maxHeartbeats 4000000 in
set_option maxRecDepth 100000 in
theorem m_J7_fill_d0a16 (l : Launch) {g : Gl} (hg : GOK g) {a0 : Nat} {a1 : Int64} {S : St} {r : Unit × St} (h_a0 : kd g a0 = 12 ∧ lnT a0 = lnT a0) (h : f_J7_fill_d0a16 a0 a1 S = some r) : MW l yJ7_fill_d0a16 cJ7_fill_d0a16 5 none rm_J7_fill_d0a16 g S [.ref (ad g a0), .long a1] (QWv g r) := by
  refine startW [(0, .ref (ad g a0)), (1, .long a1)] (by decide +kernel) (Nat.le_of_ble_eq_true rfl) rfl hg (fun p e s m args below meth c cx => ?_)
  have cx : Cx p s m args meth c cJ7_fill_d0a16 5 none RJ7 g (Ap g) := cx
  rw [f_J7_fill_d0a16] at h
  refine wa_iconst cx dJ7_fill_d0a16_0 (0 : Int32) (by decide) ?_
  refine wa_istore_n cx (i := 3) dJ7_fill_d0a16_1 [(0, .ref (ad g a0)), (1, .long a1), (3, .int (0 : Int32))] rfl (Nat.le_of_ble_eq_true rfl) rfl (lvs_c rfl (lvs_c rfl (lvs_c rfl (lvs_n)))) ?_
  refine wa_aload_n cx (i := 0) dJ7_fill_d0a16_2 rfl rfl ?_
  refine wa_alen cx dJ7_fill_d0a16_3 (nI (lnT a0)) ⟨Or.inr h_a0.1, rfl⟩ ?_
  replace h := sq_eq h
  generalize (nI (lnT a0)) = x4 at h ⊢
  refine wa_istore cx dJ7_fill_d0a16_4 [(0, .ref (ad g a0)), (1, .long a1), (3, .int (0 : Int32)), (4, .int x4)] (Nat.le_of_ble_eq_true rfl) rfl (lvs_c rfl (lvs_c rfl (lvs_c rfl (lvs_c rfl (lvs_n))))) ?_
  refine wa_sub (lv' := [(0, .ref (ad g a0)), (1, .long a1), (3, .int (0 : Int32)), (4, .int x4)]) (lvs_c rfl (lvs_c rfl (lvs_c rfl (lvs_c rfl (lvs_n))))) ?_
  exact w_J7_fill_d0a16_L6 cx h_a0  FU (0 : Int32) x4 S  h
def rm_J7_fill_53178 : Room := { frames := 0, cells := 0, slots := 0, locals := 0 }
def f_J7_fill_53178_L5 : Nat → Nat → Int32 → Int32 → Int32 → St → Option (Unit × St)
  | 0, _, _, _, _, _ => none
  | n + 1, a0, a1, l2, l3, S => if l3 ≤ l2 then some ((), S) else ob l2 (lnT a0) (sq (pI S a0 (Int32.toNatClampNeg l2) a1) fun S3 => f_J7_fill_53178_L5 n a0 a1 (l2 + (1 : Int32)) l3 S3)
set_option maxHeartbeats 4000000 in
set_option maxRecDepth 100000 in
theorem w_J7_fill_53178_L5 {p : Program} {l : Launch} {e : Env} {s : State} {m : MethodId} {args : Array Value} {below : List Frame} {meth : Method} {c : Code} {g : Gl} {r : Unit × St} {a0 : Nat} {a1 : Int32} (cx : Cx p s m args meth c cJ7_fill_53178 4 none RJ7 g (Ap g)) (h_a0 : kd g a0 = 11 ∧ lnT a0 = lnT a0) : ∀ n : Nat, ∀ (l2 : Int32) (l3 : Int32) (S : St), f_J7_fill_53178_L5 n a0 a1 l2 l3 S = some r → WA p l e rm_J7_fill_53178 s m args below meth c 0 0 (MQ below (QWv g r) args s 0 0 (Ap g)) 4 g (Ap g) S 5 [(0, .ref (ad g a0)), (1, .int a1), (2, .int l2), (3, .int l3)] [] := by
  intro n
  induction n with
  | zero => intro l2 l3 S h; rw [f_J7_fill_53178_L5] at h; cases h
  | succ n ih =>
    intro l2 l3 S h
    rw [f_J7_fill_53178_L5] at h
    refine wa_iload_n cx (i := 2) dJ7_fill_53178_5 rfl rfl ?_
    refine wa_iload_n cx (i := 3) dJ7_fill_53178_6 rfl rfl ?_
    refine wa_icmp_ge cx dJ7_fill_53178_7 20 (by decide) (fun q1 => ?_) (fun q1 => ?_)
    · rw [if_pos q1] at h
      exact wa_vret cx h dJ7_fill_53178_20
    · rw [if_neg q1] at h
      refine wa_aload_n cx (i := 0) dJ7_fill_53178_10 rfl rfl ?_
      refine wa_iload_n cx (i := 2) dJ7_fill_53178_11 rfl rfl ?_
      refine wa_iload_n cx (i := 1) dJ7_fill_53178_12 rfl rfl ?_
      obtain ⟨b2, h⟩ := ob_some h
      refine wa_iast cx dJ7_fill_53178_13 h_a0 b2 ?_
      replace h := sq_eq h
      generalize (pI S a0 (Int32.toNatClampNeg l2) a1) = S3 at h ⊢
      refine wa_iinc cx dJ7_fill_53178_14 (l2 + (1 : Int32)) [(0, .ref (ad g a0)), (1, .int a1), (2, .int (l2 + (1 : Int32))), (3, .int l3)] rfl rfl (Nat.le_of_ble_eq_true rfl) rfl (lvs_c rfl (lvs_c rfl (lvs_c rfl (lvs_c rfl (lvs_n))))) ?_
      refine wa_goto cx dJ7_fill_53178_17 5 (by decide) ?_
      refine wa_sub (lv' := [(0, .ref (ad g a0)), (1, .int a1), (2, .int (l2 + (1 : Int32))), (3, .int l3)]) (lvs_c rfl (lvs_c rfl (lvs_c rfl (lvs_c rfl (lvs_n))))) ?_
      exact ih (l2 + (1 : Int32)) l3 S3  h
def f_J7_fill_53178 (a0 : Nat) (a1 : Int32) (S : St) : Option (Unit × St) := sq (nI (lnT a0)) fun x4 => f_J7_fill_53178_L5 FU a0 a1 (0 : Int32) x4 S
set_option maxHeartbeats 4000000 in
set_option maxRecDepth 100000 in
theorem m_J7_fill_53178 (l : Launch) {g : Gl} (hg : GOK g) {a0 : Nat} {a1 : Int32} {S : St} {r : Unit × St} (h_a0 : kd g a0 = 11 ∧ lnT a0 = lnT a0) (h : f_J7_fill_53178 a0 a1 S = some r) : MW l yJ7_fill_53178 cJ7_fill_53178 4 none rm_J7_fill_53178 g S [.ref (ad g a0), .int a1] (QWv g r) := by
  refine startW [(0, .ref (ad g a0)), (1, .int a1)] (by decide +kernel) (Nat.le_of_ble_eq_true rfl) rfl hg (fun p e s m args below meth c cx => ?_)
  have cx : Cx p s m args meth c cJ7_fill_53178 4 none RJ7 g (Ap g) := cx
  rw [f_J7_fill_53178] at h
  refine wa_iconst cx dJ7_fill_53178_0 (0 : Int32) (by decide) ?_
  refine wa_istore_n cx (i := 2) dJ7_fill_53178_1 [(0, .ref (ad g a0)), (1, .int a1), (2, .int (0 : Int32))] rfl (Nat.le_of_ble_eq_true rfl) rfl (lvs_c rfl (lvs_c rfl (lvs_c rfl (lvs_n)))) ?_
  refine wa_aload_n cx (i := 0) dJ7_fill_53178_2 rfl rfl ?_
  refine wa_alen cx dJ7_fill_53178_3 (nI (lnT a0)) ⟨Or.inl h_a0.1, rfl⟩ ?_
  replace h := sq_eq h
  generalize (nI (lnT a0)) = x4 at h ⊢
  refine wa_istore_n cx (i := 3) dJ7_fill_53178_4 [(0, .ref (ad g a0)), (1, .int a1), (2, .int (0 : Int32)), (3, .int x4)] rfl (Nat.le_of_ble_eq_true rfl) rfl (lvs_c rfl (lvs_c rfl (lvs_c rfl (lvs_c rfl (lvs_n))))) ?_
  refine wa_sub (lv' := [(0, .ref (ad g a0)), (1, .int a1), (2, .int (0 : Int32)), (3, .int x4)]) (lvs_c rfl (lvs_c rfl (lvs_c rfl (lvs_c rfl (lvs_n))))) ?_
  exact w_J7_fill_53178_L5 cx h_a0  FU (0 : Int32) x4 S  h
def rm_X6_sortOf : Room := { frames := 0, cells := 0, slots := 0, locals := 0 }
def f_X6_sortOf (c0 : Nat) (a1 : Int32) (S : St) : Option (Int32 × St) := if a1 < 0 then some ((0 : Int32), S) else if (S.1 c0 1) ≤ a1 then some ((0 : Int32), S) else ob a1 8 (some ((S.1 (c0 + 7) (Int32.toNatClampNeg a1)), S))
set_option maxHeartbeats 4000000 in
set_option maxRecDepth 100000 in
theorem m_X6_sortOf (l : Launch) {g : Gl} (hg : GOK g) {c0 : Nat} {a1 : Int32} {S : St} {r : Int32 × St} (h_c0 : kd g c0 = 6) (h : f_X6_sortOf c0 a1 S = some r) : MW l yX6_sortOf cX6_sortOf 2 (some .int) rm_X6_sortOf g S [.ref (ad g c0), .int a1] (QWi g r) := by
  refine startW [(0, .ref (ad g c0)), (1, .int a1)] (by decide +kernel) (Nat.le_of_ble_eq_true rfl) rfl hg (fun p e s m args below meth c cx => ?_)
  have cx : Cx p s m args meth c cX6_sortOf 2 (some .int) RX6 g (Ap g) := cx
  rw [f_X6_sortOf] at h
  refine wa_iload_n cx (i := 1) dX6_sortOf_0 rfl rfl ?_
  refine wa_if_lt cx dX6_sortOf_1 21 (by decide) (fun q1 => ?_) (fun q1 => ?_)
  · rw [if_pos q1] at h
    refine wa_iconst cx dX6_sortOf_21 (0 : Int32) (by decide) ?_
    exact wa_iret cx h dX6_sortOf_22
  · rw [if_neg q1] at h
    refine wa_iload_n cx (i := 1) dX6_sortOf_4 rfl rfl ?_
    refine wa_aload_n cx (i := 0) dX6_sortOf_5 rfl rfl ?_
    refine gf_X6_38 cx h_c0 dX6_sortOf_6 ?_
    refine wa_icmp_ge cx dX6_sortOf_9 21 (by decide) (fun q2 => ?_) (fun q2 => ?_)
    · rw [if_pos q2] at h
      refine wa_iconst cx dX6_sortOf_21 (0 : Int32) (by decide) ?_
      exact wa_iret cx h dX6_sortOf_22
    · rw [if_neg q2] at h
      refine wa_aload_n cx (i := 0) dX6_sortOf_12 rfl rfl ?_
      refine gf_X6_28 cx h_c0 dX6_sortOf_13 ?_
      refine wa_iload_n cx (i := 1) dX6_sortOf_16 rfl rfl ?_
      obtain ⟨b3, h⟩ := ob_some h
      refine wa_iald cx dX6_sortOf_17 (kq6_8 cx.2.2.2.2.2.2.1 h_c0) b3 ?_
      refine wa_goto cx dX6_sortOf_18 22 (by decide) ?_
      exact wa_iret cx h dX6_sortOf_22
def rm_X0_seat : Room := { frames := 1, cells := 0, slots := 0, locals := 21 }
def f_X0_seat_L104 : Nat → Nat → Nat → Int32 → Int32 → Int32 → Int32 → St → Option (Unit × St)
  | 0, _, _, _, _, _, _, _ => none
  | n + 1, c0, a1, a2, a3, l4, l5, S => ob l4 6 (if (S.1 (a1 + 4) (Int32.toNatClampNeg l4)) ≤ l5 then sq (pI S c0 0 ((S.1 c0 0) + (1 : Int32))) fun S3 => some ((), S3) else ob ((l4 * (3 : Int32)) + l5) 18 (sq (S.1 (a1 + 5) (Int32.toNatClampNeg ((l4 * (3 : Int32)) + l5))) fun x5 => ob (((S.1 c0 0) * (3 : Int32)) + l5) 24 (sq (pI S (c0 + 8) (Int32.toNatClampNeg (((S.1 c0 0) * (3 : Int32)) + l5)) x5) fun S7 => ob ((l4 * (3 : Int32)) + l5) 18 (ob (((S7.1 c0 0) * (3 : Int32)) + l5) 24 (sq (pI S7 (c0 + 9) (Int32.toNatClampNeg (((S7.1 c0 0) * (3 : Int32)) + l5)) (S7.1 (a1 + 6) (Int32.toNatClampNeg ((l4 * (3 : Int32)) + l5)))) fun S10 => ob (S10.1 c0 0) 8 (ob (S10.1 c0 0) 8 (sq (pI S10 (c0 + 6) (Int32.toNatClampNeg (S10.1 c0 0)) (imax (S10.1 (c0 + 6) (Int32.toNatClampNeg (S10.1 c0 0))) x5)) fun S13 => f_X0_seat_L104 n c0 a1 a2 a3 l4 (l5 + (1 : Int32)) S13)))))))
set_option maxHeartbeats 4000000 in
set_option maxRecDepth 100000 in
theorem w_X0_seat_L104 {p : Program} {l : Launch} {e : Env} {s : State} {m : MethodId} {args : Array Value} {below : List Frame} {meth : Method} {c : Code} {g : Gl} {r : Unit × St} {c0 : Nat} {a1 : Nat} {a2 : Int32} {a3 : Int32} (cx : Cx p s m args meth c cX0_seat 7 none RX0 g (Ap g)) (h_c0 : kd g c0 = 0) (h_a1 : kd g a1 = 6) : ∀ n : Nat, ∀ (l4 : Int32) (l5 : Int32) (S : St), f_X0_seat_L104 n c0 a1 a2 a3 l4 l5 S = some r → WA p l e rm_X0_seat s m args below meth c 0 0 (MQ below (QWv g r) args s 0 0 (Ap g)) 7 g (Ap g) S 104 [(0, .ref (ad g c0)), (1, .ref (ad g a1)), (4, .int l4), (5, .int l5)] [] := by
  intro n
  induction n with
  | zero => intro l4 l5 S h; rw [f_X0_seat_L104] at h; cases h
  | succ n ih =>
    intro l4 l5 S h
    rw [f_X0_seat_L104] at h
    refine wa_iload cx dX0_seat_104 rfl ?_
    refine wa_aload_n cx (i := 1) dX0_seat_106 rfl rfl ?_
    refine gf_X0_74 cx h_a1 dX0_seat_107 ?_
    refine wa_iload cx dX0_seat_110 rfl ?_
    obtain ⟨b1, h⟩ := ob_some h
    refine wa_iald cx dX0_seat_112 (kq6_5 cx.2.2.2.2.2.2.1 h_a1) b1 ?_
    refine wa_icmp_ge cx dX0_seat_113 201 (by decide) (fun q2 => ?_) (fun q2 => ?_)
    · rw [if_pos q2] at h
      refine wa_aload_n cx (i := 0) dX0_seat_201 rfl rfl ?_
      refine wa_dup cx dX0_seat_202 rfl ?_
      refine gf_X0_61 cx h_c0 dX0_seat_203 ?_
      refine wa_iconst cx dX0_seat_206 (1 : Int32) (by decide) ?_
      refine wa_iadd cx dX0_seat_207 ?_
      refine pf_X0_61 cx h_c0 dX0_seat_208 ?_
      replace h := sq_eq h
      generalize (pI S c0 0 ((S.1 c0 0) + (1 : Int32))) = S3 at h ⊢
      exact wa_vret cx h dX0_seat_211
    · rw [if_neg q2] at h
      refine wa_aload_n cx (i := 1) dX0_seat_116 rfl rfl ?_
      refine gf_X0_75 cx h_a1 dX0_seat_117 ?_
      refine wa_iload cx dX0_seat_120 rfl ?_
      refine wa_iconst cx dX0_seat_122 (3 : Int32) (by decide) ?_
      refine wa_imul cx dX0_seat_123 ?_
      refine wa_iload cx dX0_seat_124 rfl ?_
      refine wa_iadd cx dX0_seat_126 ?_
      obtain ⟨b4, h⟩ := ob_some h
      refine wa_iald cx dX0_seat_127 (kq6_6 cx.2.2.2.2.2.2.1 h_a1) b4 ?_
      replace h := sq_eq h
      generalize (S.1 (a1 + 5) (Int32.toNatClampNeg ((l4 * (3 : Int32)) + l5))) = x5 at h ⊢
      refine wa_istore cx dX0_seat_128 [(0, .ref (ad g c0)), (1, .ref (ad g a1)), (4, .int l4), (5, .int l5), (6, .int x5)] (Nat.le_of_ble_eq_true rfl) rfl (lvs_c rfl (lvs_c rfl (lvs_c rfl (lvs_c rfl (lvs_c rfl (lvs_n)))))) ?_
      refine wa_aload_n cx (i := 0) dX0_seat_130 rfl rfl ?_
      refine gf_X0_35 cx h_c0 dX0_seat_131 ?_
      refine wa_aload_n cx (i := 0) dX0_seat_134 rfl rfl ?_
      refine gf_X0_61 cx h_c0 dX0_seat_135 ?_
      refine wa_iconst cx dX0_seat_138 (3 : Int32) (by decide) ?_
      refine wa_imul cx dX0_seat_139 ?_
      refine wa_iload cx dX0_seat_140 rfl ?_
      refine wa_iadd cx dX0_seat_142 ?_
      refine wa_iload cx dX0_seat_143 rfl ?_
      obtain ⟨b6, h⟩ := ob_some h
      refine wa_iast cx dX0_seat_145 (kq0_8 cx.2.2.2.2.2.2.1 h_c0) b6 ?_
      replace h := sq_eq h
      generalize (pI S (c0 + 8) (Int32.toNatClampNeg (((S.1 c0 0) * (3 : Int32)) + l5)) x5) = S7 at h ⊢
      refine wa_aload_n cx (i := 0) dX0_seat_146 rfl rfl ?_
      refine gf_X0_38 cx h_c0 dX0_seat_147 ?_
      refine wa_aload_n cx (i := 0) dX0_seat_150 rfl rfl ?_
      refine gf_X0_61 cx h_c0 dX0_seat_151 ?_
      refine wa_iconst cx dX0_seat_154 (3 : Int32) (by decide) ?_
      refine wa_imul cx dX0_seat_155 ?_
      refine wa_iload cx dX0_seat_156 rfl ?_
      refine wa_iadd cx dX0_seat_158 ?_
      refine wa_aload_n cx (i := 1) dX0_seat_159 rfl rfl ?_
      refine gf_X0_76 cx h_a1 dX0_seat_160 ?_
      refine wa_iload cx dX0_seat_163 rfl ?_
      refine wa_iconst cx dX0_seat_165 (3 : Int32) (by decide) ?_
      refine wa_imul cx dX0_seat_166 ?_
      refine wa_iload cx dX0_seat_167 rfl ?_
      refine wa_iadd cx dX0_seat_169 ?_
      obtain ⟨b8, h⟩ := ob_some h
      refine wa_iald cx dX0_seat_170 (kq6_7 cx.2.2.2.2.2.2.1 h_a1) b8 ?_
      obtain ⟨b9, h⟩ := ob_some h
      refine wa_iast cx dX0_seat_171 (kq0_9 cx.2.2.2.2.2.2.1 h_c0) b9 ?_
      replace h := sq_eq h
      generalize (pI S7 (c0 + 9) (Int32.toNatClampNeg (((S7.1 c0 0) * (3 : Int32)) + l5)) (S7.1 (a1 + 6) (Int32.toNatClampNeg ((l4 * (3 : Int32)) + l5)))) = S10 at h ⊢
      refine wa_aload_n cx (i := 0) dX0_seat_172 rfl rfl ?_
      refine gf_X0_29 cx h_c0 dX0_seat_173 ?_
      refine wa_aload_n cx (i := 0) dX0_seat_176 rfl rfl ?_
      refine gf_X0_61 cx h_c0 dX0_seat_177 ?_
      refine wa_aload_n cx (i := 0) dX0_seat_180 rfl rfl ?_
      refine gf_X0_29 cx h_c0 dX0_seat_181 ?_
      refine wa_aload_n cx (i := 0) dX0_seat_184 rfl rfl ?_
      refine gf_X0_61 cx h_c0 dX0_seat_185 ?_
      obtain ⟨b11, h⟩ := ob_some h
      refine wa_iald cx dX0_seat_188 (kq0_6 cx.2.2.2.2.2.2.1 h_c0) b11 ?_
      refine wa_iload cx dX0_seat_189 rfl ?_
      refine wa_mmax cx dX0_seat_191 ml_X0_77 mmax_s m_i mmax_c ⟨Nat.le_of_ble_eq_true rfl, Nat.le_of_ble_eq_true rfl⟩ ⟨Nat.zero_le _, Nat.zero_le _⟩ ?_
      obtain ⟨b12, h⟩ := ob_some h
      refine wa_iast cx dX0_seat_194 (kq0_6 cx.2.2.2.2.2.2.1 h_c0) b12 ?_
      replace h := sq_eq h
      generalize (pI S10 (c0 + 6) (Int32.toNatClampNeg (S10.1 c0 0)) (imax (S10.1 (c0 + 6) (Int32.toNatClampNeg (S10.1 c0 0))) x5)) = S13 at h ⊢
      refine wa_iinc cx dX0_seat_195 (l5 + (1 : Int32)) [(0, .ref (ad g c0)), (1, .ref (ad g a1)), (4, .int l4), (5, .int (l5 + (1 : Int32)))] rfl rfl (Nat.le_of_ble_eq_true rfl) rfl (lvs_c rfl (lvs_c rfl (lvs_c rfl (lvs_c rfl (lvs_n))))) ?_
      refine wa_goto cx dX0_seat_198 104 (by decide) ?_
      refine wa_sub (lv' := [(0, .ref (ad g c0)), (1, .ref (ad g a1)), (4, .int l4), (5, .int (l5 + (1 : Int32)))]) (lvs_c rfl (lvs_c rfl (lvs_c rfl (lvs_c rfl (lvs_n))))) ?_
      exact ih l4 (l5 + (1 : Int32)) S13  h
def f_X0_seat (c0 : Nat) (a1 : Nat) (a2 : Int32) (a3 : Int32) (S : St) : Option (Unit × St) := bd (f_X6_sortOf a1 a2 S) fun x14 S15 => ob (S15.1 c0 0) 8 (sq (pI S15 (c0 + 1) (Int32.toNatClampNeg (S15.1 c0 0)) a2) fun S18 => ob (S18.1 c0 0) 8 (sq (pI S18 (c0 + 2) (Int32.toNatClampNeg (S18.1 c0 0)) a3) fun S20 => ob x14 6 (ob (S20.1 c0 0) 8 (sq (pI S20 (c0 + 3) (Int32.toNatClampNeg (S20.1 c0 0)) (S20.1 (a1 + 1) (Int32.toNatClampNeg x14))) fun S23 => ob x14 6 (ob (S23.1 c0 0) 8 (sq (pI S23 (c0 + 4) (Int32.toNatClampNeg (S23.1 c0 0)) (S23.1 (a1 + 2) (Int32.toNatClampNeg x14))) fun S26 => ob x14 6 (ob (S26.1 c0 0) 8 (sq (pI S26 (c0 + 5) (Int32.toNatClampNeg (S26.1 c0 0)) (S26.1 (a1 + 3) (Int32.toNatClampNeg x14))) fun S29 => ob x14 6 (ob (S29.1 c0 0) 8 (sq (pI S29 (c0 + 7) (Int32.toNatClampNeg (S29.1 c0 0)) (S29.1 (a1 + 4) (Int32.toNatClampNeg x14))) fun S32 => ob (S32.1 c0 0) 8 (sq (pI S32 (c0 + 6) (Int32.toNatClampNeg (S32.1 c0 0)) (0 : Int32)) fun S34 => f_X0_seat_L104 FU c0 a1 a2 a3 x14 (0 : Int32) S34)))))))))))
set_option maxHeartbeats 4000000 in
set_option maxRecDepth 100000 in
theorem m_X0_seat (l : Launch) {g : Gl} (hg : GOK g) {c0 : Nat} {a1 : Nat} {a2 : Int32} {a3 : Int32} {S : St} {r : Unit × St} (h_c0 : kd g c0 = 0) (h_a1 : kd g a1 = 6) (h : f_X0_seat c0 a1 a2 a3 S = some r) : MW l yX0_seat cX0_seat 7 none rm_X0_seat g S [.ref (ad g c0), .ref (ad g a1), .int a2, .int a3] (QWv g r) := by
  refine startW [(0, .ref (ad g c0)), (1, .ref (ad g a1)), (2, .int a2), (3, .int a3)] (by decide +kernel) (Nat.le_of_ble_eq_true rfl) rfl hg (fun p e s m args below meth c cx => ?_)
  have cx : Cx p s m args meth c cX0_seat 7 none RX0 g (Ap g) := cx
  rw [f_X0_seat] at h
  refine wa_aload_n cx (i := 1) dX0_seat_0 rfl rfl ?_
  refine wa_iload_n cx (i := 2) dX0_seat_1 rfl rfl ?_
  obtain ⟨x14, S15, e16, h⟩ := bd_some h
  refine wa_callVi cx (m_X6_sortOf l cx.2.2.2.2.2.2.1 h_a1 e16) vl_X0_68 h_a1 (by decide) rfl rfl ⟨_, cell_eq6 (kd_lt h_a1 (by decide)).2⟩ ⟨Nat.le_of_ble_eq_true rfl, Nat.le_of_ble_eq_true rfl⟩ ⟨rfl, rfl⟩ ⟨Nat.zero_le _, Nat.zero_le _⟩ rfl (Nat.le_of_ble_eq_true rfl) dX0_seat_2 rfl ?_
  refine wa_istore cx dX0_seat_5 [(0, .ref (ad g c0)), (1, .ref (ad g a1)), (2, .int a2), (3, .int a3), (4, .int x14)] (Nat.le_of_ble_eq_true rfl) rfl (lvs_c rfl (lvs_c rfl (lvs_c rfl (lvs_c rfl (lvs_c rfl (lvs_n)))))) ?_
  refine wa_aload_n cx (i := 0) dX0_seat_7 rfl rfl ?_
  refine gf_X0_11 cx h_c0 dX0_seat_8 ?_
  refine wa_aload_n cx (i := 0) dX0_seat_11 rfl rfl ?_
  refine gf_X0_61 cx h_c0 dX0_seat_12 ?_
  refine wa_iload_n cx (i := 2) dX0_seat_15 rfl rfl ?_
  obtain ⟨b17, h⟩ := ob_some h
  refine wa_iast cx dX0_seat_16 (kq0_1 cx.2.2.2.2.2.2.1 h_c0) b17 ?_
  replace h := sq_eq h
  generalize (pI S15 (c0 + 1) (Int32.toNatClampNeg (S15.1 c0 0)) a2) = S18 at h ⊢
  refine wa_aload_n cx (i := 0) dX0_seat_17 rfl rfl ?_
  refine gf_X0_17 cx h_c0 dX0_seat_18 ?_
  refine wa_aload_n cx (i := 0) dX0_seat_21 rfl rfl ?_
  refine gf_X0_61 cx h_c0 dX0_seat_22 ?_
  refine wa_iload_n cx (i := 3) dX0_seat_25 rfl rfl ?_
  obtain ⟨b19, h⟩ := ob_some h
  refine wa_iast cx dX0_seat_26 (kq0_2 cx.2.2.2.2.2.2.1 h_c0) b19 ?_
  replace h := sq_eq h
  generalize (pI S18 (c0 + 2) (Int32.toNatClampNeg (S18.1 c0 0)) a3) = S20 at h ⊢
  refine wa_aload_n cx (i := 0) dX0_seat_27 rfl rfl ?_
  refine gf_X0_20 cx h_c0 dX0_seat_28 ?_
  refine wa_aload_n cx (i := 0) dX0_seat_31 rfl rfl ?_
  refine gf_X0_61 cx h_c0 dX0_seat_32 ?_
  refine wa_aload_n cx (i := 1) dX0_seat_35 rfl rfl ?_
  refine gf_X0_54 cx h_a1 dX0_seat_36 ?_
  refine wa_iload cx dX0_seat_39 rfl ?_
  obtain ⟨b21, h⟩ := ob_some h
  refine wa_iald cx dX0_seat_41 (kq6_2 cx.2.2.2.2.2.2.1 h_a1) b21 ?_
  obtain ⟨b22, h⟩ := ob_some h
  refine wa_iast cx dX0_seat_42 (kq0_3 cx.2.2.2.2.2.2.1 h_c0) b22 ?_
  replace h := sq_eq h
  generalize (pI S20 (c0 + 3) (Int32.toNatClampNeg (S20.1 c0 0)) (S20.1 (a1 + 1) (Int32.toNatClampNeg x14))) = S23 at h ⊢
  refine wa_aload_n cx (i := 0) dX0_seat_43 rfl rfl ?_
  refine gf_X0_23 cx h_c0 dX0_seat_44 ?_
  refine wa_aload_n cx (i := 0) dX0_seat_47 rfl rfl ?_
  refine gf_X0_61 cx h_c0 dX0_seat_48 ?_
  refine wa_aload_n cx (i := 1) dX0_seat_51 rfl rfl ?_
  refine gf_X0_72 cx h_a1 dX0_seat_52 ?_
  refine wa_iload cx dX0_seat_55 rfl ?_
  obtain ⟨b24, h⟩ := ob_some h
  refine wa_iald cx dX0_seat_57 (kq6_3 cx.2.2.2.2.2.2.1 h_a1) b24 ?_
  obtain ⟨b25, h⟩ := ob_some h
  refine wa_iast cx dX0_seat_58 (kq0_4 cx.2.2.2.2.2.2.1 h_c0) b25 ?_
  replace h := sq_eq h
  generalize (pI S23 (c0 + 4) (Int32.toNatClampNeg (S23.1 c0 0)) (S23.1 (a1 + 2) (Int32.toNatClampNeg x14))) = S26 at h ⊢
  refine wa_aload_n cx (i := 0) dX0_seat_59 rfl rfl ?_
  refine gf_X0_26 cx h_c0 dX0_seat_60 ?_
  refine wa_aload_n cx (i := 0) dX0_seat_63 rfl rfl ?_
  refine gf_X0_61 cx h_c0 dX0_seat_64 ?_
  refine wa_aload_n cx (i := 1) dX0_seat_67 rfl rfl ?_
  refine gf_X0_73 cx h_a1 dX0_seat_68 ?_
  refine wa_iload cx dX0_seat_71 rfl ?_
  obtain ⟨b27, h⟩ := ob_some h
  refine wa_iald cx dX0_seat_73 (kq6_4 cx.2.2.2.2.2.2.1 h_a1) b27 ?_
  obtain ⟨b28, h⟩ := ob_some h
  refine wa_iast cx dX0_seat_74 (kq0_5 cx.2.2.2.2.2.2.1 h_c0) b28 ?_
  replace h := sq_eq h
  generalize (pI S26 (c0 + 5) (Int32.toNatClampNeg (S26.1 c0 0)) (S26.1 (a1 + 3) (Int32.toNatClampNeg x14))) = S29 at h ⊢
  refine wa_aload_n cx (i := 0) dX0_seat_75 rfl rfl ?_
  refine gf_X0_32 cx h_c0 dX0_seat_76 ?_
  refine wa_aload_n cx (i := 0) dX0_seat_79 rfl rfl ?_
  refine gf_X0_61 cx h_c0 dX0_seat_80 ?_
  refine wa_aload_n cx (i := 1) dX0_seat_83 rfl rfl ?_
  refine gf_X0_74 cx h_a1 dX0_seat_84 ?_
  refine wa_iload cx dX0_seat_87 rfl ?_
  obtain ⟨b30, h⟩ := ob_some h
  refine wa_iald cx dX0_seat_89 (kq6_5 cx.2.2.2.2.2.2.1 h_a1) b30 ?_
  obtain ⟨b31, h⟩ := ob_some h
  refine wa_iast cx dX0_seat_90 (kq0_7 cx.2.2.2.2.2.2.1 h_c0) b31 ?_
  replace h := sq_eq h
  generalize (pI S29 (c0 + 7) (Int32.toNatClampNeg (S29.1 c0 0)) (S29.1 (a1 + 4) (Int32.toNatClampNeg x14))) = S32 at h ⊢
  refine wa_aload_n cx (i := 0) dX0_seat_91 rfl rfl ?_
  refine gf_X0_29 cx h_c0 dX0_seat_92 ?_
  refine wa_aload_n cx (i := 0) dX0_seat_95 rfl rfl ?_
  refine gf_X0_61 cx h_c0 dX0_seat_96 ?_
  refine wa_iconst cx dX0_seat_99 (0 : Int32) (by decide) ?_
  obtain ⟨b33, h⟩ := ob_some h
  refine wa_iast cx dX0_seat_100 (kq0_6 cx.2.2.2.2.2.2.1 h_c0) b33 ?_
  replace h := sq_eq h
  generalize (pI S32 (c0 + 6) (Int32.toNatClampNeg (S32.1 c0 0)) (0 : Int32)) = S34 at h ⊢
  refine wa_iconst cx dX0_seat_101 (0 : Int32) (by decide) ?_
  refine wa_istore cx dX0_seat_102 [(0, .ref (ad g c0)), (1, .ref (ad g a1)), (4, .int x14), (5, .int (0 : Int32))] (Nat.le_of_ble_eq_true rfl) rfl (lvs_c rfl (lvs_c rfl (lvs_c rfl (lvs_c rfl (lvs_n))))) ?_
  refine wa_sub (lv' := [(0, .ref (ad g c0)), (1, .ref (ad g a1)), (4, .int x14), (5, .int (0 : Int32))]) (lvs_c rfl (lvs_c rfl (lvs_c rfl (lvs_c rfl (lvs_n))))) ?_
  exact w_X0_seat_L104 cx h_c0 h_a1  FU x14 (0 : Int32) S34  h
def rm_X0_arrange : Room := { frames := 2, cells := 0, slots := 0, locals := 47 }
def f_X0_arrange_J177 (c0 : Nat) (a1 : Nat) (a2 : Int32) (kb109 : Nat → Int32 → Int32 → Int32 → St → Option (Int32 × St)) (kb118 : Nat → Int32 → Int32 → Int32 → Int32 → St → Option (Int32 × St)) (l3 : Nat) (l4 : Int32) (l5 : Int32) (l6 : Int32) (l7 : Int32) (S : St) : Option (Int32 × St) := bd (f_X0_seat c0 l3 l7 l6 S) fun _ S1 => kb118 l3 l4 l5 l6 (l7 + (1 : Int32)) S1
set_option maxHeartbeats 4000000 in
set_option maxRecDepth 100000 in
theorem w_X0_arrange_J177 {p : Program} {l : Launch} {e : Env} {s : State} {m : MethodId} {args : Array Value} {below : List Frame} {meth : Method} {c : Code} {g : Gl} {r : Int32 × St} {c0 : Nat} {a1 : Nat} {a2 : Int32} {kb109 : Nat → Int32 → Int32 → Int32 → St → Option (Int32 × St)} {kb118 : Nat → Int32 → Int32 → Int32 → Int32 → St → Option (Int32 × St)} (cx : Cx p s m args meth c cX0_arrange 8 (some .boolean) RX0 g (Ap g)) (h_c0 : kd g c0 = 0) (h_a1 : kd g a1 = 2) (hkb109 : ∀ (l3 : Nat) (l4 : Int32) (l5 : Int32) (l6 : Int32) (S : St), kd g l3 = 6 → kb109 l3 l4 l5 l6 S = some r → WA p l e rm_X0_arrange s m args below meth c 0 0 (MQ below (QWi g r) args s 0 0 (Ap g)) 8 g (Ap g) S 109 [(0, .ref (ad g c0)), (2, .int a2), (3, .ref (ad g l3)), (4, .int l4), (5, .int l5), (6, .int l6)] []) (hkb118 : ∀ (l3 : Nat) (l4 : Int32) (l5 : Int32) (l6 : Int32) (l7 : Int32) (S : St), kd g l3 = 6 → kb118 l3 l4 l5 l6 l7 S = some r → WA p l e rm_X0_arrange s m args below meth c 0 0 (MQ below (QWi g r) args s 0 0 (Ap g)) 8 g (Ap g) S 118 [(0, .ref (ad g c0)), (2, .int a2), (3, .ref (ad g l3)), (4, .int l4), (5, .int l5), (6, .int l6), (7, .int l7)] []) : ∀ (l3 : Nat) (l4 : Int32) (l5 : Int32) (l6 : Int32) (l7 : Int32) (S : St), kd g l3 = 6 → f_X0_arrange_J177 c0 a1 a2 kb109 kb118 l3 l4 l5 l6 l7 S = some r → WA p l e rm_X0_arrange s m args below meth c 0 0 (MQ below (QWi g r) args s 0 0 (Ap g)) 8 g (Ap g) S 177 [(0, .ref (ad g c0)), (2, .int a2), (3, .ref (ad g l3)), (4, .int l4), (5, .int l5), (6, .int l6), (7, .int l7)] [] := by
  intro l3 l4 l5 l6 l7 S h_l3 h
  rw [f_X0_arrange_J177] at h
  refine wa_aload_n cx (i := 0) dX0_arrange_177 rfl rfl ?_
  refine wa_aload_n cx (i := 3) dX0_arrange_178 rfl rfl ?_
  refine wa_iload cx dX0_arrange_179 rfl ?_
  refine wa_iload cx dX0_arrange_181 rfl ?_
  obtain ⟨u3, S1, e2, h⟩ := bd_some h
  refine wa_callVv cx (m_X0_seat l cx.2.2.2.2.2.2.1 h_c0 h_l3 e2) vl_X0_64 h_c0 (by decide) rfl rfl ⟨_, cell_eq0 (kd_lt h_c0 (by decide)).2⟩ ⟨Nat.le_of_ble_eq_true rfl, Nat.le_of_ble_eq_true rfl⟩ ⟨rfl, rfl⟩ ⟨Nat.zero_le _, Nat.zero_le _⟩ rfl (Nat.le_of_ble_eq_true rfl) dX0_arrange_183 rfl ?_
  refine wa_iinc cx dX0_arrange_186 (l7 + (1 : Int32)) [(0, .ref (ad g c0)), (2, .int a2), (3, .ref (ad g l3)), (4, .int l4), (5, .int l5), (6, .int l6), (7, .int (l7 + (1 : Int32)))] rfl rfl (Nat.le_of_ble_eq_true rfl) rfl (lvs_c rfl (lvs_c rfl (lvs_c rfl (lvs_c rfl (lvs_c rfl (lvs_c rfl (lvs_c rfl (lvs_n)))))))) ?_
  refine wa_goto cx dX0_arrange_189 118 (by decide) ?_
  refine wa_sub (lv' := [(0, .ref (ad g c0)), (2, .int a2), (3, .ref (ad g l3)), (4, .int l4), (5, .int l5), (6, .int l6), (7, .int (l7 + (1 : Int32)))]) (lvs_c rfl (lvs_c rfl (lvs_c rfl (lvs_c rfl (lvs_c rfl (lvs_c rfl (lvs_c rfl (lvs_n)))))))) ?_
  exact hkb118 l3 l4 l5 l6 (l7 + (1 : Int32)) S1 h_l3 h
def f_X0_arrange_J174 (c0 : Nat) (a1 : Nat) (a2 : Int32) (kb109 : Nat → Int32 → Int32 → Int32 → St → Option (Int32 × St)) (kb118 : Nat → Int32 → Int32 → Int32 → Int32 → St → Option (Int32 × St)) (l3 : Nat) (l4 : Int32) (l6 : Int32) (l7 : Int32) (S : St) : Option (Int32 × St) := f_X0_arrange_J177 c0 a1 a2 kb109 kb118 l3 l4 (1 : Int32) l6 l7 S
set_option maxHeartbeats 4000000 in
set_option maxRecDepth 100000 in
theorem w_X0_arrange_J174 {p : Program} {l : Launch} {e : Env} {s : State} {m : MethodId} {args : Array Value} {below : List Frame} {meth : Method} {c : Code} {g : Gl} {r : Int32 × St} {c0 : Nat} {a1 : Nat} {a2 : Int32} {kb109 : Nat → Int32 → Int32 → Int32 → St → Option (Int32 × St)} {kb118 : Nat → Int32 → Int32 → Int32 → Int32 → St → Option (Int32 × St)} (cx : Cx p s m args meth c cX0_arrange 8 (some .boolean) RX0 g (Ap g)) (h_c0 : kd g c0 = 0) (h_a1 : kd g a1 = 2) (hkb109 : ∀ (l3 : Nat) (l4 : Int32) (l5 : Int32) (l6 : Int32) (S : St), kd g l3 = 6 → kb109 l3 l4 l5 l6 S = some r → WA p l e rm_X0_arrange s m args below meth c 0 0 (MQ below (QWi g r) args s 0 0 (Ap g)) 8 g (Ap g) S 109 [(0, .ref (ad g c0)), (2, .int a2), (3, .ref (ad g l3)), (4, .int l4), (5, .int l5), (6, .int l6)] []) (hkb118 : ∀ (l3 : Nat) (l4 : Int32) (l5 : Int32) (l6 : Int32) (l7 : Int32) (S : St), kd g l3 = 6 → kb118 l3 l4 l5 l6 l7 S = some r → WA p l e rm_X0_arrange s m args below meth c 0 0 (MQ below (QWi g r) args s 0 0 (Ap g)) 8 g (Ap g) S 118 [(0, .ref (ad g c0)), (2, .int a2), (3, .ref (ad g l3)), (4, .int l4), (5, .int l5), (6, .int l6), (7, .int l7)] []) : ∀ (l3 : Nat) (l4 : Int32) (l6 : Int32) (l7 : Int32) (S : St), kd g l3 = 6 → f_X0_arrange_J174 c0 a1 a2 kb109 kb118 l3 l4 l6 l7 S = some r → WA p l e rm_X0_arrange s m args below meth c 0 0 (MQ below (QWi g r) args s 0 0 (Ap g)) 8 g (Ap g) S 174 [(0, .ref (ad g c0)), (2, .int a2), (3, .ref (ad g l3)), (4, .int l4), (6, .int l6), (7, .int l7)] [] := by
  intro l3 l4 l6 l7 S h_l3 h
  rw [f_X0_arrange_J174] at h
  refine wa_iconst cx dX0_arrange_174 (1 : Int32) (by decide) ?_
  refine wa_istore cx dX0_arrange_175 [(0, .ref (ad g c0)), (2, .int a2), (3, .ref (ad g l3)), (4, .int l4), (5, .int (1 : Int32)), (6, .int l6), (7, .int l7)] (Nat.le_of_ble_eq_true rfl) rfl (lvs_c rfl (lvs_c rfl (lvs_c rfl (lvs_c rfl (lvs_c rfl (lvs_c rfl (lvs_c rfl (lvs_n)))))))) ?_
  refine wa_sub (lv' := [(0, .ref (ad g c0)), (2, .int a2), (3, .ref (ad g l3)), (4, .int l4), (5, .int (1 : Int32)), (6, .int l6), (7, .int l7)]) (lvs_c rfl (lvs_c rfl (lvs_c rfl (lvs_c rfl (lvs_c rfl (lvs_c rfl (lvs_c rfl (lvs_n)))))))) ?_
  exact w_X0_arrange_J177 cx h_c0 h_a1 hkb109 hkb118  l3 l4 (1 : Int32) l6 l7 S h_l3 h
def f_X0_arrange_L118 : Nat → Nat → Nat → Int32 → (Nat → Int32 → Int32 → Int32 → St → Option (Int32 × St)) → Nat → Int32 → Int32 → Int32 → Int32 → St → Option (Int32 × St)
  | 0, _, _, _, _, _, _, _, _, _, _ => none
  | n + 1, c0, a1, a2, kb109, l3, l4, l5, l6, l7, S => if (S.1 l3 1) ≤ l7 then kb109 l3 l4 l5 (l6 + (1 : Int32)) S else ob l7 8 (if (S.1 (c0 + 10) (Int32.toNatClampNeg l7)) = l6 then if (S.1 c0 0) < (8 : Int32) then if l4 ≤ (S.1 c0 0) then f_X0_arrange_J174 c0 a1 a2 kb109 (fun l3 l4 l5 l6 l7 S => f_X0_arrange_L118 n c0 a1 a2 kb109 l3 l4 l5 l6 l7 S) l3 l4 l6 l7 S else ob (S.1 c0 0) 8 (if (S.1 (c0 + 1) (Int32.toNatClampNeg (S.1 c0 0))) = l7 then f_X0_arrange_J177 c0 a1 a2 kb109 (fun l3 l4 l5 l6 l7 S => f_X0_arrange_L118 n c0 a1 a2 kb109 l3 l4 l5 l6 l7 S) l3 l4 l5 l6 l7 S else f_X0_arrange_J174 c0 a1 a2 kb109 (fun l3 l4 l5 l6 l7 S => f_X0_arrange_L118 n c0 a1 a2 kb109 l3 l4 l5 l6 l7 S) l3 l4 l6 l7 S) else f_X0_arrange_L118 n c0 a1 a2 kb109 l3 l4 l5 l6 (l7 + (1 : Int32)) S else f_X0_arrange_L118 n c0 a1 a2 kb109 l3 l4 l5 l6 (l7 + (1 : Int32)) S)
set_option maxHeartbeats 4000000 in
set_option maxRecDepth 100000 in
theorem w_X0_arrange_L118 {p : Program} {l : Launch} {e : Env} {s : State} {m : MethodId} {args : Array Value} {below : List Frame} {meth : Method} {c : Code} {g : Gl} {r : Int32 × St} {c0 : Nat} {a1 : Nat} {a2 : Int32} {kb109 : Nat → Int32 → Int32 → Int32 → St → Option (Int32 × St)} (cx : Cx p s m args meth c cX0_arrange 8 (some .boolean) RX0 g (Ap g)) (h_c0 : kd g c0 = 0) (h_a1 : kd g a1 = 2) (hkb109 : ∀ (l3 : Nat) (l4 : Int32) (l5 : Int32) (l6 : Int32) (S : St), kd g l3 = 6 → kb109 l3 l4 l5 l6 S = some r → WA p l e rm_X0_arrange s m args below meth c 0 0 (MQ below (QWi g r) args s 0 0 (Ap g)) 8 g (Ap g) S 109 [(0, .ref (ad g c0)), (2, .int a2), (3, .ref (ad g l3)), (4, .int l4), (5, .int l5), (6, .int l6)] []) : ∀ n : Nat, ∀ (l3 : Nat) (l4 : Int32) (l5 : Int32) (l6 : Int32) (l7 : Int32) (S : St), kd g l3 = 6 → f_X0_arrange_L118 n c0 a1 a2 kb109 l3 l4 l5 l6 l7 S = some r → WA p l e rm_X0_arrange s m args below meth c 0 0 (MQ below (QWi g r) args s 0 0 (Ap g)) 8 g (Ap g) S 118 [(0, .ref (ad g c0)), (2, .int a2), (3, .ref (ad g l3)), (4, .int l4), (5, .int l5), (6, .int l6), (7, .int l7)] [] := by
  intro n
  induction n with
  | zero => intro l3 l4 l5 l6 l7 S h_l3 h; rw [f_X0_arrange_L118] at h; cases h
  | succ n ih =>
    intro l3 l4 l5 l6 l7 S h_l3 h
    rw [f_X0_arrange_L118] at h
    refine wa_iload cx dX0_arrange_118 rfl ?_
    refine wa_aload_n cx (i := 3) dX0_arrange_120 rfl rfl ?_
    refine gf_X0_50 cx h_l3 dX0_arrange_121 ?_
    refine wa_icmp_ge cx dX0_arrange_124 192 (by decide) (fun q4 => ?_) (fun q4 => ?_)
    · rw [if_pos q4] at h
      refine wa_iinc cx dX0_arrange_192 (l6 + (1 : Int32)) [(0, .ref (ad g c0)), (2, .int a2), (3, .ref (ad g l3)), (4, .int l4), (5, .int l5), (6, .int (l6 + (1 : Int32)))] rfl rfl (Nat.le_of_ble_eq_true rfl) rfl (lvs_c rfl (lvs_c rfl (lvs_c rfl (lvs_c rfl (lvs_c rfl (lvs_c rfl (lvs_n))))))) ?_
      refine wa_goto cx dX0_arrange_195 109 (by decide) ?_
      refine wa_sub (lv' := [(0, .ref (ad g c0)), (2, .int a2), (3, .ref (ad g l3)), (4, .int l4), (5, .int l5), (6, .int (l6 + (1 : Int32)))]) (lvs_c rfl (lvs_c rfl (lvs_c rfl (lvs_c rfl (lvs_c rfl (lvs_c rfl (lvs_n))))))) ?_
      exact hkb109 l3 l4 l5 (l6 + (1 : Int32)) S h_l3 h
    · rw [if_neg q4] at h
      refine wa_aload_n cx (i := 0) dX0_arrange_127 rfl rfl ?_
      refine gf_X0_41 cx h_c0 dX0_arrange_128 ?_
      refine wa_iload cx dX0_arrange_131 rfl ?_
      obtain ⟨b5, h⟩ := ob_some h
      refine wa_iald cx dX0_arrange_133 (kq0_10 cx.2.2.2.2.2.2.1 h_c0) b5 ?_
      refine wa_iload cx dX0_arrange_134 rfl ?_
      refine wa_icmp_ne cx dX0_arrange_136 186 (by decide) (fun q6 => ?_) (fun q6 => ?_)
      · rw [if_neg q6] at h
        refine wa_iinc cx dX0_arrange_186 (l7 + (1 : Int32)) [(0, .ref (ad g c0)), (2, .int a2), (3, .ref (ad g l3)), (4, .int l4), (5, .int l5), (6, .int l6), (7, .int (l7 + (1 : Int32)))] rfl rfl (Nat.le_of_ble_eq_true rfl) rfl (lvs_c rfl (lvs_c rfl (lvs_c rfl (lvs_c rfl (lvs_c rfl (lvs_c rfl (lvs_c rfl (lvs_n)))))))) ?_
        refine wa_goto cx dX0_arrange_189 118 (by decide) ?_
        refine wa_sub (lv' := [(0, .ref (ad g c0)), (2, .int a2), (3, .ref (ad g l3)), (4, .int l4), (5, .int l5), (6, .int l6), (7, .int (l7 + (1 : Int32)))]) (lvs_c rfl (lvs_c rfl (lvs_c rfl (lvs_c rfl (lvs_c rfl (lvs_c rfl (lvs_c rfl (lvs_n)))))))) ?_
        exact ih l3 l4 l5 l6 (l7 + (1 : Int32)) S h_l3 h
      · rw [if_pos q6] at h
        refine wa_aload_n cx (i := 0) dX0_arrange_139 rfl rfl ?_
        refine gf_X0_61 cx h_c0 dX0_arrange_140 ?_
        refine wa_bipush cx dX0_arrange_143 (8 : Int32) (by decide) ?_
        refine wa_icmp_lt cx dX0_arrange_145 151 (by decide) (fun q7 => ?_) (fun q7 => ?_)
        · rw [if_pos q7] at h
          refine wa_aload_n cx (i := 0) dX0_arrange_151 rfl rfl ?_
          refine gf_X0_61 cx h_c0 dX0_arrange_152 ?_
          refine wa_iload cx dX0_arrange_155 rfl ?_
          refine wa_icmp_ge cx dX0_arrange_157 174 (by decide) (fun q8 => ?_) (fun q8 => ?_)
          · rw [if_pos q8] at h
            refine wa_sub (lv' := [(0, .ref (ad g c0)), (2, .int a2), (3, .ref (ad g l3)), (4, .int l4), (6, .int l6), (7, .int l7)]) (lvs_c rfl (lvs_c rfl (lvs_c rfl (lvs_c rfl (lvs_c rfl (lvs_c rfl (lvs_n))))))) ?_
            exact w_X0_arrange_J174 cx h_c0 h_a1 hkb109 ih  l3 l4 l6 l7 S h_l3 h
          · rw [if_neg q8] at h
            refine wa_aload_n cx (i := 0) dX0_arrange_160 rfl rfl ?_
            refine gf_X0_11 cx h_c0 dX0_arrange_161 ?_
            refine wa_aload_n cx (i := 0) dX0_arrange_164 rfl rfl ?_
            refine gf_X0_61 cx h_c0 dX0_arrange_165 ?_
            obtain ⟨b9, h⟩ := ob_some h
            refine wa_iald cx dX0_arrange_168 (kq0_1 cx.2.2.2.2.2.2.1 h_c0) b9 ?_
            refine wa_iload cx dX0_arrange_169 rfl ?_
            refine wa_icmp_eq cx dX0_arrange_171 177 (by decide) (fun q10 => ?_) (fun q10 => ?_)
            · rw [if_pos q10] at h
              refine wa_sub (lv' := [(0, .ref (ad g c0)), (2, .int a2), (3, .ref (ad g l3)), (4, .int l4), (5, .int l5), (6, .int l6), (7, .int l7)]) (lvs_c rfl (lvs_c rfl (lvs_c rfl (lvs_c rfl (lvs_c rfl (lvs_c rfl (lvs_c rfl (lvs_n)))))))) ?_
              exact w_X0_arrange_J177 cx h_c0 h_a1 hkb109 ih  l3 l4 l5 l6 l7 S h_l3 h
            · rw [if_neg q10] at h
              refine wa_sub (lv' := [(0, .ref (ad g c0)), (2, .int a2), (3, .ref (ad g l3)), (4, .int l4), (6, .int l6), (7, .int l7)]) (lvs_c rfl (lvs_c rfl (lvs_c rfl (lvs_c rfl (lvs_c rfl (lvs_c rfl (lvs_n))))))) ?_
              exact w_X0_arrange_J174 cx h_c0 h_a1 hkb109 ih  l3 l4 l6 l7 S h_l3 h
        · rw [if_neg q7] at h
          refine wa_goto cx dX0_arrange_148 186 (by decide) ?_
          refine wa_iinc cx dX0_arrange_186 (l7 + (1 : Int32)) [(0, .ref (ad g c0)), (2, .int a2), (3, .ref (ad g l3)), (4, .int l4), (5, .int l5), (6, .int l6), (7, .int (l7 + (1 : Int32)))] rfl rfl (Nat.le_of_ble_eq_true rfl) rfl (lvs_c rfl (lvs_c rfl (lvs_c rfl (lvs_c rfl (lvs_c rfl (lvs_c rfl (lvs_c rfl (lvs_n)))))))) ?_
          refine wa_goto cx dX0_arrange_189 118 (by decide) ?_
          refine wa_sub (lv' := [(0, .ref (ad g c0)), (2, .int a2), (3, .ref (ad g l3)), (4, .int l4), (5, .int l5), (6, .int l6), (7, .int (l7 + (1 : Int32)))]) (lvs_c rfl (lvs_c rfl (lvs_c rfl (lvs_c rfl (lvs_c rfl (lvs_c rfl (lvs_c rfl (lvs_n)))))))) ?_
          exact ih l3 l4 l5 l6 (l7 + (1 : Int32)) S h_l3 h
def f_X0_arrange_L109 : Nat → Nat → Nat → Int32 → Nat → Int32 → Int32 → Int32 → St → Option (Int32 × St)
  | 0, _, _, _, _, _, _, _, _ => none
  | n + 1, c0, a1, a2, l3, l4, l5, l6, S => if a2 < l6 then if l5 = 0 then if (S.1 c0 0) = l4 then some ((0 : Int32), S) else some ((1 : Int32), S) else some ((1 : Int32), S) else f_X0_arrange_L118 FU c0 a1 a2 (fun l3 l4 l5 l6 S => f_X0_arrange_L109 n c0 a1 a2 l3 l4 l5 l6 S) l3 l4 l5 l6 (0 : Int32) S
set_option maxHeartbeats 4000000 in
set_option maxRecDepth 100000 in
theorem w_X0_arrange_L109 {p : Program} {l : Launch} {e : Env} {s : State} {m : MethodId} {args : Array Value} {below : List Frame} {meth : Method} {c : Code} {g : Gl} {r : Int32 × St} {c0 : Nat} {a1 : Nat} {a2 : Int32} (cx : Cx p s m args meth c cX0_arrange 8 (some .boolean) RX0 g (Ap g)) (h_c0 : kd g c0 = 0) (h_a1 : kd g a1 = 2) : ∀ n : Nat, ∀ (l3 : Nat) (l4 : Int32) (l5 : Int32) (l6 : Int32) (S : St), kd g l3 = 6 → f_X0_arrange_L109 n c0 a1 a2 l3 l4 l5 l6 S = some r → WA p l e rm_X0_arrange s m args below meth c 0 0 (MQ below (QWi g r) args s 0 0 (Ap g)) 8 g (Ap g) S 109 [(0, .ref (ad g c0)), (2, .int a2), (3, .ref (ad g l3)), (4, .int l4), (5, .int l5), (6, .int l6)] [] := by
  intro n
  induction n with
  | zero => intro l3 l4 l5 l6 S h_l3 h; rw [f_X0_arrange_L109] at h; cases h
  | succ n ih =>
    intro l3 l4 l5 l6 S h_l3 h
    rw [f_X0_arrange_L109] at h
    refine wa_iload cx dX0_arrange_109 rfl ?_
    refine wa_iload_n cx (i := 2) dX0_arrange_111 rfl rfl ?_
    refine wa_icmp_gt cx dX0_arrange_112 198 (by decide) (fun q11 => ?_) (fun q11 => ?_)
    · rw [if_pos q11] at h
      refine wa_iload cx dX0_arrange_198 rfl ?_
      refine wa_if_ne cx dX0_arrange_200 212 (by decide) (fun q12 => ?_) (fun q12 => ?_)
      · rw [if_neg q12] at h
        refine wa_iconst cx dX0_arrange_212 (1 : Int32) (by decide) ?_
        refine wa_goto cx dX0_arrange_213 217 (by decide) ?_
        exact wa_zret cx (by decide) h dX0_arrange_217
      · rw [if_pos q12] at h
        refine wa_aload_n cx (i := 0) dX0_arrange_203 rfl rfl ?_
        refine gf_X0_61 cx h_c0 dX0_arrange_204 ?_
        refine wa_iload cx dX0_arrange_207 rfl ?_
        refine wa_icmp_eq cx dX0_arrange_209 216 (by decide) (fun q13 => ?_) (fun q13 => ?_)
        · rw [if_pos q13] at h
          refine wa_iconst cx dX0_arrange_216 (0 : Int32) (by decide) ?_
          exact wa_zret cx (by decide) h dX0_arrange_217
        · rw [if_neg q13] at h
          refine wa_iconst cx dX0_arrange_212 (1 : Int32) (by decide) ?_
          refine wa_goto cx dX0_arrange_213 217 (by decide) ?_
          exact wa_zret cx (by decide) h dX0_arrange_217
    · rw [if_neg q11] at h
      refine wa_iconst cx dX0_arrange_115 (0 : Int32) (by decide) ?_
      refine wa_istore cx dX0_arrange_116 [(0, .ref (ad g c0)), (2, .int a2), (3, .ref (ad g l3)), (4, .int l4), (5, .int l5), (6, .int l6), (7, .int (0 : Int32))] (Nat.le_of_ble_eq_true rfl) rfl (lvs_c rfl (lvs_c rfl (lvs_c rfl (lvs_c rfl (lvs_c rfl (lvs_c rfl (lvs_c rfl (lvs_n)))))))) ?_
      refine wa_sub (lv' := [(0, .ref (ad g c0)), (2, .int a2), (3, .ref (ad g l3)), (4, .int l4), (5, .int l5), (6, .int l6), (7, .int (0 : Int32))]) (lvs_c rfl (lvs_c rfl (lvs_c rfl (lvs_c rfl (lvs_c rfl (lvs_c rfl (lvs_c rfl (lvs_n)))))))) ?_
      exact w_X0_arrange_L118 cx h_c0 h_a1 ih FU l3 l4 l5 l6 (0 : Int32) S h_l3 h
def f_X0_arrange_J38 (c0 : Nat) (a1 : Nat) (a2 : Int32) (kb8 : Nat → Int32 → St → Option (Int32 × St)) (l3 : Nat) (l4 : Int32) (k0 : Int32) (S : St) : Option (Int32 × St) := if k0 = 0 then ob l4 8 (if a2 < (S.1 (l3 + 8) (Int32.toNatClampNeg l4)) then ob l4 8 (sq (pI S (c0 + 10) (Int32.toNatClampNeg l4) (-4 : Int32)) fun S18 => kb8 l3 (l4 + (1 : Int32)) S18) else ob l4 8 (ob l4 8 (sq (pI S (c0 + 10) (Int32.toNatClampNeg l4) (S.1 (l3 + 8) (Int32.toNatClampNeg l4))) fun S21 => kb8 l3 (l4 + (1 : Int32)) S21))) else ob l4 8 (sq (pI S (c0 + 10) (Int32.toNatClampNeg l4) a2) fun S23 => kb8 l3 (l4 + (1 : Int32)) S23)
set_option maxHeartbeats 4000000 in
set_option maxRecDepth 100000 in
theorem w_X0_arrange_J38 {p : Program} {l : Launch} {e : Env} {s : State} {m : MethodId} {args : Array Value} {below : List Frame} {meth : Method} {c : Code} {g : Gl} {r : Int32 × St} {c0 : Nat} {a1 : Nat} {a2 : Int32} {kb8 : Nat → Int32 → St → Option (Int32 × St)} (cx : Cx p s m args meth c cX0_arrange 8 (some .boolean) RX0 g (Ap g)) (h_c0 : kd g c0 = 0) (h_a1 : kd g a1 = 2) (hkb8 : ∀ (l3 : Nat) (l4 : Int32) (S : St), kd g l3 = 6 → kb8 l3 l4 S = some r → WA p l e rm_X0_arrange s m args below meth c 0 0 (MQ below (QWi g r) args s 0 0 (Ap g)) 8 g (Ap g) S 8 [(0, .ref (ad g c0)), (2, .int a2), (3, .ref (ad g l3)), (4, .int l4)] []) : ∀ (l3 : Nat) (l4 : Int32) (k0 : Int32) (S : St), kd g l3 = 6 → f_X0_arrange_J38 c0 a1 a2 kb8 l3 l4 k0 S = some r → WA p l e rm_X0_arrange s m args below meth c 0 0 (MQ below (QWi g r) args s 0 0 (Ap g)) 8 g (Ap g) S 38 [(0, .ref (ad g c0)), (2, .int a2), (3, .ref (ad g l3)), (4, .int l4)] [.int k0] := by
  intro l3 l4 k0 S h_l3 h
  rw [f_X0_arrange_J38] at h
  refine wa_istore cx dX0_arrange_38 [(0, .ref (ad g c0)), (2, .int a2), (3, .ref (ad g l3)), (4, .int l4), (5, .int k0)] (Nat.le_of_ble_eq_true rfl) rfl (lvs_c rfl (lvs_c rfl (lvs_c rfl (lvs_c rfl (lvs_c rfl (lvs_n)))))) ?_
  refine wa_iload cx dX0_arrange_40 rfl ?_
  refine wa_if_eq cx dX0_arrange_42 56 (by decide) (fun q14 => ?_) (fun q14 => ?_)
  · rw [if_pos q14] at h
    refine wa_aload_n cx (i := 0) dX0_arrange_56 rfl rfl ?_
    refine gf_X0_41 cx h_c0 dX0_arrange_57 ?_
    refine wa_iload cx dX0_arrange_60 rfl ?_
    refine wa_aload_n cx (i := 3) dX0_arrange_62 rfl rfl ?_
    refine gf_X0_58 cx h_l3 dX0_arrange_63 ?_
    refine wa_iload cx dX0_arrange_66 rfl ?_
    obtain ⟨b15, h⟩ := ob_some h
    refine wa_iald cx dX0_arrange_68 (kq6_9 cx.2.2.2.2.2.2.1 h_l3) b15 ?_
    refine wa_iload_n cx (i := 2) dX0_arrange_69 rfl rfl ?_
    refine wa_icmp_gt cx dX0_arrange_70 83 (by decide) (fun q16 => ?_) (fun q16 => ?_)
    · rw [if_pos q16] at h
      refine wa_bipush cx dX0_arrange_83 (-4 : Int32) (by decide) ?_
      obtain ⟨b17, h⟩ := ob_some h
      refine wa_iast cx dX0_arrange_85 (kq0_10 cx.2.2.2.2.2.2.1 h_c0) b17 ?_
      replace h := sq_eq h
      generalize (pI S (c0 + 10) (Int32.toNatClampNeg l4) (-4 : Int32)) = S18 at h ⊢
      refine wa_iinc cx dX0_arrange_86 (l4 + (1 : Int32)) [(0, .ref (ad g c0)), (2, .int a2), (3, .ref (ad g l3)), (4, .int (l4 + (1 : Int32)))] rfl rfl (Nat.le_of_ble_eq_true rfl) rfl (lvs_c rfl (lvs_c rfl (lvs_c rfl (lvs_c rfl (lvs_n))))) ?_
      refine wa_goto cx dX0_arrange_89 8 (by decide) ?_
      refine wa_sub (lv' := [(0, .ref (ad g c0)), (2, .int a2), (3, .ref (ad g l3)), (4, .int (l4 + (1 : Int32)))]) (lvs_c rfl (lvs_c rfl (lvs_c rfl (lvs_c rfl (lvs_n))))) ?_
      exact hkb8 l3 (l4 + (1 : Int32)) S18 h_l3 h
    · rw [if_neg q16] at h
      refine wa_aload_n cx (i := 3) dX0_arrange_73 rfl rfl ?_
      refine gf_X0_58 cx h_l3 dX0_arrange_74 ?_
      refine wa_iload cx dX0_arrange_77 rfl ?_
      obtain ⟨b19, h⟩ := ob_some h
      refine wa_iald cx dX0_arrange_79 (kq6_9 cx.2.2.2.2.2.2.1 h_l3) b19 ?_
      refine wa_goto cx dX0_arrange_80 85 (by decide) ?_
      obtain ⟨b20, h⟩ := ob_some h
      refine wa_iast cx dX0_arrange_85 (kq0_10 cx.2.2.2.2.2.2.1 h_c0) b20 ?_
      replace h := sq_eq h
      generalize (pI S (c0 + 10) (Int32.toNatClampNeg l4) (S.1 (l3 + 8) (Int32.toNatClampNeg l4))) = S21 at h ⊢
      refine wa_iinc cx dX0_arrange_86 (l4 + (1 : Int32)) [(0, .ref (ad g c0)), (2, .int a2), (3, .ref (ad g l3)), (4, .int (l4 + (1 : Int32)))] rfl rfl (Nat.le_of_ble_eq_true rfl) rfl (lvs_c rfl (lvs_c rfl (lvs_c rfl (lvs_c rfl (lvs_n))))) ?_
      refine wa_goto cx dX0_arrange_89 8 (by decide) ?_
      refine wa_sub (lv' := [(0, .ref (ad g c0)), (2, .int a2), (3, .ref (ad g l3)), (4, .int (l4 + (1 : Int32)))]) (lvs_c rfl (lvs_c rfl (lvs_c rfl (lvs_c rfl (lvs_n))))) ?_
      exact hkb8 l3 (l4 + (1 : Int32)) S21 h_l3 h
  · rw [if_neg q14] at h
    refine wa_aload_n cx (i := 0) dX0_arrange_45 rfl rfl ?_
    refine gf_X0_41 cx h_c0 dX0_arrange_46 ?_
    refine wa_iload cx dX0_arrange_49 rfl ?_
    refine wa_iload_n cx (i := 2) dX0_arrange_51 rfl rfl ?_
    obtain ⟨b22, h⟩ := ob_some h
    refine wa_iast cx dX0_arrange_52 (kq0_10 cx.2.2.2.2.2.2.1 h_c0) b22 ?_
    replace h := sq_eq h
    generalize (pI S (c0 + 10) (Int32.toNatClampNeg l4) a2) = S23 at h ⊢
    refine wa_goto cx dX0_arrange_53 86 (by decide) ?_
    refine wa_iinc cx dX0_arrange_86 (l4 + (1 : Int32)) [(0, .ref (ad g c0)), (2, .int a2), (3, .ref (ad g l3)), (4, .int (l4 + (1 : Int32)))] rfl rfl (Nat.le_of_ble_eq_true rfl) rfl (lvs_c rfl (lvs_c rfl (lvs_c rfl (lvs_c rfl (lvs_n))))) ?_
    refine wa_goto cx dX0_arrange_89 8 (by decide) ?_
    refine wa_sub (lv' := [(0, .ref (ad g c0)), (2, .int a2), (3, .ref (ad g l3)), (4, .int (l4 + (1 : Int32)))]) (lvs_c rfl (lvs_c rfl (lvs_c rfl (lvs_c rfl (lvs_n))))) ?_
    exact hkb8 l3 (l4 + (1 : Int32)) S23 h_l3 h
def f_X0_arrange_L8 : Nat → Nat → Nat → Int32 → Nat → Int32 → St → Option (Int32 × St)
  | 0, _, _, _, _, _, _ => none
  | n + 1, c0, a1, a2, l3, l4, S => if (S.1 l3 1) ≤ l4 then sq (S.1 c0 0) fun x25 => sq (pI S c0 0 (0 : Int32)) fun S26 => f_X0_arrange_L109 FU c0 a1 a2 l3 x25 (0 : Int32) (0 : Int32) S26 else ob l4 8 (ob (S.1 (l3 + 7) (Int32.toNatClampNeg l4)) 6 (if (S.1 (l3 + 1) (Int32.toNatClampNeg (S.1 (l3 + 7) (Int32.toNatClampNeg l4)))) = (4 : Int32) then f_X0_arrange_J38 c0 a1 a2 (fun l3 l4 S => f_X0_arrange_L8 n c0 a1 a2 l3 l4 S) l3 l4 (1 : Int32) S else f_X0_arrange_J38 c0 a1 a2 (fun l3 l4 S => f_X0_arrange_L8 n c0 a1 a2 l3 l4 S) l3 l4 (0 : Int32) S))
set_option maxHeartbeats 4000000 in
set_option maxRecDepth 100000 in
theorem w_X0_arrange_L8 {p : Program} {l : Launch} {e : Env} {s : State} {m : MethodId} {args : Array Value} {below : List Frame} {meth : Method} {c : Code} {g : Gl} {r : Int32 × St} {c0 : Nat} {a1 : Nat} {a2 : Int32} (cx : Cx p s m args meth c cX0_arrange 8 (some .boolean) RX0 g (Ap g)) (h_c0 : kd g c0 = 0) (h_a1 : kd g a1 = 2) : ∀ n : Nat, ∀ (l3 : Nat) (l4 : Int32) (S : St), kd g l3 = 6 → f_X0_arrange_L8 n c0 a1 a2 l3 l4 S = some r → WA p l e rm_X0_arrange s m args below meth c 0 0 (MQ below (QWi g r) args s 0 0 (Ap g)) 8 g (Ap g) S 8 [(0, .ref (ad g c0)), (2, .int a2), (3, .ref (ad g l3)), (4, .int l4)] [] := by
  intro n
  induction n with
  | zero => intro l3 l4 S h_l3 h; rw [f_X0_arrange_L8] at h; cases h
  | succ n ih =>
    intro l3 l4 S h_l3 h
    rw [f_X0_arrange_L8] at h
    refine wa_iload cx dX0_arrange_8 rfl ?_
    refine wa_aload_n cx (i := 3) dX0_arrange_10 rfl rfl ?_
    refine gf_X0_50 cx h_l3 dX0_arrange_11 ?_
    refine wa_icmp_ge cx dX0_arrange_14 92 (by decide) (fun q24 => ?_) (fun q24 => ?_)
    · rw [if_pos q24] at h
      refine wa_aload_n cx (i := 0) dX0_arrange_92 rfl rfl ?_
      refine gf_X0_61 cx h_c0 dX0_arrange_93 ?_
      replace h := sq_eq h
      generalize (S.1 c0 0) = x25 at h ⊢
      refine wa_istore cx dX0_arrange_96 [(0, .ref (ad g c0)), (2, .int a2), (3, .ref (ad g l3)), (4, .int x25)] (Nat.le_of_ble_eq_true rfl) rfl (lvs_c rfl (lvs_c rfl (lvs_c rfl (lvs_c rfl (lvs_n))))) ?_
      refine wa_aload_n cx (i := 0) dX0_arrange_98 rfl rfl ?_
      refine wa_iconst cx dX0_arrange_99 (0 : Int32) (by decide) ?_
      refine pf_X0_61 cx h_c0 dX0_arrange_100 ?_
      replace h := sq_eq h
      generalize (pI S c0 0 (0 : Int32)) = S26 at h ⊢
      refine wa_iconst cx dX0_arrange_103 (0 : Int32) (by decide) ?_
      refine wa_istore cx dX0_arrange_104 [(0, .ref (ad g c0)), (2, .int a2), (3, .ref (ad g l3)), (4, .int x25), (5, .int (0 : Int32))] (Nat.le_of_ble_eq_true rfl) rfl (lvs_c rfl (lvs_c rfl (lvs_c rfl (lvs_c rfl (lvs_c rfl (lvs_n)))))) ?_
      refine wa_iconst cx dX0_arrange_106 (0 : Int32) (by decide) ?_
      refine wa_istore cx dX0_arrange_107 [(0, .ref (ad g c0)), (2, .int a2), (3, .ref (ad g l3)), (4, .int x25), (5, .int (0 : Int32)), (6, .int (0 : Int32))] (Nat.le_of_ble_eq_true rfl) rfl (lvs_c rfl (lvs_c rfl (lvs_c rfl (lvs_c rfl (lvs_c rfl (lvs_c rfl (lvs_n))))))) ?_
      refine wa_sub (lv' := [(0, .ref (ad g c0)), (2, .int a2), (3, .ref (ad g l3)), (4, .int x25), (5, .int (0 : Int32)), (6, .int (0 : Int32))]) (lvs_c rfl (lvs_c rfl (lvs_c rfl (lvs_c rfl (lvs_c rfl (lvs_c rfl (lvs_n))))))) ?_
      exact w_X0_arrange_L109 cx h_c0 h_a1  FU l3 x25 (0 : Int32) (0 : Int32) S26 h_l3 h
    · rw [if_neg q24] at h
      refine wa_aload_n cx (i := 3) dX0_arrange_17 rfl rfl ?_
      refine gf_X0_54 cx h_l3 dX0_arrange_18 ?_
      refine wa_aload_n cx (i := 3) dX0_arrange_21 rfl rfl ?_
      refine gf_X0_55 cx h_l3 dX0_arrange_22 ?_
      refine wa_iload cx dX0_arrange_25 rfl ?_
      obtain ⟨b27, h⟩ := ob_some h
      refine wa_iald cx dX0_arrange_27 (kq6_8 cx.2.2.2.2.2.2.1 h_l3) b27 ?_
      obtain ⟨b28, h⟩ := ob_some h
      refine wa_iald cx dX0_arrange_28 (kq6_2 cx.2.2.2.2.2.2.1 h_l3) b28 ?_
      refine wa_iconst cx dX0_arrange_29 (4 : Int32) (by decide) ?_
      refine wa_icmp_ne cx dX0_arrange_30 37 (by decide) (fun q29 => ?_) (fun q29 => ?_)
      · rw [if_neg q29] at h
        refine wa_iconst cx dX0_arrange_37 (0 : Int32) (by decide) ?_
        refine wa_sub (lv' := [(0, .ref (ad g c0)), (2, .int a2), (3, .ref (ad g l3)), (4, .int l4)]) (lvs_c rfl (lvs_c rfl (lvs_c rfl (lvs_c rfl (lvs_n))))) ?_
        exact w_X0_arrange_J38 cx h_c0 h_a1 ih  l3 l4 (0 : Int32) S h_l3 h
      · rw [if_pos q29] at h
        refine wa_iconst cx dX0_arrange_33 (1 : Int32) (by decide) ?_
        refine wa_goto cx dX0_arrange_34 38 (by decide) ?_
        refine wa_sub (lv' := [(0, .ref (ad g c0)), (2, .int a2), (3, .ref (ad g l3)), (4, .int l4)]) (lvs_c rfl (lvs_c rfl (lvs_c rfl (lvs_c rfl (lvs_n))))) ?_
        exact w_X0_arrange_J38 cx h_c0 h_a1 ih  l3 l4 (1 : Int32) S h_l3 h
def f_X0_arrange (c0 : Nat) (a1 : Nat) (a2 : Int32) (S : St) : Option (Int32 × St) := f_X0_arrange_L8 FU c0 a1 a2 (a1 + 1) (0 : Int32) S
set_option maxHeartbeats 4000000 in
set_option maxRecDepth 100000 in
theorem m_X0_arrange (l : Launch) {g : Gl} (hg : GOK g) {c0 : Nat} {a1 : Nat} {a2 : Int32} {S : St} {r : Int32 × St} (h_c0 : kd g c0 = 0) (h_a1 : kd g a1 = 2) (h : f_X0_arrange c0 a1 a2 S = some r) : MW l yX0_arrange cX0_arrange 8 (some .boolean) rm_X0_arrange g S [.ref (ad g c0), .ref (ad g a1), .int a2] (QWi g r) := by
  refine startW [(0, .ref (ad g c0)), (1, .ref (ad g a1)), (2, .int a2)] (by decide +kernel) (Nat.le_of_ble_eq_true rfl) rfl hg (fun p e s m args below meth c cx => ?_)
  have cx : Cx p s m args meth c cX0_arrange 8 (some .boolean) RX0 g (Ap g) := cx
  rw [f_X0_arrange] at h
  refine wa_aload_n cx (i := 1) dX0_arrange_0 rfl rfl ?_
  refine gf_X0_44 cx h_a1 dX0_arrange_1 ?_
  refine wa_astore_n cx (i := 3) dX0_arrange_4 [(0, .ref (ad g c0)), (2, .int a2), (3, .ref (ad g (a1 + 1)))] rfl (Nat.le_of_ble_eq_true rfl) rfl (lvs_c rfl (lvs_c rfl (lvs_c rfl (lvs_n)))) ?_
  refine wa_iconst cx dX0_arrange_5 (0 : Int32) (by decide) ?_
  refine wa_istore cx dX0_arrange_6 [(0, .ref (ad g c0)), (2, .int a2), (3, .ref (ad g (a1 + 1))), (4, .int (0 : Int32))] (Nat.le_of_ble_eq_true rfl) rfl (lvs_c rfl (lvs_c rfl (lvs_c rfl (lvs_c rfl (lvs_n))))) ?_
  refine wa_sub (lv' := [(0, .ref (ad g c0)), (2, .int a2), (3, .ref (ad g (a1 + 1))), (4, .int (0 : Int32))]) (lvs_c rfl (lvs_c rfl (lvs_c rfl (lvs_c rfl (lvs_n))))) ?_
  exact w_X0_arrange_L8 cx h_c0 h_a1  FU (a1 + 1) (0 : Int32) S (kq2_10 cx.2.2.2.2.2.2.1 h_a1) h
def rm_X0_placeOf : Room := { frames := 0, cells := 0, slots := 0, locals := 0 }
def f_X0_placeOf_L2 : Nat → Nat → Int32 → Int32 → St → Option (Int32 × St)
  | 0, _, _, _, _ => none
  | n + 1, c0, a1, l2, S => if (S.1 c0 0) ≤ l2 then some ((-4 : Int32), S) else ob l2 8 (if (S.1 (c0 + 1) (Int32.toNatClampNeg l2)) = a1 then some (l2, S) else f_X0_placeOf_L2 n c0 a1 (l2 + (1 : Int32)) S)
set_option maxHeartbeats 4000000 in
set_option maxRecDepth 100000 in
theorem w_X0_placeOf_L2 {p : Program} {l : Launch} {e : Env} {s : State} {m : MethodId} {args : Array Value} {below : List Frame} {meth : Method} {c : Code} {g : Gl} {r : Int32 × St} {c0 : Nat} {a1 : Int32} (cx : Cx p s m args meth c cX0_placeOf 3 (some .int) RX0 g (Ap g)) (h_c0 : kd g c0 = 0) : ∀ n : Nat, ∀ (l2 : Int32) (S : St), f_X0_placeOf_L2 n c0 a1 l2 S = some r → WA p l e rm_X0_placeOf s m args below meth c 0 0 (MQ below (QWi g r) args s 0 0 (Ap g)) 3 g (Ap g) S 2 [(0, .ref (ad g c0)), (1, .int a1), (2, .int l2)] [] := by
  intro n
  induction n with
  | zero => intro l2 S h; rw [f_X0_placeOf_L2] at h; cases h
  | succ n ih =>
    intro l2 S h
    rw [f_X0_placeOf_L2] at h
    refine wa_iload_n cx (i := 2) dX0_placeOf_2 rfl rfl ?_
    refine wa_aload_n cx (i := 0) dX0_placeOf_3 rfl rfl ?_
    refine gf_X0_61 cx h_c0 dX0_placeOf_4 ?_
    refine wa_icmp_ge cx dX0_placeOf_7 28 (by decide) (fun q1 => ?_) (fun q1 => ?_)
    · rw [if_pos q1] at h
      refine wa_bipush cx dX0_placeOf_28 (-4 : Int32) (by decide) ?_
      exact wa_iret cx h dX0_placeOf_30
    · rw [if_neg q1] at h
      refine wa_aload_n cx (i := 0) dX0_placeOf_10 rfl rfl ?_
      refine gf_X0_11 cx h_c0 dX0_placeOf_11 ?_
      refine wa_iload_n cx (i := 2) dX0_placeOf_14 rfl rfl ?_
      obtain ⟨b2, h⟩ := ob_some h
      refine wa_iald cx dX0_placeOf_15 (kq0_1 cx.2.2.2.2.2.2.1 h_c0) b2 ?_
      refine wa_iload_n cx (i := 1) dX0_placeOf_16 rfl rfl ?_
      refine wa_icmp_ne cx dX0_placeOf_17 22 (by decide) (fun q3 => ?_) (fun q3 => ?_)
      · rw [if_neg q3] at h
        refine wa_iinc cx dX0_placeOf_22 (l2 + (1 : Int32)) [(0, .ref (ad g c0)), (1, .int a1), (2, .int (l2 + (1 : Int32)))] rfl rfl (Nat.le_of_ble_eq_true rfl) rfl (lvs_c rfl (lvs_c rfl (lvs_c rfl (lvs_n)))) ?_
        refine wa_goto cx dX0_placeOf_25 2 (by decide) ?_
        refine wa_sub (lv' := [(0, .ref (ad g c0)), (1, .int a1), (2, .int (l2 + (1 : Int32)))]) (lvs_c rfl (lvs_c rfl (lvs_c rfl (lvs_n)))) ?_
        exact ih (l2 + (1 : Int32)) S  h
      · rw [if_pos q3] at h
        refine wa_iload_n cx (i := 2) dX0_placeOf_20 rfl rfl ?_
        exact wa_iret cx h dX0_placeOf_21
def f_X0_placeOf (c0 : Nat) (a1 : Int32) (S : St) : Option (Int32 × St) := f_X0_placeOf_L2 FU c0 a1 (0 : Int32) S
set_option maxHeartbeats 4000000 in
set_option maxRecDepth 100000 in
theorem m_X0_placeOf (l : Launch) {g : Gl} (hg : GOK g) {c0 : Nat} {a1 : Int32} {S : St} {r : Int32 × St} (h_c0 : kd g c0 = 0) (h : f_X0_placeOf c0 a1 S = some r) : MW l yX0_placeOf cX0_placeOf 3 (some .int) rm_X0_placeOf g S [.ref (ad g c0), .int a1] (QWi g r) := by
  refine startW [(0, .ref (ad g c0)), (1, .int a1)] (by decide +kernel) (Nat.le_of_ble_eq_true rfl) rfl hg (fun p e s m args below meth c cx => ?_)
  have cx : Cx p s m args meth c cX0_placeOf 3 (some .int) RX0 g (Ap g) := cx
  rw [f_X0_placeOf] at h
  refine wa_iconst cx dX0_placeOf_0 (0 : Int32) (by decide) ?_
  refine wa_istore_n cx (i := 2) dX0_placeOf_1 [(0, .ref (ad g c0)), (1, .int a1), (2, .int (0 : Int32))] rfl (Nat.le_of_ble_eq_true rfl) rfl (lvs_c rfl (lvs_c rfl (lvs_c rfl (lvs_n)))) ?_
  refine wa_sub (lv' := [(0, .ref (ad g c0)), (1, .int a1), (2, .int (0 : Int32))]) (lvs_c rfl (lvs_c rfl (lvs_c rfl (lvs_n)))) ?_
  exact w_X0_placeOf_L2 cx h_c0  FU (0 : Int32) S  h
def rm_X0_comeBy : Room := { frames := 0, cells := 0, slots := 0, locals := 0 }
def f_X0_comeBy_L4 : Nat → Nat → Int32 → Int32 → Int32 → St → Option (Int32 × St)
  | 0, _, _, _, _, _ => none
  | n + 1, c0, a1, l2, l3, S => if (S.1 c0 0) ≤ l3 then some (l2, S) else ob l3 8 (if a1 < (S.1 (c0 + 2) (Int32.toNatClampNeg l3)) then f_X0_comeBy_L4 n c0 a1 l2 (l3 + (1 : Int32)) S else f_X0_comeBy_L4 n c0 a1 (l2 + (1 : Int32)) (l3 + (1 : Int32)) S)
set_option maxHeartbeats 4000000 in
set_option maxRecDepth 100000 in
theorem w_X0_comeBy_L4 {p : Program} {l : Launch} {e : Env} {s : State} {m : MethodId} {args : Array Value} {below : List Frame} {meth : Method} {c : Code} {g : Gl} {r : Int32 × St} {c0 : Nat} {a1 : Int32} (cx : Cx p s m args meth c cX0_comeBy 4 (some .int) RX0 g (Ap g)) (h_c0 : kd g c0 = 0) : ∀ n : Nat, ∀ (l2 : Int32) (l3 : Int32) (S : St), f_X0_comeBy_L4 n c0 a1 l2 l3 S = some r → WA p l e rm_X0_comeBy s m args below meth c 0 0 (MQ below (QWi g r) args s 0 0 (Ap g)) 4 g (Ap g) S 4 [(0, .ref (ad g c0)), (1, .int a1), (2, .int l2), (3, .int l3)] [] := by
  intro n
  induction n with
  | zero => intro l2 l3 S h; rw [f_X0_comeBy_L4] at h; cases h
  | succ n ih =>
    intro l2 l3 S h
    rw [f_X0_comeBy_L4] at h
    refine wa_iload_n cx (i := 3) dX0_comeBy_4 rfl rfl ?_
    refine wa_aload_n cx (i := 0) dX0_comeBy_5 rfl rfl ?_
    refine gf_X0_61 cx h_c0 dX0_comeBy_6 ?_
    refine wa_icmp_ge cx dX0_comeBy_9 31 (by decide) (fun q1 => ?_) (fun q1 => ?_)
    · rw [if_pos q1] at h
      refine wa_iload_n cx (i := 2) dX0_comeBy_31 rfl rfl ?_
      exact wa_iret cx h dX0_comeBy_32
    · rw [if_neg q1] at h
      refine wa_aload_n cx (i := 0) dX0_comeBy_12 rfl rfl ?_
      refine gf_X0_17 cx h_c0 dX0_comeBy_13 ?_
      refine wa_iload_n cx (i := 3) dX0_comeBy_16 rfl rfl ?_
      obtain ⟨b2, h⟩ := ob_some h
      refine wa_iald cx dX0_comeBy_17 (kq0_2 cx.2.2.2.2.2.2.1 h_c0) b2 ?_
      refine wa_iload_n cx (i := 1) dX0_comeBy_18 rfl rfl ?_
      refine wa_icmp_gt cx dX0_comeBy_19 25 (by decide) (fun q3 => ?_) (fun q3 => ?_)
      · rw [if_pos q3] at h
        refine wa_iinc cx dX0_comeBy_25 (l3 + (1 : Int32)) [(0, .ref (ad g c0)), (1, .int a1), (2, .int l2), (3, .int (l3 + (1 : Int32)))] rfl rfl (Nat.le_of_ble_eq_true rfl) rfl (lvs_c rfl (lvs_c rfl (lvs_c rfl (lvs_c rfl (lvs_n))))) ?_
        refine wa_goto cx dX0_comeBy_28 4 (by decide) ?_
        refine wa_sub (lv' := [(0, .ref (ad g c0)), (1, .int a1), (2, .int l2), (3, .int (l3 + (1 : Int32)))]) (lvs_c rfl (lvs_c rfl (lvs_c rfl (lvs_c rfl (lvs_n))))) ?_
        exact ih l2 (l3 + (1 : Int32)) S  h
      · rw [if_neg q3] at h
        refine wa_iinc cx dX0_comeBy_22 (l2 + (1 : Int32)) [(0, .ref (ad g c0)), (1, .int a1), (2, .int (l2 + (1 : Int32))), (3, .int l3)] rfl rfl (Nat.le_of_ble_eq_true rfl) rfl (lvs_c rfl (lvs_c rfl (lvs_c rfl (lvs_c rfl (lvs_n))))) ?_
        refine wa_iinc cx dX0_comeBy_25 (l3 + (1 : Int32)) [(0, .ref (ad g c0)), (1, .int a1), (2, .int (l2 + (1 : Int32))), (3, .int (l3 + (1 : Int32)))] rfl rfl (Nat.le_of_ble_eq_true rfl) rfl (lvs_c rfl (lvs_c rfl (lvs_c rfl (lvs_c rfl (lvs_n))))) ?_
        refine wa_goto cx dX0_comeBy_28 4 (by decide) ?_
        refine wa_sub (lv' := [(0, .ref (ad g c0)), (1, .int a1), (2, .int (l2 + (1 : Int32))), (3, .int (l3 + (1 : Int32)))]) (lvs_c rfl (lvs_c rfl (lvs_c rfl (lvs_c rfl (lvs_n))))) ?_
        exact ih (l2 + (1 : Int32)) (l3 + (1 : Int32)) S  h
def f_X0_comeBy (c0 : Nat) (a1 : Int32) (S : St) : Option (Int32 × St) := f_X0_comeBy_L4 FU c0 a1 (0 : Int32) (0 : Int32) S
set_option maxHeartbeats 4000000 in
set_option maxRecDepth 100000 in
theorem m_X0_comeBy (l : Launch) {g : Gl} (hg : GOK g) {c0 : Nat} {a1 : Int32} {S : St} {r : Int32 × St} (h_c0 : kd g c0 = 0) (h : f_X0_comeBy c0 a1 S = some r) : MW l yX0_comeBy cX0_comeBy 4 (some .int) rm_X0_comeBy g S [.ref (ad g c0), .int a1] (QWi g r) := by
  refine startW [(0, .ref (ad g c0)), (1, .int a1)] (by decide +kernel) (Nat.le_of_ble_eq_true rfl) rfl hg (fun p e s m args below meth c cx => ?_)
  have cx : Cx p s m args meth c cX0_comeBy 4 (some .int) RX0 g (Ap g) := cx
  rw [f_X0_comeBy] at h
  refine wa_iconst cx dX0_comeBy_0 (0 : Int32) (by decide) ?_
  refine wa_istore_n cx (i := 2) dX0_comeBy_1 [(0, .ref (ad g c0)), (1, .int a1), (2, .int (0 : Int32))] rfl (Nat.le_of_ble_eq_true rfl) rfl (lvs_c rfl (lvs_c rfl (lvs_c rfl (lvs_n)))) ?_
  refine wa_iconst cx dX0_comeBy_2 (0 : Int32) (by decide) ?_
  refine wa_istore_n cx (i := 3) dX0_comeBy_3 [(0, .ref (ad g c0)), (1, .int a1), (2, .int (0 : Int32)), (3, .int (0 : Int32))] rfl (Nat.le_of_ble_eq_true rfl) rfl (lvs_c rfl (lvs_c rfl (lvs_c rfl (lvs_c rfl (lvs_n))))) ?_
  refine wa_sub (lv' := [(0, .ref (ad g c0)), (1, .int a1), (2, .int (0 : Int32)), (3, .int (0 : Int32))]) (lvs_c rfl (lvs_c rfl (lvs_c rfl (lvs_c rfl (lvs_n))))) ?_
  exact w_X0_comeBy_L4 cx h_c0  FU (0 : Int32) (0 : Int32) S  h
def rm_X0_power : Room := { frames := 0, cells := 0, slots := 0, locals := 0 }
def f_X0_power_L4 : Nat → Int32 → Int64 → Int32 → St → Option (Int64 × St)
  | 0, _, _, _, _ => none
  | n + 1, a0, l1, l3, S => if a0 ≤ l3 then some (l1, S) else sq (l1 * (10 : Int64)) fun x2 => f_X0_power_L4 n a0 x2 (l3 + (1 : Int32)) S
set_option maxHeartbeats 4000000 in
set_option maxRecDepth 100000 in
theorem w_X0_power_L4 {p : Program} {l : Launch} {e : Env} {s : State} {m : MethodId} {args : Array Value} {below : List Frame} {meth : Method} {c : Code} {g : Gl} {r : Int64 × St} {a0 : Int32} (cx : Cx p s m args meth c cX0_power 4 (some .long) RX0 g (Ap g))  : ∀ n : Nat, ∀ (l1 : Int64) (l3 : Int32) (S : St), f_X0_power_L4 n a0 l1 l3 S = some r → WA p l e rm_X0_power s m args below meth c 0 0 (MQ below (QWl g r) args s 0 0 (Ap g)) 4 g (Ap g) S 4 [(0, .int a0), (1, .long l1), (3, .int l3)] [] := by
  intro n
  induction n with
  | zero => intro l1 l3 S h; rw [f_X0_power_L4] at h; cases h
  | succ n ih =>
    intro l1 l3 S h
    rw [f_X0_power_L4] at h
    refine wa_iload_n cx (i := 3) dX0_power_4 rfl rfl ?_
    refine wa_iload_n cx (i := 0) dX0_power_5 rfl rfl ?_
    refine wa_icmp_ge cx dX0_power_6 21 (by decide) (fun q1 => ?_) (fun q1 => ?_)
    · rw [if_pos q1] at h
      refine wa_lload_n cx (i := 1) dX0_power_21 rfl rfl ?_
      exact wa_lret cx h dX0_power_22
    · rw [if_neg q1] at h
      refine wa_lload_n cx (i := 1) dX0_power_9 rfl rfl ?_
      refine wa_ldc2 cx dX0_power_10 (10 : Int64) kc_X0_87 ?_
      refine wa_lmul cx dX0_power_13 ?_
      replace h := sq_eq h
      generalize (l1 * (10 : Int64)) = x2 at h ⊢
      refine wa_lstore_n cx (i := 1) dX0_power_14 [(0, .int a0), (1, .long x2), (3, .int l3)] rfl (Nat.le_of_ble_eq_true rfl) rfl (lvs_c rfl (lvs_c rfl (lvs_c rfl (lvs_n)))) ?_
      refine wa_iinc cx dX0_power_15 (l3 + (1 : Int32)) [(0, .int a0), (1, .long x2), (3, .int (l3 + (1 : Int32)))] rfl rfl (Nat.le_of_ble_eq_true rfl) rfl (lvs_c rfl (lvs_c rfl (lvs_c rfl (lvs_n)))) ?_
      refine wa_goto cx dX0_power_18 4 (by decide) ?_
      refine wa_sub (lv' := [(0, .int a0), (1, .long x2), (3, .int (l3 + (1 : Int32)))]) (lvs_c rfl (lvs_c rfl (lvs_c rfl (lvs_n)))) ?_
      exact ih x2 (l3 + (1 : Int32)) S  h
def f_X0_power (a0 : Int32) (S : St) : Option (Int64 × St) := f_X0_power_L4 FU a0 (1 : Int64) (0 : Int32) S
set_option maxHeartbeats 4000000 in
set_option maxRecDepth 100000 in
theorem m_X0_power (l : Launch) {g : Gl} (hg : GOK g) {a0 : Int32} {S : St} {r : Int64 × St}  (h : f_X0_power a0 S = some r) : MW l yX0_power cX0_power 4 (some .long) rm_X0_power g S [.int a0] (QWl g r) := by
  refine startW [(0, .int a0)] (by decide +kernel) (Nat.le_of_ble_eq_true rfl) rfl hg (fun p e s m args below meth c cx => ?_)
  have cx : Cx p s m args meth c cX0_power 4 (some .long) RX0 g (Ap g) := cx
  rw [f_X0_power] at h
  refine wa_lconst cx dX0_power_0 (1 : Int64) (by decide) ?_
  refine wa_lstore_n cx (i := 1) dX0_power_1 [(0, .int a0), (1, .long (1 : Int64))] rfl (Nat.le_of_ble_eq_true rfl) rfl (lvs_c rfl (lvs_c rfl (lvs_n))) ?_
  refine wa_iconst cx dX0_power_2 (0 : Int32) (by decide) ?_
  refine wa_istore_n cx (i := 3) dX0_power_3 [(0, .int a0), (1, .long (1 : Int64)), (3, .int (0 : Int32))] rfl (Nat.le_of_ble_eq_true rfl) rfl (lvs_c rfl (lvs_c rfl (lvs_c rfl (lvs_n)))) ?_
  refine wa_sub (lv' := [(0, .int a0), (1, .long (1 : Int64)), (3, .int (0 : Int32))]) (lvs_c rfl (lvs_c rfl (lvs_c rfl (lvs_n)))) ?_
  exact w_X0_power_L4 cx   FU (1 : Int64) (0 : Int32) S  h
def rm_X0_allWays : Room := { frames := 1, cells := 0, slots := 0, locals := 23 }
def f_X0_allWays (c0 : Nat) (S : St) : Option (Int64 × St) := bd (f_X0_power (S.1 c0 0) S) fun x1 S2 => some (x1, S2)
set_option maxHeartbeats 4000000 in
set_option maxRecDepth 100000 in
theorem m_X0_allWays (l : Launch) {g : Gl} (hg : GOK g) {c0 : Nat} {S : St} {r : Int64 × St} (h_c0 : kd g c0 = 0) (h : f_X0_allWays c0 S = some r) : MW l yX0_allWays cX0_allWays 1 (some .long) rm_X0_allWays g S [.ref (ad g c0)] (QWl g r) := by
  refine startW [(0, .ref (ad g c0))] (by decide +kernel) (Nat.le_of_ble_eq_true rfl) rfl hg (fun p e s m args below meth c cx => ?_)
  have cx : Cx p s m args meth c cX0_allWays 1 (some .long) RX0 g (Ap g) := cx
  rw [f_X0_allWays] at h
  refine wa_aload_n cx (i := 0) dX0_allWays_0 rfl rfl ?_
  refine gf_X0_61 cx h_c0 dX0_allWays_1 ?_
  obtain ⟨x1, S2, e3, h⟩ := bd_some h
  refine wa_callSl cx (m_X0_power l cx.2.2.2.2.2.2.1  e3) vl_X0_83 ⟨Nat.le_of_ble_eq_true rfl, Nat.le_of_ble_eq_true rfl⟩ ⟨rfl, rfl⟩ ⟨Nat.zero_le _, Nat.zero_le _⟩ rfl (Nat.le_of_ble_eq_true rfl) dX0_allWays_4 rfl ?_
  exact wa_lret cx h dX0_allWays_7
def rm_X0_waysOfAbsent : Room := { frames := 1, cells := 0, slots := 0, locals := 23 }
def f_X0_waysOfAbsent (c0 : Nat) (S : St) : Option (Int64 × St) := bd (f_X0_power ((8 : Int32) - (S.1 c0 0)) S) fun x1 S2 => some (x1, S2)
set_option maxHeartbeats 4000000 in
set_option maxRecDepth 100000 in
theorem m_X0_waysOfAbsent (l : Launch) {g : Gl} (hg : GOK g) {c0 : Nat} {S : St} {r : Int64 × St} (h_c0 : kd g c0 = 0) (h : f_X0_waysOfAbsent c0 S = some r) : MW l yX0_waysOfAbsent cX0_waysOfAbsent 1 (some .long) rm_X0_waysOfAbsent g S [.ref (ad g c0)] (QWl g r) := by
  refine startW [(0, .ref (ad g c0))] (by decide +kernel) (Nat.le_of_ble_eq_true rfl) rfl hg (fun p e s m args below meth c cx => ?_)
  have cx : Cx p s m args meth c cX0_waysOfAbsent 1 (some .long) RX0 g (Ap g) := cx
  rw [f_X0_waysOfAbsent] at h
  refine wa_bipush cx dX0_waysOfAbsent_0 (8 : Int32) (by decide) ?_
  refine wa_aload_n cx (i := 0) dX0_waysOfAbsent_2 rfl rfl ?_
  refine gf_X0_61 cx h_c0 dX0_waysOfAbsent_3 ?_
  refine wa_isub cx dX0_waysOfAbsent_6 ?_
  obtain ⟨x1, S2, e3, h⟩ := bd_some h
  refine wa_callSl cx (m_X0_power l cx.2.2.2.2.2.2.1  e3) vl_X0_83 ⟨Nat.le_of_ble_eq_true rfl, Nat.le_of_ble_eq_true rfl⟩ ⟨rfl, rfl⟩ ⟨Nat.zero_le _, Nat.zero_le _⟩ rfl (Nat.le_of_ble_eq_true rfl) dX0_waysOfAbsent_7 rfl ?_
  exact wa_lret cx h dX0_waysOfAbsent_10
def rm_X0_worthBy : Room := { frames := 0, cells := 0, slots := 0, locals := 0 }
def f_X0_worthBy_L19 : Nat → Nat → Int32 → Int32 → Int32 → Int32 → St → Option (Int32 × St)
  | 0, _, _, _, _, _, _ => none
  | n + 1, c0, a1, a2, l3, l4, S => ob a1 8 (if (S.1 (c0 + 7) (Int32.toNatClampNeg a1)) ≤ l4 then some ((0 : Int32), S) else ob ((a1 * (3 : Int32)) + l4) 24 (sq (l3 + (S.1 (c0 + 9) (Int32.toNatClampNeg ((a1 * (3 : Int32)) + l4)))) fun x4 => if x4 ≤ a2 then f_X0_worthBy_L19 n c0 a1 a2 x4 (l4 + (1 : Int32)) S else ob ((a1 * (3 : Int32)) + l4) 24 (some ((S.1 (c0 + 8) (Int32.toNatClampNeg ((a1 * (3 : Int32)) + l4))), S))))
set_option maxHeartbeats 4000000 in
set_option maxRecDepth 100000 in
theorem w_X0_worthBy_L19 {p : Program} {l : Launch} {e : Env} {s : State} {m : MethodId} {args : Array Value} {below : List Frame} {meth : Method} {c : Code} {g : Gl} {r : Int32 × St} {c0 : Nat} {a1 : Int32} {a2 : Int32} (cx : Cx p s m args meth c cX0_worthBy 5 (some .int) RX0 g (Ap g)) (h_c0 : kd g c0 = 0) : ∀ n : Nat, ∀ (l3 : Int32) (l4 : Int32) (S : St), f_X0_worthBy_L19 n c0 a1 a2 l3 l4 S = some r → WA p l e rm_X0_worthBy s m args below meth c 0 0 (MQ below (QWi g r) args s 0 0 (Ap g)) 5 g (Ap g) S 19 [(0, .ref (ad g c0)), (1, .int a1), (2, .int a2), (3, .int l3), (4, .int l4)] [] := by
  intro n
  induction n with
  | zero => intro l3 l4 S h; rw [f_X0_worthBy_L19] at h; cases h
  | succ n ih =>
    intro l3 l4 S h
    rw [f_X0_worthBy_L19] at h
    refine wa_iload cx dX0_worthBy_19 rfl ?_
    refine wa_aload_n cx (i := 0) dX0_worthBy_21 rfl rfl ?_
    refine gf_X0_32 cx h_c0 dX0_worthBy_22 ?_
    refine wa_iload_n cx (i := 1) dX0_worthBy_25 rfl rfl ?_
    obtain ⟨b1, h⟩ := ob_some h
    refine wa_iald cx dX0_worthBy_26 (kq0_7 cx.2.2.2.2.2.2.1 h_c0) b1 ?_
    refine wa_icmp_ge cx dX0_worthBy_27 67 (by decide) (fun q2 => ?_) (fun q2 => ?_)
    · rw [if_pos q2] at h
      refine wa_iconst cx dX0_worthBy_67 (0 : Int32) (by decide) ?_
      exact wa_iret cx h dX0_worthBy_68
    · rw [if_neg q2] at h
      refine wa_iload_n cx (i := 3) dX0_worthBy_30 rfl rfl ?_
      refine wa_aload_n cx (i := 0) dX0_worthBy_31 rfl rfl ?_
      refine gf_X0_38 cx h_c0 dX0_worthBy_32 ?_
      refine wa_iload_n cx (i := 1) dX0_worthBy_35 rfl rfl ?_
      refine wa_iconst cx dX0_worthBy_36 (3 : Int32) (by decide) ?_
      refine wa_imul cx dX0_worthBy_37 ?_
      refine wa_iload cx dX0_worthBy_38 rfl ?_
      refine wa_iadd cx dX0_worthBy_40 ?_
      obtain ⟨b3, h⟩ := ob_some h
      refine wa_iald cx dX0_worthBy_41 (kq0_9 cx.2.2.2.2.2.2.1 h_c0) b3 ?_
      refine wa_iadd cx dX0_worthBy_42 ?_
      replace h := sq_eq h
      generalize (l3 + (S.1 (c0 + 9) (Int32.toNatClampNeg ((a1 * (3 : Int32)) + l4)))) = x4 at h ⊢
      refine wa_istore_n cx (i := 3) dX0_worthBy_43 [(0, .ref (ad g c0)), (1, .int a1), (2, .int a2), (3, .int x4), (4, .int l4)] rfl (Nat.le_of_ble_eq_true rfl) rfl (lvs_c rfl (lvs_c rfl (lvs_c rfl (lvs_c rfl (lvs_c rfl (lvs_n)))))) ?_
      refine wa_iload_n cx (i := 2) dX0_worthBy_44 rfl rfl ?_
      refine wa_iload_n cx (i := 3) dX0_worthBy_45 rfl rfl ?_
      refine wa_icmp_ge cx dX0_worthBy_46 61 (by decide) (fun q5 => ?_) (fun q5 => ?_)
      · rw [if_pos q5] at h
        refine wa_iinc cx dX0_worthBy_61 (l4 + (1 : Int32)) [(0, .ref (ad g c0)), (1, .int a1), (2, .int a2), (3, .int x4), (4, .int (l4 + (1 : Int32)))] rfl rfl (Nat.le_of_ble_eq_true rfl) rfl (lvs_c rfl (lvs_c rfl (lvs_c rfl (lvs_c rfl (lvs_c rfl (lvs_n)))))) ?_
        refine wa_goto cx dX0_worthBy_64 19 (by decide) ?_
        refine wa_sub (lv' := [(0, .ref (ad g c0)), (1, .int a1), (2, .int a2), (3, .int x4), (4, .int (l4 + (1 : Int32)))]) (lvs_c rfl (lvs_c rfl (lvs_c rfl (lvs_c rfl (lvs_c rfl (lvs_n)))))) ?_
        exact ih x4 (l4 + (1 : Int32)) S  h
      · rw [if_neg q5] at h
        refine wa_aload_n cx (i := 0) dX0_worthBy_49 rfl rfl ?_
        refine gf_X0_35 cx h_c0 dX0_worthBy_50 ?_
        refine wa_iload_n cx (i := 1) dX0_worthBy_53 rfl rfl ?_
        refine wa_iconst cx dX0_worthBy_54 (3 : Int32) (by decide) ?_
        refine wa_imul cx dX0_worthBy_55 ?_
        refine wa_iload cx dX0_worthBy_56 rfl ?_
        refine wa_iadd cx dX0_worthBy_58 ?_
        obtain ⟨b6, h⟩ := ob_some h
        refine wa_iald cx dX0_worthBy_59 (kq0_8 cx.2.2.2.2.2.2.1 h_c0) b6 ?_
        exact wa_iret cx h dX0_worthBy_60
def f_X0_worthBy (c0 : Nat) (a1 : Int32) (a2 : Int32) (S : St) : Option (Int32 × St) := if a1 < 0 then some ((0 : Int32), S) else if a1 < (S.1 c0 0) then f_X0_worthBy_L19 FU c0 a1 a2 (0 : Int32) (0 : Int32) S else some ((0 : Int32), S)
set_option maxHeartbeats 4000000 in
set_option maxRecDepth 100000 in
theorem m_X0_worthBy (l : Launch) {g : Gl} (hg : GOK g) {c0 : Nat} {a1 : Int32} {a2 : Int32} {S : St} {r : Int32 × St} (h_c0 : kd g c0 = 0) (h : f_X0_worthBy c0 a1 a2 S = some r) : MW l yX0_worthBy cX0_worthBy 5 (some .int) rm_X0_worthBy g S [.ref (ad g c0), .int a1, .int a2] (QWi g r) := by
  refine startW [(0, .ref (ad g c0)), (1, .int a1), (2, .int a2)] (by decide +kernel) (Nat.le_of_ble_eq_true rfl) rfl hg (fun p e s m args below meth c cx => ?_)
  have cx : Cx p s m args meth c cX0_worthBy 5 (some .int) RX0 g (Ap g) := cx
  rw [f_X0_worthBy] at h
  refine wa_iload_n cx (i := 1) dX0_worthBy_0 rfl rfl ?_
  refine wa_if_lt cx dX0_worthBy_1 12 (by decide) (fun q7 => ?_) (fun q7 => ?_)
  · rw [if_pos q7] at h
    refine wa_iconst cx dX0_worthBy_12 (0 : Int32) (by decide) ?_
    exact wa_iret cx h dX0_worthBy_13
  · rw [if_neg q7] at h
    refine wa_iload_n cx (i := 1) dX0_worthBy_4 rfl rfl ?_
    refine wa_aload_n cx (i := 0) dX0_worthBy_5 rfl rfl ?_
    refine gf_X0_61 cx h_c0 dX0_worthBy_6 ?_
    refine wa_icmp_lt cx dX0_worthBy_9 14 (by decide) (fun q8 => ?_) (fun q8 => ?_)
    · rw [if_pos q8] at h
      refine wa_iconst cx dX0_worthBy_14 (0 : Int32) (by decide) ?_
      refine wa_istore_n cx (i := 3) dX0_worthBy_15 [(0, .ref (ad g c0)), (1, .int a1), (2, .int a2), (3, .int (0 : Int32))] rfl (Nat.le_of_ble_eq_true rfl) rfl (lvs_c rfl (lvs_c rfl (lvs_c rfl (lvs_c rfl (lvs_n))))) ?_
      refine wa_iconst cx dX0_worthBy_16 (0 : Int32) (by decide) ?_
      refine wa_istore cx dX0_worthBy_17 [(0, .ref (ad g c0)), (1, .int a1), (2, .int a2), (3, .int (0 : Int32)), (4, .int (0 : Int32))] (Nat.le_of_ble_eq_true rfl) rfl (lvs_c rfl (lvs_c rfl (lvs_c rfl (lvs_c rfl (lvs_c rfl (lvs_n)))))) ?_
      refine wa_sub (lv' := [(0, .ref (ad g c0)), (1, .int a1), (2, .int a2), (3, .int (0 : Int32)), (4, .int (0 : Int32))]) (lvs_c rfl (lvs_c rfl (lvs_c rfl (lvs_c rfl (lvs_c rfl (lvs_n)))))) ?_
      exact w_X0_worthBy_L19 cx h_c0  FU (0 : Int32) (0 : Int32) S  h
    · rw [if_neg q8] at h
      refine wa_iconst cx dX0_worthBy_12 (0 : Int32) (by decide) ?_
      exact wa_iret cx h dX0_worthBy_13
def rm_X1_set : Room := { frames := 0, cells := 0, slots := 0, locals := 0 }
def f_X1_set (c0 : Nat) (a1 : Nat) (a2 : Nat) (a3 : Int32) (S : St) : Option (Unit × St) := sq (pR S c0 0 a1) fun S1 => sq (pR S1 c0 1 a2) fun S2 => sq (pI S2 c0 2 a3) fun S3 => ck (kdE (S3.2.2 c0 0) = 2) (sq (pI S3 c0 3 (S3.1 (S3.2.2 c0 0) 0)) fun S5 => ck (kdE (S5.2.2 c0 0) = 2) (sq (pI S5 c0 4 (S5.1 (S5.2.2 c0 0) 5)) fun S7 => sq (pI S7 c0 5 (0 : Int32)) fun S8 => sq (pI S8 c0 6 (-1 : Int32)) fun S9 => some ((), S9)))
set_option maxHeartbeats 4000000 in
set_option maxRecDepth 100000 in
theorem m_X1_set (l : Launch) {g : Gl} (hg : GOK g) {c0 : Nat} {a1 : Nat} {a2 : Nat} {a3 : Int32} {S : St} {r : Unit × St} (h_c0 : kd g c0 = 1) (h_a1 : kd g a1 = 2) (h_a2 : kd g a2 = 0) (h : f_X1_set c0 a1 a2 a3 S = some r) : MW l yX1_set cX1_set 4 none rm_X1_set g S [.ref (ad g c0), .ref (ad g a1), .ref (ad g a2), .int a3] (QWv g r) := by
  refine startW [(0, .ref (ad g c0)), (1, .ref (ad g a1)), (2, .ref (ad g a2)), (3, .int a3)] (by decide +kernel) (Nat.le_of_ble_eq_true rfl) rfl hg (fun p e s m args below meth c cx => ?_)
  have cx : Cx p s m args meth c cX1_set 4 none RX1 g (Ap g) := cx
  rw [f_X1_set] at h
  refine wa_aload_n cx (i := 0) dX1_set_0 rfl rfl ?_
  refine wa_aload_n cx (i := 1) dX1_set_1 rfl rfl ?_
  refine pf_X1_10 cx h_c0 dX1_set_2 ?_
  replace h := sq_eq h
  generalize (pR S c0 0 a1) = S1 at h ⊢
  refine wa_aload_n cx (i := 0) dX1_set_5 rfl rfl ?_
  refine wa_aload_n cx (i := 2) dX1_set_6 rfl rfl ?_
  refine pf_X1_19 cx h_c0 dX1_set_7 ?_
  replace h := sq_eq h
  generalize (pR S1 c0 1 a2) = S2 at h ⊢
  refine wa_aload_n cx (i := 0) dX1_set_10 rfl rfl ?_
  refine wa_iload_n cx (i := 3) dX1_set_11 rfl rfl ?_
  refine pf_X1_38 cx h_c0 dX1_set_12 ?_
  replace h := sq_eq h
  generalize (pI S2 c0 2 a3) = S3 at h ⊢
  refine wa_aload_n cx (i := 0) dX1_set_15 rfl rfl ?_
  refine wa_aload_n cx (i := 0) dX1_set_16 rfl rfl ?_
  obtain ⟨b4, h⟩ := ck_some h
  refine gf_X1_10 cx h_c0 dX1_set_17 ?_
  refine gf_X1_42 cx (kd_of cx.2.2.2.2.2.2.1 b4 (by decide)) dX1_set_20 ?_
  refine pf_X1_45 cx h_c0 dX1_set_23 ?_
  replace h := sq_eq h
  generalize (pI S3 c0 3 (S3.1 (S3.2.2 c0 0) 0)) = S5 at h ⊢
  refine wa_aload_n cx (i := 0) dX1_set_26 rfl rfl ?_
  refine wa_aload_n cx (i := 0) dX1_set_27 rfl rfl ?_
  obtain ⟨b6, h⟩ := ck_some h
  refine gf_X1_10 cx h_c0 dX1_set_28 ?_
  refine gf_X1_46 cx (kd_of cx.2.2.2.2.2.2.1 b6 (by decide)) dX1_set_31 ?_
  refine pf_X1_49 cx h_c0 dX1_set_34 ?_
  replace h := sq_eq h
  generalize (pI S5 c0 4 (S5.1 (S5.2.2 c0 0) 5)) = S7 at h ⊢
  refine wa_aload_n cx (i := 0) dX1_set_37 rfl rfl ?_
  refine wa_iconst cx dX1_set_38 (0 : Int32) (by decide) ?_
  refine pf_X1_50 cx h_c0 dX1_set_39 ?_
  replace h := sq_eq h
  generalize (pI S7 c0 5 (0 : Int32)) = S8 at h ⊢
  refine wa_aload_n cx (i := 0) dX1_set_42 rfl rfl ?_
  refine wa_iconst cx dX1_set_43 (-1 : Int32) (by decide) ?_
  refine pf_X1_53 cx h_c0 dX1_set_44 ?_
  replace h := sq_eq h
  generalize (pI S8 c0 6 (-1 : Int32)) = S9 at h ⊢
  exact wa_vret cx h dX1_set_47
def rm_X1_whoCome : Room := { frames := 0, cells := 0, slots := 0, locals := 0 }
def f_X1_whoCome (c0 : Nat) (S : St) : Option (Nat × St) := ck (kdE (S.2.2 c0 1) = 0) (some ((S.2.2 c0 1), S))
set_option maxHeartbeats 4000000 in
set_option maxRecDepth 100000 in
theorem m_X1_whoCome (l : Launch) {g : Gl} (hg : GOK g) {c0 : Nat} {S : St} {r : Nat × St} (h_c0 : kd g c0 = 1) (h : f_X1_whoCome c0 S = some r) : MW l yX1_whoCome cX1_whoCome 1 (some (.object "EnoughGive$Coming")) rm_X1_whoCome g S [.ref (ad g c0)] (QWr g r) := by
  refine startW [(0, .ref (ad g c0))] (by decide +kernel) (Nat.le_of_ble_eq_true rfl) rfl hg (fun p e s m args below meth c cx => ?_)
  have cx : Cx p s m args meth c cX1_whoCome 1 (some (.object "EnoughGive$Coming")) RX1 g (Ap g) := cx
  rw [f_X1_whoCome] at h
  refine wa_aload_n cx (i := 0) dX1_whoCome_0 rfl rfl ?_
  obtain ⟨b1, h⟩ := ck_some h
  refine gf_X1_19 cx h_c0 dX1_whoCome_1 ?_
  exact wa_aret cx h dX1_whoCome_4
def rm_X1_cost : Room := { frames := 0, cells := 0, slots := 0, locals := 0 }
def f_X1_cost (c0 : Nat) (S : St) : Option (Int32 × St) := ck (kdE (S.2.2 c0 0) = 2) (some ((S.1 (S.2.2 c0 0) 3), S))
set_option maxHeartbeats 4000000 in
set_option maxRecDepth 100000 in
theorem m_X1_cost (l : Launch) {g : Gl} (hg : GOK g) {c0 : Nat} {S : St} {r : Int32 × St} (h_c0 : kd g c0 = 1) (h : f_X1_cost c0 S = some r) : MW l yX1_cost cX1_cost 1 (some .int) rm_X1_cost g S [.ref (ad g c0)] (QWi g r) := by
  refine startW [(0, .ref (ad g c0))] (by decide +kernel) (Nat.le_of_ble_eq_true rfl) rfl hg (fun p e s m args below meth c cx => ?_)
  have cx : Cx p s m args meth c cX1_cost 1 (some .int) RX1 g (Ap g) := cx
  rw [f_X1_cost] at h
  refine wa_aload_n cx (i := 0) dX1_cost_0 rfl rfl ?_
  obtain ⟨b1, h⟩ := ck_some h
  refine gf_X1_10 cx h_c0 dX1_cost_1 ?_
  refine gf_X1_56 cx (kd_of cx.2.2.2.2.2.2.1 b1 (by decide)) dX1_cost_4 ?_
  exact wa_iret cx h dX1_cost_7
def rm_X1_lackOf : Room := { frames := 1, cells := 0, slots := 0, locals := 21 }
def f_X1_lackOf_J28 (c0 : Nat) (a1 : Int32) (a2 : Int32) (l3 : Int32) (S : St) : Option (Int32 × St) := some ((imax (0 : Int32) (a1 - l3)), S)
set_option maxHeartbeats 4000000 in
set_option maxRecDepth 100000 in
theorem w_X1_lackOf_J28 {p : Program} {l : Launch} {e : Env} {s : State} {m : MethodId} {args : Array Value} {below : List Frame} {meth : Method} {c : Code} {g : Gl} {r : Int32 × St} {c0 : Nat} {a1 : Int32} {a2 : Int32} (cx : Cx p s m args meth c cX1_lackOf 4 (some .int) RX1 g (Ap g)) (h_c0 : kd g c0 = 1) : ∀ (l3 : Int32) (S : St), f_X1_lackOf_J28 c0 a1 a2 l3 S = some r → WA p l e rm_X1_lackOf s m args below meth c 0 0 (MQ below (QWi g r) args s 0 0 (Ap g)) 4 g (Ap g) S 28 [(1, .int a1), (3, .int l3)] [] := by
  intro l3 S h
  rw [f_X1_lackOf_J28] at h
  refine wa_iconst cx dX1_lackOf_28 (0 : Int32) (by decide) ?_
  refine wa_iload_n cx (i := 1) dX1_lackOf_29 rfl rfl ?_
  refine wa_iload_n cx (i := 3) dX1_lackOf_30 rfl rfl ?_
  refine wa_isub cx dX1_lackOf_31 ?_
  refine wa_mmax cx dX1_lackOf_32 ml_X1_103 mmax_s m_i mmax_c ⟨Nat.le_of_ble_eq_true rfl, Nat.le_of_ble_eq_true rfl⟩ ⟨Nat.zero_le _, Nat.zero_le _⟩ ?_
  exact wa_iret cx h dX1_lackOf_35
def f_X1_lackOf_J12 (c0 : Nat) (a1 : Int32) (a2 : Int32) (l3 : Int32) (S : St) : Option (Int32 × St) := if (S.1 c0 2) = (2 : Int32) then sq ((a2 / (10 : Int32)) * (10 : Int32)) fun x2 => f_X1_lackOf_J28 c0 a1 a2 x2 S else f_X1_lackOf_J28 c0 a1 a2 l3 S
set_option maxHeartbeats 4000000 in
set_option maxRecDepth 100000 in
theorem w_X1_lackOf_J12 {p : Program} {l : Launch} {e : Env} {s : State} {m : MethodId} {args : Array Value} {below : List Frame} {meth : Method} {c : Code} {g : Gl} {r : Int32 × St} {c0 : Nat} {a1 : Int32} {a2 : Int32} (cx : Cx p s m args meth c cX1_lackOf 4 (some .int) RX1 g (Ap g)) (h_c0 : kd g c0 = 1) : ∀ (l3 : Int32) (S : St), f_X1_lackOf_J12 c0 a1 a2 l3 S = some r → WA p l e rm_X1_lackOf s m args below meth c 0 0 (MQ below (QWi g r) args s 0 0 (Ap g)) 4 g (Ap g) S 12 [(0, .ref (ad g c0)), (1, .int a1), (2, .int a2), (3, .int l3)] [] := by
  intro l3 S h
  rw [f_X1_lackOf_J12] at h
  refine wa_aload_n cx (i := 0) dX1_lackOf_12 rfl rfl ?_
  refine gf_X1_38 cx h_c0 dX1_lackOf_13 ?_
  refine wa_iconst cx dX1_lackOf_16 (2 : Int32) (by decide) ?_
  refine wa_icmp_ne cx dX1_lackOf_17 28 (by decide) (fun q1 => ?_) (fun q1 => ?_)
  · rw [if_neg q1] at h
    refine wa_sub (lv' := [(1, .int a1), (3, .int l3)]) (lvs_c rfl (lvs_c rfl (lvs_n))) ?_
    exact w_X1_lackOf_J28 cx h_c0   l3 S  h
  · rw [if_pos q1] at h
    refine wa_iload_n cx (i := 2) dX1_lackOf_20 rfl rfl ?_
    refine wa_bipush cx dX1_lackOf_21 (10 : Int32) (by decide) ?_
    refine wa_idiv cx dX1_lackOf_23 (by decide) ?_
    refine wa_bipush cx dX1_lackOf_24 (10 : Int32) (by decide) ?_
    refine wa_imul cx dX1_lackOf_26 ?_
    replace h := sq_eq h
    generalize ((a2 / (10 : Int32)) * (10 : Int32)) = x2 at h ⊢
    refine wa_istore_n cx (i := 3) dX1_lackOf_27 [(1, .int a1), (3, .int x2)] rfl (Nat.le_of_ble_eq_true rfl) rfl (lvs_c rfl (lvs_c rfl (lvs_n))) ?_
    refine wa_sub (lv' := [(1, .int a1), (3, .int x2)]) (lvs_c rfl (lvs_c rfl (lvs_n))) ?_
    exact w_X1_lackOf_J28 cx h_c0   x2 S  h
def f_X1_lackOf (c0 : Nat) (a1 : Int32) (a2 : Int32) (S : St) : Option (Int32 × St) := if (S.1 c0 2) = (1 : Int32) then f_X1_lackOf_J12 c0 a1 a2 (0 : Int32) S else f_X1_lackOf_J12 c0 a1 a2 a2 S
set_option maxHeartbeats 4000000 in
set_option maxRecDepth 100000 in
theorem m_X1_lackOf (l : Launch) {g : Gl} (hg : GOK g) {c0 : Nat} {a1 : Int32} {a2 : Int32} {S : St} {r : Int32 × St} (h_c0 : kd g c0 = 1) (h : f_X1_lackOf c0 a1 a2 S = some r) : MW l yX1_lackOf cX1_lackOf 4 (some .int) rm_X1_lackOf g S [.ref (ad g c0), .int a1, .int a2] (QWi g r) := by
  refine startW [(0, .ref (ad g c0)), (1, .int a1), (2, .int a2)] (by decide +kernel) (Nat.le_of_ble_eq_true rfl) rfl hg (fun p e s m args below meth c cx => ?_)
  have cx : Cx p s m args meth c cX1_lackOf 4 (some .int) RX1 g (Ap g) := cx
  rw [f_X1_lackOf] at h
  refine wa_iload_n cx (i := 2) dX1_lackOf_0 rfl rfl ?_
  refine wa_istore_n cx (i := 3) dX1_lackOf_1 [(0, .ref (ad g c0)), (1, .int a1), (2, .int a2), (3, .int a2)] rfl (Nat.le_of_ble_eq_true rfl) rfl (lvs_c rfl (lvs_c rfl (lvs_c rfl (lvs_c rfl (lvs_n))))) ?_
  refine wa_aload_n cx (i := 0) dX1_lackOf_2 rfl rfl ?_
  refine gf_X1_38 cx h_c0 dX1_lackOf_3 ?_
  refine wa_iconst cx dX1_lackOf_6 (1 : Int32) (by decide) ?_
  refine wa_icmp_ne cx dX1_lackOf_7 12 (by decide) (fun q3 => ?_) (fun q3 => ?_)
  · rw [if_neg q3] at h
    refine wa_sub (lv' := [(0, .ref (ad g c0)), (1, .int a1), (2, .int a2), (3, .int a2)]) (lvs_c rfl (lvs_c rfl (lvs_c rfl (lvs_c rfl (lvs_n))))) ?_
    exact w_X1_lackOf_J12 cx h_c0   a2 S  h
  · rw [if_pos q3] at h
    refine wa_iconst cx dX1_lackOf_10 (0 : Int32) (by decide) ?_
    refine wa_istore_n cx (i := 3) dX1_lackOf_11 [(0, .ref (ad g c0)), (1, .int a1), (2, .int a2), (3, .int (0 : Int32))] rfl (Nat.le_of_ble_eq_true rfl) rfl (lvs_c rfl (lvs_c rfl (lvs_c rfl (lvs_c rfl (lvs_n))))) ?_
    refine wa_sub (lv' := [(0, .ref (ad g c0)), (1, .int a1), (2, .int a2), (3, .int (0 : Int32))]) (lvs_c rfl (lvs_c rfl (lvs_c rfl (lvs_c rfl (lvs_n))))) ?_
    exact w_X1_lackOf_J12 cx h_c0   (0 : Int32) S  h
def rm_X1_giftByKind : Room := { frames := 1, cells := 0, slots := 0, locals := 21 }
def f_X1_giftByKind (a0 : Int32) (a1 : Int32) (a2 : Int32) (a3 : Int32) (S : St) : Option (Int32 × St) := if a0 = (0 : Int32) then if a3 = (1 : Int32) then if a1 < a2 then some ((0 : Int32), S) else some (a2, S) else some ((0 : Int32), S) else if a0 = (2 : Int32) then some (((a1 + (1 : Int32)) / (2 : Int32)), S) else if a0 = (4 : Int32) then if a1 < a2 then some ((0 : Int32), S) else some (a2, S) else if (1 : Int32) ≤ a3 then ck (¬ a3 = 0) (some ((imin (((a2 + a3) - (1 : Int32)) / a3) a1), S)) else some ((0 : Int32), S)
set_option maxHeartbeats 4000000 in
set_option maxRecDepth 100000 in
theorem m_X1_giftByKind (l : Launch) {g : Gl} (hg : GOK g) {a0 : Int32} {a1 : Int32} {a2 : Int32} {a3 : Int32} {S : St} {r : Int32 × St}  (h : f_X1_giftByKind a0 a1 a2 a3 S = some r) : MW l yX1_giftByKind cX1_giftByKind 4 (some .int) rm_X1_giftByKind g S [.int a0, .int a1, .int a2, .int a3] (QWi g r) := by
  refine startW [(0, .int a0), (1, .int a1), (2, .int a2), (3, .int a3)] (by decide +kernel) (Nat.le_of_ble_eq_true rfl) rfl hg (fun p e s m args below meth c cx => ?_)
  have cx : Cx p s m args meth c cX1_giftByKind 4 (some .int) RX1 g (Ap g) := cx
  rw [f_X1_giftByKind] at h
  refine wa_iload_n cx (i := 0) dX1_giftByKind_0 rfl rfl ?_
  by_cases q1 : a0 = (0 : Int32)
  · rw [if_pos q1] at h
    refine wa_tabIn cx dX1_giftByKind_1 36 (by rw [q1]; decide) (by rw [q1]; decide) (by rw [q1] <;> rfl) (by decide) ?_
    refine wa_iload_n cx (i := 3) dX1_giftByKind_36 rfl rfl ?_
    refine wa_iconst cx dX1_giftByKind_37 (1 : Int32) (by decide) ?_
    refine wa_icmp_ne cx dX1_giftByKind_38 50 (by decide) (fun q2 => ?_) (fun q2 => ?_)
    · rw [if_neg q2] at h
      refine wa_iconst cx dX1_giftByKind_50 (0 : Int32) (by decide) ?_
      exact wa_iret cx h dX1_giftByKind_51
    · rw [if_pos q2] at h
      refine wa_iload_n cx (i := 2) dX1_giftByKind_41 rfl rfl ?_
      refine wa_iload_n cx (i := 1) dX1_giftByKind_42 rfl rfl ?_
      refine wa_icmp_gt cx dX1_giftByKind_43 50 (by decide) (fun q3 => ?_) (fun q3 => ?_)
      · rw [if_pos q3] at h
        refine wa_iconst cx dX1_giftByKind_50 (0 : Int32) (by decide) ?_
        exact wa_iret cx h dX1_giftByKind_51
      · rw [if_neg q3] at h
        refine wa_iload_n cx (i := 2) dX1_giftByKind_46 rfl rfl ?_
        refine wa_goto cx dX1_giftByKind_47 51 (by decide) ?_
        exact wa_iret cx h dX1_giftByKind_51
  rw [if_neg q1] at h
  by_cases q4 : a0 = (2 : Int32)
  · rw [if_pos q4] at h
    refine wa_tabIn cx dX1_giftByKind_1 52 (by rw [q4]; decide) (by rw [q4]; decide) (by rw [q4] <;> rfl) (by decide) ?_
    refine wa_iload_n cx (i := 1) dX1_giftByKind_52 rfl rfl ?_
    refine wa_iconst cx dX1_giftByKind_53 (1 : Int32) (by decide) ?_
    refine wa_iadd cx dX1_giftByKind_54 ?_
    refine wa_iconst cx dX1_giftByKind_55 (2 : Int32) (by decide) ?_
    refine wa_idiv cx dX1_giftByKind_56 (by decide) ?_
    exact wa_iret cx h dX1_giftByKind_57
  rw [if_neg q4] at h
  by_cases q5 : a0 = (4 : Int32)
  · rw [if_pos q5] at h
    refine wa_tabIn cx dX1_giftByKind_1 58 (by rw [q5]; decide) (by rw [q5]; decide) (by rw [q5] <;> rfl) (by decide) ?_
    refine wa_iload_n cx (i := 2) dX1_giftByKind_58 rfl rfl ?_
    refine wa_iload_n cx (i := 1) dX1_giftByKind_59 rfl rfl ?_
    refine wa_icmp_gt cx dX1_giftByKind_60 67 (by decide) (fun q6 => ?_) (fun q6 => ?_)
    · rw [if_pos q6] at h
      refine wa_iconst cx dX1_giftByKind_67 (0 : Int32) (by decide) ?_
      exact wa_iret cx h dX1_giftByKind_68
    · rw [if_neg q6] at h
      refine wa_iload_n cx (i := 2) dX1_giftByKind_63 rfl rfl ?_
      refine wa_goto cx dX1_giftByKind_64 68 (by decide) ?_
      exact wa_iret cx h dX1_giftByKind_68
  rw [if_neg q5] at h
  refine wa_tabDef cx dX1_giftByKind_1 69 [0, 2, 4] (by decide) (by decide) (show allne _ _ from ⟨ne_toInt q1, ne_toInt q4, ne_toInt q5, trivial⟩) (by decide) ?_
  refine wa_iload_n cx (i := 3) dX1_giftByKind_69 rfl rfl ?_
  refine wa_iconst cx dX1_giftByKind_70 (1 : Int32) (by decide) ?_
  refine wa_icmp_ge cx dX1_giftByKind_71 78 (by decide) (fun q7 => ?_) (fun q7 => ?_)
  · rw [if_pos q7] at h
    refine wa_iload_n cx (i := 2) dX1_giftByKind_78 rfl rfl ?_
    refine wa_iload_n cx (i := 3) dX1_giftByKind_79 rfl rfl ?_
    refine wa_iadd cx dX1_giftByKind_80 ?_
    refine wa_iconst cx dX1_giftByKind_81 (1 : Int32) (by decide) ?_
    refine wa_isub cx dX1_giftByKind_82 ?_
    refine wa_iload_n cx (i := 3) dX1_giftByKind_83 rfl rfl ?_
    obtain ⟨b8, h⟩ := ck_some h
    refine wa_idiv cx dX1_giftByKind_84 b8 ?_
    refine wa_iload_n cx (i := 1) dX1_giftByKind_85 rfl rfl ?_
    refine wa_mmin cx dX1_giftByKind_86 ml_X1_66 mmin_s m_i mmin_c ⟨Nat.le_of_ble_eq_true rfl, Nat.le_of_ble_eq_true rfl⟩ ⟨Nat.zero_le _, Nat.zero_le _⟩ ?_
    exact wa_iret cx h dX1_giftByKind_89
  · rw [if_neg q7] at h
    refine wa_iconst cx dX1_giftByKind_74 (0 : Int32) (by decide) ?_
    refine wa_goto cx dX1_giftByKind_75 89 (by decide) ?_
    exact wa_iret cx h dX1_giftByKind_89
def rm_X1_giftAt : Room := { frames := 2, cells := 0, slots := 0, locals := 44 }
def f_X1_giftAt_J122 (c0 : Nat) (a1 : Int32) (a2 : Int32) (a3 : Int32) (l5 : Int32) (l6 : Int32) (l7 : Int32) (S : St) : Option (Int32 × St) := ck (kdE (S.2.2 c0 1) = 0) (bd (f_X1_giftByKind l7 l5 l6 ((S.1 (S.2.2 c0 1) 0) - a1) S) fun x2 S3 => some (x2, S3))
set_option maxHeartbeats 4000000 in
set_option maxRecDepth 100000 in
theorem w_X1_giftAt_J122 {p : Program} {l : Launch} {e : Env} {s : State} {m : MethodId} {args : Array Value} {below : List Frame} {meth : Method} {c : Code} {g : Gl} {r : Int32 × St} {c0 : Nat} {a1 : Int32} {a2 : Int32} {a3 : Int32} (cx : Cx p s m args meth c cX1_giftAt 8 (some .int) RX1 g (Ap g)) (h_c0 : kd g c0 = 1) : ∀ (l5 : Int32) (l6 : Int32) (l7 : Int32) (S : St), f_X1_giftAt_J122 c0 a1 a2 a3 l5 l6 l7 S = some r → WA p l e rm_X1_giftAt s m args below meth c 0 0 (MQ below (QWi g r) args s 0 0 (Ap g)) 8 g (Ap g) S 122 [(0, .ref (ad g c0)), (1, .int a1), (5, .int l5), (6, .int l6), (7, .int l7)] [] := by
  intro l5 l6 l7 S h
  rw [f_X1_giftAt_J122] at h
  refine wa_iload cx dX1_giftAt_122 rfl ?_
  refine wa_iload cx dX1_giftAt_124 rfl ?_
  refine wa_iload cx dX1_giftAt_126 rfl ?_
  refine wa_aload_n cx (i := 0) dX1_giftAt_128 rfl rfl ?_
  obtain ⟨b1, h⟩ := ck_some h
  refine gf_X1_19 cx h_c0 dX1_giftAt_129 ?_
  refine gf_X1_59 cx (kd_of cx.2.2.2.2.2.2.1 b1 (by decide)) dX1_giftAt_132 ?_
  refine wa_iload_n cx (i := 1) dX1_giftAt_135 rfl rfl ?_
  refine wa_isub cx dX1_giftAt_136 ?_
  obtain ⟨x2, S3, e4, h⟩ := bd_some h
  refine wa_callSi cx (m_X1_giftByKind l cx.2.2.2.2.2.2.1  e4) vl_X1_96 ⟨Nat.le_of_ble_eq_true rfl, Nat.le_of_ble_eq_true rfl⟩ ⟨rfl, rfl⟩ ⟨Nat.zero_le _, Nat.zero_le _⟩ rfl (Nat.le_of_ble_eq_true rfl) dX1_giftAt_137 rfl ?_
  exact wa_iret cx h dX1_giftAt_140
def f_X1_giftAt (c0 : Nat) (a1 : Int32) (a2 : Int32) (a3 : Int32) (S : St) : Option (Int32 × St) := if a1 < 0 then some ((0 : Int32), S) else ck (kdE (S.2.2 c0 1) = 0) (if a1 < (S.1 (S.2.2 c0 1) 0) then ck (kdE (S.2.2 c0 1) = 0) (ob a1 8 (sq (S.1 ((S.2.2 c0 1) + 4) (Int32.toNatClampNeg a1)) fun x10 => sq (imin a2 x10) fun x11 => bd (f_X1_lackOf c0 (S.1 c0 3) a3 S) fun x12 S13 => ck (kdE (S13.2.2 c0 1) = 0) (ob a1 8 (sq (S13.1 ((S13.2.2 c0 1) + 3) (Int32.toNatClampNeg a1)) fun x17 => if x17 = (5 : Int32) then ck (kdE (S13.2.2 c0 1) = 0) (ob a1 8 (some ((imin (S13.1 ((S13.2.2 c0 1) + 5) (Int32.toNatClampNeg a1)) x10), S13))) else if x17 = (3 : Int32) then ck (kdE (S13.2.2 c0 1) = 0) (ob a1 8 (ck (kdE (S13.2.2 c0 0) = 2) (if (S13.1 (S13.2.2 c0 0) 6) < (S13.1 ((S13.2.2 c0 1) + 2) (Int32.toNatClampNeg a1)) then f_X1_giftAt_J122 c0 a1 a2 a3 x11 x12 x17 S13 else some ((imin x12 (imin (x11 + (S13.1 c0 4)) x10)), S13)))) else f_X1_giftAt_J122 c0 a1 a2 a3 x11 x12 x17 S13)))) else some ((0 : Int32), S))
set_option maxHeartbeats 4000000 in
set_option maxRecDepth 100000 in
theorem m_X1_giftAt (l : Launch) {g : Gl} (hg : GOK g) {c0 : Nat} {a1 : Int32} {a2 : Int32} {a3 : Int32} {S : St} {r : Int32 × St} (h_c0 : kd g c0 = 1) (h : f_X1_giftAt c0 a1 a2 a3 S = some r) : MW l yX1_giftAt cX1_giftAt 8 (some .int) rm_X1_giftAt g S [.ref (ad g c0), .int a1, .int a2, .int a3] (QWi g r) := by
  refine startW [(0, .ref (ad g c0)), (1, .int a1), (2, .int a2), (3, .int a3)] (by decide +kernel) (Nat.le_of_ble_eq_true rfl) rfl hg (fun p e s m args below meth c cx => ?_)
  have cx : Cx p s m args meth c cX1_giftAt 8 (some .int) RX1 g (Ap g) := cx
  rw [f_X1_giftAt] at h
  refine wa_iload_n cx (i := 1) dX1_giftAt_0 rfl rfl ?_
  refine wa_if_lt cx dX1_giftAt_1 15 (by decide) (fun q5 => ?_) (fun q5 => ?_)
  · rw [if_pos q5] at h
    refine wa_iconst cx dX1_giftAt_15 (0 : Int32) (by decide) ?_
    exact wa_iret cx h dX1_giftAt_16
  · rw [if_neg q5] at h
    refine wa_iload_n cx (i := 1) dX1_giftAt_4 rfl rfl ?_
    refine wa_aload_n cx (i := 0) dX1_giftAt_5 rfl rfl ?_
    obtain ⟨b6, h⟩ := ck_some h
    refine gf_X1_19 cx h_c0 dX1_giftAt_6 ?_
    refine gf_X1_59 cx (kd_of cx.2.2.2.2.2.2.1 b6 (by decide)) dX1_giftAt_9 ?_
    refine wa_icmp_lt cx dX1_giftAt_12 17 (by decide) (fun q7 => ?_) (fun q7 => ?_)
    · rw [if_pos q7] at h
      refine wa_aload_n cx (i := 0) dX1_giftAt_17 rfl rfl ?_
      obtain ⟨b8, h⟩ := ck_some h
      refine gf_X1_19 cx h_c0 dX1_giftAt_18 ?_
      refine gf_X1_78 cx (kd_of cx.2.2.2.2.2.2.1 b8 (by decide)) dX1_giftAt_21 ?_
      refine wa_iload_n cx (i := 1) dX1_giftAt_24 rfl rfl ?_
      obtain ⟨b9, h⟩ := ob_some h
      refine wa_iald cx dX1_giftAt_25 (kq0_4 cx.2.2.2.2.2.2.1 (kd_of cx.2.2.2.2.2.2.1 b8 (by decide))) b9 ?_
      replace h := sq_eq h
      generalize (S.1 ((S.2.2 c0 1) + 4) (Int32.toNatClampNeg a1)) = x10 at h ⊢
      refine wa_istore cx dX1_giftAt_26 [(0, .ref (ad g c0)), (1, .int a1), (2, .int a2), (3, .int a3), (4, .int x10)] (Nat.le_of_ble_eq_true rfl) rfl (lvs_c rfl (lvs_c rfl (lvs_c rfl (lvs_c rfl (lvs_c rfl (lvs_n)))))) ?_
      refine wa_iload_n cx (i := 2) dX1_giftAt_28 rfl rfl ?_
      refine wa_iload cx dX1_giftAt_29 rfl ?_
      refine wa_mmin cx dX1_giftAt_31 ml_X1_66 mmin_s m_i mmin_c ⟨Nat.le_of_ble_eq_true rfl, Nat.le_of_ble_eq_true rfl⟩ ⟨Nat.zero_le _, Nat.zero_le _⟩ ?_
      replace h := sq_eq h
      generalize (imin a2 x10) = x11 at h ⊢
      refine wa_istore cx dX1_giftAt_34 [(0, .ref (ad g c0)), (1, .int a1), (3, .int a3), (4, .int x10), (5, .int x11)] (Nat.le_of_ble_eq_true rfl) rfl (lvs_c rfl (lvs_c rfl (lvs_c rfl (lvs_c rfl (lvs_c rfl (lvs_n)))))) ?_
      refine wa_aload_n cx (i := 0) dX1_giftAt_36 rfl rfl ?_
      refine wa_aload_n cx (i := 0) dX1_giftAt_37 rfl rfl ?_
      refine gf_X1_45 cx h_c0 dX1_giftAt_38 ?_
      refine wa_iload_n cx (i := 3) dX1_giftAt_41 rfl rfl ?_
      obtain ⟨x12, S13, e14, h⟩ := bd_some h
      refine wa_callVi cx (m_X1_lackOf l cx.2.2.2.2.2.2.1 h_c0 e14) vl_X1_81 h_c0 (by decide) rfl rfl ⟨_, cell_eq1 (kd_lt h_c0 (by decide)).2⟩ ⟨Nat.le_of_ble_eq_true rfl, Nat.le_of_ble_eq_true rfl⟩ ⟨rfl, rfl⟩ ⟨Nat.zero_le _, Nat.zero_le _⟩ rfl (Nat.le_of_ble_eq_true rfl) dX1_giftAt_42 rfl ?_
      refine wa_istore cx dX1_giftAt_45 [(0, .ref (ad g c0)), (1, .int a1), (4, .int x10), (5, .int x11), (6, .int x12)] (Nat.le_of_ble_eq_true rfl) rfl (lvs_c rfl (lvs_c rfl (lvs_c rfl (lvs_c rfl (lvs_c rfl (lvs_n)))))) ?_
      refine wa_aload_n cx (i := 0) dX1_giftAt_47 rfl rfl ?_
      obtain ⟨b15, h⟩ := ck_some h
      refine gf_X1_19 cx h_c0 dX1_giftAt_48 ?_
      refine gf_X1_84 cx (kd_of cx.2.2.2.2.2.2.1 b15 (by decide)) dX1_giftAt_51 ?_
      refine wa_iload_n cx (i := 1) dX1_giftAt_54 rfl rfl ?_
      obtain ⟨b16, h⟩ := ob_some h
      refine wa_iald cx dX1_giftAt_55 (kq0_3 cx.2.2.2.2.2.2.1 (kd_of cx.2.2.2.2.2.2.1 b15 (by decide))) b16 ?_
      replace h := sq_eq h
      generalize (S13.1 ((S13.2.2 c0 1) + 3) (Int32.toNatClampNeg a1)) = x17 at h ⊢
      refine wa_istore cx dX1_giftAt_56 [(0, .ref (ad g c0)), (1, .int a1), (4, .int x10), (5, .int x11), (6, .int x12), (7, .int x17)] (Nat.le_of_ble_eq_true rfl) rfl (lvs_c rfl (lvs_c rfl (lvs_c rfl (lvs_c rfl (lvs_c rfl (lvs_c rfl (lvs_n))))))) ?_
      refine wa_iload cx dX1_giftAt_58 rfl ?_
      refine wa_iconst cx dX1_giftAt_60 (5 : Int32) (by decide) ?_
      refine wa_icmp_ne cx dX1_giftAt_61 79 (by decide) (fun q18 => ?_) (fun q18 => ?_)
      · rw [if_neg q18] at h
        refine wa_iload cx dX1_giftAt_79 rfl ?_
        refine wa_iconst cx dX1_giftAt_81 (3 : Int32) (by decide) ?_
        refine wa_icmp_ne cx dX1_giftAt_82 122 (by decide) (fun q19 => ?_) (fun q19 => ?_)
        · rw [if_neg q19] at h
          refine wa_sub (lv' := [(0, .ref (ad g c0)), (1, .int a1), (5, .int x11), (6, .int x12), (7, .int x17)]) (lvs_c rfl (lvs_c rfl (lvs_c rfl (lvs_c rfl (lvs_c rfl (lvs_n)))))) ?_
          exact w_X1_giftAt_J122 cx h_c0   x11 x12 x17 S13  h
        · rw [if_pos q19] at h
          refine wa_aload_n cx (i := 0) dX1_giftAt_85 rfl rfl ?_
          obtain ⟨b20, h⟩ := ck_some h
          refine gf_X1_19 cx h_c0 dX1_giftAt_86 ?_
          refine gf_X1_90 cx (kd_of cx.2.2.2.2.2.2.1 b20 (by decide)) dX1_giftAt_89 ?_
          refine wa_iload_n cx (i := 1) dX1_giftAt_92 rfl rfl ?_
          obtain ⟨b21, h⟩ := ob_some h
          refine wa_iald cx dX1_giftAt_93 (kq0_2 cx.2.2.2.2.2.2.1 (kd_of cx.2.2.2.2.2.2.1 b20 (by decide))) b21 ?_
          refine wa_aload_n cx (i := 0) dX1_giftAt_94 rfl rfl ?_
          obtain ⟨b22, h⟩ := ck_some h
          refine gf_X1_10 cx h_c0 dX1_giftAt_95 ?_
          refine gf_X1_93 cx (kd_of cx.2.2.2.2.2.2.1 b22 (by decide)) dX1_giftAt_98 ?_
          refine wa_icmp_gt cx dX1_giftAt_101 122 (by decide) (fun q23 => ?_) (fun q23 => ?_)
          · rw [if_pos q23] at h
            refine wa_sub (lv' := [(0, .ref (ad g c0)), (1, .int a1), (5, .int x11), (6, .int x12), (7, .int x17)]) (lvs_c rfl (lvs_c rfl (lvs_c rfl (lvs_c rfl (lvs_c rfl (lvs_n)))))) ?_
            exact w_X1_giftAt_J122 cx h_c0   x11 x12 x17 S13  h
          · rw [if_neg q23] at h
            refine wa_iload cx dX1_giftAt_104 rfl ?_
            refine wa_iload cx dX1_giftAt_106 rfl ?_
            refine wa_aload_n cx (i := 0) dX1_giftAt_108 rfl rfl ?_
            refine gf_X1_49 cx h_c0 dX1_giftAt_109 ?_
            refine wa_iadd cx dX1_giftAt_112 ?_
            refine wa_iload cx dX1_giftAt_113 rfl ?_
            refine wa_mmin cx dX1_giftAt_115 ml_X1_66 mmin_s m_i mmin_c ⟨Nat.le_of_ble_eq_true rfl, Nat.le_of_ble_eq_true rfl⟩ ⟨Nat.zero_le _, Nat.zero_le _⟩ ?_
            refine wa_mmin cx dX1_giftAt_118 ml_X1_66 mmin_s m_i mmin_c ⟨Nat.le_of_ble_eq_true rfl, Nat.le_of_ble_eq_true rfl⟩ ⟨Nat.zero_le _, Nat.zero_le _⟩ ?_
            exact wa_iret cx h dX1_giftAt_121
      · rw [if_pos q18] at h
        refine wa_aload_n cx (i := 0) dX1_giftAt_64 rfl rfl ?_
        obtain ⟨b24, h⟩ := ck_some h
        refine gf_X1_19 cx h_c0 dX1_giftAt_65 ?_
        refine gf_X1_87 cx (kd_of cx.2.2.2.2.2.2.1 b24 (by decide)) dX1_giftAt_68 ?_
        refine wa_iload_n cx (i := 1) dX1_giftAt_71 rfl rfl ?_
        obtain ⟨b25, h⟩ := ob_some h
        refine wa_iald cx dX1_giftAt_72 (kq0_5 cx.2.2.2.2.2.2.1 (kd_of cx.2.2.2.2.2.2.1 b24 (by decide))) b25 ?_
        refine wa_iload cx dX1_giftAt_73 rfl ?_
        refine wa_mmin cx dX1_giftAt_75 ml_X1_66 mmin_s m_i mmin_c ⟨Nat.le_of_ble_eq_true rfl, Nat.le_of_ble_eq_true rfl⟩ ⟨Nat.zero_le _, Nat.zero_le _⟩ ?_
        exact wa_iret cx h dX1_giftAt_78
    · rw [if_neg q7] at h
      refine wa_iconst cx dX1_giftAt_15 (0 : Int32) (by decide) ?_
      exact wa_iret cx h dX1_giftAt_16
def rm_X1_secondGiftAt : Room := { frames := 2, cells := 0, slots := 0, locals := 44 }
def f_X1_secondGiftAt (c0 : Nat) (a1 : Int32) (a2 : Int32) (a3 : Int32) (S : St) : Option (Int32 × St) := ck (kdE (S.2.2 c0 0) = 2) (ck (kdE (S.2.2 c0 1) = 0) (ob a1 8 (ob a1 8 (sq (imin ((a2 * (S.1 (S.2.2 c0 0) 8)) / (100 : Int32)) ((S.1 ((S.2.2 c0 1) + 4) (Int32.toNatClampNeg a1)) - (S.1 (c0 + 22) (Int32.toNatClampNeg a1)))) fun x5 => ck (kdE (S.2.2 c0 1) = 0) (ob a1 8 (ck (kdE (S.2.2 c0 0) = 2) (bd (f_X1_lackOf c0 (S.1 (S.2.2 c0 0) 7) a3 S) fun x9 S10 => ck (kdE (S10.2.2 c0 1) = 0) (bd (f_X1_giftByKind (S.1 ((S.2.2 c0 1) + 3) (Int32.toNatClampNeg a1)) x5 x9 ((S10.1 (S10.2.2 c0 1) 0) - a1) S10) fun x13 S14 => some (x13, S14)))))))))
set_option maxHeartbeats 4000000 in
set_option maxRecDepth 100000 in
theorem m_X1_secondGiftAt (l : Launch) {g : Gl} (hg : GOK g) {c0 : Nat} {a1 : Int32} {a2 : Int32} {a3 : Int32} {S : St} {r : Int32 × St} (h_c0 : kd g c0 = 1) (h : f_X1_secondGiftAt c0 a1 a2 a3 S = some r) : MW l yX1_secondGiftAt cX1_secondGiftAt 5 (some .int) rm_X1_secondGiftAt g S [.ref (ad g c0), .int a1, .int a2, .int a3] (QWi g r) := by
  refine startW [(0, .ref (ad g c0)), (1, .int a1), (2, .int a2), (3, .int a3)] (by decide +kernel) (Nat.le_of_ble_eq_true rfl) rfl hg (fun p e s m args below meth c cx => ?_)
  have cx : Cx p s m args meth c cX1_secondGiftAt 5 (some .int) RX1 g (Ap g) := cx
  rw [f_X1_secondGiftAt] at h
  refine wa_iload_n cx (i := 2) dX1_secondGiftAt_0 rfl rfl ?_
  refine wa_aload_n cx (i := 0) dX1_secondGiftAt_1 rfl rfl ?_
  obtain ⟨b1, h⟩ := ck_some h
  refine gf_X1_10 cx h_c0 dX1_secondGiftAt_2 ?_
  refine gf_X1_100 cx (kd_of cx.2.2.2.2.2.2.1 b1 (by decide)) dX1_secondGiftAt_5 ?_
  refine wa_imul cx dX1_secondGiftAt_8 ?_
  refine wa_bipush cx dX1_secondGiftAt_9 (100 : Int32) (by decide) ?_
  refine wa_idiv cx dX1_secondGiftAt_11 (by decide) ?_
  refine wa_aload_n cx (i := 0) dX1_secondGiftAt_12 rfl rfl ?_
  obtain ⟨b2, h⟩ := ck_some h
  refine gf_X1_19 cx h_c0 dX1_secondGiftAt_13 ?_
  refine gf_X1_78 cx (kd_of cx.2.2.2.2.2.2.1 b2 (by decide)) dX1_secondGiftAt_16 ?_
  refine wa_iload_n cx (i := 1) dX1_secondGiftAt_19 rfl rfl ?_
  obtain ⟨b3, h⟩ := ob_some h
  refine wa_iald cx dX1_secondGiftAt_20 (kq0_4 cx.2.2.2.2.2.2.1 (kd_of cx.2.2.2.2.2.2.1 b2 (by decide))) b3 ?_
  refine wa_aload_n cx (i := 0) dX1_secondGiftAt_21 rfl rfl ?_
  refine gf_X1_25 cx h_c0 dX1_secondGiftAt_22 ?_
  refine wa_iload_n cx (i := 1) dX1_secondGiftAt_25 rfl rfl ?_
  obtain ⟨b4, h⟩ := ob_some h
  refine wa_iald cx dX1_secondGiftAt_26 (kq1_7 cx.2.2.2.2.2.2.1 h_c0) b4 ?_
  refine wa_isub cx dX1_secondGiftAt_27 ?_
  refine wa_mmin cx dX1_secondGiftAt_28 ml_X1_66 mmin_s m_i mmin_c ⟨Nat.le_of_ble_eq_true rfl, Nat.le_of_ble_eq_true rfl⟩ ⟨Nat.zero_le _, Nat.zero_le _⟩ ?_
  replace h := sq_eq h
  generalize (imin ((a2 * (S.1 (S.2.2 c0 0) 8)) / (100 : Int32)) ((S.1 ((S.2.2 c0 1) + 4) (Int32.toNatClampNeg a1)) - (S.1 (c0 + 22) (Int32.toNatClampNeg a1)))) = x5 at h ⊢
  refine wa_istore cx dX1_secondGiftAt_31 [(0, .ref (ad g c0)), (1, .int a1), (3, .int a3), (4, .int x5)] (Nat.le_of_ble_eq_true rfl) rfl (lvs_c rfl (lvs_c rfl (lvs_c rfl (lvs_c rfl (lvs_n))))) ?_
  refine wa_aload_n cx (i := 0) dX1_secondGiftAt_33 rfl rfl ?_
  obtain ⟨b6, h⟩ := ck_some h
  refine gf_X1_19 cx h_c0 dX1_secondGiftAt_34 ?_
  refine gf_X1_84 cx (kd_of cx.2.2.2.2.2.2.1 b6 (by decide)) dX1_secondGiftAt_37 ?_
  refine wa_iload_n cx (i := 1) dX1_secondGiftAt_40 rfl rfl ?_
  obtain ⟨b7, h⟩ := ob_some h
  refine wa_iald cx dX1_secondGiftAt_41 (kq0_3 cx.2.2.2.2.2.2.1 (kd_of cx.2.2.2.2.2.2.1 b6 (by decide))) b7 ?_
  refine wa_iload cx dX1_secondGiftAt_42 rfl ?_
  refine wa_aload_n cx (i := 0) dX1_secondGiftAt_44 rfl rfl ?_
  refine wa_aload_n cx (i := 0) dX1_secondGiftAt_45 rfl rfl ?_
  obtain ⟨b8, h⟩ := ck_some h
  refine gf_X1_10 cx h_c0 dX1_secondGiftAt_46 ?_
  refine gf_X1_72 cx (kd_of cx.2.2.2.2.2.2.1 b8 (by decide)) dX1_secondGiftAt_49 ?_
  refine wa_iload_n cx (i := 3) dX1_secondGiftAt_52 rfl rfl ?_
  obtain ⟨x9, S10, e11, h⟩ := bd_some h
  refine wa_callVi cx (m_X1_lackOf l cx.2.2.2.2.2.2.1 h_c0 e11) vl_X1_81 h_c0 (by decide) rfl rfl ⟨_, cell_eq1 (kd_lt h_c0 (by decide)).2⟩ ⟨Nat.le_of_ble_eq_true rfl, Nat.le_of_ble_eq_true rfl⟩ ⟨rfl, rfl⟩ ⟨Nat.zero_le _, Nat.zero_le _⟩ rfl (Nat.le_of_ble_eq_true rfl) dX1_secondGiftAt_53 rfl ?_
  refine wa_aload_n cx (i := 0) dX1_secondGiftAt_56 rfl rfl ?_
  obtain ⟨b12, h⟩ := ck_some h
  refine gf_X1_19 cx h_c0 dX1_secondGiftAt_57 ?_
  refine gf_X1_59 cx (kd_of cx.2.2.2.2.2.2.1 b12 (by decide)) dX1_secondGiftAt_60 ?_
  refine wa_iload_n cx (i := 1) dX1_secondGiftAt_63 rfl rfl ?_
  refine wa_isub cx dX1_secondGiftAt_64 ?_
  obtain ⟨x13, S14, e15, h⟩ := bd_some h
  refine wa_callSi cx (m_X1_giftByKind l cx.2.2.2.2.2.2.1  e15) vl_X1_96 ⟨Nat.le_of_ble_eq_true rfl, Nat.le_of_ble_eq_true rfl⟩ ⟨rfl, rfl⟩ ⟨Nat.zero_le _, Nat.zero_le _⟩ rfl (Nat.le_of_ble_eq_true rfl) dX1_secondGiftAt_65 rfl ?_
  exact wa_iret cx h dX1_secondGiftAt_68
def rm_X1_play : Room := { frames := 3, cells := 0, slots := 0, locals := 71 }
def f_X1_play_J108 (c0 : Nat) (a1 : Int32) (a2 : Int32) (k0 : Nat) (k1 : Int32) (k2 : Int32) (k3 : Int32) (S : St) : Option (Unit × St) := ob k1 9 (sq (pI S k0 (Int32.toNatClampNeg k1) (k2 + k3)) fun S2 => ck (kdE (S2.2.2 c0 0) = 2) (if (S2.1 (S2.2.2 c0 0) 7) ≤ 0 then some ((), S2) else ob a1 9 (ob a1 9 (bd (f_X1_secondGiftAt c0 a1 a2 (S2.1 (c0 + 25) (Int32.toNatClampNeg a1)) S2) fun x7 S8 => ob (a1 + (1 : Int32)) 9 (sq (pI S8 (c0 + 25) (Int32.toNatClampNeg (a1 + (1 : Int32))) ((S2.1 (c0 + 25) (Int32.toNatClampNeg a1)) + x7)) fun S11 => some ((), S11))))))
set_option maxHeartbeats 4000000 in
set_option maxRecDepth 100000 in
theorem w_X1_play_J108 {p : Program} {l : Launch} {e : Env} {s : State} {m : MethodId} {args : Array Value} {below : List Frame} {meth : Method} {c : Code} {g : Gl} {r : Unit × St} {c0 : Nat} {a1 : Int32} {a2 : Int32} (cx : Cx p s m args meth c cX1_play 4 none RX1 g (Ap g)) (h_c0 : kd g c0 = 1) : ∀ (k0 : Nat) (k1 : Int32) (k2 : Int32) (k3 : Int32) (S : St), kd g k0 = 11 ∧ lnT k0 = 9 → f_X1_play_J108 c0 a1 a2 k0 k1 k2 k3 S = some r → WA p l e rm_X1_play s m args below meth c 0 0 (MQ below (QWv g r) args s 0 0 (Ap g)) 4 g (Ap g) S 108 [(0, .ref (ad g c0)), (1, .int a1), (2, .int a2)] [.int k3, .int k2, .int k1, .ref (ad g k0)] := by
  intro k0 k1 k2 k3 S h_k0 h
  rw [f_X1_play_J108] at h
  refine wa_iadd cx dX1_play_108 ?_
  obtain ⟨b1, h⟩ := ob_some h
  refine wa_iast cx dX1_play_109 h_k0 b1 ?_
  replace h := sq_eq h
  generalize (pI S k0 (Int32.toNatClampNeg k1) (k2 + k3)) = S2 at h ⊢
  refine wa_aload_n cx (i := 0) dX1_play_110 rfl rfl ?_
  obtain ⟨b3, h⟩ := ck_some h
  refine gf_X1_10 cx h_c0 dX1_play_111 ?_
  refine gf_X1_72 cx (kd_of cx.2.2.2.2.2.2.1 b3 (by decide)) dX1_play_114 ?_
  refine wa_if_le cx dX1_play_117 147 (by decide) (fun q4 => ?_) (fun q4 => ?_)
  · rw [if_pos q4] at h
    exact wa_vret cx h dX1_play_147
  · rw [if_neg q4] at h
    refine wa_aload_n cx (i := 0) dX1_play_120 rfl rfl ?_
    refine gf_X1_35 cx h_c0 dX1_play_121 ?_
    refine wa_iload_n cx (i := 1) dX1_play_124 rfl rfl ?_
    refine wa_iconst cx dX1_play_125 (1 : Int32) (by decide) ?_
    refine wa_iadd cx dX1_play_126 ?_
    refine wa_aload_n cx (i := 0) dX1_play_127 rfl rfl ?_
    refine gf_X1_35 cx h_c0 dX1_play_128 ?_
    refine wa_iload_n cx (i := 1) dX1_play_131 rfl rfl ?_
    obtain ⟨b5, h⟩ := ob_some h
    refine wa_iald cx dX1_play_132 (kq1_10 cx.2.2.2.2.2.2.1 h_c0) b5 ?_
    refine wa_aload_n cx (i := 0) dX1_play_133 rfl rfl ?_
    refine wa_iload_n cx (i := 1) dX1_play_134 rfl rfl ?_
    refine wa_iload_n cx (i := 2) dX1_play_135 rfl rfl ?_
    refine wa_aload_n cx (i := 0) dX1_play_136 rfl rfl ?_
    refine gf_X1_35 cx h_c0 dX1_play_137 ?_
    refine wa_iload_n cx (i := 1) dX1_play_140 rfl rfl ?_
    obtain ⟨b6, h⟩ := ob_some h
    refine wa_iald cx dX1_play_141 (kq1_10 cx.2.2.2.2.2.2.1 h_c0) b6 ?_
    obtain ⟨x7, S8, e9, h⟩ := bd_some h
    refine wa_callVi cx (m_X1_secondGiftAt l cx.2.2.2.2.2.2.1 h_c0 e9) vl_X1_75 h_c0 (by decide) rfl rfl ⟨_, cell_eq1 (kd_lt h_c0 (by decide)).2⟩ ⟨Nat.le_of_ble_eq_true rfl, Nat.le_of_ble_eq_true rfl⟩ ⟨rfl, rfl⟩ ⟨Nat.zero_le _, Nat.zero_le _⟩ rfl (Nat.le_of_ble_eq_true rfl) dX1_play_142 rfl ?_
    refine wa_iadd cx dX1_play_145 ?_
    obtain ⟨b10, h⟩ := ob_some h
    refine wa_iast cx dX1_play_146 (kq1_10 cx.2.2.2.2.2.2.1 h_c0) b10 ?_
    replace h := sq_eq h
    generalize (pI S8 (c0 + 25) (Int32.toNatClampNeg (a1 + (1 : Int32))) ((S2.1 (c0 + 25) (Int32.toNatClampNeg a1)) + x7)) = S11 at h ⊢
    exact wa_vret cx h dX1_play_147
def f_X1_play_J86 (c0 : Nat) (a1 : Int32) (a2 : Int32) (l3 : Int32) (S : St) : Option (Unit × St) := ob a1 9 (if l3 ≤ 0 then f_X1_play_J108 c0 a1 a2 (c0 + 24) (a1 + (1 : Int32)) (S.1 (c0 + 24) (Int32.toNatClampNeg a1)) (0 : Int32) S else f_X1_play_J108 c0 a1 a2 (c0 + 24) (a1 + (1 : Int32)) (S.1 (c0 + 24) (Int32.toNatClampNeg a1)) (1 : Int32) S)
set_option maxHeartbeats 4000000 in
set_option maxRecDepth 100000 in
theorem w_X1_play_J86 {p : Program} {l : Launch} {e : Env} {s : State} {m : MethodId} {args : Array Value} {below : List Frame} {meth : Method} {c : Code} {g : Gl} {r : Unit × St} {c0 : Nat} {a1 : Int32} {a2 : Int32} (cx : Cx p s m args meth c cX1_play 4 none RX1 g (Ap g)) (h_c0 : kd g c0 = 1) : ∀ (l3 : Int32) (S : St), f_X1_play_J86 c0 a1 a2 l3 S = some r → WA p l e rm_X1_play s m args below meth c 0 0 (MQ below (QWv g r) args s 0 0 (Ap g)) 4 g (Ap g) S 86 [(0, .ref (ad g c0)), (1, .int a1), (2, .int a2), (3, .int l3)] [] := by
  intro l3 S h
  rw [f_X1_play_J86] at h
  refine wa_aload_n cx (i := 0) dX1_play_86 rfl rfl ?_
  refine gf_X1_32 cx h_c0 dX1_play_87 ?_
  refine wa_iload_n cx (i := 1) dX1_play_90 rfl rfl ?_
  refine wa_iconst cx dX1_play_91 (1 : Int32) (by decide) ?_
  refine wa_iadd cx dX1_play_92 ?_
  refine wa_aload_n cx (i := 0) dX1_play_93 rfl rfl ?_
  refine gf_X1_32 cx h_c0 dX1_play_94 ?_
  refine wa_iload_n cx (i := 1) dX1_play_97 rfl rfl ?_
  obtain ⟨b12, h⟩ := ob_some h
  refine wa_iald cx dX1_play_98 (kq1_9 cx.2.2.2.2.2.2.1 h_c0) b12 ?_
  refine wa_iload_n cx (i := 3) dX1_play_99 rfl rfl ?_
  refine wa_if_le cx dX1_play_100 107 (by decide) (fun q13 => ?_) (fun q13 => ?_)
  · rw [if_pos q13] at h
    refine wa_iconst cx dX1_play_107 (0 : Int32) (by decide) ?_
    refine wa_sub (lv' := [(0, .ref (ad g c0)), (1, .int a1), (2, .int a2)]) (lvs_c rfl (lvs_c rfl (lvs_c rfl (lvs_n)))) ?_
    exact w_X1_play_J108 cx h_c0   (c0 + 24) (a1 + (1 : Int32)) (S.1 (c0 + 24) (Int32.toNatClampNeg a1)) (0 : Int32) S (kq1_9 cx.2.2.2.2.2.2.1 h_c0) h
  · rw [if_neg q13] at h
    refine wa_iconst cx dX1_play_103 (1 : Int32) (by decide) ?_
    refine wa_goto cx dX1_play_104 108 (by decide) ?_
    refine wa_sub (lv' := [(0, .ref (ad g c0)), (1, .int a1), (2, .int a2)]) (lvs_c rfl (lvs_c rfl (lvs_c rfl (lvs_n)))) ?_
    exact w_X1_play_J108 cx h_c0   (c0 + 24) (a1 + (1 : Int32)) (S.1 (c0 + 24) (Int32.toNatClampNeg a1)) (1 : Int32) S (kq1_9 cx.2.2.2.2.2.2.1 h_c0) h
def f_X1_play (c0 : Nat) (a1 : Int32) (a2 : Int32) (S : St) : Option (Unit × St) := if a1 < 0 then some ((), S) else ck (kdE (S.2.2 c0 1) = 0) (if a1 < (S.1 (S.2.2 c0 1) 0) then ob a1 9 (bd (f_X1_giftAt c0 a1 a2 (S.1 (c0 + 23) (Int32.toNatClampNeg a1)) S) fun x18 S19 => ob a1 8 (sq (pI S19 (c0 + 22) (Int32.toNatClampNeg a1) x18) fun S22 => ob a1 9 (ob (a1 + (1 : Int32)) 9 (sq (pI S22 (c0 + 23) (Int32.toNatClampNeg (a1 + (1 : Int32))) ((S22.1 (c0 + 23) (Int32.toNatClampNeg a1)) + x18)) fun S25 => if a1 = (S25.1 c0 6) then ob (a1 + (1 : Int32)) 9 (ob (a1 + (1 : Int32)) 9 (ob (a1 + (1 : Int32)) 9 (sq (pI S25 (c0 + 23) (Int32.toNatClampNeg (a1 + (1 : Int32))) ((S25.1 (c0 + 23) (Int32.toNatClampNeg (a1 + (1 : Int32)))) + (imin (S25.1 (c0 + 23) (Int32.toNatClampNeg (a1 + (1 : Int32)))) (S25.1 c0 5)))) fun S30 => f_X1_play_J86 c0 a1 a2 x18 S30))) else f_X1_play_J86 c0 a1 a2 x18 S25)))) else some ((), S))
set_option maxHeartbeats 4000000 in
set_option maxRecDepth 100000 in
theorem m_X1_play (l : Launch) {g : Gl} (hg : GOK g) {c0 : Nat} {a1 : Int32} {a2 : Int32} {S : St} {r : Unit × St} (h_c0 : kd g c0 = 1) (h : f_X1_play c0 a1 a2 S = some r) : MW l yX1_play cX1_play 4 none rm_X1_play g S [.ref (ad g c0), .int a1, .int a2] (QWv g r) := by
  refine startW [(0, .ref (ad g c0)), (1, .int a1), (2, .int a2)] (by decide +kernel) (Nat.le_of_ble_eq_true rfl) rfl hg (fun p e s m args below meth c cx => ?_)
  have cx : Cx p s m args meth c cX1_play 4 none RX1 g (Ap g) := cx
  rw [f_X1_play] at h
  refine wa_iload_n cx (i := 1) dX1_play_0 rfl rfl ?_
  refine wa_if_lt cx dX1_play_1 15 (by decide) (fun q14 => ?_) (fun q14 => ?_)
  · rw [if_pos q14] at h
    exact wa_vret cx h dX1_play_15
  · rw [if_neg q14] at h
    refine wa_iload_n cx (i := 1) dX1_play_4 rfl rfl ?_
    refine wa_aload_n cx (i := 0) dX1_play_5 rfl rfl ?_
    obtain ⟨b15, h⟩ := ck_some h
    refine gf_X1_19 cx h_c0 dX1_play_6 ?_
    refine gf_X1_59 cx (kd_of cx.2.2.2.2.2.2.1 b15 (by decide)) dX1_play_9 ?_
    refine wa_icmp_lt cx dX1_play_12 16 (by decide) (fun q16 => ?_) (fun q16 => ?_)
    · rw [if_pos q16] at h
      refine wa_aload_n cx (i := 0) dX1_play_16 rfl rfl ?_
      refine wa_iload_n cx (i := 1) dX1_play_17 rfl rfl ?_
      refine wa_iload_n cx (i := 2) dX1_play_18 rfl rfl ?_
      refine wa_aload_n cx (i := 0) dX1_play_19 rfl rfl ?_
      refine gf_X1_29 cx h_c0 dX1_play_20 ?_
      refine wa_iload_n cx (i := 1) dX1_play_23 rfl rfl ?_
      obtain ⟨b17, h⟩ := ob_some h
      refine wa_iald cx dX1_play_24 (kq1_8 cx.2.2.2.2.2.2.1 h_c0) b17 ?_
      obtain ⟨x18, S19, e20, h⟩ := bd_some h
      refine wa_callVi cx (m_X1_giftAt l cx.2.2.2.2.2.2.1 h_c0 e20) vl_X1_62 h_c0 (by decide) rfl rfl ⟨_, cell_eq1 (kd_lt h_c0 (by decide)).2⟩ ⟨Nat.le_of_ble_eq_true rfl, Nat.le_of_ble_eq_true rfl⟩ ⟨rfl, rfl⟩ ⟨Nat.zero_le _, Nat.zero_le _⟩ rfl (Nat.le_of_ble_eq_true rfl) dX1_play_25 rfl ?_
      refine wa_istore_n cx (i := 3) dX1_play_28 [(0, .ref (ad g c0)), (1, .int a1), (2, .int a2), (3, .int x18)] rfl (Nat.le_of_ble_eq_true rfl) rfl (lvs_c rfl (lvs_c rfl (lvs_c rfl (lvs_c rfl (lvs_n))))) ?_
      refine wa_aload_n cx (i := 0) dX1_play_29 rfl rfl ?_
      refine gf_X1_25 cx h_c0 dX1_play_30 ?_
      refine wa_iload_n cx (i := 1) dX1_play_33 rfl rfl ?_
      refine wa_iload_n cx (i := 3) dX1_play_34 rfl rfl ?_
      obtain ⟨b21, h⟩ := ob_some h
      refine wa_iast cx dX1_play_35 (kq1_7 cx.2.2.2.2.2.2.1 h_c0) b21 ?_
      replace h := sq_eq h
      generalize (pI S19 (c0 + 22) (Int32.toNatClampNeg a1) x18) = S22 at h ⊢
      refine wa_aload_n cx (i := 0) dX1_play_36 rfl rfl ?_
      refine gf_X1_29 cx h_c0 dX1_play_37 ?_
      refine wa_iload_n cx (i := 1) dX1_play_40 rfl rfl ?_
      refine wa_iconst cx dX1_play_41 (1 : Int32) (by decide) ?_
      refine wa_iadd cx dX1_play_42 ?_
      refine wa_aload_n cx (i := 0) dX1_play_43 rfl rfl ?_
      refine gf_X1_29 cx h_c0 dX1_play_44 ?_
      refine wa_iload_n cx (i := 1) dX1_play_47 rfl rfl ?_
      obtain ⟨b23, h⟩ := ob_some h
      refine wa_iald cx dX1_play_48 (kq1_8 cx.2.2.2.2.2.2.1 h_c0) b23 ?_
      refine wa_iload_n cx (i := 3) dX1_play_49 rfl rfl ?_
      refine wa_iadd cx dX1_play_50 ?_
      obtain ⟨b24, h⟩ := ob_some h
      refine wa_iast cx dX1_play_51 (kq1_8 cx.2.2.2.2.2.2.1 h_c0) b24 ?_
      replace h := sq_eq h
      generalize (pI S22 (c0 + 23) (Int32.toNatClampNeg (a1 + (1 : Int32))) ((S22.1 (c0 + 23) (Int32.toNatClampNeg a1)) + x18)) = S25 at h ⊢
      refine wa_iload_n cx (i := 1) dX1_play_52 rfl rfl ?_
      refine wa_aload_n cx (i := 0) dX1_play_53 rfl rfl ?_
      refine gf_X1_53 cx h_c0 dX1_play_54 ?_
      refine wa_icmp_ne cx dX1_play_57 86 (by decide) (fun q26 => ?_) (fun q26 => ?_)
      · rw [if_neg q26] at h
        refine wa_sub (lv' := [(0, .ref (ad g c0)), (1, .int a1), (2, .int a2), (3, .int x18)]) (lvs_c rfl (lvs_c rfl (lvs_c rfl (lvs_c rfl (lvs_n))))) ?_
        exact w_X1_play_J86 cx h_c0   x18 S25  h
      · rw [if_pos q26] at h
        refine wa_aload_n cx (i := 0) dX1_play_60 rfl rfl ?_
        refine gf_X1_29 cx h_c0 dX1_play_61 ?_
        refine wa_iload_n cx (i := 1) dX1_play_64 rfl rfl ?_
        refine wa_iconst cx dX1_play_65 (1 : Int32) (by decide) ?_
        refine wa_iadd cx dX1_play_66 ?_
        refine wa_dup2 cx dX1_play_67 rfl rfl ?_
        obtain ⟨b27, h⟩ := ob_some h
        refine wa_iald cx dX1_play_68 (kq1_8 cx.2.2.2.2.2.2.1 h_c0) b27 ?_
        refine wa_aload_n cx (i := 0) dX1_play_69 rfl rfl ?_
        refine gf_X1_29 cx h_c0 dX1_play_70 ?_
        refine wa_iload_n cx (i := 1) dX1_play_73 rfl rfl ?_
        refine wa_iconst cx dX1_play_74 (1 : Int32) (by decide) ?_
        refine wa_iadd cx dX1_play_75 ?_
        obtain ⟨b28, h⟩ := ob_some h
        refine wa_iald cx dX1_play_76 (kq1_8 cx.2.2.2.2.2.2.1 h_c0) b28 ?_
        refine wa_aload_n cx (i := 0) dX1_play_77 rfl rfl ?_
        refine gf_X1_50 cx h_c0 dX1_play_78 ?_
        refine wa_mmin cx dX1_play_81 ml_X1_66 mmin_s m_i mmin_c ⟨Nat.le_of_ble_eq_true rfl, Nat.le_of_ble_eq_true rfl⟩ ⟨Nat.zero_le _, Nat.zero_le _⟩ ?_
        refine wa_iadd cx dX1_play_84 ?_
        obtain ⟨b29, h⟩ := ob_some h
        refine wa_iast cx dX1_play_85 (kq1_8 cx.2.2.2.2.2.2.1 h_c0) b29 ?_
        replace h := sq_eq h
        generalize (pI S25 (c0 + 23) (Int32.toNatClampNeg (a1 + (1 : Int32))) ((S25.1 (c0 + 23) (Int32.toNatClampNeg (a1 + (1 : Int32)))) + (imin (S25.1 (c0 + 23) (Int32.toNatClampNeg (a1 + (1 : Int32)))) (S25.1 c0 5)))) = S30 at h ⊢
        refine wa_sub (lv' := [(0, .ref (ad g c0)), (1, .int a1), (2, .int a2), (3, .int x18)]) (lvs_c rfl (lvs_c rfl (lvs_c rfl (lvs_c rfl (lvs_n))))) ?_
        exact w_X1_play_J86 cx h_c0   x18 S30  h
    · rw [if_neg q16] at h
      exact wa_vret cx h dX1_play_15
def rm_X1_isBuilt : Room := { frames := 0, cells := 0, slots := 0, locals := 0 }
def f_X1_isBuilt (c0 : Nat) (S : St) : Option (Int32 × St) := ck (kdE (S.2.2 c0 1) = 0) (ob (S.1 (S.2.2 c0 1) 0) 9 (if (S.1 (c0 + 23) (Int32.toNatClampNeg (S.1 (S.2.2 c0 1) 0))) < (S.1 c0 3) then some ((0 : Int32), S) else ck (kdE (S.2.2 c0 1) = 0) (ob (S.1 (S.2.2 c0 1) 0) 9 (ck (kdE (S.2.2 c0 0) = 2) (if (S.1 (c0 + 24) (Int32.toNatClampNeg (S.1 (S.2.2 c0 1) 0))) < (S.1 (S.2.2 c0 0) 1) then some ((0 : Int32), S) else some ((1 : Int32), S))))))
set_option maxHeartbeats 4000000 in
set_option maxRecDepth 100000 in
theorem m_X1_isBuilt (l : Launch) {g : Gl} (hg : GOK g) {c0 : Nat} {S : St} {r : Int32 × St} (h_c0 : kd g c0 = 1) (h : f_X1_isBuilt c0 S = some r) : MW l yX1_isBuilt cX1_isBuilt 1 (some .boolean) rm_X1_isBuilt g S [.ref (ad g c0)] (QWi g r) := by
  refine startW [(0, .ref (ad g c0))] (by decide +kernel) (Nat.le_of_ble_eq_true rfl) rfl hg (fun p e s m args below meth c cx => ?_)
  have cx : Cx p s m args meth c cX1_isBuilt 1 (some .boolean) RX1 g (Ap g) := cx
  rw [f_X1_isBuilt] at h
  refine wa_aload_n cx (i := 0) dX1_isBuilt_0 rfl rfl ?_
  refine gf_X1_29 cx h_c0 dX1_isBuilt_1 ?_
  refine wa_aload_n cx (i := 0) dX1_isBuilt_4 rfl rfl ?_
  obtain ⟨b1, h⟩ := ck_some h
  refine gf_X1_19 cx h_c0 dX1_isBuilt_5 ?_
  refine gf_X1_59 cx (kd_of cx.2.2.2.2.2.2.1 b1 (by decide)) dX1_isBuilt_8 ?_
  obtain ⟨b2, h⟩ := ob_some h
  refine wa_iald cx dX1_isBuilt_11 (kq1_8 cx.2.2.2.2.2.2.1 h_c0) b2 ?_
  refine wa_aload_n cx (i := 0) dX1_isBuilt_12 rfl rfl ?_
  refine gf_X1_45 cx h_c0 dX1_isBuilt_13 ?_
  refine wa_icmp_lt cx dX1_isBuilt_16 45 (by decide) (fun q3 => ?_) (fun q3 => ?_)
  · rw [if_pos q3] at h
    refine wa_iconst cx dX1_isBuilt_45 (0 : Int32) (by decide) ?_
    exact wa_zret cx (by decide) h dX1_isBuilt_46
  · rw [if_neg q3] at h
    refine wa_aload_n cx (i := 0) dX1_isBuilt_19 rfl rfl ?_
    refine gf_X1_32 cx h_c0 dX1_isBuilt_20 ?_
    refine wa_aload_n cx (i := 0) dX1_isBuilt_23 rfl rfl ?_
    obtain ⟨b4, h⟩ := ck_some h
    refine gf_X1_19 cx h_c0 dX1_isBuilt_24 ?_
    refine gf_X1_59 cx (kd_of cx.2.2.2.2.2.2.1 b4 (by decide)) dX1_isBuilt_27 ?_
    obtain ⟨b5, h⟩ := ob_some h
    refine wa_iald cx dX1_isBuilt_30 (kq1_9 cx.2.2.2.2.2.2.1 h_c0) b5 ?_
    refine wa_aload_n cx (i := 0) dX1_isBuilt_31 rfl rfl ?_
    obtain ⟨b6, h⟩ := ck_some h
    refine gf_X1_10 cx h_c0 dX1_isBuilt_32 ?_
    refine gf_X1_106 cx (kd_of cx.2.2.2.2.2.2.1 b6 (by decide)) dX1_isBuilt_35 ?_
    refine wa_icmp_lt cx dX1_isBuilt_38 45 (by decide) (fun q7 => ?_) (fun q7 => ?_)
    · rw [if_pos q7] at h
      refine wa_iconst cx dX1_isBuilt_45 (0 : Int32) (by decide) ?_
      exact wa_zret cx (by decide) h dX1_isBuilt_46
    · rw [if_neg q7] at h
      refine wa_iconst cx dX1_isBuilt_41 (1 : Int32) (by decide) ?_
      refine wa_goto cx dX1_isBuilt_42 46 (by decide) ?_
      exact wa_zret cx (by decide) h dX1_isBuilt_46
def rm_X1_isSecondBuilt : Room := { frames := 0, cells := 0, slots := 0, locals := 0 }
def f_X1_isSecondBuilt (c0 : Nat) (S : St) : Option (Int32 × St) := ck (kdE (S.2.2 c0 0) = 2) (if (S.1 (S.2.2 c0 0) 7) ≤ 0 then some ((0 : Int32), S) else ck (kdE (S.2.2 c0 1) = 0) (ob (S.1 (S.2.2 c0 1) 0) 9 (ck (kdE (S.2.2 c0 0) = 2) (if (S.1 (c0 + 25) (Int32.toNatClampNeg (S.1 (S.2.2 c0 1) 0))) < (S.1 (S.2.2 c0 0) 7) then some ((0 : Int32), S) else some ((1 : Int32), S)))))
set_option maxHeartbeats 4000000 in
set_option maxRecDepth 100000 in
theorem m_X1_isSecondBuilt (l : Launch) {g : Gl} (hg : GOK g) {c0 : Nat} {S : St} {r : Int32 × St} (h_c0 : kd g c0 = 1) (h : f_X1_isSecondBuilt c0 S = some r) : MW l yX1_isSecondBuilt cX1_isSecondBuilt 1 (some .boolean) rm_X1_isSecondBuilt g S [.ref (ad g c0)] (QWi g r) := by
  refine startW [(0, .ref (ad g c0))] (by decide +kernel) (Nat.le_of_ble_eq_true rfl) rfl hg (fun p e s m args below meth c cx => ?_)
  have cx : Cx p s m args meth c cX1_isSecondBuilt 1 (some .boolean) RX1 g (Ap g) := cx
  rw [f_X1_isSecondBuilt] at h
  refine wa_aload_n cx (i := 0) dX1_isSecondBuilt_0 rfl rfl ?_
  obtain ⟨b1, h⟩ := ck_some h
  refine gf_X1_10 cx h_c0 dX1_isSecondBuilt_1 ?_
  refine gf_X1_72 cx (kd_of cx.2.2.2.2.2.2.1 b1 (by decide)) dX1_isSecondBuilt_4 ?_
  refine wa_if_le cx dX1_isSecondBuilt_7 36 (by decide) (fun q2 => ?_) (fun q2 => ?_)
  · rw [if_pos q2] at h
    refine wa_iconst cx dX1_isSecondBuilt_36 (0 : Int32) (by decide) ?_
    exact wa_zret cx (by decide) h dX1_isSecondBuilt_37
  · rw [if_neg q2] at h
    refine wa_aload_n cx (i := 0) dX1_isSecondBuilt_10 rfl rfl ?_
    refine gf_X1_35 cx h_c0 dX1_isSecondBuilt_11 ?_
    refine wa_aload_n cx (i := 0) dX1_isSecondBuilt_14 rfl rfl ?_
    obtain ⟨b3, h⟩ := ck_some h
    refine gf_X1_19 cx h_c0 dX1_isSecondBuilt_15 ?_
    refine gf_X1_59 cx (kd_of cx.2.2.2.2.2.2.1 b3 (by decide)) dX1_isSecondBuilt_18 ?_
    obtain ⟨b4, h⟩ := ob_some h
    refine wa_iald cx dX1_isSecondBuilt_21 (kq1_10 cx.2.2.2.2.2.2.1 h_c0) b4 ?_
    refine wa_aload_n cx (i := 0) dX1_isSecondBuilt_22 rfl rfl ?_
    obtain ⟨b5, h⟩ := ck_some h
    refine gf_X1_10 cx h_c0 dX1_isSecondBuilt_23 ?_
    refine gf_X1_72 cx (kd_of cx.2.2.2.2.2.2.1 b5 (by decide)) dX1_isSecondBuilt_26 ?_
    refine wa_icmp_lt cx dX1_isSecondBuilt_29 36 (by decide) (fun q6 => ?_) (fun q6 => ?_)
    · rw [if_pos q6] at h
      refine wa_iconst cx dX1_isSecondBuilt_36 (0 : Int32) (by decide) ?_
      exact wa_zret cx (by decide) h dX1_isSecondBuilt_37
    · rw [if_neg q6] at h
      refine wa_iconst cx dX1_isSecondBuilt_32 (1 : Int32) (by decide) ?_
      refine wa_goto cx dX1_isSecondBuilt_33 37 (by decide) ?_
      exact wa_zret cx (by decide) h dX1_isSecondBuilt_37
def rm_X1_hasAt : Room := { frames := 1, cells := 0, slots := 0, locals := 20 }
def f_X1_hasAt_J84 (c0 : Nat) (a1 : Int32) (a2 : Int32) (l3 : Int32) (l4 : Int32) (S : St) : Option (Int32 × St) := ck (kdE (S.2.2 c0 1) = 0) (ob (S.1 (S.2.2 c0 1) 0) 9 (sq (S.1 (c0 + 23) (Int32.toNatClampNeg (S.1 (S.2.2 c0 1) 0))) fun x3 => ck (kdE (S.2.2 c0 0) = 2) (if (S.1 (S.2.2 c0 0) 9) = 0 then some (l4, S) else if x3 ≤ 0 then some (l4, S) else ck (¬ x3 = 0) (sq (l4 + ((l3 * (x3 - (S.1 c0 3))) / x3)) fun x8 => some (x8, S)))))
set_option maxHeartbeats 4000000 in
set_option maxRecDepth 100000 in
theorem w_X1_hasAt_J84 {p : Program} {l : Launch} {e : Env} {s : State} {m : MethodId} {args : Array Value} {below : List Frame} {meth : Method} {c : Code} {g : Gl} {r : Int32 × St} {c0 : Nat} {a1 : Int32} {a2 : Int32} (cx : Cx p s m args meth c cX1_hasAt 6 (some .int) RX1 g (Ap g)) (h_c0 : kd g c0 = 1) : ∀ (l3 : Int32) (l4 : Int32) (S : St), f_X1_hasAt_J84 c0 a1 a2 l3 l4 S = some r → WA p l e rm_X1_hasAt s m args below meth c 0 0 (MQ below (QWi g r) args s 0 0 (Ap g)) 6 g (Ap g) S 84 [(0, .ref (ad g c0)), (3, .int l3), (4, .int l4)] [] := by
  intro l3 l4 S h
  rw [f_X1_hasAt_J84] at h
  refine wa_aload_n cx (i := 0) dX1_hasAt_84 rfl rfl ?_
  refine gf_X1_29 cx h_c0 dX1_hasAt_85 ?_
  refine wa_aload_n cx (i := 0) dX1_hasAt_88 rfl rfl ?_
  obtain ⟨b1, h⟩ := ck_some h
  refine gf_X1_19 cx h_c0 dX1_hasAt_89 ?_
  refine gf_X1_59 cx (kd_of cx.2.2.2.2.2.2.1 b1 (by decide)) dX1_hasAt_92 ?_
  obtain ⟨b2, h⟩ := ob_some h
  refine wa_iald cx dX1_hasAt_95 (kq1_8 cx.2.2.2.2.2.2.1 h_c0) b2 ?_
  replace h := sq_eq h
  generalize (S.1 (c0 + 23) (Int32.toNatClampNeg (S.1 (S.2.2 c0 1) 0))) = x3 at h ⊢
  refine wa_istore cx dX1_hasAt_96 [(0, .ref (ad g c0)), (3, .int l3), (4, .int l4), (5, .int x3)] (Nat.le_of_ble_eq_true rfl) rfl (lvs_c rfl (lvs_c rfl (lvs_c rfl (lvs_c rfl (lvs_n))))) ?_
  refine wa_aload_n cx (i := 0) dX1_hasAt_98 rfl rfl ?_
  obtain ⟨b4, h⟩ := ck_some h
  refine gf_X1_10 cx h_c0 dX1_hasAt_99 ?_
  refine gf_X1_116 cx (kd_of cx.2.2.2.2.2.2.1 b4 (by decide)) dX1_hasAt_102 ?_
  refine wa_if_eq cx dX1_hasAt_105 130 (by decide) (fun q5 => ?_) (fun q5 => ?_)
  · rw [if_pos q5] at h
    refine wa_iload cx dX1_hasAt_130 rfl ?_
    exact wa_iret cx h dX1_hasAt_132
  · rw [if_neg q5] at h
    refine wa_iload cx dX1_hasAt_108 rfl ?_
    refine wa_if_le cx dX1_hasAt_110 130 (by decide) (fun q6 => ?_) (fun q6 => ?_)
    · rw [if_pos q6] at h
      refine wa_iload cx dX1_hasAt_130 rfl ?_
      exact wa_iret cx h dX1_hasAt_132
    · rw [if_neg q6] at h
      refine wa_iload cx dX1_hasAt_113 rfl ?_
      refine wa_iload_n cx (i := 3) dX1_hasAt_115 rfl rfl ?_
      refine wa_iload cx dX1_hasAt_116 rfl ?_
      refine wa_aload_n cx (i := 0) dX1_hasAt_118 rfl rfl ?_
      refine gf_X1_45 cx h_c0 dX1_hasAt_119 ?_
      refine wa_isub cx dX1_hasAt_122 ?_
      refine wa_imul cx dX1_hasAt_123 ?_
      refine wa_iload cx dX1_hasAt_124 rfl ?_
      obtain ⟨b7, h⟩ := ck_some h
      refine wa_idiv cx dX1_hasAt_126 b7 ?_
      refine wa_iadd cx dX1_hasAt_127 ?_
      replace h := sq_eq h
      generalize (l4 + ((l3 * (x3 - (S.1 c0 3))) / x3)) = x8 at h ⊢
      refine wa_istore cx dX1_hasAt_128 [(4, .int x8)] (Nat.le_of_ble_eq_true rfl) rfl (lvs_c rfl (lvs_n)) ?_
      refine wa_iload cx dX1_hasAt_130 rfl ?_
      exact wa_iret cx h dX1_hasAt_132
def f_X1_hasAt (c0 : Nat) (a1 : Int32) (a2 : Int32) (S : St) : Option (Int32 × St) := if a1 < 0 then some ((0 : Int32), S) else ck (kdE (S.2.2 c0 1) = 0) (if a1 < (S.1 (S.2.2 c0 1) 0) then ob a1 8 (sq (S.1 (c0 + 22) (Int32.toNatClampNeg a1)) fun x13 => bd (f_X1_isBuilt c0 S) fun x14 S15 => if x14 = 0 then if x13 ≤ 0 then some ((0 : Int32), S15) else ck (kdE (S15.2.2 c0 0) = 2) (some ((S15.1 (S15.2.2 c0 0) 4), S15)) else sq (a2 - x13) fun x18 => if x13 ≤ 0 then f_X1_hasAt_J84 c0 a1 a2 x13 x18 S15 else ck (kdE (S15.2.2 c0 1) = 0) (ob a1 8 (ck (kdE (S15.2.2 c0 0) = 2) (if (S15.1 (S15.2.2 c0 0) 6) < (S15.1 ((S15.2.2 c0 1) + 2) (Int32.toNatClampNeg a1)) then f_X1_hasAt_J84 c0 a1 a2 x13 x18 S15 else sq (x18 + (S15.1 c0 4)) fun x24 => f_X1_hasAt_J84 c0 a1 a2 x13 x24 S15)))) else some ((0 : Int32), S))
set_option maxHeartbeats 4000000 in
set_option maxRecDepth 100000 in
theorem m_X1_hasAt (l : Launch) {g : Gl} (hg : GOK g) {c0 : Nat} {a1 : Int32} {a2 : Int32} {S : St} {r : Int32 × St} (h_c0 : kd g c0 = 1) (h : f_X1_hasAt c0 a1 a2 S = some r) : MW l yX1_hasAt cX1_hasAt 6 (some .int) rm_X1_hasAt g S [.ref (ad g c0), .int a1, .int a2] (QWi g r) := by
  refine startW [(0, .ref (ad g c0)), (1, .int a1), (2, .int a2)] (by decide +kernel) (Nat.le_of_ble_eq_true rfl) rfl hg (fun p e s m args below meth c cx => ?_)
  have cx : Cx p s m args meth c cX1_hasAt 6 (some .int) RX1 g (Ap g) := cx
  rw [f_X1_hasAt] at h
  refine wa_iload_n cx (i := 1) dX1_hasAt_0 rfl rfl ?_
  refine wa_if_lt cx dX1_hasAt_1 15 (by decide) (fun q9 => ?_) (fun q9 => ?_)
  · rw [if_pos q9] at h
    refine wa_iconst cx dX1_hasAt_15 (0 : Int32) (by decide) ?_
    exact wa_iret cx h dX1_hasAt_16
  · rw [if_neg q9] at h
    refine wa_iload_n cx (i := 1) dX1_hasAt_4 rfl rfl ?_
    refine wa_aload_n cx (i := 0) dX1_hasAt_5 rfl rfl ?_
    obtain ⟨b10, h⟩ := ck_some h
    refine gf_X1_19 cx h_c0 dX1_hasAt_6 ?_
    refine gf_X1_59 cx (kd_of cx.2.2.2.2.2.2.1 b10 (by decide)) dX1_hasAt_9 ?_
    refine wa_icmp_lt cx dX1_hasAt_12 17 (by decide) (fun q11 => ?_) (fun q11 => ?_)
    · rw [if_pos q11] at h
      refine wa_aload_n cx (i := 0) dX1_hasAt_17 rfl rfl ?_
      refine gf_X1_25 cx h_c0 dX1_hasAt_18 ?_
      refine wa_iload_n cx (i := 1) dX1_hasAt_21 rfl rfl ?_
      obtain ⟨b12, h⟩ := ob_some h
      refine wa_iald cx dX1_hasAt_22 (kq1_7 cx.2.2.2.2.2.2.1 h_c0) b12 ?_
      replace h := sq_eq h
      generalize (S.1 (c0 + 22) (Int32.toNatClampNeg a1)) = x13 at h ⊢
      refine wa_istore_n cx (i := 3) dX1_hasAt_23 [(0, .ref (ad g c0)), (1, .int a1), (2, .int a2), (3, .int x13)] rfl (Nat.le_of_ble_eq_true rfl) rfl (lvs_c rfl (lvs_c rfl (lvs_c rfl (lvs_c rfl (lvs_n))))) ?_
      refine wa_aload_n cx (i := 0) dX1_hasAt_24 rfl rfl ?_
      obtain ⟨x14, S15, e16, h⟩ := bd_some h
      refine wa_callVi cx (m_X1_isBuilt l cx.2.2.2.2.2.2.1 h_c0 e16) vl_X1_109 h_c0 (by decide) rfl rfl ⟨_, cell_eq1 (kd_lt h_c0 (by decide)).2⟩ ⟨Nat.le_of_ble_eq_true rfl, Nat.le_of_ble_eq_true rfl⟩ ⟨rfl, rfl⟩ ⟨Nat.zero_le _, Nat.zero_le _⟩ rfl (Nat.le_of_ble_eq_true rfl) dX1_hasAt_25 rfl ?_
      refine wa_if_ne cx dX1_hasAt_28 47 (by decide) (fun q17 => ?_) (fun q17 => ?_)
      · rw [if_neg q17] at h
        refine wa_iload_n cx (i := 2) dX1_hasAt_47 rfl rfl ?_
        refine wa_iload_n cx (i := 3) dX1_hasAt_48 rfl rfl ?_
        refine wa_isub cx dX1_hasAt_49 ?_
        replace h := sq_eq h
        generalize (a2 - x13) = x18 at h ⊢
        refine wa_istore cx dX1_hasAt_50 [(0, .ref (ad g c0)), (1, .int a1), (3, .int x13), (4, .int x18)] (Nat.le_of_ble_eq_true rfl) rfl (lvs_c rfl (lvs_c rfl (lvs_c rfl (lvs_c rfl (lvs_n))))) ?_
        refine wa_iload_n cx (i := 3) dX1_hasAt_52 rfl rfl ?_
        refine wa_if_le cx dX1_hasAt_53 84 (by decide) (fun q19 => ?_) (fun q19 => ?_)
        · rw [if_pos q19] at h
          refine wa_sub (lv' := [(0, .ref (ad g c0)), (3, .int x13), (4, .int x18)]) (lvs_c rfl (lvs_c rfl (lvs_c rfl (lvs_n)))) ?_
          exact w_X1_hasAt_J84 cx h_c0   x13 x18 S15  h
        · rw [if_neg q19] at h
          refine wa_aload_n cx (i := 0) dX1_hasAt_56 rfl rfl ?_
          obtain ⟨b20, h⟩ := ck_some h
          refine gf_X1_19 cx h_c0 dX1_hasAt_57 ?_
          refine gf_X1_90 cx (kd_of cx.2.2.2.2.2.2.1 b20 (by decide)) dX1_hasAt_60 ?_
          refine wa_iload_n cx (i := 1) dX1_hasAt_63 rfl rfl ?_
          obtain ⟨b21, h⟩ := ob_some h
          refine wa_iald cx dX1_hasAt_64 (kq0_2 cx.2.2.2.2.2.2.1 (kd_of cx.2.2.2.2.2.2.1 b20 (by decide))) b21 ?_
          refine wa_aload_n cx (i := 0) dX1_hasAt_65 rfl rfl ?_
          obtain ⟨b22, h⟩ := ck_some h
          refine gf_X1_10 cx h_c0 dX1_hasAt_66 ?_
          refine gf_X1_93 cx (kd_of cx.2.2.2.2.2.2.1 b22 (by decide)) dX1_hasAt_69 ?_
          refine wa_icmp_gt cx dX1_hasAt_72 84 (by decide) (fun q23 => ?_) (fun q23 => ?_)
          · rw [if_pos q23] at h
            refine wa_sub (lv' := [(0, .ref (ad g c0)), (3, .int x13), (4, .int x18)]) (lvs_c rfl (lvs_c rfl (lvs_c rfl (lvs_n)))) ?_
            exact w_X1_hasAt_J84 cx h_c0   x13 x18 S15  h
          · rw [if_neg q23] at h
            refine wa_iload cx dX1_hasAt_75 rfl ?_
            refine wa_aload_n cx (i := 0) dX1_hasAt_77 rfl rfl ?_
            refine gf_X1_49 cx h_c0 dX1_hasAt_78 ?_
            refine wa_iadd cx dX1_hasAt_81 ?_
            replace h := sq_eq h
            generalize (x18 + (S15.1 c0 4)) = x24 at h ⊢
            refine wa_istore cx dX1_hasAt_82 [(0, .ref (ad g c0)), (3, .int x13), (4, .int x24)] (Nat.le_of_ble_eq_true rfl) rfl (lvs_c rfl (lvs_c rfl (lvs_c rfl (lvs_n)))) ?_
            refine wa_sub (lv' := [(0, .ref (ad g c0)), (3, .int x13), (4, .int x24)]) (lvs_c rfl (lvs_c rfl (lvs_c rfl (lvs_n)))) ?_
            exact w_X1_hasAt_J84 cx h_c0   x13 x24 S15  h
      · rw [if_pos q17] at h
        refine wa_iload_n cx (i := 3) dX1_hasAt_31 rfl rfl ?_
        refine wa_if_le cx dX1_hasAt_32 45 (by decide) (fun q25 => ?_) (fun q25 => ?_)
        · rw [if_pos q25] at h
          refine wa_iconst cx dX1_hasAt_45 (0 : Int32) (by decide) ?_
          exact wa_iret cx h dX1_hasAt_46
        · rw [if_neg q25] at h
          refine wa_aload_n cx (i := 0) dX1_hasAt_35 rfl rfl ?_
          obtain ⟨b26, h⟩ := ck_some h
          refine gf_X1_10 cx h_c0 dX1_hasAt_36 ?_
          refine gf_X1_113 cx (kd_of cx.2.2.2.2.2.2.1 b26 (by decide)) dX1_hasAt_39 ?_
          refine wa_goto cx dX1_hasAt_42 46 (by decide) ?_
          exact wa_iret cx h dX1_hasAt_46
    · rw [if_neg q11] at h
      refine wa_iconst cx dX1_hasAt_15 (0 : Int32) (by decide) ?_
      exact wa_iret cx h dX1_hasAt_16
def rm_X6_clear : Room := { frames := 0, cells := 0, slots := 0, locals := 0 }
def f_X6_clear (c0 : Nat) (S : St) : Option (Unit × St) := sq (pI S c0 0 (0 : Int32)) fun S1 => sq (pI S1 c0 1 (0 : Int32)) fun S2 => some ((), S2)
set_option maxHeartbeats 4000000 in
set_option maxRecDepth 100000 in
theorem m_X6_clear (l : Launch) {g : Gl} (hg : GOK g) {c0 : Nat} {S : St} {r : Unit × St} (h_c0 : kd g c0 = 6) (h : f_X6_clear c0 S = some r) : MW l yX6_clear cX6_clear 1 none rm_X6_clear g S [.ref (ad g c0)] (QWv g r) := by
  refine startW [(0, .ref (ad g c0))] (by decide +kernel) (Nat.le_of_ble_eq_true rfl) rfl hg (fun p e s m args below meth c cx => ?_)
  have cx : Cx p s m args meth c cX6_clear 1 none RX6 g (Ap g) := cx
  rw [f_X6_clear] at h
  refine wa_aload_n cx (i := 0) dX6_clear_0 rfl rfl ?_
  refine wa_iconst cx dX6_clear_1 (0 : Int32) (by decide) ?_
  refine pf_X6_34 cx h_c0 dX6_clear_2 ?_
  replace h := sq_eq h
  generalize (pI S c0 0 (0 : Int32)) = S1 at h ⊢
  refine wa_aload_n cx (i := 0) dX6_clear_5 rfl rfl ?_
  refine wa_iconst cx dX6_clear_6 (0 : Int32) (by decide) ?_
  refine pf_X6_38 cx h_c0 dX6_clear_7 ?_
  replace h := sq_eq h
  generalize (pI S1 c0 1 (0 : Int32)) = S2 at h ⊢
  exact wa_vret cx h dX6_clear_10
def rm_X2_clear : Room := { frames := 1, cells := 0, slots := 0, locals := 20 }
def f_X2_clear (c0 : Nat) (S : St) : Option (Unit × St) := sq (pI S c0 0 (20 : Int32)) fun S1 => sq (pI S1 c0 1 (0 : Int32)) fun S2 => sq (pI S2 c0 2 (9 : Int32)) fun S3 => sq (pI S3 c0 3 (20 : Int32)) fun S4 => sq (pI S4 c0 4 (0 : Int32)) fun S5 => sq (pI S5 c0 5 (0 : Int32)) fun S6 => sq (pI S6 c0 6 (0 : Int32)) fun S7 => sq (pI S7 c0 9 (0 : Int32)) fun S8 => sq (pI S8 c0 7 (0 : Int32)) fun S9 => sq (pI S9 c0 8 (0 : Int32)) fun S10 => bd (f_X6_clear (c0 + 1) S10) fun _ S11 => some ((), S11)
set_option maxHeartbeats 4000000 in
set_option maxRecDepth 100000 in
theorem m_X2_clear (l : Launch) {g : Gl} (hg : GOK g) {c0 : Nat} {S : St} {r : Unit × St} (h_c0 : kd g c0 = 2) (h : f_X2_clear c0 S = some r) : MW l yX2_clear cX2_clear 1 none rm_X2_clear g S [.ref (ad g c0)] (QWv g r) := by
  refine startW [(0, .ref (ad g c0))] (by decide +kernel) (Nat.le_of_ble_eq_true rfl) rfl hg (fun p e s m args below meth c cx => ?_)
  have cx : Cx p s m args meth c cX2_clear 1 none RX2 g (Ap g) := cx
  rw [f_X2_clear] at h
  refine wa_aload_n cx (i := 0) dX2_clear_0 rfl rfl ?_
  refine wa_bipush cx dX2_clear_1 (20 : Int32) (by decide) ?_
  refine pf_X2_16 cx h_c0 dX2_clear_3 ?_
  replace h := sq_eq h
  generalize (pI S c0 0 (20 : Int32)) = S1 at h ⊢
  refine wa_aload_n cx (i := 0) dX2_clear_6 rfl rfl ?_
  refine wa_iconst cx dX2_clear_7 (0 : Int32) (by decide) ?_
  refine pf_X2_20 cx h_c0 dX2_clear_8 ?_
  replace h := sq_eq h
  generalize (pI S1 c0 1 (0 : Int32)) = S2 at h ⊢
  refine wa_aload_n cx (i := 0) dX2_clear_11 rfl rfl ?_
  refine wa_bipush cx dX2_clear_12 (9 : Int32) (by decide) ?_
  refine pf_X2_23 cx h_c0 dX2_clear_14 ?_
  replace h := sq_eq h
  generalize (pI S2 c0 2 (9 : Int32)) = S3 at h ⊢
  refine wa_aload_n cx (i := 0) dX2_clear_17 rfl rfl ?_
  refine wa_bipush cx dX2_clear_18 (20 : Int32) (by decide) ?_
  refine pf_X2_26 cx h_c0 dX2_clear_20 ?_
  replace h := sq_eq h
  generalize (pI S3 c0 3 (20 : Int32)) = S4 at h ⊢
  refine wa_aload_n cx (i := 0) dX2_clear_23 rfl rfl ?_
  refine wa_iconst cx dX2_clear_24 (0 : Int32) (by decide) ?_
  refine pf_X2_29 cx h_c0 dX2_clear_25 ?_
  replace h := sq_eq h
  generalize (pI S4 c0 4 (0 : Int32)) = S5 at h ⊢
  refine wa_aload_n cx (i := 0) dX2_clear_28 rfl rfl ?_
  refine wa_iconst cx dX2_clear_29 (0 : Int32) (by decide) ?_
  refine pf_X2_32 cx h_c0 dX2_clear_30 ?_
  replace h := sq_eq h
  generalize (pI S5 c0 5 (0 : Int32)) = S6 at h ⊢
  refine wa_aload_n cx (i := 0) dX2_clear_33 rfl rfl ?_
  refine wa_iconst cx dX2_clear_34 (0 : Int32) (by decide) ?_
  refine pf_X2_35 cx h_c0 dX2_clear_35 ?_
  replace h := sq_eq h
  generalize (pI S6 c0 6 (0 : Int32)) = S7 at h ⊢
  refine wa_aload_n cx (i := 0) dX2_clear_38 rfl rfl ?_
  refine wa_iconst cx dX2_clear_39 (0 : Int32) (by decide) ?_
  refine pf_X2_38 cx (by decide) h_c0 dX2_clear_40 ?_
  replace h := sq_eq h
  generalize (pI S7 c0 9 (0 : Int32)) = S8 at h ⊢
  refine wa_aload_n cx (i := 0) dX2_clear_43 rfl rfl ?_
  refine wa_iconst cx dX2_clear_44 (0 : Int32) (by decide) ?_
  refine pf_X2_42 cx h_c0 dX2_clear_45 ?_
  replace h := sq_eq h
  generalize (pI S8 c0 7 (0 : Int32)) = S9 at h ⊢
  refine wa_aload_n cx (i := 0) dX2_clear_48 rfl rfl ?_
  refine wa_iconst cx dX2_clear_49 (0 : Int32) (by decide) ?_
  refine pf_X2_45 cx h_c0 dX2_clear_50 ?_
  replace h := sq_eq h
  generalize (pI S9 c0 8 (0 : Int32)) = S10 at h ⊢
  refine wa_aload_n cx (i := 0) dX2_clear_53 rfl rfl ?_
  refine gf_X2_10 cx h_c0 dX2_clear_54 ?_
  obtain ⟨u13, S11, e12, h⟩ := bd_some h
  refine wa_callVv cx (m_X6_clear l cx.2.2.2.2.2.2.1 (kq2_10 cx.2.2.2.2.2.2.1 h_c0) e12) vl_X2_48 (kq2_10 cx.2.2.2.2.2.2.1 h_c0) (by decide) rfl rfl ⟨_, cell_eq6 (kd_lt (kq2_10 cx.2.2.2.2.2.2.1 h_c0) (by decide)).2⟩ ⟨Nat.le_of_ble_eq_true rfl, Nat.le_of_ble_eq_true rfl⟩ ⟨rfl, rfl⟩ ⟨Nat.zero_le _, Nat.zero_le _⟩ rfl (Nat.le_of_ble_eq_true rfl) dX2_clear_57 rfl ?_
  exact wa_vret cx h dX2_clear_60
def rm_X2_setBar : Room := { frames := 0, cells := 0, slots := 0, locals := 0 }
def f_X2_setBar (c0 : Nat) (a1 : Int32) (a2 : Int32) (S : St) : Option (Unit × St) := sq (pI S c0 0 a1) fun S1 => sq (pI S1 c0 1 a2) fun S2 => some ((), S2)
set_option maxHeartbeats 4000000 in
set_option maxRecDepth 100000 in
theorem m_X2_setBar (l : Launch) {g : Gl} (hg : GOK g) {c0 : Nat} {a1 : Int32} {a2 : Int32} {S : St} {r : Unit × St} (h_c0 : kd g c0 = 2) (h : f_X2_setBar c0 a1 a2 S = some r) : MW l yX2_setBar cX2_setBar 3 none rm_X2_setBar g S [.ref (ad g c0), .int a1, .int a2] (QWv g r) := by
  refine startW [(0, .ref (ad g c0)), (1, .int a1), (2, .int a2)] (by decide +kernel) (Nat.le_of_ble_eq_true rfl) rfl hg (fun p e s m args below meth c cx => ?_)
  have cx : Cx p s m args meth c cX2_setBar 3 none RX2 g (Ap g) := cx
  rw [f_X2_setBar] at h
  refine wa_aload_n cx (i := 0) dX2_setBar_0 rfl rfl ?_
  refine wa_iload_n cx (i := 1) dX2_setBar_1 rfl rfl ?_
  refine pf_X2_16 cx h_c0 dX2_setBar_2 ?_
  replace h := sq_eq h
  generalize (pI S c0 0 a1) = S1 at h ⊢
  refine wa_aload_n cx (i := 0) dX2_setBar_5 rfl rfl ?_
  refine wa_iload_n cx (i := 2) dX2_setBar_6 rfl rfl ?_
  refine pf_X2_20 cx h_c0 dX2_setBar_7 ?_
  replace h := sq_eq h
  generalize (pI S1 c0 1 a2) = S2 at h ⊢
  exact wa_vret cx h dX2_setBar_10
def rm_X2_setExtra : Room := { frames := 0, cells := 0, slots := 0, locals := 0 }
def f_X2_setExtra (c0 : Nat) (a1 : Int32) (a2 : Int32) (S : St) : Option (Unit × St) := sq (pI S c0 5 a1) fun S1 => sq (pI S1 c0 6 a2) fun S2 => some ((), S2)
set_option maxHeartbeats 4000000 in
set_option maxRecDepth 100000 in
theorem m_X2_setExtra (l : Launch) {g : Gl} (hg : GOK g) {c0 : Nat} {a1 : Int32} {a2 : Int32} {S : St} {r : Unit × St} (h_c0 : kd g c0 = 2) (h : f_X2_setExtra c0 a1 a2 S = some r) : MW l yX2_setExtra cX2_setExtra 3 none rm_X2_setExtra g S [.ref (ad g c0), .int a1, .int a2] (QWv g r) := by
  refine startW [(0, .ref (ad g c0)), (1, .int a1), (2, .int a2)] (by decide +kernel) (Nat.le_of_ble_eq_true rfl) rfl hg (fun p e s m args below meth c cx => ?_)
  have cx : Cx p s m args meth c cX2_setExtra 3 none RX2 g (Ap g) := cx
  rw [f_X2_setExtra] at h
  refine wa_aload_n cx (i := 0) dX2_setExtra_0 rfl rfl ?_
  refine wa_iload_n cx (i := 1) dX2_setExtra_1 rfl rfl ?_
  refine pf_X2_32 cx h_c0 dX2_setExtra_2 ?_
  replace h := sq_eq h
  generalize (pI S c0 5 a1) = S1 at h ⊢
  refine wa_aload_n cx (i := 0) dX2_setExtra_5 rfl rfl ?_
  refine wa_iload_n cx (i := 2) dX2_setExtra_6 rfl rfl ?_
  refine pf_X2_35 cx h_c0 dX2_setExtra_7 ?_
  replace h := sq_eq h
  generalize (pI S1 c0 6 a2) = S2 at h ⊢
  exact wa_vret cx h dX2_setExtra_10
def rm_X2_setSecond : Room := { frames := 0, cells := 0, slots := 0, locals := 0 }
def f_X2_setSecond (c0 : Nat) (a1 : Int32) (a2 : Int32) (S : St) : Option (Unit × St) := sq (pI S c0 7 a1) fun S1 => sq (pI S1 c0 8 a2) fun S2 => some ((), S2)
set_option maxHeartbeats 4000000 in
set_option maxRecDepth 100000 in
theorem m_X2_setSecond (l : Launch) {g : Gl} (hg : GOK g) {c0 : Nat} {a1 : Int32} {a2 : Int32} {S : St} {r : Unit × St} (h_c0 : kd g c0 = 2) (h : f_X2_setSecond c0 a1 a2 S = some r) : MW l yX2_setSecond cX2_setSecond 3 none rm_X2_setSecond g S [.ref (ad g c0), .int a1, .int a2] (QWv g r) := by
  refine startW [(0, .ref (ad g c0)), (1, .int a1), (2, .int a2)] (by decide +kernel) (Nat.le_of_ble_eq_true rfl) rfl hg (fun p e s m args below meth c cx => ?_)
  have cx : Cx p s m args meth c cX2_setSecond 3 none RX2 g (Ap g) := cx
  rw [f_X2_setSecond] at h
  refine wa_aload_n cx (i := 0) dX2_setSecond_0 rfl rfl ?_
  refine wa_iload_n cx (i := 1) dX2_setSecond_1 rfl rfl ?_
  refine pf_X2_42 cx h_c0 dX2_setSecond_2 ?_
  replace h := sq_eq h
  generalize (pI S c0 7 a1) = S1 at h ⊢
  refine wa_aload_n cx (i := 0) dX2_setSecond_5 rfl rfl ?_
  refine wa_iload_n cx (i := 2) dX2_setSecond_6 rfl rfl ?_
  refine pf_X2_45 cx h_c0 dX2_setSecond_7 ?_
  replace h := sq_eq h
  generalize (pI S1 c0 8 a2) = S2 at h ⊢
  exact wa_vret cx h dX2_setSecond_10
def rm_X7_byteAt : Room := { frames := 0, cells := 0, slots := 0, locals := 0 }
def f_X7_byteAt (c0 : Nat) (a1 : Int32) (S : St) : Option (Int32 × St) := if a1 < 0 then some ((-1 : Int32), S) else if (S.1 c0 1) ≤ a1 then some ((-1 : Int32), S) else ob a1 300 (some ((S.1 (c0 + 1) (Int32.toNatClampNeg a1)), S))
set_option maxHeartbeats 4000000 in
set_option maxRecDepth 100000 in
theorem m_X7_byteAt (l : Launch) {g : Gl} (hg : GOK g) {c0 : Nat} {a1 : Int32} {S : St} {r : Int32 × St} (h_c0 : kd g c0 = 7) (h : f_X7_byteAt c0 a1 S = some r) : MW l yX7_byteAt cX7_byteAt 2 (some .int) rm_X7_byteAt g S [.ref (ad g c0), .int a1] (QWi g r) := by
  refine startW [(0, .ref (ad g c0)), (1, .int a1)] (by decide +kernel) (Nat.le_of_ble_eq_true rfl) rfl hg (fun p e s m args below meth c cx => ?_)
  have cx : Cx p s m args meth c cX7_byteAt 2 (some .int) RX7 g (Ap g) := cx
  rw [f_X7_byteAt] at h
  refine wa_iload_n cx (i := 1) dX7_byteAt_0 rfl rfl ?_
  refine wa_if_lt cx dX7_byteAt_1 21 (by decide) (fun q1 => ?_) (fun q1 => ?_)
  · rw [if_pos q1] at h
    refine wa_iconst cx dX7_byteAt_21 (-1 : Int32) (by decide) ?_
    exact wa_iret cx h dX7_byteAt_22
  · rw [if_neg q1] at h
    refine wa_iload_n cx (i := 1) dX7_byteAt_4 rfl rfl ?_
    refine wa_aload_n cx (i := 0) dX7_byteAt_5 rfl rfl ?_
    refine gf_X7_13 cx h_c0 dX7_byteAt_6 ?_
    refine wa_icmp_ge cx dX7_byteAt_9 21 (by decide) (fun q2 => ?_) (fun q2 => ?_)
    · rw [if_pos q2] at h
      refine wa_iconst cx dX7_byteAt_21 (-1 : Int32) (by decide) ?_
      exact wa_iret cx h dX7_byteAt_22
    · rw [if_neg q2] at h
      refine wa_aload_n cx (i := 0) dX7_byteAt_12 rfl rfl ?_
      refine gf_X7_9 cx h_c0 dX7_byteAt_13 ?_
      refine wa_iload_n cx (i := 1) dX7_byteAt_16 rfl rfl ?_
      obtain ⟨b3, h⟩ := ob_some h
      refine wa_iald cx dX7_byteAt_17 (kq7_0 cx.2.2.2.2.2.2.1 h_c0) b3 ?_
      refine wa_goto cx dX7_byteAt_18 22 (by decide) ?_
      exact wa_iret cx h dX7_byteAt_22
def rm_X3_numbersOf : Room := { frames := 0, cells := 0, slots := 0, locals := 0 }
def f_X3_numbersOf (a0 : Int32) (S : St) : Option (Int32 × St) := if a0 = (98 : Int32) then some ((2 : Int32), S) else if a0 = (99 : Int32) then some ((1 : Int32), S) else if a0 = (100 : Int32) then some ((1 : Int32), S) else if a0 = (101 : Int32) then some ((2 : Int32), S) else if a0 = (103 : Int32) then some ((5 : Int32), S) else if a0 = (111 : Int32) then some ((1 : Int32), S) else if a0 = (112 : Int32) then some ((1 : Int32), S) else if a0 = (115 : Int32) then some ((2 : Int32), S) else if a0 = (116 : Int32) then some ((2 : Int32), S) else if a0 = (119 : Int32) then some ((3 : Int32), S) else some ((0 : Int32), S)
set_option maxHeartbeats 4000000 in
set_option maxRecDepth 100000 in
theorem m_X3_numbersOf (l : Launch) {g : Gl} (hg : GOK g) {a0 : Int32} {S : St} {r : Int32 × St}  (h : f_X3_numbersOf a0 S = some r) : MW l yX3_numbersOf cX3_numbersOf 1 (some .int) rm_X3_numbersOf g S [.int a0] (QWi g r) := by
  refine startW [(0, .int a0)] (by decide +kernel) (Nat.le_of_ble_eq_true rfl) rfl hg (fun p e s m args below meth c cx => ?_)
  have cx : Cx p s m args meth c cX3_numbersOf 1 (some .int) RX3 g (Ap g) := cx
  rw [f_X3_numbersOf] at h
  refine wa_iload_n cx (i := 0) dX3_numbersOf_0 rfl rfl ?_
  by_cases q1 : a0 = (98 : Int32)
  · rw [if_pos q1] at h
    refine wa_tabIn cx dX3_numbersOf_1 106 (by rw [q1]; decide) (by rw [q1]; decide) (by rw [q1] <;> rfl) (by decide) ?_
    refine wa_iconst cx dX3_numbersOf_106 (2 : Int32) (by decide) ?_
    exact wa_iret cx h dX3_numbersOf_107
  rw [if_neg q1] at h
  by_cases q2 : a0 = (99 : Int32)
  · rw [if_pos q2] at h
    refine wa_tabIn cx dX3_numbersOf_1 104 (by rw [q2]; decide) (by rw [q2]; decide) (by rw [q2] <;> rfl) (by decide) ?_
    refine wa_iconst cx dX3_numbersOf_104 (1 : Int32) (by decide) ?_
    exact wa_iret cx h dX3_numbersOf_105
  rw [if_neg q2] at h
  by_cases q3 : a0 = (100 : Int32)
  · rw [if_pos q3] at h
    refine wa_tabIn cx dX3_numbersOf_1 104 (by rw [q3]; decide) (by rw [q3]; decide) (by rw [q3] <;> rfl) (by decide) ?_
    refine wa_iconst cx dX3_numbersOf_104 (1 : Int32) (by decide) ?_
    exact wa_iret cx h dX3_numbersOf_105
  rw [if_neg q3] at h
  by_cases q4 : a0 = (101 : Int32)
  · rw [if_pos q4] at h
    refine wa_tabIn cx dX3_numbersOf_1 106 (by rw [q4]; decide) (by rw [q4]; decide) (by rw [q4] <;> rfl) (by decide) ?_
    refine wa_iconst cx dX3_numbersOf_106 (2 : Int32) (by decide) ?_
    exact wa_iret cx h dX3_numbersOf_107
  rw [if_neg q4] at h
  by_cases q5 : a0 = (103 : Int32)
  · rw [if_pos q5] at h
    refine wa_tabIn cx dX3_numbersOf_1 110 (by rw [q5]; decide) (by rw [q5]; decide) (by rw [q5] <;> rfl) (by decide) ?_
    refine wa_iconst cx dX3_numbersOf_110 (5 : Int32) (by decide) ?_
    exact wa_iret cx h dX3_numbersOf_111
  rw [if_neg q5] at h
  by_cases q6 : a0 = (111 : Int32)
  · rw [if_pos q6] at h
    refine wa_tabIn cx dX3_numbersOf_1 104 (by rw [q6]; decide) (by rw [q6]; decide) (by rw [q6] <;> rfl) (by decide) ?_
    refine wa_iconst cx dX3_numbersOf_104 (1 : Int32) (by decide) ?_
    exact wa_iret cx h dX3_numbersOf_105
  rw [if_neg q6] at h
  by_cases q7 : a0 = (112 : Int32)
  · rw [if_pos q7] at h
    refine wa_tabIn cx dX3_numbersOf_1 104 (by rw [q7]; decide) (by rw [q7]; decide) (by rw [q7] <;> rfl) (by decide) ?_
    refine wa_iconst cx dX3_numbersOf_104 (1 : Int32) (by decide) ?_
    exact wa_iret cx h dX3_numbersOf_105
  rw [if_neg q7] at h
  by_cases q8 : a0 = (115 : Int32)
  · rw [if_pos q8] at h
    refine wa_tabIn cx dX3_numbersOf_1 106 (by rw [q8]; decide) (by rw [q8]; decide) (by rw [q8] <;> rfl) (by decide) ?_
    refine wa_iconst cx dX3_numbersOf_106 (2 : Int32) (by decide) ?_
    exact wa_iret cx h dX3_numbersOf_107
  rw [if_neg q8] at h
  by_cases q9 : a0 = (116 : Int32)
  · rw [if_pos q9] at h
    refine wa_tabIn cx dX3_numbersOf_1 106 (by rw [q9]; decide) (by rw [q9]; decide) (by rw [q9] <;> rfl) (by decide) ?_
    refine wa_iconst cx dX3_numbersOf_106 (2 : Int32) (by decide) ?_
    exact wa_iret cx h dX3_numbersOf_107
  rw [if_neg q9] at h
  by_cases q10 : a0 = (119 : Int32)
  · rw [if_pos q10] at h
    refine wa_tabIn cx dX3_numbersOf_1 108 (by rw [q10]; decide) (by rw [q10]; decide) (by rw [q10] <;> rfl) (by decide) ?_
    refine wa_iconst cx dX3_numbersOf_108 (3 : Int32) (by decide) ?_
    exact wa_iret cx h dX3_numbersOf_109
  rw [if_neg q10] at h
  refine wa_tabDef cx dX3_numbersOf_1 112 [98, 99, 100, 101, 103, 111, 112, 115, 116, 119] (by decide) (by decide) (show allne _ _ from ⟨ne_toInt q1, ne_toInt q2, ne_toInt q3, ne_toInt q4, ne_toInt q5, ne_toInt q6, ne_toInt q7, ne_toInt q8, ne_toInt q9, ne_toInt q10, trivial⟩) (by decide) ?_
  refine wa_iconst cx dX3_numbersOf_112 (0 : Int32) (by decide) ?_
  exact wa_iret cx h dX3_numbersOf_113
def rm_X9_isWithin : Room := { frames := 0, cells := 0, slots := 0, locals := 0 }
def f_X9_isWithin (a0 : Int32) (a1 : Int32) (a2 : Int32) (S : St) : Option (Int32 × St) := if a0 < a1 then some ((0 : Int32), S) else if a2 < a0 then some ((0 : Int32), S) else some ((1 : Int32), S)
set_option maxHeartbeats 4000000 in
set_option maxRecDepth 100000 in
theorem m_X9_isWithin (l : Launch) {g : Gl} (hg : GOK g) {a0 : Int32} {a1 : Int32} {a2 : Int32} {S : St} {r : Int32 × St}  (h : f_X9_isWithin a0 a1 a2 S = some r) : MW l yX9_isWithin cX9_isWithin 3 (some .boolean) rm_X9_isWithin g S [.int a0, .int a1, .int a2] (QWi g r) := by
  refine startW [(0, .int a0), (1, .int a1), (2, .int a2)] (by decide +kernel) (Nat.le_of_ble_eq_true rfl) rfl hg (fun p e s m args below meth c cx => ?_)
  have cx : Cx p s m args meth c cX9_isWithin 3 (some .boolean) RX9 g (Ap g) := cx
  rw [f_X9_isWithin] at h
  refine wa_iload_n cx (i := 0) dX9_isWithin_0 rfl rfl ?_
  refine wa_iload_n cx (i := 1) dX9_isWithin_1 rfl rfl ?_
  refine wa_icmp_lt cx dX9_isWithin_2 14 (by decide) (fun q1 => ?_) (fun q1 => ?_)
  · rw [if_pos q1] at h
    refine wa_iconst cx dX9_isWithin_14 (0 : Int32) (by decide) ?_
    exact wa_zret cx (by decide) h dX9_isWithin_15
  · rw [if_neg q1] at h
    refine wa_iload_n cx (i := 0) dX9_isWithin_5 rfl rfl ?_
    refine wa_iload_n cx (i := 2) dX9_isWithin_6 rfl rfl ?_
    refine wa_icmp_gt cx dX9_isWithin_7 14 (by decide) (fun q2 => ?_) (fun q2 => ?_)
    · rw [if_pos q2] at h
      refine wa_iconst cx dX9_isWithin_14 (0 : Int32) (by decide) ?_
      exact wa_zret cx (by decide) h dX9_isWithin_15
    · rw [if_neg q2] at h
      refine wa_iconst cx dX9_isWithin_10 (1 : Int32) (by decide) ?_
      refine wa_goto cx dX9_isWithin_11 15 (by decide) ?_
      exact wa_zret cx (by decide) h dX9_isWithin_15
def rm_X3_readNumber : Room := { frames := 1, cells := 0, slots := 0, locals := 22 }
def f_X3_readNumber_J60 (c0 : Nat) (a1 : Nat) (l2 : Int32) (l3 : Int32) (S : St) : Option (Int32 × St) := if l3 < (1 : Int32) then some ((-1 : Int32), S) else if (3 : Int32) < l3 then some ((-1 : Int32), S) else some (l2, S)
set_option maxHeartbeats 4000000 in
set_option maxRecDepth 100000 in
theorem w_X3_readNumber_J60 {p : Program} {l : Launch} {e : Env} {s : State} {m : MethodId} {args : Array Value} {below : List Frame} {meth : Method} {c : Code} {g : Gl} {r : Int32 × St} {c0 : Nat} {a1 : Nat} (cx : Cx p s m args meth c cX3_readNumber 4 (some .int) RX3 g (Ap g)) (h_c0 : kd g c0 = 3) (h_a1 : kd g a1 = 7) : ∀ (l2 : Int32) (l3 : Int32) (S : St), f_X3_readNumber_J60 c0 a1 l2 l3 S = some r → WA p l e rm_X3_readNumber s m args below meth c 0 0 (MQ below (QWi g r) args s 0 0 (Ap g)) 4 g (Ap g) S 60 [(2, .int l2), (3, .int l3)] [] := by
  intro l2 l3 S h
  rw [f_X3_readNumber_J60] at h
  refine wa_iload_n cx (i := 3) dX3_readNumber_60 rfl rfl ?_
  refine wa_iconst cx dX3_readNumber_61 (1 : Int32) (by decide) ?_
  refine wa_icmp_lt cx dX3_readNumber_62 74 (by decide) (fun q1 => ?_) (fun q1 => ?_)
  · rw [if_pos q1] at h
    refine wa_iconst cx dX3_readNumber_74 (-1 : Int32) (by decide) ?_
    exact wa_iret cx h dX3_readNumber_75
  · rw [if_neg q1] at h
    refine wa_iload_n cx (i := 3) dX3_readNumber_65 rfl rfl ?_
    refine wa_iconst cx dX3_readNumber_66 (3 : Int32) (by decide) ?_
    refine wa_icmp_gt cx dX3_readNumber_67 74 (by decide) (fun q2 => ?_) (fun q2 => ?_)
    · rw [if_pos q2] at h
      refine wa_iconst cx dX3_readNumber_74 (-1 : Int32) (by decide) ?_
      exact wa_iret cx h dX3_readNumber_75
    · rw [if_neg q2] at h
      refine wa_iload_n cx (i := 2) dX3_readNumber_70 rfl rfl ?_
      refine wa_goto cx dX3_readNumber_71 75 (by decide) ?_
      exact wa_iret cx h dX3_readNumber_75
def f_X3_readNumber_L4 : Nat → Nat → Nat → Int32 → Int32 → St → Option (Int32 × St)
  | 0, _, _, _, _, _ => none
  | n + 1, c0, a1, l2, l3, S => if (3 : Int32) < l3 then f_X3_readNumber_J60 c0 a1 l2 l3 S else bd (f_X7_byteAt a1 (S.1 c0 1) S) fun x4 S5 => bd (f_X9_isWithin x4 (48 : Int32) (57 : Int32) S5) fun x7 S8 => if x7 = 0 then f_X3_readNumber_J60 c0 a1 l2 l3 S8 else bd (f_X7_byteAt a1 (S8.1 c0 1) S8) fun x11 S12 => sq (((l2 * (10 : Int32)) + x11) - (48 : Int32)) fun x14 => sq (pI S12 c0 1 ((S12.1 c0 1) + (1 : Int32))) fun S15 => f_X3_readNumber_L4 n c0 a1 x14 (l3 + (1 : Int32)) S15
set_option maxHeartbeats 4000000 in
set_option maxRecDepth 100000 in
theorem w_X3_readNumber_L4 {p : Program} {l : Launch} {e : Env} {s : State} {m : MethodId} {args : Array Value} {below : List Frame} {meth : Method} {c : Code} {g : Gl} {r : Int32 × St} {c0 : Nat} {a1 : Nat} (cx : Cx p s m args meth c cX3_readNumber 4 (some .int) RX3 g (Ap g)) (h_c0 : kd g c0 = 3) (h_a1 : kd g a1 = 7) : ∀ n : Nat, ∀ (l2 : Int32) (l3 : Int32) (S : St), f_X3_readNumber_L4 n c0 a1 l2 l3 S = some r → WA p l e rm_X3_readNumber s m args below meth c 0 0 (MQ below (QWi g r) args s 0 0 (Ap g)) 4 g (Ap g) S 4 [(0, .ref (ad g c0)), (1, .ref (ad g a1)), (2, .int l2), (3, .int l3)] [] := by
  intro n
  induction n with
  | zero => intro l2 l3 S h; rw [f_X3_readNumber_L4] at h; cases h
  | succ n ih =>
    intro l2 l3 S h
    rw [f_X3_readNumber_L4] at h
    refine wa_iload_n cx (i := 3) dX3_readNumber_4 rfl rfl ?_
    refine wa_iconst cx dX3_readNumber_5 (3 : Int32) (by decide) ?_
    refine wa_icmp_gt cx dX3_readNumber_6 60 (by decide) (fun q3 => ?_) (fun q3 => ?_)
    · rw [if_pos q3] at h
      refine wa_sub (lv' := [(2, .int l2), (3, .int l3)]) (lvs_c rfl (lvs_c rfl (lvs_n))) ?_
      exact w_X3_readNumber_J60 cx h_c0 h_a1   l2 l3 S  h
    · rw [if_neg q3] at h
      refine wa_aload_n cx (i := 1) dX3_readNumber_9 rfl rfl ?_
      refine wa_aload_n cx (i := 0) dX3_readNumber_10 rfl rfl ?_
      refine gf_X3_20 cx h_c0 dX3_readNumber_11 ?_
      obtain ⟨x4, S5, e6, h⟩ := bd_some h
      refine wa_callVi cx (m_X7_byteAt l cx.2.2.2.2.2.2.1 h_a1 e6) vl_X3_29 h_a1 (by decide) rfl rfl ⟨_, cell_eq7 (kd_lt h_a1 (by decide)).2⟩ ⟨Nat.le_of_ble_eq_true rfl, Nat.le_of_ble_eq_true rfl⟩ ⟨rfl, rfl⟩ ⟨Nat.zero_le _, Nat.zero_le _⟩ rfl (Nat.le_of_ble_eq_true rfl) dX3_readNumber_14 rfl ?_
      refine wa_bipush cx dX3_readNumber_17 (48 : Int32) (by decide) ?_
      refine wa_bipush cx dX3_readNumber_19 (57 : Int32) (by decide) ?_
      obtain ⟨x7, S8, e9, h⟩ := bd_some h
      refine wa_callNi cx (m_X9_isWithin l cx.2.2.2.2.2.2.1  e9) vl_X3_58 ⟨Nat.le_of_ble_eq_true rfl, Nat.le_of_ble_eq_true rfl⟩ ⟨rfl, rfl⟩ ⟨Nat.zero_le _, Nat.zero_le _⟩ rfl (Nat.le_of_ble_eq_true rfl) dX3_readNumber_21 rfl ?_
      refine wa_if_eq cx dX3_readNumber_24 60 (by decide) (fun q10 => ?_) (fun q10 => ?_)
      · rw [if_pos q10] at h
        refine wa_sub (lv' := [(2, .int l2), (3, .int l3)]) (lvs_c rfl (lvs_c rfl (lvs_n))) ?_
        exact w_X3_readNumber_J60 cx h_c0 h_a1   l2 l3 S8  h
      · rw [if_neg q10] at h
        refine wa_iload_n cx (i := 2) dX3_readNumber_27 rfl rfl ?_
        refine wa_bipush cx dX3_readNumber_28 (10 : Int32) (by decide) ?_
        refine wa_imul cx dX3_readNumber_30 ?_
        refine wa_aload_n cx (i := 1) dX3_readNumber_31 rfl rfl ?_
        refine wa_aload_n cx (i := 0) dX3_readNumber_32 rfl rfl ?_
        refine gf_X3_20 cx h_c0 dX3_readNumber_33 ?_
        obtain ⟨x11, S12, e13, h⟩ := bd_some h
        refine wa_callVi cx (m_X7_byteAt l cx.2.2.2.2.2.2.1 h_a1 e13) vl_X3_29 h_a1 (by decide) rfl rfl ⟨_, cell_eq7 (kd_lt h_a1 (by decide)).2⟩ ⟨Nat.le_of_ble_eq_true rfl, Nat.le_of_ble_eq_true rfl⟩ ⟨rfl, rfl⟩ ⟨Nat.zero_le _, Nat.zero_le _⟩ rfl (Nat.le_of_ble_eq_true rfl) dX3_readNumber_36 rfl ?_
        refine wa_iadd cx dX3_readNumber_39 ?_
        refine wa_bipush cx dX3_readNumber_40 (48 : Int32) (by decide) ?_
        refine wa_isub cx dX3_readNumber_42 ?_
        replace h := sq_eq h
        generalize (((l2 * (10 : Int32)) + x11) - (48 : Int32)) = x14 at h ⊢
        refine wa_istore_n cx (i := 2) dX3_readNumber_43 [(0, .ref (ad g c0)), (1, .ref (ad g a1)), (2, .int x14), (3, .int l3)] rfl (Nat.le_of_ble_eq_true rfl) rfl (lvs_c rfl (lvs_c rfl (lvs_c rfl (lvs_c rfl (lvs_n))))) ?_
        refine wa_iinc cx dX3_readNumber_44 (l3 + (1 : Int32)) [(0, .ref (ad g c0)), (1, .ref (ad g a1)), (2, .int x14), (3, .int (l3 + (1 : Int32)))] rfl rfl (Nat.le_of_ble_eq_true rfl) rfl (lvs_c rfl (lvs_c rfl (lvs_c rfl (lvs_c rfl (lvs_n))))) ?_
        refine wa_aload_n cx (i := 0) dX3_readNumber_47 rfl rfl ?_
        refine wa_dup cx dX3_readNumber_48 rfl ?_
        refine gf_X3_20 cx h_c0 dX3_readNumber_49 ?_
        refine wa_iconst cx dX3_readNumber_52 (1 : Int32) (by decide) ?_
        refine wa_iadd cx dX3_readNumber_53 ?_
        refine pf_X3_20 cx h_c0 dX3_readNumber_54 ?_
        replace h := sq_eq h
        generalize (pI S12 c0 1 ((S12.1 c0 1) + (1 : Int32))) = S15 at h ⊢
        refine wa_goto cx dX3_readNumber_57 4 (by decide) ?_
        refine wa_sub (lv' := [(0, .ref (ad g c0)), (1, .ref (ad g a1)), (2, .int x14), (3, .int (l3 + (1 : Int32)))]) (lvs_c rfl (lvs_c rfl (lvs_c rfl (lvs_c rfl (lvs_n))))) ?_
        exact ih x14 (l3 + (1 : Int32)) S15  h
def f_X3_readNumber (c0 : Nat) (a1 : Nat) (S : St) : Option (Int32 × St) := f_X3_readNumber_L4 FU c0 a1 (0 : Int32) (0 : Int32) S
set_option maxHeartbeats 4000000 in
set_option maxRecDepth 100000 in
theorem m_X3_readNumber (l : Launch) {g : Gl} (hg : GOK g) {c0 : Nat} {a1 : Nat} {S : St} {r : Int32 × St} (h_c0 : kd g c0 = 3) (h_a1 : kd g a1 = 7) (h : f_X3_readNumber c0 a1 S = some r) : MW l yX3_readNumber cX3_readNumber 4 (some .int) rm_X3_readNumber g S [.ref (ad g c0), .ref (ad g a1)] (QWi g r) := by
  refine startW [(0, .ref (ad g c0)), (1, .ref (ad g a1))] (by decide +kernel) (Nat.le_of_ble_eq_true rfl) rfl hg (fun p e s m args below meth c cx => ?_)
  have cx : Cx p s m args meth c cX3_readNumber 4 (some .int) RX3 g (Ap g) := cx
  rw [f_X3_readNumber] at h
  refine wa_iconst cx dX3_readNumber_0 (0 : Int32) (by decide) ?_
  refine wa_istore_n cx (i := 2) dX3_readNumber_1 [(0, .ref (ad g c0)), (1, .ref (ad g a1)), (2, .int (0 : Int32))] rfl (Nat.le_of_ble_eq_true rfl) rfl (lvs_c rfl (lvs_c rfl (lvs_c rfl (lvs_n)))) ?_
  refine wa_iconst cx dX3_readNumber_2 (0 : Int32) (by decide) ?_
  refine wa_istore_n cx (i := 3) dX3_readNumber_3 [(0, .ref (ad g c0)), (1, .ref (ad g a1)), (2, .int (0 : Int32)), (3, .int (0 : Int32))] rfl (Nat.le_of_ble_eq_true rfl) rfl (lvs_c rfl (lvs_c rfl (lvs_c rfl (lvs_c rfl (lvs_n))))) ?_
  refine wa_sub (lv' := [(0, .ref (ad g c0)), (1, .ref (ad g a1)), (2, .int (0 : Int32)), (3, .int (0 : Int32))]) (lvs_c rfl (lvs_c rfl (lvs_c rfl (lvs_c rfl (lvs_n))))) ?_
  exact w_X3_readNumber_L4 cx h_c0 h_a1  FU (0 : Int32) (0 : Int32) S  h
def rm_X3_readNumbers : Room := { frames := 2, cells := 0, slots := 0, locals := 45 }
def f_X3_readNumbers_J61 (c0 : Nat) (a1 : Nat) (a2 : Int32) (kb14 : Int32 → St → Option (Int32 × St)) (l3 : Int32) (k0 : Int32) (k1 : Int32) (S : St) : Option (Int32 × St) := if k0 = k1 then sq (pI S c0 1 ((S.1 c0 1) + (1 : Int32))) fun S2 => kb14 (l3 + (1 : Int32)) S2 else some ((0 : Int32), S)
set_option maxHeartbeats 4000000 in
set_option maxRecDepth 100000 in
theorem w_X3_readNumbers_J61 {p : Program} {l : Launch} {e : Env} {s : State} {m : MethodId} {args : Array Value} {below : List Frame} {meth : Method} {c : Code} {g : Gl} {r : Int32 × St} {c0 : Nat} {a1 : Nat} {a2 : Int32} {kb14 : Int32 → St → Option (Int32 × St)} (cx : Cx p s m args meth c cX3_readNumbers 4 (some .boolean) RX3 g (Ap g)) (h_c0 : kd g c0 = 3) (h_a1 : kd g a1 = 7) (hkb14 : ∀ (l3 : Int32) (S : St), kb14 l3 S = some r → WA p l e rm_X3_readNumbers s m args below meth c 0 0 (MQ below (QWi g r) args s 0 0 (Ap g)) 4 g (Ap g) S 14 [(0, .ref (ad g c0)), (1, .ref (ad g a1)), (2, .int a2), (3, .int l3)] []) : ∀ (l3 : Int32) (k0 : Int32) (k1 : Int32) (S : St), f_X3_readNumbers_J61 c0 a1 a2 kb14 l3 k0 k1 S = some r → WA p l e rm_X3_readNumbers s m args below meth c 0 0 (MQ below (QWi g r) args s 0 0 (Ap g)) 4 g (Ap g) S 61 [(0, .ref (ad g c0)), (1, .ref (ad g a1)), (2, .int a2), (3, .int l3)] [.int k1, .int k0] := by
  intro l3 k0 k1 S h
  rw [f_X3_readNumbers_J61] at h
  refine wa_icmp_eq cx dX3_readNumbers_61 66 (by decide) (fun q1 => ?_) (fun q1 => ?_)
  · rw [if_pos q1] at h
    refine wa_aload_n cx (i := 0) dX3_readNumbers_66 rfl rfl ?_
    refine wa_dup cx dX3_readNumbers_67 rfl ?_
    refine gf_X3_20 cx h_c0 dX3_readNumbers_68 ?_
    refine wa_iconst cx dX3_readNumbers_71 (1 : Int32) (by decide) ?_
    refine wa_iadd cx dX3_readNumbers_72 ?_
    refine pf_X3_20 cx h_c0 dX3_readNumbers_73 ?_
    replace h := sq_eq h
    generalize (pI S c0 1 ((S.1 c0 1) + (1 : Int32))) = S2 at h ⊢
    refine wa_iinc cx dX3_readNumbers_76 (l3 + (1 : Int32)) [(0, .ref (ad g c0)), (1, .ref (ad g a1)), (2, .int a2), (3, .int (l3 + (1 : Int32)))] rfl rfl (Nat.le_of_ble_eq_true rfl) rfl (lvs_c rfl (lvs_c rfl (lvs_c rfl (lvs_c rfl (lvs_n))))) ?_
    refine wa_goto cx dX3_readNumbers_79 14 (by decide) ?_
    refine wa_sub (lv' := [(0, .ref (ad g c0)), (1, .ref (ad g a1)), (2, .int a2), (3, .int (l3 + (1 : Int32)))]) (lvs_c rfl (lvs_c rfl (lvs_c rfl (lvs_c rfl (lvs_n))))) ?_
    exact hkb14 (l3 + (1 : Int32)) S2  h
  · rw [if_neg q1] at h
    refine wa_iconst cx dX3_readNumbers_64 (0 : Int32) (by decide) ?_
    exact wa_zret cx (by decide) h dX3_readNumbers_65
def f_X3_readNumbers_L14 : Nat → Nat → Nat → Int32 → Int32 → St → Option (Int32 × St)
  | 0, _, _, _, _, _ => none
  | n + 1, c0, a1, a2, l3, S => if a2 ≤ l3 then some ((1 : Int32), S) else bd (f_X3_readNumber c0 a1 S) fun x4 S5 => ob l3 5 (sq (pI S5 (c0 + 1) (Int32.toNatClampNeg l3) x4) fun S8 => ob l3 5 (if (S8.1 (c0 + 1) (Int32.toNatClampNeg l3)) < 0 then some ((0 : Int32), S8) else bd (f_X7_byteAt a1 (S8.1 c0 1) S8) fun x11 S12 => if (a2 - (1 : Int32)) ≤ l3 then f_X3_readNumbers_J61 c0 a1 a2 (fun l3 S => f_X3_readNumbers_L14 n c0 a1 a2 l3 S) l3 x11 (59 : Int32) S12 else f_X3_readNumbers_J61 c0 a1 a2 (fun l3 S => f_X3_readNumbers_L14 n c0 a1 a2 l3 S) l3 x11 (44 : Int32) S12))
set_option maxHeartbeats 4000000 in
set_option maxRecDepth 100000 in
theorem w_X3_readNumbers_L14 {p : Program} {l : Launch} {e : Env} {s : State} {m : MethodId} {args : Array Value} {below : List Frame} {meth : Method} {c : Code} {g : Gl} {r : Int32 × St} {c0 : Nat} {a1 : Nat} {a2 : Int32} (cx : Cx p s m args meth c cX3_readNumbers 4 (some .boolean) RX3 g (Ap g)) (h_c0 : kd g c0 = 3) (h_a1 : kd g a1 = 7) : ∀ n : Nat, ∀ (l3 : Int32) (S : St), f_X3_readNumbers_L14 n c0 a1 a2 l3 S = some r → WA p l e rm_X3_readNumbers s m args below meth c 0 0 (MQ below (QWi g r) args s 0 0 (Ap g)) 4 g (Ap g) S 14 [(0, .ref (ad g c0)), (1, .ref (ad g a1)), (2, .int a2), (3, .int l3)] [] := by
  intro n
  induction n with
  | zero => intro l3 S h; rw [f_X3_readNumbers_L14] at h; cases h
  | succ n ih =>
    intro l3 S h
    rw [f_X3_readNumbers_L14] at h
    refine wa_iload_n cx (i := 3) dX3_readNumbers_14 rfl rfl ?_
    refine wa_iload_n cx (i := 2) dX3_readNumbers_15 rfl rfl ?_
    refine wa_icmp_ge cx dX3_readNumbers_16 82 (by decide) (fun q3 => ?_) (fun q3 => ?_)
    · rw [if_pos q3] at h
      refine wa_iconst cx dX3_readNumbers_82 (1 : Int32) (by decide) ?_
      exact wa_zret cx (by decide) h dX3_readNumbers_83
    · rw [if_neg q3] at h
      refine wa_aload_n cx (i := 0) dX3_readNumbers_19 rfl rfl ?_
      refine gf_X3_11 cx h_c0 dX3_readNumbers_20 ?_
      refine wa_iload_n cx (i := 3) dX3_readNumbers_23 rfl rfl ?_
      refine wa_aload_n cx (i := 0) dX3_readNumbers_24 rfl rfl ?_
      refine wa_aload_n cx (i := 1) dX3_readNumbers_25 rfl rfl ?_
      obtain ⟨x4, S5, e6, h⟩ := bd_some h
      refine wa_callVi cx (m_X3_readNumber l cx.2.2.2.2.2.2.1 h_c0 h_a1 e6) vl_X3_54 h_c0 (by decide) rfl rfl ⟨_, cell_eq3 (kd_lt h_c0 (by decide)).2⟩ ⟨Nat.le_of_ble_eq_true rfl, Nat.le_of_ble_eq_true rfl⟩ ⟨rfl, rfl⟩ ⟨Nat.zero_le _, Nat.zero_le _⟩ rfl (Nat.le_of_ble_eq_true rfl) dX3_readNumbers_26 rfl ?_
      obtain ⟨b7, h⟩ := ob_some h
      refine wa_iast cx dX3_readNumbers_29 (kq3_0 cx.2.2.2.2.2.2.1 h_c0) b7 ?_
      replace h := sq_eq h
      generalize (pI S5 (c0 + 1) (Int32.toNatClampNeg l3) x4) = S8 at h ⊢
      refine wa_aload_n cx (i := 0) dX3_readNumbers_30 rfl rfl ?_
      refine gf_X3_11 cx h_c0 dX3_readNumbers_31 ?_
      refine wa_iload_n cx (i := 3) dX3_readNumbers_34 rfl rfl ?_
      obtain ⟨b9, h⟩ := ob_some h
      refine wa_iald cx dX3_readNumbers_35 (kq3_0 cx.2.2.2.2.2.2.1 h_c0) b9 ?_
      refine wa_if_lt cx dX3_readNumbers_36 64 (by decide) (fun q10 => ?_) (fun q10 => ?_)
      · rw [if_pos q10] at h
        refine wa_iconst cx dX3_readNumbers_64 (0 : Int32) (by decide) ?_
        exact wa_zret cx (by decide) h dX3_readNumbers_65
      · rw [if_neg q10] at h
        refine wa_aload_n cx (i := 1) dX3_readNumbers_39 rfl rfl ?_
        refine wa_aload_n cx (i := 0) dX3_readNumbers_40 rfl rfl ?_
        refine gf_X3_20 cx h_c0 dX3_readNumbers_41 ?_
        obtain ⟨x11, S12, e13, h⟩ := bd_some h
        refine wa_callVi cx (m_X7_byteAt l cx.2.2.2.2.2.2.1 h_a1 e13) vl_X3_29 h_a1 (by decide) rfl rfl ⟨_, cell_eq7 (kd_lt h_a1 (by decide)).2⟩ ⟨Nat.le_of_ble_eq_true rfl, Nat.le_of_ble_eq_true rfl⟩ ⟨rfl, rfl⟩ ⟨Nat.zero_le _, Nat.zero_le _⟩ rfl (Nat.le_of_ble_eq_true rfl) dX3_readNumbers_44 rfl ?_
        refine wa_iload_n cx (i := 3) dX3_readNumbers_47 rfl rfl ?_
        refine wa_iload_n cx (i := 2) dX3_readNumbers_48 rfl rfl ?_
        refine wa_iconst cx dX3_readNumbers_49 (1 : Int32) (by decide) ?_
        refine wa_isub cx dX3_readNumbers_50 ?_
        refine wa_icmp_ge cx dX3_readNumbers_51 59 (by decide) (fun q14 => ?_) (fun q14 => ?_)
        · rw [if_pos q14] at h
          refine wa_bipush cx dX3_readNumbers_59 (59 : Int32) (by decide) ?_
          refine wa_sub (lv' := [(0, .ref (ad g c0)), (1, .ref (ad g a1)), (2, .int a2), (3, .int l3)]) (lvs_c rfl (lvs_c rfl (lvs_c rfl (lvs_c rfl (lvs_n))))) ?_
          exact w_X3_readNumbers_J61 cx h_c0 h_a1 ih  l3 x11 (59 : Int32) S12  h
        · rw [if_neg q14] at h
          refine wa_bipush cx dX3_readNumbers_54 (44 : Int32) (by decide) ?_
          refine wa_goto cx dX3_readNumbers_56 61 (by decide) ?_
          refine wa_sub (lv' := [(0, .ref (ad g c0)), (1, .ref (ad g a1)), (2, .int a2), (3, .int l3)]) (lvs_c rfl (lvs_c rfl (lvs_c rfl (lvs_c rfl (lvs_n))))) ?_
          exact w_X3_readNumbers_J61 cx h_c0 h_a1 ih  l3 x11 (44 : Int32) S12  h
def f_X3_readNumbers (c0 : Nat) (a1 : Nat) (a2 : Int32) (S : St) : Option (Int32 × St) := if a2 < (1 : Int32) then some ((0 : Int32), S) else if a2 ≤ (5 : Int32) then f_X3_readNumbers_L14 FU c0 a1 a2 (0 : Int32) S else some ((0 : Int32), S)
set_option maxHeartbeats 4000000 in
set_option maxRecDepth 100000 in
theorem m_X3_readNumbers (l : Launch) {g : Gl} (hg : GOK g) {c0 : Nat} {a1 : Nat} {a2 : Int32} {S : St} {r : Int32 × St} (h_c0 : kd g c0 = 3) (h_a1 : kd g a1 = 7) (h : f_X3_readNumbers c0 a1 a2 S = some r) : MW l yX3_readNumbers cX3_readNumbers 4 (some .boolean) rm_X3_readNumbers g S [.ref (ad g c0), .ref (ad g a1), .int a2] (QWi g r) := by
  refine startW [(0, .ref (ad g c0)), (1, .ref (ad g a1)), (2, .int a2)] (by decide +kernel) (Nat.le_of_ble_eq_true rfl) rfl hg (fun p e s m args below meth c cx => ?_)
  have cx : Cx p s m args meth c cX3_readNumbers 4 (some .boolean) RX3 g (Ap g) := cx
  rw [f_X3_readNumbers] at h
  refine wa_iload_n cx (i := 2) dX3_readNumbers_0 rfl rfl ?_
  refine wa_iconst cx dX3_readNumbers_1 (1 : Int32) (by decide) ?_
  refine wa_icmp_lt cx dX3_readNumbers_2 10 (by decide) (fun q15 => ?_) (fun q15 => ?_)
  · rw [if_pos q15] at h
    refine wa_iconst cx dX3_readNumbers_10 (0 : Int32) (by decide) ?_
    exact wa_zret cx (by decide) h dX3_readNumbers_11
  · rw [if_neg q15] at h
    refine wa_iload_n cx (i := 2) dX3_readNumbers_5 rfl rfl ?_
    refine wa_iconst cx dX3_readNumbers_6 (5 : Int32) (by decide) ?_
    refine wa_icmp_le cx dX3_readNumbers_7 12 (by decide) (fun q16 => ?_) (fun q16 => ?_)
    · rw [if_pos q16] at h
      refine wa_iconst cx dX3_readNumbers_12 (0 : Int32) (by decide) ?_
      refine wa_istore_n cx (i := 3) dX3_readNumbers_13 [(0, .ref (ad g c0)), (1, .ref (ad g a1)), (2, .int a2), (3, .int (0 : Int32))] rfl (Nat.le_of_ble_eq_true rfl) rfl (lvs_c rfl (lvs_c rfl (lvs_c rfl (lvs_c rfl (lvs_n))))) ?_
      refine wa_sub (lv' := [(0, .ref (ad g c0)), (1, .ref (ad g a1)), (2, .int a2), (3, .int (0 : Int32))]) (lvs_c rfl (lvs_c rfl (lvs_c rfl (lvs_c rfl (lvs_n))))) ?_
      exact w_X3_readNumbers_L14 cx h_c0 h_a1  FU (0 : Int32) S  h
    · rw [if_neg q16] at h
      refine wa_iconst cx dX3_readNumbers_10 (0 : Int32) (by decide) ?_
      exact wa_zret cx (by decide) h dX3_readNumbers_11
