def rm_X10_richDay : Room := { frames := 6, cells := 0, slots := 0, locals := 148 }
def f_X10_richDay_J59 (c0 : Nat) (a1 : Int32) (kb26 : Int32 → Int64 → Int32 → St → Option (Int32 × St)) (l3 : Int64) (l5 : Int32) (l6 : Int64) (k0 : Int32) (S : St) : Option (Int32 × St) := if l6 ≤ l3 then kb26 k0 l3 (l5 + (1 : Int32)) S else kb26 k0 l6 (l5 + (1 : Int32)) S
set_option maxHeartbeats 4000000 in
set_option maxRecDepth 100000 in
theorem w_X10_richDay_J59 {p : Program} {l : Launch} {e : Env} {s : State} {m : MethodId} {args : Array Value} {below : List Frame} {meth : Method} {c : Code} {g : Gl} {r : Int32 × St} {c0 : Nat} {a1 : Int32} {kb26 : Int32 → Int64 → Int32 → St → Option (Int32 × St)} (cx : Cx p s m args meth c cX10_richDay 8 (some .int) RX10 g (Ap g)) (h_c0 : kd g c0 = 10) (hkb26 : ∀ (l2 : Int32) (l3 : Int64) (l5 : Int32) (S : St), kb26 l2 l3 l5 S = some r → WA p l e rm_X10_richDay s m args below meth c 0 0 (MQ below (QWi g r) args s 0 0 (Ap g)) 8 g (Ap g) S 26 [(0, .ref (ad g c0)), (1, .int a1), (2, .int l2), (3, .long l3), (5, .int l5)] []) : ∀ (l3 : Int64) (l5 : Int32) (l6 : Int64) (k0 : Int32) (S : St), f_X10_richDay_J59 c0 a1 kb26 l3 l5 l6 k0 S = some r → WA p l e rm_X10_richDay s m args below meth c 0 0 (MQ below (QWi g r) args s 0 0 (Ap g)) 8 g (Ap g) S 59 [(0, .ref (ad g c0)), (1, .int a1), (3, .long l3), (5, .int l5), (6, .long l6)] [.int k0] := by
  intro l3 l5 l6 k0 S h
  rw [f_X10_richDay_J59] at h
  refine wa_istore_n cx (i := 2) dX10_richDay_59 [(0, .ref (ad g c0)), (1, .int a1), (2, .int k0), (3, .long l3), (5, .int l5), (6, .long l6)] rfl (Nat.le_of_ble_eq_true rfl) rfl (lvs_c rfl (lvs_c rfl (lvs_c rfl (lvs_c rfl (lvs_c rfl (lvs_c rfl (lvs_n))))))) ?_
  refine wa_lload cx dX10_richDay_60 rfl ?_
  refine wa_lload_n cx (i := 3) dX10_richDay_62 rfl rfl ?_
  refine wa_lcmp_le cx dX10_richDay_63 dX10_richDay_64 72 (by decide) (fun q1 => ?_) (fun q1 => ?_)
  · rw [if_pos q1] at h
    refine wa_lload_n cx (i := 3) dX10_richDay_72 rfl rfl ?_
    refine wa_lstore_n cx (i := 3) dX10_richDay_73 [(0, .ref (ad g c0)), (1, .int a1), (2, .int k0), (3, .long l3), (5, .int l5)] rfl (Nat.le_of_ble_eq_true rfl) rfl (lvs_c rfl (lvs_c rfl (lvs_c rfl (lvs_c rfl (lvs_c rfl (lvs_n)))))) ?_
    refine wa_iinc cx dX10_richDay_74 (l5 + (1 : Int32)) [(0, .ref (ad g c0)), (1, .int a1), (2, .int k0), (3, .long l3), (5, .int (l5 + (1 : Int32)))] rfl rfl (Nat.le_of_ble_eq_true rfl) rfl (lvs_c rfl (lvs_c rfl (lvs_c rfl (lvs_c rfl (lvs_c rfl (lvs_n)))))) ?_
    refine wa_goto cx dX10_richDay_77 26 (by decide) ?_
    refine wa_sub (lv' := [(0, .ref (ad g c0)), (1, .int a1), (2, .int k0), (3, .long l3), (5, .int (l5 + (1 : Int32)))]) (lvs_c rfl (lvs_c rfl (lvs_c rfl (lvs_c rfl (lvs_c rfl (lvs_n)))))) ?_
    exact hkb26 k0 l3 (l5 + (1 : Int32)) S  h
  · rw [if_neg q1] at h
    refine wa_lload cx dX10_richDay_67 rfl ?_
    refine wa_goto cx dX10_richDay_69 73 (by decide) ?_
    refine wa_lstore_n cx (i := 3) dX10_richDay_73 [(0, .ref (ad g c0)), (1, .int a1), (2, .int k0), (3, .long l6), (5, .int l5)] rfl (Nat.le_of_ble_eq_true rfl) rfl (lvs_c rfl (lvs_c rfl (lvs_c rfl (lvs_c rfl (lvs_c rfl (lvs_n)))))) ?_
    refine wa_iinc cx dX10_richDay_74 (l5 + (1 : Int32)) [(0, .ref (ad g c0)), (1, .int a1), (2, .int k0), (3, .long l6), (5, .int (l5 + (1 : Int32)))] rfl rfl (Nat.le_of_ble_eq_true rfl) rfl (lvs_c rfl (lvs_c rfl (lvs_c rfl (lvs_c rfl (lvs_c rfl (lvs_n)))))) ?_
    refine wa_goto cx dX10_richDay_77 26 (by decide) ?_
    refine wa_sub (lv' := [(0, .ref (ad g c0)), (1, .int a1), (2, .int k0), (3, .long l6), (5, .int (l5 + (1 : Int32)))]) (lvs_c rfl (lvs_c rfl (lvs_c rfl (lvs_c rfl (lvs_c rfl (lvs_n)))))) ?_
    exact hkb26 k0 l6 (l5 + (1 : Int32)) S  h
def f_X10_richDay_L26 : Nat → Nat → Int32 → Int32 → Int64 → Int32 → St → Option (Int32 × St)
  | 0, _, _, _, _, _, _ => none
  | n + 1, c0, a1, l2, l3, l5, S => if (S.1 (c0 + 2) (Int32.toNatClampNeg (2 : Int32))) < l5 then some (l2, S) else bd (f_X10_richWays c0 a1 l5 S) fun x3 S4 => if x3 ≤ l3 then f_X10_richDay_J59 c0 a1 (fun l2 l3 l5 S => f_X10_richDay_L26 n c0 a1 l2 l3 l5 S) l3 l5 x3 l2 S4 else f_X10_richDay_J59 c0 a1 (fun l2 l3 l5 S => f_X10_richDay_L26 n c0 a1 l2 l3 l5 S) l3 l5 x3 l5 S4
set_option maxHeartbeats 4000000 in
set_option maxRecDepth 100000 in
theorem w_X10_richDay_L26 {p : Program} {l : Launch} {e : Env} {s : State} {m : MethodId} {args : Array Value} {below : List Frame} {meth : Method} {c : Code} {g : Gl} {r : Int32 × St} {c0 : Nat} {a1 : Int32} (cx : Cx p s m args meth c cX10_richDay 8 (some .int) RX10 g (Ap g)) (h_c0 : kd g c0 = 10) : ∀ n : Nat, ∀ (l2 : Int32) (l3 : Int64) (l5 : Int32) (S : St), f_X10_richDay_L26 n c0 a1 l2 l3 l5 S = some r → WA p l e rm_X10_richDay s m args below meth c 0 0 (MQ below (QWi g r) args s 0 0 (Ap g)) 8 g (Ap g) S 26 [(0, .ref (ad g c0)), (1, .int a1), (2, .int l2), (3, .long l3), (5, .int l5)] [] := by
  intro n
  induction n with
  | zero => intro l2 l3 l5 S h; rw [f_X10_richDay_L26] at h; cases h
  | succ n ih =>
    intro l2 l3 l5 S h
    rw [f_X10_richDay_L26] at h
    refine wa_iload cx dX10_richDay_26 rfl ?_
    refine wa_aload_n cx (i := 0) dX10_richDay_28 rfl rfl ?_
    refine gf_X10_13 cx h_c0 dX10_richDay_29 ?_
    refine wa_iconst cx dX10_richDay_32 (2 : Int32) (by decide) ?_
    refine wa_iald cx dX10_richDay_33 (kq10_2 cx.2.2.2.2.2.2.1 h_c0) (vinl (by decide)) ?_
    refine wa_icmp_gt cx dX10_richDay_34 80 (by decide) (fun q2 => ?_) (fun q2 => ?_)
    · rw [if_pos q2] at h
      refine wa_iload_n cx (i := 2) dX10_richDay_80 rfl rfl ?_
      exact wa_iret cx h dX10_richDay_81
    · rw [if_neg q2] at h
      refine wa_aload_n cx (i := 0) dX10_richDay_37 rfl rfl ?_
      refine wa_iload_n cx (i := 1) dX10_richDay_38 rfl rfl ?_
      refine wa_iload cx dX10_richDay_39 rfl ?_
      obtain ⟨x3, S4, e5, h⟩ := bd_some h
      refine wa_callVl cx (m_X10_richWays l cx.2.2.2.2.2.2.1 h_c0 e5) vl_X10_283 h_c0 (by decide) rfl rfl ⟨_, cell_eq10 (kd_lt h_c0 (by decide)).2⟩ ⟨Nat.le_of_ble_eq_true rfl, Nat.le_of_ble_eq_true rfl⟩ ⟨rfl, rfl⟩ ⟨Nat.zero_le _, Nat.zero_le _⟩ rfl (Nat.le_of_ble_eq_true rfl) dX10_richDay_41 rfl ?_
      refine wa_lstore cx dX10_richDay_44 [(0, .ref (ad g c0)), (1, .int a1), (2, .int l2), (3, .long l3), (5, .int l5), (6, .long x3)] (Nat.le_of_ble_eq_true rfl) rfl (lvs_c rfl (lvs_c rfl (lvs_c rfl (lvs_c rfl (lvs_c rfl (lvs_c rfl (lvs_n))))))) ?_
      refine wa_lload cx dX10_richDay_46 rfl ?_
      refine wa_lload_n cx (i := 3) dX10_richDay_48 rfl rfl ?_
      refine wa_lcmp_le cx dX10_richDay_49 dX10_richDay_50 58 (by decide) (fun q6 => ?_) (fun q6 => ?_)
      · rw [if_pos q6] at h
        refine wa_iload_n cx (i := 2) dX10_richDay_58 rfl rfl ?_
        refine wa_sub (lv' := [(0, .ref (ad g c0)), (1, .int a1), (3, .long l3), (5, .int l5), (6, .long x3)]) (lvs_c rfl (lvs_c rfl (lvs_c rfl (lvs_c rfl (lvs_c rfl (lvs_n)))))) ?_
        exact w_X10_richDay_J59 cx h_c0 ih  l3 l5 x3 l2 S4  h
      · rw [if_neg q6] at h
        refine wa_iload cx dX10_richDay_53 rfl ?_
        refine wa_goto cx dX10_richDay_55 59 (by decide) ?_
        refine wa_sub (lv' := [(0, .ref (ad g c0)), (1, .int a1), (3, .long l3), (5, .int l5), (6, .long x3)]) (lvs_c rfl (lvs_c rfl (lvs_c rfl (lvs_c rfl (lvs_c rfl (lvs_n)))))) ?_
        exact w_X10_richDay_J59 cx h_c0 ih  l3 l5 x3 l5 S4  h
def f_X10_richDay (c0 : Nat) (a1 : Int32) (S : St) : Option (Int32 × St) := bd (f_X10_in (Int32.toInt64 a1) (0 : Int64) (99 : Int64) S) fun x7 S8 => if x7 = 0 then some ((-1 : Int32), S8) else bd (f_X10_richWays c0 a1 (0 : Int32) S8) fun x11 S12 => f_X10_richDay_L26 FU c0 a1 (0 : Int32) x11 (1 : Int32) S12
set_option maxHeartbeats 4000000 in
set_option maxRecDepth 100000 in
theorem m_X10_richDay (l : Launch) {g : Gl} (hg : GOK g) {c0 : Nat} {a1 : Int32} {S : St} {r : Int32 × St} (h_c0 : kd g c0 = 10) (h : f_X10_richDay c0 a1 S = some r) : MW l yX10_richDay cX10_richDay 8 (some .int) rm_X10_richDay g S [.ref (ad g c0), .int a1] (QWi g r) := by
  refine startW [(0, .ref (ad g c0)), (1, .int a1)] (by decide +kernel) (Nat.le_of_ble_eq_true rfl) rfl hg (fun p e s m args below meth c cx => ?_)
  have cx : Cx p s m args meth c cX10_richDay 8 (some .int) RX10 g (Ap g) := cx
  rw [f_X10_richDay] at h
  refine wa_iload_n cx (i := 1) dX10_richDay_0 rfl rfl ?_
  refine wa_i2l cx dX10_richDay_1 ?_
  refine wa_lconst cx dX10_richDay_2 (0 : Int64) (by decide) ?_
  refine wa_ldc2 cx dX10_richDay_3 (99 : Int64) kc_X10_281 ?_
  obtain ⟨x7, S8, e9, h⟩ := bd_some h
  refine wa_callSi cx (m_X10_in l cx.2.2.2.2.2.2.1  e9) vl_X10_95 ⟨Nat.le_of_ble_eq_true rfl, Nat.le_of_ble_eq_true rfl⟩ ⟨rfl, rfl⟩ ⟨Nat.zero_le _, Nat.zero_le _⟩ rfl (Nat.le_of_ble_eq_true rfl) dX10_richDay_6 rfl ?_
  refine wa_if_ne cx dX10_richDay_9 14 (by decide) (fun q10 => ?_) (fun q10 => ?_)
  · rw [if_neg q10] at h
    refine wa_iconst cx dX10_richDay_14 (0 : Int32) (by decide) ?_
    refine wa_istore_n cx (i := 2) dX10_richDay_15 [(0, .ref (ad g c0)), (1, .int a1), (2, .int (0 : Int32))] rfl (Nat.le_of_ble_eq_true rfl) rfl (lvs_c rfl (lvs_c rfl (lvs_c rfl (lvs_n)))) ?_
    refine wa_aload_n cx (i := 0) dX10_richDay_16 rfl rfl ?_
    refine wa_iload_n cx (i := 1) dX10_richDay_17 rfl rfl ?_
    refine wa_iconst cx dX10_richDay_18 (0 : Int32) (by decide) ?_
    obtain ⟨x11, S12, e13, h⟩ := bd_some h
    refine wa_callVl cx (m_X10_richWays l cx.2.2.2.2.2.2.1 h_c0 e13) vl_X10_283 h_c0 (by decide) rfl rfl ⟨_, cell_eq10 (kd_lt h_c0 (by decide)).2⟩ ⟨Nat.le_of_ble_eq_true rfl, Nat.le_of_ble_eq_true rfl⟩ ⟨rfl, rfl⟩ ⟨Nat.zero_le _, Nat.zero_le _⟩ rfl (Nat.le_of_ble_eq_true rfl) dX10_richDay_19 rfl ?_
    refine wa_lstore_n cx (i := 3) dX10_richDay_22 [(0, .ref (ad g c0)), (1, .int a1), (2, .int (0 : Int32)), (3, .long x11)] rfl (Nat.le_of_ble_eq_true rfl) rfl (lvs_c rfl (lvs_c rfl (lvs_c rfl (lvs_c rfl (lvs_n))))) ?_
    refine wa_iconst cx dX10_richDay_23 (1 : Int32) (by decide) ?_
    refine wa_istore cx dX10_richDay_24 [(0, .ref (ad g c0)), (1, .int a1), (2, .int (0 : Int32)), (3, .long x11), (5, .int (1 : Int32))] (Nat.le_of_ble_eq_true rfl) rfl (lvs_c rfl (lvs_c rfl (lvs_c rfl (lvs_c rfl (lvs_c rfl (lvs_n)))))) ?_
    refine wa_sub (lv' := [(0, .ref (ad g c0)), (1, .int a1), (2, .int (0 : Int32)), (3, .long x11), (5, .int (1 : Int32))]) (lvs_c rfl (lvs_c rfl (lvs_c rfl (lvs_c rfl (lvs_c rfl (lvs_n)))))) ?_
    exact w_X10_richDay_L26 cx h_c0  FU (0 : Int32) x11 (1 : Int32) S12  h
  · rw [if_pos q10] at h
    refine wa_iconst cx dX10_richDay_12 (-1 : Int32) (by decide) ?_
    exact wa_iret cx h dX10_richDay_13
def rm_X10_two : Room := { frames := 5, cells := 0, slots := 0, locals := 126 }
def f_X10_two_J46 (c0 : Nat) (a1 : Int32) (k0 : Nat) (k1 : Int32) (S : St) : Option (Int64 × St) := bd (f_X10_waysOf k0 k1 S) fun x1 S2 => some (x1, S2)
set_option maxHeartbeats 4000000 in
set_option maxRecDepth 100000 in
theorem w_X10_two_J46 {p : Program} {l : Launch} {e : Env} {s : State} {m : MethodId} {args : Array Value} {below : List Frame} {meth : Method} {c : Code} {g : Gl} {r : Int64 × St} {c0 : Nat} {a1 : Int32} (cx : Cx p s m args meth c cX10_two 2 (some .long) RX10 g (Ap g)) (h_c0 : kd g c0 = 10) : ∀ (k0 : Nat) (k1 : Int32) (S : St), kd g k0 = 10 → f_X10_two_J46 c0 a1 k0 k1 S = some r → WA p l e rm_X10_two s m args below meth c 0 0 (MQ below (QWl g r) args s 0 0 (Ap g)) 2 g (Ap g) S 46 [] [.int k1, .ref (ad g k0)] := by
  intro k0 k1 S h_k0 h
  rw [f_X10_two_J46] at h
  obtain ⟨x1, S2, e3, h⟩ := bd_some h
  refine wa_callVl cx (m_X10_waysOf l cx.2.2.2.2.2.2.1 h_k0 e3) vl_X10_233 h_k0 (by decide) rfl rfl ⟨_, cell_eq10 (kd_lt h_k0 (by decide)).2⟩ ⟨Nat.le_of_ble_eq_true rfl, Nat.le_of_ble_eq_true rfl⟩ ⟨rfl, rfl⟩ ⟨Nat.zero_le _, Nat.zero_le _⟩ rfl (Nat.le_of_ble_eq_true rfl) dX10_two_46 rfl ?_
  exact wa_lret cx h dX10_two_49
def f_X10_two (c0 : Nat) (a1 : Int32) (S : St) : Option (Int64 × St) := bd (f_X10_in (Int32.toInt64 a1) (0 : Int64) (2 : Int64) S) fun x4 S5 => if x4 = 0 then some ((-1 : Int64), S5) else if (S5.1 (c0 + 2) (Int32.toNatClampNeg (8 : Int32))) = 0 then some ((-2 : Int64), S5) else bd (f_X10_plain c0 S5) fun _ S9 => if a1 = 0 then f_X10_two_J46 c0 a1 c0 (0 : Int32) S9 else f_X10_two_J46 c0 a1 c0 ((3 : Int32) + a1) S9
set_option maxHeartbeats 4000000 in
set_option maxRecDepth 100000 in
theorem m_X10_two (l : Launch) {g : Gl} (hg : GOK g) {c0 : Nat} {a1 : Int32} {S : St} {r : Int64 × St} (h_c0 : kd g c0 = 10) (h : f_X10_two c0 a1 S = some r) : MW l yX10_two cX10_two 2 (some .long) rm_X10_two g S [.ref (ad g c0), .int a1] (QWl g r) := by
  refine startW [(0, .ref (ad g c0)), (1, .int a1)] (by decide +kernel) (Nat.le_of_ble_eq_true rfl) rfl hg (fun p e s m args below meth c cx => ?_)
  have cx : Cx p s m args meth c cX10_two 2 (some .long) RX10 g (Ap g) := cx
  rw [f_X10_two] at h
  refine wa_iload_n cx (i := 1) dX10_two_0 rfl rfl ?_
  refine wa_i2l cx dX10_two_1 ?_
  refine wa_lconst cx dX10_two_2 (0 : Int64) (by decide) ?_
  refine wa_ldc2 cx dX10_two_3 (2 : Int64) kc_X10_190 ?_
  obtain ⟨x4, S5, e6, h⟩ := bd_some h
  refine wa_callSi cx (m_X10_in l cx.2.2.2.2.2.2.1  e6) vl_X10_95 ⟨Nat.le_of_ble_eq_true rfl, Nat.le_of_ble_eq_true rfl⟩ ⟨rfl, rfl⟩ ⟨Nat.zero_le _, Nat.zero_le _⟩ rfl (Nat.le_of_ble_eq_true rfl) dX10_two_6 rfl ?_
  refine wa_if_ne cx dX10_two_9 16 (by decide) (fun q7 => ?_) (fun q7 => ?_)
  · rw [if_neg q7] at h
    refine wa_aload_n cx (i := 0) dX10_two_16 rfl rfl ?_
    refine gf_X10_13 cx h_c0 dX10_two_17 ?_
    refine wa_bipush cx dX10_two_20 (8 : Int32) (by decide) ?_
    refine wa_iald cx dX10_two_22 (kq10_2 cx.2.2.2.2.2.2.1 h_c0) (vinl (by decide)) ?_
    refine wa_if_ne cx dX10_two_23 30 (by decide) (fun q8 => ?_) (fun q8 => ?_)
    · rw [if_neg q8] at h
      refine wa_aload_n cx (i := 0) dX10_two_30 rfl rfl ?_
      obtain ⟨u11, S9, e10, h⟩ := bd_some h
      refine wa_callVv cx (m_X10_plain l cx.2.2.2.2.2.2.1 h_c0 e10) vl_X10_151 h_c0 (by decide) rfl rfl ⟨_, cell_eq10 (kd_lt h_c0 (by decide)).2⟩ ⟨Nat.le_of_ble_eq_true rfl, Nat.le_of_ble_eq_true rfl⟩ ⟨rfl, rfl⟩ ⟨Nat.zero_le _, Nat.zero_le _⟩ rfl (Nat.le_of_ble_eq_true rfl) dX10_two_31 rfl ?_
      refine wa_aload_n cx (i := 0) dX10_two_34 rfl rfl ?_
      refine wa_iload_n cx (i := 1) dX10_two_35 rfl rfl ?_
      refine wa_if_ne cx dX10_two_36 43 (by decide) (fun q12 => ?_) (fun q12 => ?_)
      · rw [if_neg q12] at h
        refine wa_iconst cx dX10_two_43 (3 : Int32) (by decide) ?_
        refine wa_iload_n cx (i := 1) dX10_two_44 rfl rfl ?_
        refine wa_iadd cx dX10_two_45 ?_
        refine wa_sub (lv' := []) (lvs_n) ?_
        exact w_X10_two_J46 cx h_c0   c0 ((3 : Int32) + a1) S9 h_c0 h
      · rw [if_pos q12] at h
        refine wa_iconst cx dX10_two_39 (0 : Int32) (by decide) ?_
        refine wa_goto cx dX10_two_40 46 (by decide) ?_
        refine wa_sub (lv' := []) (lvs_n) ?_
        exact w_X10_two_J46 cx h_c0   c0 (0 : Int32) S9 h_c0 h
    · rw [if_pos q8] at h
      refine wa_ldc2 cx dX10_two_26 (-2 : Int64) kc_X10_286 ?_
      exact wa_lret cx h dX10_two_29
  · rw [if_pos q7] at h
    refine wa_ldc2 cx dX10_two_12 (-1 : Int64) kc_X10_231 ?_
    exact wa_lret cx h dX10_two_15
def rm_X10_goEvening : Room := { frames := 3, cells := 0, slots := 0, locals := 73 }
def f_X10_goEvening_L77 : Nat → Nat → Int32 → (Int32 → St → Option (Unit × St)) → Int32 → Int32 → Int32 → Int32 → Int32 → St → Option (Unit × St)
  | 0, _, _, _, _, _, _, _, _, _ => none
  | n + 1, c0, a1, kb10, l2, l3, l6, l7, l8, S => if l6 < l8 then ob l7 36 (ob l3 8 (sq (pI S (c0 + 19) (Int32.toNatClampNeg l3) (S.1 (c0 + 11) (Int32.toNatClampNeg l7))) fun S4 => kb10 (l2 + (1 : Int32)) S4)) else ob (l7 + (1 : Int32)) 36 (sq (l8 + (S.1 (c0 + 12) (Int32.toNatClampNeg (l7 + (1 : Int32))))) fun x6 => f_X10_goEvening_L77 n c0 a1 kb10 l2 l3 l6 (l7 + (1 : Int32)) x6 S)
set_option maxHeartbeats 4000000 in
set_option maxRecDepth 100000 in
theorem w_X10_goEvening_L77 {p : Program} {l : Launch} {e : Env} {s : State} {m : MethodId} {args : Array Value} {below : List Frame} {meth : Method} {c : Code} {g : Gl} {r : Unit × St} {c0 : Nat} {a1 : Int32} {kb10 : Int32 → St → Option (Unit × St)} (cx : Cx p s m args meth c cX10_goEvening 9 none RX10 g (Ap g)) (h_c0 : kd g c0 = 10) (hkb10 : ∀ (l2 : Int32) (S : St), kb10 l2 S = some r → WA p l e rm_X10_goEvening s m args below meth c 0 0 (MQ below (QWv g r) args s 0 0 (Ap g)) 9 g (Ap g) S 10 [(0, .ref (ad g c0)), (1, .int a1), (2, .int l2)] []) : ∀ n : Nat, ∀ (l2 : Int32) (l3 : Int32) (l6 : Int32) (l7 : Int32) (l8 : Int32) (S : St), f_X10_goEvening_L77 n c0 a1 kb10 l2 l3 l6 l7 l8 S = some r → WA p l e rm_X10_goEvening s m args below meth c 0 0 (MQ below (QWv g r) args s 0 0 (Ap g)) 9 g (Ap g) S 77 [(0, .ref (ad g c0)), (1, .int a1), (2, .int l2), (3, .int l3), (6, .int l6), (7, .int l7), (8, .int l8)] [] := by
  intro n
  induction n with
  | zero => intro l2 l3 l6 l7 l8 S h; rw [f_X10_goEvening_L77] at h; cases h
  | succ n ih =>
    intro l2 l3 l6 l7 l8 S h
    rw [f_X10_goEvening_L77] at h
    refine wa_iload cx dX10_goEvening_77 rfl ?_
    refine wa_iload cx dX10_goEvening_79 rfl ?_
    refine wa_icmp_gt cx dX10_goEvening_81 102 (by decide) (fun q1 => ?_) (fun q1 => ?_)
    · rw [if_pos q1] at h
      refine wa_aload_n cx (i := 0) dX10_goEvening_102 rfl rfl ?_
      refine gf_X10_64 cx h_c0 dX10_goEvening_103 ?_
      refine wa_iload_n cx (i := 3) dX10_goEvening_106 rfl rfl ?_
      refine wa_aload_n cx (i := 0) dX10_goEvening_107 rfl rfl ?_
      refine gf_X10_40 cx h_c0 dX10_goEvening_108 ?_
      refine wa_iload cx dX10_goEvening_111 rfl ?_
      obtain ⟨b2, h⟩ := ob_some h
      refine wa_iald cx dX10_goEvening_113 (kq10_11 cx.2.2.2.2.2.2.1 h_c0) b2 ?_
      obtain ⟨b3, h⟩ := ob_some h
      refine wa_iast cx dX10_goEvening_114 (kq10_29 cx.2.2.2.2.2.2.1 h_c0) b3 ?_
      replace h := sq_eq h
      generalize (pI S (c0 + 19) (Int32.toNatClampNeg l3) (S.1 (c0 + 11) (Int32.toNatClampNeg l7))) = S4 at h ⊢
      refine wa_iinc cx dX10_goEvening_115 (l2 + (1 : Int32)) [(0, .ref (ad g c0)), (1, .int a1), (2, .int (l2 + (1 : Int32)))] rfl rfl (Nat.le_of_ble_eq_true rfl) rfl (lvs_c rfl (lvs_c rfl (lvs_c rfl (lvs_n)))) ?_
      refine wa_goto cx dX10_goEvening_118 10 (by decide) ?_
      refine wa_sub (lv' := [(0, .ref (ad g c0)), (1, .int a1), (2, .int (l2 + (1 : Int32)))]) (lvs_c rfl (lvs_c rfl (lvs_c rfl (lvs_n)))) ?_
      exact hkb10 (l2 + (1 : Int32)) S4  h
    · rw [if_neg q1] at h
      refine wa_iinc cx dX10_goEvening_84 (l7 + (1 : Int32)) [(0, .ref (ad g c0)), (1, .int a1), (2, .int l2), (3, .int l3), (6, .int l6), (7, .int (l7 + (1 : Int32))), (8, .int l8)] rfl rfl (Nat.le_of_ble_eq_true rfl) rfl (lvs_c rfl (lvs_c rfl (lvs_c rfl (lvs_c rfl (lvs_c rfl (lvs_c rfl (lvs_c rfl (lvs_n)))))))) ?_
      refine wa_iload cx dX10_goEvening_87 rfl ?_
      refine wa_aload_n cx (i := 0) dX10_goEvening_89 rfl rfl ?_
      refine gf_X10_43 cx h_c0 dX10_goEvening_90 ?_
      refine wa_iload cx dX10_goEvening_93 rfl ?_
      obtain ⟨b5, h⟩ := ob_some h
      refine wa_iald cx dX10_goEvening_95 (kq10_12 cx.2.2.2.2.2.2.1 h_c0) b5 ?_
      refine wa_iadd cx dX10_goEvening_96 ?_
      replace h := sq_eq h
      generalize (l8 + (S.1 (c0 + 12) (Int32.toNatClampNeg (l7 + (1 : Int32))))) = x6 at h ⊢
      refine wa_istore cx dX10_goEvening_97 [(0, .ref (ad g c0)), (1, .int a1), (2, .int l2), (3, .int l3), (6, .int l6), (7, .int (l7 + (1 : Int32))), (8, .int x6)] (Nat.le_of_ble_eq_true rfl) rfl (lvs_c rfl (lvs_c rfl (lvs_c rfl (lvs_c rfl (lvs_c rfl (lvs_c rfl (lvs_c rfl (lvs_n)))))))) ?_
      refine wa_goto cx dX10_goEvening_99 77 (by decide) ?_
      refine wa_sub (lv' := [(0, .ref (ad g c0)), (1, .int a1), (2, .int l2), (3, .int l3), (6, .int l6), (7, .int (l7 + (1 : Int32))), (8, .int x6)]) (lvs_c rfl (lvs_c rfl (lvs_c rfl (lvs_c rfl (lvs_c rfl (lvs_c rfl (lvs_c rfl (lvs_n)))))))) ?_
      exact ih l2 l3 l6 (l7 + (1 : Int32)) x6 S  h
def f_X10_goEvening_L10 : Nat → Nat → Int32 → Int32 → St → Option (Unit × St)
  | 0, _, _, _, _ => none
  | n + 1, c0, a1, l2, S => if (S.1 c0 27) ≤ l2 then bd (f_X10_goAll c0 S) fun _ S8 => some ((), S8) else ob l2 8 (sq (S.1 (c0 + 18) (Int32.toNatClampNeg l2)) fun x12 => sq ((((7919 : Int64) * (Int32.toInt64 a1)) + ((6151 : Int64) * (Int32.toInt64 x12))) + (1 : Int64)) fun x13 => sq (Int64.toInt32 (((x13 * x13) - (x13 * x13) / (65521 : Int64) * (65521 : Int64)) - ((x13 * x13) - (x13 * x13) / (65521 : Int64) * (65521 : Int64)) / (10 : Int64) * (10 : Int64))) fun x14 => ob x12 8 (sq ((3 : Int32) * (S.1 (c0 + 13) (Int32.toNatClampNeg x12))) fun x16 => ob x16 36 (sq (S.1 (c0 + 12) (Int32.toNatClampNeg x16)) fun x18 => f_X10_goEvening_L77 FU c0 a1 (fun l2 S => f_X10_goEvening_L10 n c0 a1 l2 S) l2 x12 x14 x16 x18 S)))
set_option maxHeartbeats 4000000 in
set_option maxRecDepth 100000 in
theorem w_X10_goEvening_L10 {p : Program} {l : Launch} {e : Env} {s : State} {m : MethodId} {args : Array Value} {below : List Frame} {meth : Method} {c : Code} {g : Gl} {r : Unit × St} {c0 : Nat} {a1 : Int32} (cx : Cx p s m args meth c cX10_goEvening 9 none RX10 g (Ap g)) (h_c0 : kd g c0 = 10) : ∀ n : Nat, ∀ (l2 : Int32) (S : St), f_X10_goEvening_L10 n c0 a1 l2 S = some r → WA p l e rm_X10_goEvening s m args below meth c 0 0 (MQ below (QWv g r) args s 0 0 (Ap g)) 9 g (Ap g) S 10 [(0, .ref (ad g c0)), (1, .int a1), (2, .int l2)] [] := by
  intro n
  induction n with
  | zero => intro l2 S h; rw [f_X10_goEvening_L10] at h; cases h
  | succ n ih =>
    intro l2 S h
    rw [f_X10_goEvening_L10] at h
    refine wa_iload_n cx (i := 2) dX10_goEvening_10 rfl rfl ?_
    refine wa_aload_n cx (i := 0) dX10_goEvening_11 rfl rfl ?_
    refine gf_X10_175 cx h_c0 dX10_goEvening_12 ?_
    refine wa_icmp_ge cx dX10_goEvening_15 121 (by decide) (fun q7 => ?_) (fun q7 => ?_)
    · rw [if_pos q7] at h
      refine wa_aload_n cx (i := 0) dX10_goEvening_121 rfl rfl ?_
      obtain ⟨u10, S8, e9, h⟩ := bd_some h
      refine wa_callVv cx (m_X10_goAll l cx.2.2.2.2.2.2.1 h_c0 e9) vl_X10_215 h_c0 (by decide) rfl rfl ⟨_, cell_eq10 (kd_lt h_c0 (by decide)).2⟩ ⟨Nat.le_of_ble_eq_true rfl, Nat.le_of_ble_eq_true rfl⟩ ⟨rfl, rfl⟩ ⟨Nat.zero_le _, Nat.zero_le _⟩ rfl (Nat.le_of_ble_eq_true rfl) dX10_goEvening_122 rfl ?_
      exact wa_vret cx h dX10_goEvening_125
    · rw [if_neg q7] at h
      refine wa_aload_n cx (i := 0) dX10_goEvening_18 rfl rfl ?_
      refine gf_X10_61 cx h_c0 dX10_goEvening_19 ?_
      refine wa_iload_n cx (i := 2) dX10_goEvening_22 rfl rfl ?_
      obtain ⟨b11, h⟩ := ob_some h
      refine wa_iald cx dX10_goEvening_23 (kq10_28 cx.2.2.2.2.2.2.1 h_c0) b11 ?_
      replace h := sq_eq h
      generalize (S.1 (c0 + 18) (Int32.toNatClampNeg l2)) = x12 at h ⊢
      refine wa_istore_n cx (i := 3) dX10_goEvening_24 [(0, .ref (ad g c0)), (1, .int a1), (2, .int l2), (3, .int x12)] rfl (Nat.le_of_ble_eq_true rfl) rfl (lvs_c rfl (lvs_c rfl (lvs_c rfl (lvs_c rfl (lvs_n))))) ?_
      refine wa_ldc2 cx dX10_goEvening_25 (7919 : Int64) kc_X10_288 ?_
      refine wa_iload_n cx (i := 1) dX10_goEvening_28 rfl rfl ?_
      refine wa_i2l cx dX10_goEvening_29 ?_
      refine wa_lmul cx dX10_goEvening_30 ?_
      refine wa_ldc2 cx dX10_goEvening_31 (6151 : Int64) kc_X10_290 ?_
      refine wa_iload_n cx (i := 3) dX10_goEvening_34 rfl rfl ?_
      refine wa_i2l cx dX10_goEvening_35 ?_
      refine wa_lmul cx dX10_goEvening_36 ?_
      refine wa_ladd cx dX10_goEvening_37 ?_
      refine wa_lconst cx dX10_goEvening_38 (1 : Int64) (by decide) ?_
      refine wa_ladd cx dX10_goEvening_39 ?_
      replace h := sq_eq h
      generalize ((((7919 : Int64) * (Int32.toInt64 a1)) + ((6151 : Int64) * (Int32.toInt64 x12))) + (1 : Int64)) = x13 at h ⊢
      refine wa_lstore cx dX10_goEvening_40 [(0, .ref (ad g c0)), (1, .int a1), (2, .int l2), (3, .int x12), (4, .long x13)] (Nat.le_of_ble_eq_true rfl) rfl (lvs_c rfl (lvs_c rfl (lvs_c rfl (lvs_c rfl (lvs_c rfl (lvs_n)))))) ?_
      refine wa_lload cx dX10_goEvening_42 rfl ?_
      refine wa_lload cx dX10_goEvening_44 rfl ?_
      refine wa_lmul cx dX10_goEvening_46 ?_
      refine wa_ldc2 cx dX10_goEvening_47 (65521 : Int64) kc_X10_292 ?_
      refine wa_lrem cx dX10_goEvening_50 (by decide) ?_
      refine wa_ldc2 cx dX10_goEvening_51 (10 : Int64) kc_X10_126 ?_
      refine wa_lrem cx dX10_goEvening_54 (by decide) ?_
      refine wa_l2i cx dX10_goEvening_55 ?_
      replace h := sq_eq h
      generalize (Int64.toInt32 (((x13 * x13) - (x13 * x13) / (65521 : Int64) * (65521 : Int64)) - ((x13 * x13) - (x13 * x13) / (65521 : Int64) * (65521 : Int64)) / (10 : Int64) * (10 : Int64))) = x14 at h ⊢
      refine wa_istore cx dX10_goEvening_56 [(0, .ref (ad g c0)), (1, .int a1), (2, .int l2), (3, .int x12), (6, .int x14)] (Nat.le_of_ble_eq_true rfl) rfl (lvs_c rfl (lvs_c rfl (lvs_c rfl (lvs_c rfl (lvs_c rfl (lvs_n)))))) ?_
      refine wa_iconst cx dX10_goEvening_58 (3 : Int32) (by decide) ?_
      refine wa_aload_n cx (i := 0) dX10_goEvening_59 rfl rfl ?_
      refine gf_X10_46 cx h_c0 dX10_goEvening_60 ?_
      refine wa_iload_n cx (i := 3) dX10_goEvening_63 rfl rfl ?_
      obtain ⟨b15, h⟩ := ob_some h
      refine wa_iald cx dX10_goEvening_64 (kq10_14 cx.2.2.2.2.2.2.1 h_c0) b15 ?_
      refine wa_imul cx dX10_goEvening_65 ?_
      replace h := sq_eq h
      generalize ((3 : Int32) * (S.1 (c0 + 13) (Int32.toNatClampNeg x12))) = x16 at h ⊢
      refine wa_istore cx dX10_goEvening_66 [(0, .ref (ad g c0)), (1, .int a1), (2, .int l2), (3, .int x12), (6, .int x14), (7, .int x16)] (Nat.le_of_ble_eq_true rfl) rfl (lvs_c rfl (lvs_c rfl (lvs_c rfl (lvs_c rfl (lvs_c rfl (lvs_c rfl (lvs_n))))))) ?_
      refine wa_aload_n cx (i := 0) dX10_goEvening_68 rfl rfl ?_
      refine gf_X10_43 cx h_c0 dX10_goEvening_69 ?_
      refine wa_iload cx dX10_goEvening_72 rfl ?_
      obtain ⟨b17, h⟩ := ob_some h
      refine wa_iald cx dX10_goEvening_74 (kq10_12 cx.2.2.2.2.2.2.1 h_c0) b17 ?_
      replace h := sq_eq h
      generalize (S.1 (c0 + 12) (Int32.toNatClampNeg x16)) = x18 at h ⊢
      refine wa_istore cx dX10_goEvening_75 [(0, .ref (ad g c0)), (1, .int a1), (2, .int l2), (3, .int x12), (6, .int x14), (7, .int x16), (8, .int x18)] (Nat.le_of_ble_eq_true rfl) rfl (lvs_c rfl (lvs_c rfl (lvs_c rfl (lvs_c rfl (lvs_c rfl (lvs_c rfl (lvs_c rfl (lvs_n)))))))) ?_
      refine wa_sub (lv' := [(0, .ref (ad g c0)), (1, .int a1), (2, .int l2), (3, .int x12), (6, .int x14), (7, .int x16), (8, .int x18)]) (lvs_c rfl (lvs_c rfl (lvs_c rfl (lvs_c rfl (lvs_c rfl (lvs_c rfl (lvs_c rfl (lvs_n)))))))) ?_
      exact w_X10_goEvening_L77 cx h_c0 ih FU l2 x12 x14 x16 x18 S  h
def f_X10_goEvening (c0 : Nat) (a1 : Int32) (S : St) : Option (Unit × St) := bd (f_X10_plain c0 S) fun _ S19 => bd (f_X10_layOrder c0 S19) fun _ S22 => f_X10_goEvening_L10 FU c0 a1 (0 : Int32) S22
set_option maxHeartbeats 4000000 in
set_option maxRecDepth 100000 in
theorem m_X10_goEvening (l : Launch) {g : Gl} (hg : GOK g) {c0 : Nat} {a1 : Int32} {S : St} {r : Unit × St} (h_c0 : kd g c0 = 10) (h : f_X10_goEvening c0 a1 S = some r) : MW l yX10_goEvening cX10_goEvening 9 none rm_X10_goEvening g S [.ref (ad g c0), .int a1] (QWv g r) := by
  refine startW [(0, .ref (ad g c0)), (1, .int a1)] (by decide +kernel) (Nat.le_of_ble_eq_true rfl) rfl hg (fun p e s m args below meth c cx => ?_)
  have cx : Cx p s m args meth c cX10_goEvening 9 none RX10 g (Ap g) := cx
  rw [f_X10_goEvening] at h
  refine wa_aload_n cx (i := 0) dX10_goEvening_0 rfl rfl ?_
  obtain ⟨u21, S19, e20, h⟩ := bd_some h
  refine wa_callVv cx (m_X10_plain l cx.2.2.2.2.2.2.1 h_c0 e20) vl_X10_151 h_c0 (by decide) rfl rfl ⟨_, cell_eq10 (kd_lt h_c0 (by decide)).2⟩ ⟨Nat.le_of_ble_eq_true rfl, Nat.le_of_ble_eq_true rfl⟩ ⟨rfl, rfl⟩ ⟨Nat.zero_le _, Nat.zero_le _⟩ rfl (Nat.le_of_ble_eq_true rfl) dX10_goEvening_1 rfl ?_
  refine wa_aload_n cx (i := 0) dX10_goEvening_4 rfl rfl ?_
  obtain ⟨u24, S22, e23, h⟩ := bd_some h
  refine wa_callVv cx (m_X10_layOrder l cx.2.2.2.2.2.2.1 h_c0 e23) vl_X10_184 h_c0 (by decide) rfl rfl ⟨_, cell_eq10 (kd_lt h_c0 (by decide)).2⟩ ⟨Nat.le_of_ble_eq_true rfl, Nat.le_of_ble_eq_true rfl⟩ ⟨rfl, rfl⟩ ⟨Nat.zero_le _, Nat.zero_le _⟩ rfl (Nat.le_of_ble_eq_true rfl) dX10_goEvening_5 rfl ?_
  refine wa_iconst cx dX10_goEvening_8 (0 : Int32) (by decide) ?_
  refine wa_istore_n cx (i := 2) dX10_goEvening_9 [(0, .ref (ad g c0)), (1, .int a1), (2, .int (0 : Int32))] rfl (Nat.le_of_ble_eq_true rfl) rfl (lvs_c rfl (lvs_c rfl (lvs_c rfl (lvs_n)))) ?_
  refine wa_sub (lv' := [(0, .ref (ad g c0)), (1, .int a1), (2, .int (0 : Int32))]) (lvs_c rfl (lvs_c rfl (lvs_c rfl (lvs_n)))) ?_
  exact w_X10_goEvening_L10 cx h_c0  FU (0 : Int32) S22  h
def rm_X10_evening : Room := { frames := 4, cells := 0, slots := 0, locals := 101 }
def f_X10_evening (c0 : Nat) (a1 : Int32) (a2 : Int32) (a3 : Int32) (S : St) : Option (Int32 × St) := bd (f_X10_in (Int32.toInt64 a1) (0 : Int64) (9999 : Int64) S) fun x1 S2 => if x1 = 0 then some ((-1001 : Int32), S2) else bd (f_X10_isGiver c0 a2 S2) fun x5 S6 => if x5 = 0 then some ((-1001 : Int32), S6) else bd (f_X10_in (Int32.toInt64 a3) (0 : Int64) (1 : Int64) S6) fun x9 S10 => if x9 = 0 then some ((-1001 : Int32), S10) else bd (f_X10_goEvening c0 a1 S10) fun _ S13 => bd (f_X10_placeOf c0 a2 S13) fun x16 S17 => if x16 = (-4 : Int32) then some ((-1004 : Int32), S17) else if a3 = 0 then ob a2 8 (some ((S17.1 (c0 + 20) (Int32.toNatClampNeg a2)), S17)) else bd (f_X10_hasOf c0 a2 S17) fun x21 S22 => some (x21, S22)
set_option maxHeartbeats 4000000 in
set_option maxRecDepth 100000 in
theorem m_X10_evening (l : Launch) {g : Gl} (hg : GOK g) {c0 : Nat} {a1 : Int32} {a2 : Int32} {a3 : Int32} {S : St} {r : Int32 × St} (h_c0 : kd g c0 = 10) (h : f_X10_evening c0 a1 a2 a3 S = some r) : MW l yX10_evening cX10_evening 4 (some .int) rm_X10_evening g S [.ref (ad g c0), .int a1, .int a2, .int a3] (QWi g r) := by
  refine startW [(0, .ref (ad g c0)), (1, .int a1), (2, .int a2), (3, .int a3)] (by decide +kernel) (Nat.le_of_ble_eq_true rfl) rfl hg (fun p e s m args below meth c cx => ?_)
  have cx : Cx p s m args meth c cX10_evening 4 (some .int) RX10 g (Ap g) := cx
  rw [f_X10_evening] at h
  refine wa_iload_n cx (i := 1) dX10_evening_0 rfl rfl ?_
  refine wa_i2l cx dX10_evening_1 ?_
  refine wa_lconst cx dX10_evening_2 (0 : Int64) (by decide) ?_
  refine wa_ldc2 cx dX10_evening_3 (9999 : Int64) kc_X10_294 ?_
  obtain ⟨x1, S2, e3, h⟩ := bd_some h
  refine wa_callSi cx (m_X10_in l cx.2.2.2.2.2.2.1  e3) vl_X10_95 ⟨Nat.le_of_ble_eq_true rfl, Nat.le_of_ble_eq_true rfl⟩ ⟨rfl, rfl⟩ ⟨Nat.zero_le _, Nat.zero_le _⟩ rfl (Nat.le_of_ble_eq_true rfl) dX10_evening_6 rfl ?_
  refine wa_if_eq cx dX10_evening_9 30 (by decide) (fun q4 => ?_) (fun q4 => ?_)
  · rw [if_pos q4] at h
    refine wa_sipush cx dX10_evening_30 (-1001 : Int32) (by decide) ?_
    exact wa_iret cx h dX10_evening_33
  · rw [if_neg q4] at h
    refine wa_aload_n cx (i := 0) dX10_evening_12 rfl rfl ?_
    refine wa_iload_n cx (i := 2) dX10_evening_13 rfl rfl ?_
    obtain ⟨x5, S6, e7, h⟩ := bd_some h
    refine wa_callVi cx (m_X10_isGiver l cx.2.2.2.2.2.2.1 h_c0 e7) vl_X10_181 h_c0 (by decide) rfl rfl ⟨_, cell_eq10 (kd_lt h_c0 (by decide)).2⟩ ⟨Nat.le_of_ble_eq_true rfl, Nat.le_of_ble_eq_true rfl⟩ ⟨rfl, rfl⟩ ⟨Nat.zero_le _, Nat.zero_le _⟩ rfl (Nat.le_of_ble_eq_true rfl) dX10_evening_14 rfl ?_
    refine wa_if_eq cx dX10_evening_17 30 (by decide) (fun q8 => ?_) (fun q8 => ?_)
    · rw [if_pos q8] at h
      refine wa_sipush cx dX10_evening_30 (-1001 : Int32) (by decide) ?_
      exact wa_iret cx h dX10_evening_33
    · rw [if_neg q8] at h
      refine wa_iload_n cx (i := 3) dX10_evening_20 rfl rfl ?_
      refine wa_i2l cx dX10_evening_21 ?_
      refine wa_lconst cx dX10_evening_22 (0 : Int64) (by decide) ?_
      refine wa_lconst cx dX10_evening_23 (1 : Int64) (by decide) ?_
      obtain ⟨x9, S10, e11, h⟩ := bd_some h
      refine wa_callSi cx (m_X10_in l cx.2.2.2.2.2.2.1  e11) vl_X10_95 ⟨Nat.le_of_ble_eq_true rfl, Nat.le_of_ble_eq_true rfl⟩ ⟨rfl, rfl⟩ ⟨Nat.zero_le _, Nat.zero_le _⟩ rfl (Nat.le_of_ble_eq_true rfl) dX10_evening_24 rfl ?_
      refine wa_if_ne cx dX10_evening_27 34 (by decide) (fun q12 => ?_) (fun q12 => ?_)
      · rw [if_neg q12] at h
        refine wa_aload_n cx (i := 0) dX10_evening_34 rfl rfl ?_
        refine wa_iload_n cx (i := 1) dX10_evening_35 rfl rfl ?_
        obtain ⟨u15, S13, e14, h⟩ := bd_some h
        refine wa_callVv cx (m_X10_goEvening l cx.2.2.2.2.2.2.1 h_c0 e14) vl_X10_296 h_c0 (by decide) rfl rfl ⟨_, cell_eq10 (kd_lt h_c0 (by decide)).2⟩ ⟨Nat.le_of_ble_eq_true rfl, Nat.le_of_ble_eq_true rfl⟩ ⟨rfl, rfl⟩ ⟨Nat.zero_le _, Nat.zero_le _⟩ rfl (Nat.le_of_ble_eq_true rfl) dX10_evening_36 rfl ?_
        refine wa_aload_n cx (i := 0) dX10_evening_39 rfl rfl ?_
        refine wa_iload_n cx (i := 2) dX10_evening_40 rfl rfl ?_
        obtain ⟨x16, S17, e18, h⟩ := bd_some h
        refine wa_callVi cx (m_X10_placeOf l cx.2.2.2.2.2.2.1 h_c0 e18) vl_X10_187 h_c0 (by decide) rfl rfl ⟨_, cell_eq10 (kd_lt h_c0 (by decide)).2⟩ ⟨Nat.le_of_ble_eq_true rfl, Nat.le_of_ble_eq_true rfl⟩ ⟨rfl, rfl⟩ ⟨Nat.zero_le _, Nat.zero_le _⟩ rfl (Nat.le_of_ble_eq_true rfl) dX10_evening_41 rfl ?_
        refine wa_bipush cx dX10_evening_44 (-4 : Int32) (by decide) ?_
        refine wa_icmp_ne cx dX10_evening_46 53 (by decide) (fun q19 => ?_) (fun q19 => ?_)
        · rw [if_neg q19] at h
          refine wa_iload_n cx (i := 3) dX10_evening_53 rfl rfl ?_
          refine wa_if_ne cx dX10_evening_54 66 (by decide) (fun q20 => ?_) (fun q20 => ?_)
          · rw [if_neg q20] at h
            refine wa_aload_n cx (i := 0) dX10_evening_66 rfl rfl ?_
            refine wa_iload_n cx (i := 2) dX10_evening_67 rfl rfl ?_
            obtain ⟨x21, S22, e23, h⟩ := bd_some h
            refine wa_callVi cx (m_X10_hasOf l cx.2.2.2.2.2.2.1 h_c0 e23) vl_X10_248 h_c0 (by decide) rfl rfl ⟨_, cell_eq10 (kd_lt h_c0 (by decide)).2⟩ ⟨Nat.le_of_ble_eq_true rfl, Nat.le_of_ble_eq_true rfl⟩ ⟨rfl, rfl⟩ ⟨Nat.zero_le _, Nat.zero_le _⟩ rfl (Nat.le_of_ble_eq_true rfl) dX10_evening_68 rfl ?_
            exact wa_iret cx h dX10_evening_71
          · rw [if_pos q20] at h
            refine wa_aload_n cx (i := 0) dX10_evening_57 rfl rfl ?_
            refine gf_X10_67 cx h_c0 dX10_evening_58 ?_
            refine wa_iload_n cx (i := 2) dX10_evening_61 rfl rfl ?_
            obtain ⟨b24, h⟩ := ob_some h
            refine wa_iald cx dX10_evening_62 (kq10_30 cx.2.2.2.2.2.2.1 h_c0) b24 ?_
            refine wa_goto cx dX10_evening_63 71 (by decide) ?_
            exact wa_iret cx h dX10_evening_71
        · rw [if_pos q19] at h
          refine wa_sipush cx dX10_evening_49 (-1004 : Int32) (by decide) ?_
          exact wa_iret cx h dX10_evening_52
      · rw [if_pos q12] at h
        refine wa_sipush cx dX10_evening_30 (-1001 : Int32) (by decide) ?_
        exact wa_iret cx h dX10_evening_33
def rm_X10_whole : Room := { frames := 4, cells := 0, slots := 0, locals := 101 }
def f_X10_whole (c0 : Nat) (a1 : Int32) (a2 : Int32) (S : St) : Option (Int32 × St) := bd (f_X10_in (Int32.toInt64 a1) (0 : Int64) (9999 : Int64) S) fun x1 S2 => if x1 = 0 then some ((-1 : Int32), S2) else bd (f_X10_in (Int32.toInt64 a2) (0 : Int64) (1 : Int64) S2) fun x5 S6 => if x5 = 0 then some ((-1 : Int32), S6) else bd (f_X10_goEvening c0 a1 S6) fun _ S9 => if a2 = 0 then some ((S9.1 c0 32), S9) else bd (f_X10_isBuilt c0 S9) fun x13 S14 => if x13 = 0 then some ((0 : Int32), S14) else some ((1 : Int32), S14)
set_option maxHeartbeats 4000000 in
set_option maxRecDepth 100000 in
theorem m_X10_whole (l : Launch) {g : Gl} (hg : GOK g) {c0 : Nat} {a1 : Int32} {a2 : Int32} {S : St} {r : Int32 × St} (h_c0 : kd g c0 = 10) (h : f_X10_whole c0 a1 a2 S = some r) : MW l yX10_whole cX10_whole 3 (some .int) rm_X10_whole g S [.ref (ad g c0), .int a1, .int a2] (QWi g r) := by
  refine startW [(0, .ref (ad g c0)), (1, .int a1), (2, .int a2)] (by decide +kernel) (Nat.le_of_ble_eq_true rfl) rfl hg (fun p e s m args below meth c cx => ?_)
  have cx : Cx p s m args meth c cX10_whole 3 (some .int) RX10 g (Ap g) := cx
  rw [f_X10_whole] at h
  refine wa_iload_n cx (i := 1) dX10_whole_0 rfl rfl ?_
  refine wa_i2l cx dX10_whole_1 ?_
  refine wa_lconst cx dX10_whole_2 (0 : Int64) (by decide) ?_
  refine wa_ldc2 cx dX10_whole_3 (9999 : Int64) kc_X10_294 ?_
  obtain ⟨x1, S2, e3, h⟩ := bd_some h
  refine wa_callSi cx (m_X10_in l cx.2.2.2.2.2.2.1  e3) vl_X10_95 ⟨Nat.le_of_ble_eq_true rfl, Nat.le_of_ble_eq_true rfl⟩ ⟨rfl, rfl⟩ ⟨Nat.zero_le _, Nat.zero_le _⟩ rfl (Nat.le_of_ble_eq_true rfl) dX10_whole_6 rfl ?_
  refine wa_if_eq cx dX10_whole_9 22 (by decide) (fun q4 => ?_) (fun q4 => ?_)
  · rw [if_pos q4] at h
    refine wa_iconst cx dX10_whole_22 (-1 : Int32) (by decide) ?_
    exact wa_iret cx h dX10_whole_23
  · rw [if_neg q4] at h
    refine wa_iload_n cx (i := 2) dX10_whole_12 rfl rfl ?_
    refine wa_i2l cx dX10_whole_13 ?_
    refine wa_lconst cx dX10_whole_14 (0 : Int64) (by decide) ?_
    refine wa_lconst cx dX10_whole_15 (1 : Int64) (by decide) ?_
    obtain ⟨x5, S6, e7, h⟩ := bd_some h
    refine wa_callSi cx (m_X10_in l cx.2.2.2.2.2.2.1  e7) vl_X10_95 ⟨Nat.le_of_ble_eq_true rfl, Nat.le_of_ble_eq_true rfl⟩ ⟨rfl, rfl⟩ ⟨Nat.zero_le _, Nat.zero_le _⟩ rfl (Nat.le_of_ble_eq_true rfl) dX10_whole_16 rfl ?_
    refine wa_if_ne cx dX10_whole_19 24 (by decide) (fun q8 => ?_) (fun q8 => ?_)
    · rw [if_neg q8] at h
      refine wa_aload_n cx (i := 0) dX10_whole_24 rfl rfl ?_
      refine wa_iload_n cx (i := 1) dX10_whole_25 rfl rfl ?_
      obtain ⟨u11, S9, e10, h⟩ := bd_some h
      refine wa_callVv cx (m_X10_goEvening l cx.2.2.2.2.2.2.1 h_c0 e10) vl_X10_296 h_c0 (by decide) rfl rfl ⟨_, cell_eq10 (kd_lt h_c0 (by decide)).2⟩ ⟨Nat.le_of_ble_eq_true rfl, Nat.le_of_ble_eq_true rfl⟩ ⟨rfl, rfl⟩ ⟨Nat.zero_le _, Nat.zero_le _⟩ rfl (Nat.le_of_ble_eq_true rfl) dX10_whole_26 rfl ?_
      refine wa_iload_n cx (i := 2) dX10_whole_29 rfl rfl ?_
      refine wa_if_ne cx dX10_whole_30 40 (by decide) (fun q12 => ?_) (fun q12 => ?_)
      · rw [if_neg q12] at h
        refine wa_aload_n cx (i := 0) dX10_whole_40 rfl rfl ?_
        obtain ⟨x13, S14, e15, h⟩ := bd_some h
        refine wa_callVi cx (m_X10_isBuilt l cx.2.2.2.2.2.2.1 h_c0 e15) vl_X10_212 h_c0 (by decide) rfl rfl ⟨_, cell_eq10 (kd_lt h_c0 (by decide)).2⟩ ⟨Nat.le_of_ble_eq_true rfl, Nat.le_of_ble_eq_true rfl⟩ ⟨rfl, rfl⟩ ⟨Nat.zero_le _, Nat.zero_le _⟩ rfl (Nat.le_of_ble_eq_true rfl) dX10_whole_41 rfl ?_
        refine wa_if_eq cx dX10_whole_44 51 (by decide) (fun q16 => ?_) (fun q16 => ?_)
        · rw [if_pos q16] at h
          refine wa_iconst cx dX10_whole_51 (0 : Int32) (by decide) ?_
          exact wa_iret cx h dX10_whole_52
        · rw [if_neg q16] at h
          refine wa_iconst cx dX10_whole_47 (1 : Int32) (by decide) ?_
          refine wa_goto cx dX10_whole_48 52 (by decide) ?_
          exact wa_iret cx h dX10_whole_52
      · rw [if_pos q12] at h
        refine wa_aload_n cx (i := 0) dX10_whole_33 rfl rfl ?_
        refine gf_X10_196 cx h_c0 dX10_whole_34 ?_
        refine wa_goto cx dX10_whole_37 52 (by decide) ?_
        exact wa_iret cx h dX10_whole_52
    · rw [if_pos q8] at h
      refine wa_iconst cx dX10_whole_22 (-1 : Int32) (by decide) ?_
      exact wa_iret cx h dX10_whole_23
def rm_X10_keep : Room := { frames := 0, cells := 0, slots := 0, locals := 0 }
def f_X10_keep_L38 : Nat → Nat → Int32 → St → Option (Int32 × St)
  | 0, _, _, _ => none
  | n + 1, c0, l1, S => if (8 : Int32) ≤ l1 then some ((S.1 c0 18), S) else ob l1 24 (ob (((8 : Int32) * (S.1 c0 18)) + l1) 24 (sq (pI S (c0 + 16) (Int32.toNatClampNeg (((8 : Int32) * (S.1 c0 18)) + l1)) (S.1 (c0 + 16) (Int32.toNatClampNeg l1))) fun S4 => f_X10_keep_L38 n c0 (l1 + (1 : Int32)) S4))
set_option maxHeartbeats 4000000 in
set_option maxRecDepth 100000 in
theorem w_X10_keep_L38 {p : Program} {l : Launch} {e : Env} {s : State} {m : MethodId} {args : Array Value} {below : List Frame} {meth : Method} {c : Code} {g : Gl} {r : Int32 × St} {c0 : Nat} (cx : Cx p s m args meth c cX10_keep 2 (some .int) RX10 g (Ap g)) (h_c0 : kd g c0 = 10) : ∀ n : Nat, ∀ (l1 : Int32) (S : St), f_X10_keep_L38 n c0 l1 S = some r → WA p l e rm_X10_keep s m args below meth c 0 0 (MQ below (QWi g r) args s 0 0 (Ap g)) 2 g (Ap g) S 38 [(0, .ref (ad g c0)), (1, .int l1)] [] := by
  intro n
  induction n with
  | zero => intro l1 S h; rw [f_X10_keep_L38] at h; cases h
  | succ n ih =>
    intro l1 S h
    rw [f_X10_keep_L38] at h
    refine wa_iload_n cx (i := 1) dX10_keep_38 rfl rfl ?_
    refine wa_bipush cx dX10_keep_39 (8 : Int32) (by decide) ?_
    refine wa_icmp_ge cx dX10_keep_41 70 (by decide) (fun q1 => ?_) (fun q1 => ?_)
    · rw [if_pos q1] at h
      refine wa_aload_n cx (i := 0) dX10_keep_70 rfl rfl ?_
      refine gf_X10_172 cx h_c0 dX10_keep_71 ?_
      exact wa_iret cx h dX10_keep_74
    · rw [if_neg q1] at h
      refine wa_aload_n cx (i := 0) dX10_keep_44 rfl rfl ?_
      refine gf_X10_55 cx h_c0 dX10_keep_45 ?_
      refine wa_bipush cx dX10_keep_48 (8 : Int32) (by decide) ?_
      refine wa_aload_n cx (i := 0) dX10_keep_50 rfl rfl ?_
      refine gf_X10_172 cx h_c0 dX10_keep_51 ?_
      refine wa_imul cx dX10_keep_54 ?_
      refine wa_iload_n cx (i := 1) dX10_keep_55 rfl rfl ?_
      refine wa_iadd cx dX10_keep_56 ?_
      refine wa_aload_n cx (i := 0) dX10_keep_57 rfl rfl ?_
      refine gf_X10_55 cx h_c0 dX10_keep_58 ?_
      refine wa_iload_n cx (i := 1) dX10_keep_61 rfl rfl ?_
      obtain ⟨b2, h⟩ := ob_some h
      refine wa_iald cx dX10_keep_62 (kq10_17 cx.2.2.2.2.2.2.1 h_c0) b2 ?_
      obtain ⟨b3, h⟩ := ob_some h
      refine wa_iast cx dX10_keep_63 (kq10_17 cx.2.2.2.2.2.2.1 h_c0) b3 ?_
      replace h := sq_eq h
      generalize (pI S (c0 + 16) (Int32.toNatClampNeg (((8 : Int32) * (S.1 c0 18)) + l1)) (S.1 (c0 + 16) (Int32.toNatClampNeg l1))) = S4 at h ⊢
      refine wa_iinc cx dX10_keep_64 (l1 + (1 : Int32)) [(0, .ref (ad g c0)), (1, .int (l1 + (1 : Int32)))] rfl rfl (Nat.le_of_ble_eq_true rfl) rfl (lvs_c rfl (lvs_c rfl (lvs_n))) ?_
      refine wa_goto cx dX10_keep_67 38 (by decide) ?_
      refine wa_sub (lv' := [(0, .ref (ad g c0)), (1, .int (l1 + (1 : Int32)))]) (lvs_c rfl (lvs_c rfl (lvs_n))) ?_
      exact ih (l1 + (1 : Int32)) S4  h
def f_X10_keep (c0 : Nat) (S : St) : Option (Int32 × St) := if (S.1 c0 18) = (2 : Int32) then some ((-3 : Int32), S) else sq (pI S c0 18 ((S.1 c0 18) + (1 : Int32))) fun S6 => ob (S6.1 c0 18) 3 (sq (pI S6 (c0 + 15) (Int32.toNatClampNeg (S6.1 c0 18)) (S6.1 (c0 + 15) (Int32.toNatClampNeg (0 : Int32)))) fun S8 => f_X10_keep_L38 FU c0 (0 : Int32) S8)
set_option maxHeartbeats 4000000 in
set_option maxRecDepth 100000 in
theorem m_X10_keep (l : Launch) {g : Gl} (hg : GOK g) {c0 : Nat} {S : St} {r : Int32 × St} (h_c0 : kd g c0 = 10) (h : f_X10_keep c0 S = some r) : MW l yX10_keep cX10_keep 2 (some .int) rm_X10_keep g S [.ref (ad g c0)] (QWi g r) := by
  refine startW [(0, .ref (ad g c0))] (by decide +kernel) (Nat.le_of_ble_eq_true rfl) rfl hg (fun p e s m args below meth c cx => ?_)
  have cx : Cx p s m args meth c cX10_keep 2 (some .int) RX10 g (Ap g) := cx
  rw [f_X10_keep] at h
  refine wa_aload_n cx (i := 0) dX10_keep_0 rfl rfl ?_
  refine gf_X10_172 cx h_c0 dX10_keep_1 ?_
  refine wa_iconst cx dX10_keep_4 (2 : Int32) (by decide) ?_
  refine wa_icmp_ne cx dX10_keep_5 11 (by decide) (fun q5 => ?_) (fun q5 => ?_)
  · rw [if_neg q5] at h
    refine wa_aload_n cx (i := 0) dX10_keep_11 rfl rfl ?_
    refine wa_dup cx dX10_keep_12 rfl ?_
    refine gf_X10_172 cx h_c0 dX10_keep_13 ?_
    refine wa_iconst cx dX10_keep_16 (1 : Int32) (by decide) ?_
    refine wa_iadd cx dX10_keep_17 ?_
    refine pf_X10_172 cx h_c0 dX10_keep_18 ?_
    replace h := sq_eq h
    generalize (pI S c0 18 ((S.1 c0 18) + (1 : Int32))) = S6 at h ⊢
    refine wa_aload_n cx (i := 0) dX10_keep_21 rfl rfl ?_
    refine gf_X10_52 cx h_c0 dX10_keep_22 ?_
    refine wa_aload_n cx (i := 0) dX10_keep_25 rfl rfl ?_
    refine gf_X10_172 cx h_c0 dX10_keep_26 ?_
    refine wa_aload_n cx (i := 0) dX10_keep_29 rfl rfl ?_
    refine gf_X10_52 cx h_c0 dX10_keep_30 ?_
    refine wa_iconst cx dX10_keep_33 (0 : Int32) (by decide) ?_
    refine wa_iald cx dX10_keep_34 (kq10_16 cx.2.2.2.2.2.2.1 h_c0) (vinl (by decide)) ?_
    obtain ⟨b7, h⟩ := ob_some h
    refine wa_iast cx dX10_keep_35 (kq10_16 cx.2.2.2.2.2.2.1 h_c0) b7 ?_
    replace h := sq_eq h
    generalize (pI S6 (c0 + 15) (Int32.toNatClampNeg (S6.1 c0 18)) (S6.1 (c0 + 15) (Int32.toNatClampNeg (0 : Int32)))) = S8 at h ⊢
    refine wa_iconst cx dX10_keep_36 (0 : Int32) (by decide) ?_
    refine wa_istore_n cx (i := 1) dX10_keep_37 [(0, .ref (ad g c0)), (1, .int (0 : Int32))] rfl (Nat.le_of_ble_eq_true rfl) rfl (lvs_c rfl (lvs_c rfl (lvs_n))) ?_
    refine wa_sub (lv' := [(0, .ref (ad g c0)), (1, .int (0 : Int32))]) (lvs_c rfl (lvs_c rfl (lvs_n))) ?_
    exact w_X10_keep_L38 cx h_c0  FU (0 : Int32) S8  h
  · rw [if_pos q5] at h
    refine wa_bipush cx dX10_keep_8 (-3 : Int32) (by decide) ?_
    exact wa_iret cx h dX10_keep_10
def rm_X10_back : Room := { frames := 0, cells := 0, slots := 0, locals := 0 }
def f_X10_back_L27 : Nat → Nat → Int32 → St → Option (Int32 × St)
  | 0, _, _, _ => none
  | n + 1, c0, l1, S => if (8 : Int32) ≤ l1 then sq (pI S c0 18 ((S.1 c0 18) - (1 : Int32))) fun S2 => some ((S2.1 c0 18), S2) else ob (((8 : Int32) * (S.1 c0 18)) + l1) 24 (ob l1 24 (sq (pI S (c0 + 16) (Int32.toNatClampNeg l1) (S.1 (c0 + 16) (Int32.toNatClampNeg (((8 : Int32) * (S.1 c0 18)) + l1)))) fun S5 => f_X10_back_L27 n c0 (l1 + (1 : Int32)) S5))
set_option maxHeartbeats 4000000 in
set_option maxRecDepth 100000 in
theorem w_X10_back_L27 {p : Program} {l : Launch} {e : Env} {s : State} {m : MethodId} {args : Array Value} {below : List Frame} {meth : Method} {c : Code} {g : Gl} {r : Int32 × St} {c0 : Nat} (cx : Cx p s m args meth c cX10_back 2 (some .int) RX10 g (Ap g)) (h_c0 : kd g c0 = 10) : ∀ n : Nat, ∀ (l1 : Int32) (S : St), f_X10_back_L27 n c0 l1 S = some r → WA p l e rm_X10_back s m args below meth c 0 0 (MQ below (QWi g r) args s 0 0 (Ap g)) 2 g (Ap g) S 27 [(0, .ref (ad g c0)), (1, .int l1)] [] := by
  intro n
  induction n with
  | zero => intro l1 S h; rw [f_X10_back_L27] at h; cases h
  | succ n ih =>
    intro l1 S h
    rw [f_X10_back_L27] at h
    refine wa_iload_n cx (i := 1) dX10_back_27 rfl rfl ?_
    refine wa_bipush cx dX10_back_28 (8 : Int32) (by decide) ?_
    refine wa_icmp_ge cx dX10_back_30 59 (by decide) (fun q1 => ?_) (fun q1 => ?_)
    · rw [if_pos q1] at h
      refine wa_aload_n cx (i := 0) dX10_back_59 rfl rfl ?_
      refine wa_dup cx dX10_back_60 rfl ?_
      refine gf_X10_172 cx h_c0 dX10_back_61 ?_
      refine wa_iconst cx dX10_back_64 (1 : Int32) (by decide) ?_
      refine wa_isub cx dX10_back_65 ?_
      refine pf_X10_172 cx h_c0 dX10_back_66 ?_
      replace h := sq_eq h
      generalize (pI S c0 18 ((S.1 c0 18) - (1 : Int32))) = S2 at h ⊢
      refine wa_aload_n cx (i := 0) dX10_back_69 rfl rfl ?_
      refine gf_X10_172 cx h_c0 dX10_back_70 ?_
      exact wa_iret cx h dX10_back_73
    · rw [if_neg q1] at h
      refine wa_aload_n cx (i := 0) dX10_back_33 rfl rfl ?_
      refine gf_X10_55 cx h_c0 dX10_back_34 ?_
      refine wa_iload_n cx (i := 1) dX10_back_37 rfl rfl ?_
      refine wa_aload_n cx (i := 0) dX10_back_38 rfl rfl ?_
      refine gf_X10_55 cx h_c0 dX10_back_39 ?_
      refine wa_bipush cx dX10_back_42 (8 : Int32) (by decide) ?_
      refine wa_aload_n cx (i := 0) dX10_back_44 rfl rfl ?_
      refine gf_X10_172 cx h_c0 dX10_back_45 ?_
      refine wa_imul cx dX10_back_48 ?_
      refine wa_iload_n cx (i := 1) dX10_back_49 rfl rfl ?_
      refine wa_iadd cx dX10_back_50 ?_
      obtain ⟨b3, h⟩ := ob_some h
      refine wa_iald cx dX10_back_51 (kq10_17 cx.2.2.2.2.2.2.1 h_c0) b3 ?_
      obtain ⟨b4, h⟩ := ob_some h
      refine wa_iast cx dX10_back_52 (kq10_17 cx.2.2.2.2.2.2.1 h_c0) b4 ?_
      replace h := sq_eq h
      generalize (pI S (c0 + 16) (Int32.toNatClampNeg l1) (S.1 (c0 + 16) (Int32.toNatClampNeg (((8 : Int32) * (S.1 c0 18)) + l1)))) = S5 at h ⊢
      refine wa_iinc cx dX10_back_53 (l1 + (1 : Int32)) [(0, .ref (ad g c0)), (1, .int (l1 + (1 : Int32)))] rfl rfl (Nat.le_of_ble_eq_true rfl) rfl (lvs_c rfl (lvs_c rfl (lvs_n))) ?_
      refine wa_goto cx dX10_back_56 27 (by decide) ?_
      refine wa_sub (lv' := [(0, .ref (ad g c0)), (1, .int (l1 + (1 : Int32)))]) (lvs_c rfl (lvs_c rfl (lvs_n))) ?_
      exact ih (l1 + (1 : Int32)) S5  h
def f_X10_back (c0 : Nat) (S : St) : Option (Int32 × St) := if (S.1 c0 18) = 0 then some ((-2 : Int32), S) else ob (S.1 c0 18) 3 (sq (pI S (c0 + 15) (Int32.toNatClampNeg (0 : Int32)) (S.1 (c0 + 15) (Int32.toNatClampNeg (S.1 c0 18)))) fun S8 => f_X10_back_L27 FU c0 (0 : Int32) S8)
set_option maxHeartbeats 4000000 in
set_option maxRecDepth 100000 in
theorem m_X10_back (l : Launch) {g : Gl} (hg : GOK g) {c0 : Nat} {S : St} {r : Int32 × St} (h_c0 : kd g c0 = 10) (h : f_X10_back c0 S = some r) : MW l yX10_back cX10_back 2 (some .int) rm_X10_back g S [.ref (ad g c0)] (QWi g r) := by
  refine startW [(0, .ref (ad g c0))] (by decide +kernel) (Nat.le_of_ble_eq_true rfl) rfl hg (fun p e s m args below meth c cx => ?_)
  have cx : Cx p s m args meth c cX10_back 2 (some .int) RX10 g (Ap g) := cx
  rw [f_X10_back] at h
  refine wa_aload_n cx (i := 0) dX10_back_0 rfl rfl ?_
  refine gf_X10_172 cx h_c0 dX10_back_1 ?_
  refine wa_if_ne cx dX10_back_4 10 (by decide) (fun q6 => ?_) (fun q6 => ?_)
  · rw [if_neg q6] at h
    refine wa_aload_n cx (i := 0) dX10_back_10 rfl rfl ?_
    refine gf_X10_52 cx h_c0 dX10_back_11 ?_
    refine wa_iconst cx dX10_back_14 (0 : Int32) (by decide) ?_
    refine wa_aload_n cx (i := 0) dX10_back_15 rfl rfl ?_
    refine gf_X10_52 cx h_c0 dX10_back_16 ?_
    refine wa_aload_n cx (i := 0) dX10_back_19 rfl rfl ?_
    refine gf_X10_172 cx h_c0 dX10_back_20 ?_
    obtain ⟨b7, h⟩ := ob_some h
    refine wa_iald cx dX10_back_23 (kq10_16 cx.2.2.2.2.2.2.1 h_c0) b7 ?_
    refine wa_iast cx dX10_back_24 (kq10_16 cx.2.2.2.2.2.2.1 h_c0) (vinl (by decide)) ?_
    replace h := sq_eq h
    generalize (pI S (c0 + 15) (Int32.toNatClampNeg (0 : Int32)) (S.1 (c0 + 15) (Int32.toNatClampNeg (S.1 c0 18)))) = S8 at h ⊢
    refine wa_iconst cx dX10_back_25 (0 : Int32) (by decide) ?_
    refine wa_istore_n cx (i := 1) dX10_back_26 [(0, .ref (ad g c0)), (1, .int (0 : Int32))] rfl (Nat.le_of_ble_eq_true rfl) rfl (lvs_c rfl (lvs_c rfl (lvs_n))) ?_
    refine wa_sub (lv' := [(0, .ref (ad g c0)), (1, .int (0 : Int32))]) (lvs_c rfl (lvs_c rfl (lvs_n))) ?_
    exact w_X10_back_L27 cx h_c0  FU (0 : Int32) S8  h
  · rw [if_pos q6] at h
    refine wa_bipush cx dX10_back_7 (-2 : Int32) (by decide) ?_
    exact wa_iret cx h dX10_back_9
def rm_X10_count : Room := { frames := 2, cells := 0, slots := 0, locals := 43 }
def f_X10_count (c0 : Nat) (a1 : Int32) (S : St) : Option (Int32 × St) := if a1 = (0 : Int32) then some ((S.1 c0 13), S) else if a1 = (1 : Int32) then bd (f_X10_plain c0 S) fun _ S3 => bd (f_X10_layOrder c0 S3) fun _ S6 => some ((S6.1 c0 27), S6) else if a1 = (2 : Int32) then some ((S.1 (c0 + 3) (Int32.toNatClampNeg (0 : Int32))), S) else if a1 = (3 : Int32) then some ((S.1 c0 0), S) else if a1 = (4 : Int32) then some ((S.1 c0 18), S) else if a1 = (5 : Int32) then some ((S.1 (c0 + 2) (Int32.toNatClampNeg (0 : Int32))), S) else if a1 = (6 : Int32) then some ((S.1 (c0 + 2) (Int32.toNatClampNeg (2 : Int32))), S) else some ((-1 : Int32), S)
set_option maxHeartbeats 4000000 in
set_option maxRecDepth 100000 in
theorem m_X10_count (l : Launch) {g : Gl} (hg : GOK g) {c0 : Nat} {a1 : Int32} {S : St} {r : Int32 × St} (h_c0 : kd g c0 = 10) (h : f_X10_count c0 a1 S = some r) : MW l yX10_count cX10_count 2 (some .int) rm_X10_count g S [.ref (ad g c0), .int a1] (QWi g r) := by
  refine startW [(0, .ref (ad g c0)), (1, .int a1)] (by decide +kernel) (Nat.le_of_ble_eq_true rfl) rfl hg (fun p e s m args below meth c cx => ?_)
  have cx : Cx p s m args meth c cX10_count 2 (some .int) RX10 g (Ap g) := cx
  rw [f_X10_count] at h
  refine wa_iload_n cx (i := 1) dX10_count_0 rfl rfl ?_
  by_cases q1 : a1 = (0 : Int32)
  · rw [if_pos q1] at h
    refine wa_tabIn cx dX10_count_1 44 (by rw [q1]; decide) (by rw [q1]; decide) (by rw [q1] <;> rfl) (by decide) ?_
    refine wa_aload_n cx (i := 0) dX10_count_44 rfl rfl ?_
    refine gf_X10_148 cx h_c0 dX10_count_45 ?_
    exact wa_iret cx h dX10_count_48
  rw [if_neg q1] at h
  by_cases q2 : a1 = (1 : Int32)
  · rw [if_pos q2] at h
    refine wa_tabIn cx dX10_count_1 49 (by rw [q2]; decide) (by rw [q2]; decide) (by rw [q2] <;> rfl) (by decide) ?_
    refine wa_aload_n cx (i := 0) dX10_count_49 rfl rfl ?_
    obtain ⟨u5, S3, e4, h⟩ := bd_some h
    refine wa_callVv cx (m_X10_plain l cx.2.2.2.2.2.2.1 h_c0 e4) vl_X10_151 h_c0 (by decide) rfl rfl ⟨_, cell_eq10 (kd_lt h_c0 (by decide)).2⟩ ⟨Nat.le_of_ble_eq_true rfl, Nat.le_of_ble_eq_true rfl⟩ ⟨rfl, rfl⟩ ⟨Nat.zero_le _, Nat.zero_le _⟩ rfl (Nat.le_of_ble_eq_true rfl) dX10_count_50 rfl ?_
    refine wa_aload_n cx (i := 0) dX10_count_53 rfl rfl ?_
    obtain ⟨u8, S6, e7, h⟩ := bd_some h
    refine wa_callVv cx (m_X10_layOrder l cx.2.2.2.2.2.2.1 h_c0 e7) vl_X10_184 h_c0 (by decide) rfl rfl ⟨_, cell_eq10 (kd_lt h_c0 (by decide)).2⟩ ⟨Nat.le_of_ble_eq_true rfl, Nat.le_of_ble_eq_true rfl⟩ ⟨rfl, rfl⟩ ⟨Nat.zero_le _, Nat.zero_le _⟩ rfl (Nat.le_of_ble_eq_true rfl) dX10_count_54 rfl ?_
    refine wa_aload_n cx (i := 0) dX10_count_57 rfl rfl ?_
    refine gf_X10_175 cx h_c0 dX10_count_58 ?_
    exact wa_iret cx h dX10_count_61
  rw [if_neg q2] at h
  by_cases q9 : a1 = (2 : Int32)
  · rw [if_pos q9] at h
    refine wa_tabIn cx dX10_count_1 62 (by rw [q9]; decide) (by rw [q9]; decide) (by rw [q9] <;> rfl) (by decide) ?_
    refine wa_aload_n cx (i := 0) dX10_count_62 rfl rfl ?_
    refine gf_X10_16 cx h_c0 dX10_count_63 ?_
    refine wa_iconst cx dX10_count_66 (0 : Int32) (by decide) ?_
    refine wa_iald cx dX10_count_67 (kq10_3 cx.2.2.2.2.2.2.1 h_c0) (vinl (by decide)) ?_
    exact wa_iret cx h dX10_count_68
  rw [if_neg q9] at h
  by_cases q10 : a1 = (3 : Int32)
  · rw [if_pos q10] at h
    refine wa_tabIn cx dX10_count_1 69 (by rw [q10]; decide) (by rw [q10]; decide) (by rw [q10] <;> rfl) (by decide) ?_
    refine wa_aload_n cx (i := 0) dX10_count_69 rfl rfl ?_
    refine gf_X10_99 cx h_c0 dX10_count_70 ?_
    exact wa_iret cx h dX10_count_73
  rw [if_neg q10] at h
  by_cases q11 : a1 = (4 : Int32)
  · rw [if_pos q11] at h
    refine wa_tabIn cx dX10_count_1 74 (by rw [q11]; decide) (by rw [q11]; decide) (by rw [q11] <;> rfl) (by decide) ?_
    refine wa_aload_n cx (i := 0) dX10_count_74 rfl rfl ?_
    refine gf_X10_172 cx h_c0 dX10_count_75 ?_
    exact wa_iret cx h dX10_count_78
  rw [if_neg q11] at h
  by_cases q12 : a1 = (5 : Int32)
  · rw [if_pos q12] at h
    refine wa_tabIn cx dX10_count_1 79 (by rw [q12]; decide) (by rw [q12]; decide) (by rw [q12] <;> rfl) (by decide) ?_
    refine wa_aload_n cx (i := 0) dX10_count_79 rfl rfl ?_
    refine gf_X10_13 cx h_c0 dX10_count_80 ?_
    refine wa_iconst cx dX10_count_83 (0 : Int32) (by decide) ?_
    refine wa_iald cx dX10_count_84 (kq10_2 cx.2.2.2.2.2.2.1 h_c0) (vinl (by decide)) ?_
    exact wa_iret cx h dX10_count_85
  rw [if_neg q12] at h
  by_cases q13 : a1 = (6 : Int32)
  · rw [if_pos q13] at h
    refine wa_tabIn cx dX10_count_1 86 (by rw [q13]; decide) (by rw [q13]; decide) (by rw [q13] <;> rfl) (by decide) ?_
    refine wa_aload_n cx (i := 0) dX10_count_86 rfl rfl ?_
    refine gf_X10_13 cx h_c0 dX10_count_87 ?_
    refine wa_iconst cx dX10_count_90 (2 : Int32) (by decide) ?_
    refine wa_iald cx dX10_count_91 (kq10_2 cx.2.2.2.2.2.2.1 h_c0) (vinl (by decide)) ?_
    exact wa_iret cx h dX10_count_92
  rw [if_neg q13] at h
  refine wa_tabDef cx dX10_count_1 93 [0, 1, 2, 3, 4, 5, 6] (by decide) (by decide) (show allne _ _ from ⟨ne_toInt q1, ne_toInt q2, ne_toInt q9, ne_toInt q10, ne_toInt q11, ne_toInt q12, ne_toInt q13, trivial⟩) (by decide) ?_
  refine wa_iconst cx dX10_count_93 (-1 : Int32) (by decide) ?_
  exact wa_iret cx h dX10_count_94
