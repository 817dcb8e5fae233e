def rm_X10_lackOf : Room := { frames := 0, cells := 0, slots := 0, locals := 0 }
def f_X10_lackOf_J29 (c0 : Nat) (a1 : Int32) (a2 : Int32) (k0 : Int32) (S : St) : Option (Int32 × St) := if a1 ≤ k0 then some ((0 : Int32), S) else some ((a1 - k0), S)
set_option maxHeartbeats 4000000 in
set_option maxRecDepth 100000 in
theorem w_X10_lackOf_J29 {p : Program} {l : Launch} {e : Env} {s : State} {m : MethodId} {args : Array Value} {below : List Frame} {meth : Method} {c : Code} {g : Gl} {r : Int32 × St} {c0 : Nat} {a1 : Int32} {a2 : Int32} (cx : Cx p s m args meth c cX10_lackOf 4 (some .int) RX10 g (Ap g)) (h_c0 : kd g c0 = 10) : ∀ (k0 : Int32) (S : St), f_X10_lackOf_J29 c0 a1 a2 k0 S = some r → WA p l e rm_X10_lackOf s m args below meth c 0 0 (MQ below (QWi g r) args s 0 0 (Ap g)) 4 g (Ap g) S 29 [(1, .int a1)] [.int k0] := by
  intro k0 S h
  rw [f_X10_lackOf_J29] at h
  refine wa_istore_n cx (i := 3) dX10_lackOf_29 [(1, .int a1), (3, .int k0)] rfl (Nat.le_of_ble_eq_true rfl) rfl (lvs_c rfl (lvs_c rfl (lvs_n))) ?_
  refine wa_iload_n cx (i := 1) dX10_lackOf_30 rfl rfl ?_
  refine wa_iload_n cx (i := 3) dX10_lackOf_31 rfl rfl ?_
  refine wa_icmp_le cx dX10_lackOf_32 41 (by decide) (fun q1 => ?_) (fun q1 => ?_)
  · rw [if_pos q1] at h
    refine wa_iconst cx dX10_lackOf_41 (0 : Int32) (by decide) ?_
    exact wa_iret cx h dX10_lackOf_42
  · rw [if_neg q1] at h
    refine wa_iload_n cx (i := 1) dX10_lackOf_35 rfl rfl ?_
    refine wa_iload_n cx (i := 3) dX10_lackOf_36 rfl rfl ?_
    refine wa_isub cx dX10_lackOf_37 ?_
    refine wa_goto cx dX10_lackOf_38 42 (by decide) ?_
    exact wa_iret cx h dX10_lackOf_42
def f_X10_lackOf (c0 : Nat) (a1 : Int32) (a2 : Int32) (S : St) : Option (Int32 × St) := if (S.1 c0 22) = 0 then f_X10_lackOf_J29 c0 a1 a2 a2 S else if (S.1 c0 22) = (1 : Int32) then f_X10_lackOf_J29 c0 a1 a2 (0 : Int32) S else f_X10_lackOf_J29 c0 a1 a2 (a2 - (a2 - a2 / (10 : Int32) * (10 : Int32))) S
set_option maxHeartbeats 4000000 in
set_option maxRecDepth 100000 in
theorem m_X10_lackOf (l : Launch) {g : Gl} (hg : GOK g) {c0 : Nat} {a1 : Int32} {a2 : Int32} {S : St} {r : Int32 × St} (h_c0 : kd g c0 = 10) (h : f_X10_lackOf c0 a1 a2 S = some r) : MW l yX10_lackOf cX10_lackOf 4 (some .int) rm_X10_lackOf g S [.ref (ad g c0), .int a1, .int a2] (QWi g r) := by
  refine startW [(0, .ref (ad g c0)), (1, .int a1), (2, .int a2)] (by decide +kernel) (Nat.le_of_ble_eq_true rfl) rfl hg (fun p e s m args below meth c cx => ?_)
  have cx : Cx p s m args meth c cX10_lackOf 4 (some .int) RX10 g (Ap g) := cx
  rw [f_X10_lackOf] at h
  refine wa_aload_n cx (i := 0) dX10_lackOf_0 rfl rfl ?_
  refine gf_X10_163 cx h_c0 dX10_lackOf_1 ?_
  refine wa_if_ne cx dX10_lackOf_4 11 (by decide) (fun q2 => ?_) (fun q2 => ?_)
  · rw [if_neg q2] at h
    refine wa_aload_n cx (i := 0) dX10_lackOf_11 rfl rfl ?_
    refine gf_X10_163 cx h_c0 dX10_lackOf_12 ?_
    refine wa_iconst cx dX10_lackOf_15 (1 : Int32) (by decide) ?_
    refine wa_icmp_ne cx dX10_lackOf_16 23 (by decide) (fun q3 => ?_) (fun q3 => ?_)
    · rw [if_neg q3] at h
      refine wa_iload_n cx (i := 2) dX10_lackOf_23 rfl rfl ?_
      refine wa_iload_n cx (i := 2) dX10_lackOf_24 rfl rfl ?_
      refine wa_bipush cx dX10_lackOf_25 (10 : Int32) (by decide) ?_
      refine wa_irem cx dX10_lackOf_27 (by decide) ?_
      refine wa_isub cx dX10_lackOf_28 ?_
      refine wa_sub (lv' := [(1, .int a1)]) (lvs_c rfl (lvs_n)) ?_
      exact w_X10_lackOf_J29 cx h_c0   (a2 - (a2 - a2 / (10 : Int32) * (10 : Int32))) S  h
    · rw [if_pos q3] at h
      refine wa_iconst cx dX10_lackOf_19 (0 : Int32) (by decide) ?_
      refine wa_goto cx dX10_lackOf_20 29 (by decide) ?_
      refine wa_sub (lv' := [(1, .int a1)]) (lvs_c rfl (lvs_n)) ?_
      exact w_X10_lackOf_J29 cx h_c0   (0 : Int32) S  h
  · rw [if_pos q2] at h
    refine wa_iload_n cx (i := 2) dX10_lackOf_7 rfl rfl ?_
    refine wa_goto cx dX10_lackOf_8 29 (by decide) ?_
    refine wa_sub (lv' := [(1, .int a1)]) (lvs_c rfl (lvs_n)) ?_
    exact w_X10_lackOf_J29 cx h_c0   a2 S  h
def rm_X10_lesser : Room := { frames := 0, cells := 0, slots := 0, locals := 0 }
def f_X10_lesser (a0 : Int32) (a1 : Int32) (S : St) : Option (Int32 × St) := if a1 ≤ a0 then some (a1, S) else some (a0, S)
set_option maxHeartbeats 4000000 in
set_option maxRecDepth 100000 in
theorem m_X10_lesser (l : Launch) {g : Gl} (hg : GOK g) {a0 : Int32} {a1 : Int32} {S : St} {r : Int32 × St}  (h : f_X10_lesser a0 a1 S = some r) : MW l yX10_lesser cX10_lesser 2 (some .int) rm_X10_lesser g S [.int a0, .int a1] (QWi g r) := by
  refine startW [(0, .int a0), (1, .int a1)] (by decide +kernel) (Nat.le_of_ble_eq_true rfl) rfl hg (fun p e s m args below meth c cx => ?_)
  have cx : Cx p s m args meth c cX10_lesser 2 (some .int) RX10 g (Ap g) := cx
  rw [f_X10_lesser] at h
  refine wa_iload_n cx (i := 0) dX10_lesser_0 rfl rfl ?_
  refine wa_iload_n cx (i := 1) dX10_lesser_1 rfl rfl ?_
  refine wa_icmp_ge cx dX10_lesser_2 9 (by decide) (fun q1 => ?_) (fun q1 => ?_)
  · rw [if_pos q1] at h
    refine wa_iload_n cx (i := 1) dX10_lesser_9 rfl rfl ?_
    exact wa_iret cx h dX10_lesser_10
  · rw [if_neg q1] at h
    refine wa_iload_n cx (i := 0) dX10_lesser_5 rfl rfl ?_
    refine wa_goto cx dX10_lesser_6 10 (by decide) ?_
    exact wa_iret cx h dX10_lesser_10
def rm_X10_giftBy : Room := { frames := 1, cells := 0, slots := 0, locals := 21 }
def f_X10_giftBy (c0 : Nat) (a1 : Int32) (a2 : Int32) (a3 : Int32) (a4 : Int32) (a5 : Int32) (a6 : Int32) (S : St) : Option (Int32 × St) := bd (f_X10_lesser a3 a4 S) fun x1 S2 => if a1 = (0 : Int32) then if a6 = (1 : Int32) then if x1 < a5 then some ((0 : Int32), S2) else some (a5, S2) else some ((0 : Int32), S2) else if a1 = (2 : Int32) then some (((x1 + (1 : Int32)) / (2 : Int32)), S2) else if a1 = (3 : Int32) then bd (f_X10_dayOf c0 a2 S2) fun x9 S10 => if (S10.1 (c0 + 2) (Int32.toNatClampNeg (6 : Int32))) < x9 then ck (¬ a6 = 0) (bd (f_X10_lesser (((a5 + a6) - (1 : Int32)) / a6) x1 S10) fun x14 S15 => some (x14, S15)) else bd (f_X10_lesser (x1 + (S10.1 c0 21)) a4 S10) fun x17 S18 => bd (f_X10_lesser x17 a5 S18) fun x20 S21 => some (x20, S21) else if a1 = (4 : Int32) then if x1 < a5 then some ((0 : Int32), S2) else some (a5, S2) else if a1 = (5 : Int32) then ob a2 8 (ob (S2.1 (c0 + 13) (Int32.toNatClampNeg a2)) 12 (bd (f_X10_lesser (S2.1 (c0 + 9) (Int32.toNatClampNeg (S2.1 (c0 + 13) (Int32.toNatClampNeg a2)))) a4 S2) fun x28 S29 => some (x28, S29))) else ck (¬ a6 = 0) (bd (f_X10_lesser (((a5 + a6) - (1 : Int32)) / a6) x1 S2) fun x32 S33 => some (x32, S33))
set_option maxHeartbeats 4000000 in
set_option maxRecDepth 100000 in
theorem m_X10_giftBy (l : Launch) {g : Gl} (hg : GOK g) {c0 : Nat} {a1 : Int32} {a2 : Int32} {a3 : Int32} {a4 : Int32} {a5 : Int32} {a6 : Int32} {S : St} {r : Int32 × St} (h_c0 : kd g c0 = 10) (h : f_X10_giftBy c0 a1 a2 a3 a4 a5 a6 S = some r) : MW l yX10_giftBy cX10_giftBy 8 (some .int) rm_X10_giftBy g S [.ref (ad g c0), .int a1, .int a2, .int a3, .int a4, .int a5, .int a6] (QWi g r) := by
  refine startW [(0, .ref (ad g c0)), (1, .int a1), (2, .int a2), (3, .int a3), (4, .int a4), (5, .int a5), (6, .int a6)] (by decide +kernel) (Nat.le_of_ble_eq_true rfl) rfl hg (fun p e s m args below meth c cx => ?_)
  have cx : Cx p s m args meth c cX10_giftBy 8 (some .int) RX10 g (Ap g) := cx
  rw [f_X10_giftBy] at h
  refine wa_iload_n cx (i := 3) dX10_giftBy_0 rfl rfl ?_
  refine wa_iload cx dX10_giftBy_1 rfl ?_
  obtain ⟨x1, S2, e3, h⟩ := bd_some h
  refine wa_callSi cx (m_X10_lesser l cx.2.2.2.2.2.2.1  e3) vl_X10_192 ⟨Nat.le_of_ble_eq_true rfl, Nat.le_of_ble_eq_true rfl⟩ ⟨rfl, rfl⟩ ⟨Nat.zero_le _, Nat.zero_le _⟩ rfl (Nat.le_of_ble_eq_true rfl) dX10_giftBy_3 rfl ?_
  refine wa_istore cx dX10_giftBy_6 [(0, .ref (ad g c0)), (1, .int a1), (2, .int a2), (4, .int a4), (5, .int a5), (6, .int a6), (7, .int x1)] (Nat.le_of_ble_eq_true rfl) rfl (lvs_c rfl (lvs_c rfl (lvs_c rfl (lvs_c rfl (lvs_c rfl (lvs_c rfl (lvs_c rfl (lvs_n)))))))) ?_
  refine wa_iload_n cx (i := 1) dX10_giftBy_8 rfl rfl ?_
  by_cases q4 : a1 = (0 : Int32)
  · rw [if_pos q4] at h
    refine wa_tabIn cx dX10_giftBy_9 48 (by rw [q4]; decide) (by rw [q4]; decide) (by rw [q4] <;> rfl) (by decide) ?_
    refine wa_iload cx dX10_giftBy_48 rfl ?_
    refine wa_iconst cx dX10_giftBy_50 (1 : Int32) (by decide) ?_
    refine wa_icmp_ne cx dX10_giftBy_51 66 (by decide) (fun q5 => ?_) (fun q5 => ?_)
    · rw [if_neg q5] at h
      refine wa_iconst cx dX10_giftBy_66 (0 : Int32) (by decide) ?_
      exact wa_iret cx h dX10_giftBy_67
    · rw [if_pos q5] at h
      refine wa_iload cx dX10_giftBy_54 rfl ?_
      refine wa_iload cx dX10_giftBy_56 rfl ?_
      refine wa_icmp_gt cx dX10_giftBy_58 66 (by decide) (fun q6 => ?_) (fun q6 => ?_)
      · rw [if_pos q6] at h
        refine wa_iconst cx dX10_giftBy_66 (0 : Int32) (by decide) ?_
        exact wa_iret cx h dX10_giftBy_67
      · rw [if_neg q6] at h
        refine wa_iload cx dX10_giftBy_61 rfl ?_
        refine wa_goto cx dX10_giftBy_63 67 (by decide) ?_
        exact wa_iret cx h dX10_giftBy_67
  rw [if_neg q4] at h
  by_cases q7 : a1 = (2 : Int32)
  · rw [if_pos q7] at h
    refine wa_tabIn cx dX10_giftBy_9 68 (by rw [q7]; decide) (by rw [q7]; decide) (by rw [q7] <;> rfl) (by decide) ?_
    refine wa_iload cx dX10_giftBy_68 rfl ?_
    refine wa_iconst cx dX10_giftBy_70 (1 : Int32) (by decide) ?_
    refine wa_iadd cx dX10_giftBy_71 ?_
    refine wa_iconst cx dX10_giftBy_72 (2 : Int32) (by decide) ?_
    refine wa_idiv cx dX10_giftBy_73 (by decide) ?_
    exact wa_iret cx h dX10_giftBy_74
  rw [if_neg q7] at h
  by_cases q8 : a1 = (3 : Int32)
  · rw [if_pos q8] at h
    refine wa_tabIn cx dX10_giftBy_9 75 (by rw [q8]; decide) (by rw [q8]; decide) (by rw [q8] <;> rfl) (by decide) ?_
    refine wa_aload_n cx (i := 0) dX10_giftBy_75 rfl rfl ?_
    refine wa_iload_n cx (i := 2) dX10_giftBy_76 rfl rfl ?_
    obtain ⟨x9, S10, e11, h⟩ := bd_some h
    refine wa_callVi cx (m_X10_dayOf l cx.2.2.2.2.2.2.1 h_c0 e11) vl_X10_178 h_c0 (by decide) rfl rfl ⟨_, cell_eq10 (kd_lt h_c0 (by decide)).2⟩ ⟨Nat.le_of_ble_eq_true rfl, Nat.le_of_ble_eq_true rfl⟩ ⟨rfl, rfl⟩ ⟨Nat.zero_le _, Nat.zero_le _⟩ rfl (Nat.le_of_ble_eq_true rfl) dX10_giftBy_77 rfl ?_
    refine wa_aload_n cx (i := 0) dX10_giftBy_80 rfl rfl ?_
    refine gf_X10_13 cx h_c0 dX10_giftBy_81 ?_
    refine wa_bipush cx dX10_giftBy_84 (6 : Int32) (by decide) ?_
    refine wa_iald cx dX10_giftBy_86 (kq10_2 cx.2.2.2.2.2.2.1 h_c0) (vinl (by decide)) ?_
    refine wa_icmp_gt cx dX10_giftBy_87 108 (by decide) (fun q12 => ?_) (fun q12 => ?_)
    · rw [if_pos q12] at h
      refine wa_iload cx dX10_giftBy_108 rfl ?_
      refine wa_iload cx dX10_giftBy_110 rfl ?_
      refine wa_iadd cx dX10_giftBy_112 ?_
      refine wa_iconst cx dX10_giftBy_113 (1 : Int32) (by decide) ?_
      refine wa_isub cx dX10_giftBy_114 ?_
      refine wa_iload cx dX10_giftBy_115 rfl ?_
      obtain ⟨b13, h⟩ := ck_some h
      refine wa_idiv cx dX10_giftBy_117 b13 ?_
      refine wa_iload cx dX10_giftBy_118 rfl ?_
      obtain ⟨x14, S15, e16, h⟩ := bd_some h
      refine wa_callSi cx (m_X10_lesser l cx.2.2.2.2.2.2.1  e16) vl_X10_192 ⟨Nat.le_of_ble_eq_true rfl, Nat.le_of_ble_eq_true rfl⟩ ⟨rfl, rfl⟩ ⟨Nat.zero_le _, Nat.zero_le _⟩ rfl (Nat.le_of_ble_eq_true rfl) dX10_giftBy_120 rfl ?_
      exact wa_iret cx h dX10_giftBy_123
    · rw [if_neg q12] at h
      refine wa_iload cx dX10_giftBy_90 rfl ?_
      refine wa_aload_n cx (i := 0) dX10_giftBy_92 rfl rfl ?_
      refine gf_X10_160 cx h_c0 dX10_giftBy_93 ?_
      refine wa_iadd cx dX10_giftBy_96 ?_
      refine wa_iload cx dX10_giftBy_97 rfl ?_
      obtain ⟨x17, S18, e19, h⟩ := bd_some h
      refine wa_callSi cx (m_X10_lesser l cx.2.2.2.2.2.2.1  e19) vl_X10_192 ⟨Nat.le_of_ble_eq_true rfl, Nat.le_of_ble_eq_true rfl⟩ ⟨rfl, rfl⟩ ⟨Nat.zero_le _, Nat.zero_le _⟩ rfl (Nat.le_of_ble_eq_true rfl) dX10_giftBy_99 rfl ?_
      refine wa_iload cx dX10_giftBy_102 rfl ?_
      obtain ⟨x20, S21, e22, h⟩ := bd_some h
      refine wa_callSi cx (m_X10_lesser l cx.2.2.2.2.2.2.1  e22) vl_X10_192 ⟨Nat.le_of_ble_eq_true rfl, Nat.le_of_ble_eq_true rfl⟩ ⟨rfl, rfl⟩ ⟨Nat.zero_le _, Nat.zero_le _⟩ rfl (Nat.le_of_ble_eq_true rfl) dX10_giftBy_104 rfl ?_
      exact wa_iret cx h dX10_giftBy_107
  rw [if_neg q8] at h
  by_cases q23 : a1 = (4 : Int32)
  · rw [if_pos q23] at h
    refine wa_tabIn cx dX10_giftBy_9 124 (by rw [q23]; decide) (by rw [q23]; decide) (by rw [q23] <;> rfl) (by decide) ?_
    refine wa_iload cx dX10_giftBy_124 rfl ?_
    refine wa_iload cx dX10_giftBy_126 rfl ?_
    refine wa_icmp_gt cx dX10_giftBy_128 136 (by decide) (fun q24 => ?_) (fun q24 => ?_)
    · rw [if_pos q24] at h
      refine wa_iconst cx dX10_giftBy_136 (0 : Int32) (by decide) ?_
      exact wa_iret cx h dX10_giftBy_137
    · rw [if_neg q24] at h
      refine wa_iload cx dX10_giftBy_131 rfl ?_
      refine wa_goto cx dX10_giftBy_133 137 (by decide) ?_
      exact wa_iret cx h dX10_giftBy_137
  rw [if_neg q23] at h
  by_cases q25 : a1 = (5 : Int32)
  · rw [if_pos q25] at h
    refine wa_tabIn cx dX10_giftBy_9 138 (by rw [q25]; decide) (by rw [q25]; decide) (by rw [q25] <;> rfl) (by decide) ?_
    refine wa_aload_n cx (i := 0) dX10_giftBy_138 rfl rfl ?_
    refine gf_X10_34 cx h_c0 dX10_giftBy_139 ?_
    refine wa_aload_n cx (i := 0) dX10_giftBy_142 rfl rfl ?_
    refine gf_X10_46 cx h_c0 dX10_giftBy_143 ?_
    refine wa_iload_n cx (i := 2) dX10_giftBy_146 rfl rfl ?_
    obtain ⟨b26, h⟩ := ob_some h
    refine wa_iald cx dX10_giftBy_147 (kq10_14 cx.2.2.2.2.2.2.1 h_c0) b26 ?_
    obtain ⟨b27, h⟩ := ob_some h
    refine wa_iald cx dX10_giftBy_148 (kq10_9 cx.2.2.2.2.2.2.1 h_c0) b27 ?_
    refine wa_iload cx dX10_giftBy_149 rfl ?_
    obtain ⟨x28, S29, e30, h⟩ := bd_some h
    refine wa_callSi cx (m_X10_lesser l cx.2.2.2.2.2.2.1  e30) vl_X10_192 ⟨Nat.le_of_ble_eq_true rfl, Nat.le_of_ble_eq_true rfl⟩ ⟨rfl, rfl⟩ ⟨Nat.zero_le _, Nat.zero_le _⟩ rfl (Nat.le_of_ble_eq_true rfl) dX10_giftBy_151 rfl ?_
    exact wa_iret cx h dX10_giftBy_154
  rw [if_neg q25] at h
  refine wa_tabDef cx dX10_giftBy_9 155 [0, 2, 3, 4, 5] (by decide) (by decide) (show allne _ _ from ⟨ne_toInt q4, ne_toInt q7, ne_toInt q8, ne_toInt q23, ne_toInt q25, trivial⟩) (by decide) ?_
  refine wa_iload cx dX10_giftBy_155 rfl ?_
  refine wa_iload cx dX10_giftBy_157 rfl ?_
  refine wa_iadd cx dX10_giftBy_159 ?_
  refine wa_iconst cx dX10_giftBy_160 (1 : Int32) (by decide) ?_
  refine wa_isub cx dX10_giftBy_161 ?_
  refine wa_iload cx dX10_giftBy_162 rfl ?_
  obtain ⟨b31, h⟩ := ck_some h
  refine wa_idiv cx dX10_giftBy_164 b31 ?_
  refine wa_iload cx dX10_giftBy_165 rfl ?_
  obtain ⟨x32, S33, e34, h⟩ := bd_some h
  refine wa_callSi cx (m_X10_lesser l cx.2.2.2.2.2.2.1  e34) vl_X10_192 ⟨Nat.le_of_ble_eq_true rfl, Nat.le_of_ble_eq_true rfl⟩ ⟨rfl, rfl⟩ ⟨Nat.zero_le _, Nat.zero_le _⟩ rfl (Nat.le_of_ble_eq_true rfl) dX10_giftBy_167 rfl ?_
  exact wa_iret cx h dX10_giftBy_170
def rm_X10_goAll : Room := { frames := 2, cells := 0, slots := 0, locals := 48 }
def f_X10_goAll_J253 (c0 : Nat) (kb30 : Int32 → Int32 → St → Option (Unit × St)) (l1 : Int32) (l2 : Int32) (l3 : Int32) (k0 : Nat) (k1 : Int32) (k2 : Int32) (S : St) : Option (Unit × St) := ob k1 8 (sq (pI S k0 (Int32.toNatClampNeg k1) k2) fun S2 => ob l3 8 (sq (pI S2 c0 32 ((S2.1 c0 32) + (S2.1 (c0 + 20) (Int32.toNatClampNeg l3)))) fun S4 => ob l3 8 (sq (pI S4 c0 33 ((S4.1 c0 33) + (S4.1 (c0 + 21) (Int32.toNatClampNeg l3)))) fun S6 => ob l3 8 (if (S6.1 (c0 + 20) (Int32.toNatClampNeg l3)) ≤ 0 then sq (pI S6 c0 34 ((S6.1 c0 34) + (0 : Int32))) fun S9 => kb30 l1 (l2 + (1 : Int32)) S9 else sq (pI S6 c0 34 ((S6.1 c0 34) + (1 : Int32))) fun S10 => kb30 l1 (l2 + (1 : Int32)) S10))))
set_option maxHeartbeats 4000000 in
set_option maxRecDepth 100000 in
theorem w_X10_goAll_J253 {p : Program} {l : Launch} {e : Env} {s : State} {m : MethodId} {args : Array Value} {below : List Frame} {meth : Method} {c : Code} {g : Gl} {r : Unit × St} {c0 : Nat} {kb30 : Int32 → Int32 → St → Option (Unit × St)} (cx : Cx p s m args meth c cX10_goAll 6 none RX10 g (Ap g)) (h_c0 : kd g c0 = 10) (hkb30 : ∀ (l1 : Int32) (l2 : Int32) (S : St), kb30 l1 l2 S = some r → WA p l e rm_X10_goAll s m args below meth c 0 0 (MQ below (QWv g r) args s 0 0 (Ap g)) 6 g (Ap g) S 30 [(0, .ref (ad g c0)), (1, .int l1), (2, .int l2)] []) : ∀ (l1 : Int32) (l2 : Int32) (l3 : Int32) (k0 : Nat) (k1 : Int32) (k2 : Int32) (S : St), kd g k0 = 11 ∧ lnT k0 = 8 → f_X10_goAll_J253 c0 kb30 l1 l2 l3 k0 k1 k2 S = some r → WA p l e rm_X10_goAll s m args below meth c 0 0 (MQ below (QWv g r) args s 0 0 (Ap g)) 6 g (Ap g) S 253 [(0, .ref (ad g c0)), (1, .int l1), (2, .int l2), (3, .int l3)] [.int k2, .int k1, .ref (ad g k0)] := by
  intro l1 l2 l3 k0 k1 k2 S h_k0 h
  rw [f_X10_goAll_J253] at h
  obtain ⟨b1, h⟩ := ob_some h
  refine wa_iast cx dX10_goAll_253 h_k0 b1 ?_
  replace h := sq_eq h
  generalize (pI S k0 (Int32.toNatClampNeg k1) k2) = S2 at h ⊢
  refine wa_aload_n cx (i := 0) dX10_goAll_254 rfl rfl ?_
  refine wa_dup cx dX10_goAll_255 rfl ?_
  refine gf_X10_196 cx h_c0 dX10_goAll_256 ?_
  refine wa_aload_n cx (i := 0) dX10_goAll_259 rfl rfl ?_
  refine gf_X10_67 cx h_c0 dX10_goAll_260 ?_
  refine wa_iload_n cx (i := 3) dX10_goAll_263 rfl rfl ?_
  obtain ⟨b3, h⟩ := ob_some h
  refine wa_iald cx dX10_goAll_264 (kq10_30 cx.2.2.2.2.2.2.1 h_c0) b3 ?_
  refine wa_iadd cx dX10_goAll_265 ?_
  refine pf_X10_196 cx h_c0 dX10_goAll_266 ?_
  replace h := sq_eq h
  generalize (pI S2 c0 32 ((S2.1 c0 32) + (S2.1 (c0 + 20) (Int32.toNatClampNeg l3)))) = S4 at h ⊢
  refine wa_aload_n cx (i := 0) dX10_goAll_269 rfl rfl ?_
  refine wa_dup cx dX10_goAll_270 rfl ?_
  refine gf_X10_199 cx h_c0 dX10_goAll_271 ?_
  refine wa_aload_n cx (i := 0) dX10_goAll_274 rfl rfl ?_
  refine gf_X10_70 cx h_c0 dX10_goAll_275 ?_
  refine wa_iload_n cx (i := 3) dX10_goAll_278 rfl rfl ?_
  obtain ⟨b5, h⟩ := ob_some h
  refine wa_iald cx dX10_goAll_279 (kq10_31 cx.2.2.2.2.2.2.1 h_c0) b5 ?_
  refine wa_iadd cx dX10_goAll_280 ?_
  refine pf_X10_199 cx h_c0 dX10_goAll_281 ?_
  replace h := sq_eq h
  generalize (pI S4 c0 33 ((S4.1 c0 33) + (S4.1 (c0 + 21) (Int32.toNatClampNeg l3)))) = S6 at h ⊢
  refine wa_aload_n cx (i := 0) dX10_goAll_284 rfl rfl ?_
  refine wa_dup cx dX10_goAll_285 rfl ?_
  refine gf_X10_202 cx h_c0 dX10_goAll_286 ?_
  refine wa_aload_n cx (i := 0) dX10_goAll_289 rfl rfl ?_
  refine gf_X10_67 cx h_c0 dX10_goAll_290 ?_
  refine wa_iload_n cx (i := 3) dX10_goAll_293 rfl rfl ?_
  obtain ⟨b7, h⟩ := ob_some h
  refine wa_iald cx dX10_goAll_294 (kq10_30 cx.2.2.2.2.2.2.1 h_c0) b7 ?_
  refine wa_if_le cx dX10_goAll_295 302 (by decide) (fun q8 => ?_) (fun q8 => ?_)
  · rw [if_pos q8] at h
    refine wa_iconst cx dX10_goAll_302 (0 : Int32) (by decide) ?_
    refine wa_iadd cx dX10_goAll_303 ?_
    refine pf_X10_202 cx h_c0 dX10_goAll_304 ?_
    replace h := sq_eq h
    generalize (pI S6 c0 34 ((S6.1 c0 34) + (0 : Int32))) = S9 at h ⊢
    refine wa_iinc cx dX10_goAll_307 (l2 + (1 : Int32)) [(0, .ref (ad g c0)), (1, .int l1), (2, .int (l2 + (1 : Int32)))] rfl rfl (Nat.le_of_ble_eq_true rfl) rfl (lvs_c rfl (lvs_c rfl (lvs_c rfl (lvs_n)))) ?_
    refine wa_goto cx dX10_goAll_310 30 (by decide) ?_
    refine wa_sub (lv' := [(0, .ref (ad g c0)), (1, .int l1), (2, .int (l2 + (1 : Int32)))]) (lvs_c rfl (lvs_c rfl (lvs_c rfl (lvs_n)))) ?_
    exact hkb30 l1 (l2 + (1 : Int32)) S9  h
  · rw [if_neg q8] at h
    refine wa_iconst cx dX10_goAll_298 (1 : Int32) (by decide) ?_
    refine wa_goto cx dX10_goAll_299 303 (by decide) ?_
    refine wa_iadd cx dX10_goAll_303 ?_
    refine pf_X10_202 cx h_c0 dX10_goAll_304 ?_
    replace h := sq_eq h
    generalize (pI S6 c0 34 ((S6.1 c0 34) + (1 : Int32))) = S10 at h ⊢
    refine wa_iinc cx dX10_goAll_307 (l2 + (1 : Int32)) [(0, .ref (ad g c0)), (1, .int l1), (2, .int (l2 + (1 : Int32)))] rfl rfl (Nat.le_of_ble_eq_true rfl) rfl (lvs_c rfl (lvs_c rfl (lvs_c rfl (lvs_n)))) ?_
    refine wa_goto cx dX10_goAll_310 30 (by decide) ?_
    refine wa_sub (lv' := [(0, .ref (ad g c0)), (1, .int l1), (2, .int (l2 + (1 : Int32)))]) (lvs_c rfl (lvs_c rfl (lvs_c rfl (lvs_n)))) ?_
    exact hkb30 l1 (l2 + (1 : Int32)) S10  h
def f_X10_goAll_J173 (c0 : Nat) (kb30 : Int32 → Int32 → St → Option (Unit × St)) (l1 : Int32) (l2 : Int32) (l3 : Int32) (l4 : Int32) (k0 : Int32) (S : St) : Option (Unit × St) := if (S.1 (c0 + 2) (Int32.toNatClampNeg (8 : Int32))) = 0 then f_X10_goAll_J253 c0 kb30 l1 l2 l3 (c0 + 21) l3 (0 : Int32) S else ob l3 8 (ob l4 12 (ob l3 8 (bd (f_X10_lackOf c0 (S.1 (c0 + 2) (Int32.toNatClampNeg (8 : Int32))) (S.1 c0 33) S) fun x15 S16 => bd (f_X10_giftBy c0 k0 l3 (((S.1 (c0 + 19) (Int32.toNatClampNeg l3)) * (S.1 (c0 + 2) (Int32.toNatClampNeg (9 : Int32)))) / (100 : Int32)) ((S.1 (c0 + 6) (Int32.toNatClampNeg l4)) - (S.1 (c0 + 20) (Int32.toNatClampNeg l3))) x15 ((S16.1 c0 27) - l2) S16) fun x18 S19 => f_X10_goAll_J253 c0 kb30 l1 l2 l3 (c0 + 21) l3 x18 S19)))
set_option maxHeartbeats 4000000 in
set_option maxRecDepth 100000 in
theorem w_X10_goAll_J173 {p : Program} {l : Launch} {e : Env} {s : State} {m : MethodId} {args : Array Value} {below : List Frame} {meth : Method} {c : Code} {g : Gl} {r : Unit × St} {c0 : Nat} {kb30 : Int32 → Int32 → St → Option (Unit × St)} (cx : Cx p s m args meth c cX10_goAll 6 none RX10 g (Ap g)) (h_c0 : kd g c0 = 10) (hkb30 : ∀ (l1 : Int32) (l2 : Int32) (S : St), kb30 l1 l2 S = some r → WA p l e rm_X10_goAll s m args below meth c 0 0 (MQ below (QWv g r) args s 0 0 (Ap g)) 6 g (Ap g) S 30 [(0, .ref (ad g c0)), (1, .int l1), (2, .int l2)] []) : ∀ (l1 : Int32) (l2 : Int32) (l3 : Int32) (l4 : Int32) (k0 : Int32) (S : St), f_X10_goAll_J173 c0 kb30 l1 l2 l3 l4 k0 S = some r → WA p l e rm_X10_goAll s m args below meth c 0 0 (MQ below (QWv g r) args s 0 0 (Ap g)) 6 g (Ap g) S 173 [(0, .ref (ad g c0)), (1, .int l1), (2, .int l2), (3, .int l3), (4, .int l4)] [.int k0] := by
  intro l1 l2 l3 l4 k0 S h
  rw [f_X10_goAll_J173] at h
  refine wa_istore cx dX10_goAll_173 [(0, .ref (ad g c0)), (1, .int l1), (2, .int l2), (3, .int l3), (4, .int l4), (5, .int k0)] (Nat.le_of_ble_eq_true rfl) rfl (lvs_c rfl (lvs_c rfl (lvs_c rfl (lvs_c rfl (lvs_c rfl (lvs_c rfl (lvs_n))))))) ?_
  refine wa_aload_n cx (i := 0) dX10_goAll_175 rfl rfl ?_
  refine gf_X10_70 cx h_c0 dX10_goAll_176 ?_
  refine wa_iload_n cx (i := 3) dX10_goAll_179 rfl rfl ?_
  refine wa_aload_n cx (i := 0) dX10_goAll_180 rfl rfl ?_
  refine gf_X10_13 cx h_c0 dX10_goAll_181 ?_
  refine wa_bipush cx dX10_goAll_184 (8 : Int32) (by decide) ?_
  refine wa_iald cx dX10_goAll_186 (kq10_2 cx.2.2.2.2.2.2.1 h_c0) (vinl (by decide)) ?_
  refine wa_if_ne cx dX10_goAll_187 194 (by decide) (fun q11 => ?_) (fun q11 => ?_)
  · rw [if_neg q11] at h
    refine wa_aload_n cx (i := 0) dX10_goAll_194 rfl rfl ?_
    refine wa_iload cx dX10_goAll_195 rfl ?_
    refine wa_iload_n cx (i := 3) dX10_goAll_197 rfl rfl ?_
    refine wa_aload_n cx (i := 0) dX10_goAll_198 rfl rfl ?_
    refine gf_X10_64 cx h_c0 dX10_goAll_199 ?_
    refine wa_iload_n cx (i := 3) dX10_goAll_202 rfl rfl ?_
    obtain ⟨b12, h⟩ := ob_some h
    refine wa_iald cx dX10_goAll_203 (kq10_29 cx.2.2.2.2.2.2.1 h_c0) b12 ?_
    refine wa_aload_n cx (i := 0) dX10_goAll_204 rfl rfl ?_
    refine gf_X10_13 cx h_c0 dX10_goAll_205 ?_
    refine wa_bipush cx dX10_goAll_208 (9 : Int32) (by decide) ?_
    refine wa_iald cx dX10_goAll_210 (kq10_2 cx.2.2.2.2.2.2.1 h_c0) (vinl (by decide)) ?_
    refine wa_imul cx dX10_goAll_211 ?_
    refine wa_bipush cx dX10_goAll_212 (100 : Int32) (by decide) ?_
    refine wa_idiv cx dX10_goAll_214 (by decide) ?_
    refine wa_aload_n cx (i := 0) dX10_goAll_215 rfl rfl ?_
    refine gf_X10_25 cx h_c0 dX10_goAll_216 ?_
    refine wa_iload cx dX10_goAll_219 rfl ?_
    obtain ⟨b13, h⟩ := ob_some h
    refine wa_iald cx dX10_goAll_221 (kq10_6 cx.2.2.2.2.2.2.1 h_c0) b13 ?_
    refine wa_aload_n cx (i := 0) dX10_goAll_222 rfl rfl ?_
    refine gf_X10_67 cx h_c0 dX10_goAll_223 ?_
    refine wa_iload_n cx (i := 3) dX10_goAll_226 rfl rfl ?_
    obtain ⟨b14, h⟩ := ob_some h
    refine wa_iald cx dX10_goAll_227 (kq10_30 cx.2.2.2.2.2.2.1 h_c0) b14 ?_
    refine wa_isub cx dX10_goAll_228 ?_
    refine wa_aload_n cx (i := 0) dX10_goAll_229 rfl rfl ?_
    refine wa_aload_n cx (i := 0) dX10_goAll_230 rfl rfl ?_
    refine gf_X10_13 cx h_c0 dX10_goAll_231 ?_
    refine wa_bipush cx dX10_goAll_234 (8 : Int32) (by decide) ?_
    refine wa_iald cx dX10_goAll_236 (kq10_2 cx.2.2.2.2.2.2.1 h_c0) (vinl (by decide)) ?_
    refine wa_aload_n cx (i := 0) dX10_goAll_237 rfl rfl ?_
    refine gf_X10_199 cx h_c0 dX10_goAll_238 ?_
    obtain ⟨x15, S16, e17, h⟩ := bd_some h
    refine wa_callVi cx (m_X10_lackOf l cx.2.2.2.2.2.2.1 h_c0 e17) vl_X10_205 h_c0 (by decide) rfl rfl ⟨_, cell_eq10 (kd_lt h_c0 (by decide)).2⟩ ⟨Nat.le_of_ble_eq_true rfl, Nat.le_of_ble_eq_true rfl⟩ ⟨rfl, rfl⟩ ⟨Nat.zero_le _, Nat.zero_le _⟩ rfl (Nat.le_of_ble_eq_true rfl) dX10_goAll_241 rfl ?_
    refine wa_aload_n cx (i := 0) dX10_goAll_244 rfl rfl ?_
    refine gf_X10_175 cx h_c0 dX10_goAll_245 ?_
    refine wa_iload_n cx (i := 2) dX10_goAll_248 rfl rfl ?_
    refine wa_isub cx dX10_goAll_249 ?_
    obtain ⟨x18, S19, e20, h⟩ := bd_some h
    refine wa_callVi cx (m_X10_giftBy l cx.2.2.2.2.2.2.1 h_c0 e20) vl_X10_208 h_c0 (by decide) rfl rfl ⟨_, cell_eq10 (kd_lt h_c0 (by decide)).2⟩ ⟨Nat.le_of_ble_eq_true rfl, Nat.le_of_ble_eq_true rfl⟩ ⟨rfl, rfl⟩ ⟨Nat.zero_le _, Nat.zero_le _⟩ rfl (Nat.le_of_ble_eq_true rfl) dX10_goAll_250 rfl ?_
    refine wa_sub (lv' := [(0, .ref (ad g c0)), (1, .int l1), (2, .int l2), (3, .int l3)]) (lvs_c rfl (lvs_c rfl (lvs_c rfl (lvs_c rfl (lvs_n))))) ?_
    exact w_X10_goAll_J253 cx h_c0 hkb30  l1 l2 l3 (c0 + 21) l3 x18 S19 (kq10_31 cx.2.2.2.2.2.2.1 h_c0) h
  · rw [if_pos q11] at h
    refine wa_iconst cx dX10_goAll_190 (0 : Int32) (by decide) ?_
    refine wa_goto cx dX10_goAll_191 253 (by decide) ?_
    refine wa_sub (lv' := [(0, .ref (ad g c0)), (1, .int l1), (2, .int l2), (3, .int l3)]) (lvs_c rfl (lvs_c rfl (lvs_c rfl (lvs_c rfl (lvs_n))))) ?_
    exact w_X10_goAll_J253 cx h_c0 hkb30  l1 l2 l3 (c0 + 21) l3 (0 : Int32) S (kq10_31 cx.2.2.2.2.2.2.1 h_c0) h
def f_X10_goAll_J162 (c0 : Nat) (kb30 : Int32 → Int32 → St → Option (Unit × St)) (l1 : Int32) (l2 : Int32) (l3 : Int32) (l4 : Int32) (S : St) : Option (Unit × St) := f_X10_goAll_J173 c0 kb30 l1 l2 l3 l4 (1 : Int32) S
set_option maxHeartbeats 4000000 in
set_option maxRecDepth 100000 in
theorem w_X10_goAll_J162 {p : Program} {l : Launch} {e : Env} {s : State} {m : MethodId} {args : Array Value} {below : List Frame} {meth : Method} {c : Code} {g : Gl} {r : Unit × St} {c0 : Nat} {kb30 : Int32 → Int32 → St → Option (Unit × St)} (cx : Cx p s m args meth c cX10_goAll 6 none RX10 g (Ap g)) (h_c0 : kd g c0 = 10) (hkb30 : ∀ (l1 : Int32) (l2 : Int32) (S : St), kb30 l1 l2 S = some r → WA p l e rm_X10_goAll s m args below meth c 0 0 (MQ below (QWv g r) args s 0 0 (Ap g)) 6 g (Ap g) S 30 [(0, .ref (ad g c0)), (1, .int l1), (2, .int l2)] []) : ∀ (l1 : Int32) (l2 : Int32) (l3 : Int32) (l4 : Int32) (S : St), f_X10_goAll_J162 c0 kb30 l1 l2 l3 l4 S = some r → WA p l e rm_X10_goAll s m args below meth c 0 0 (MQ below (QWv g r) args s 0 0 (Ap g)) 6 g (Ap g) S 162 [(0, .ref (ad g c0)), (1, .int l1), (2, .int l2), (3, .int l3), (4, .int l4)] [] := by
  intro l1 l2 l3 l4 S h
  rw [f_X10_goAll_J162] at h
  refine wa_iconst cx dX10_goAll_162 (1 : Int32) (by decide) ?_
  refine wa_goto cx dX10_goAll_163 173 (by decide) ?_
  refine wa_sub (lv' := [(0, .ref (ad g c0)), (1, .int l1), (2, .int l2), (3, .int l3), (4, .int l4)]) (lvs_c rfl (lvs_c rfl (lvs_c rfl (lvs_c rfl (lvs_c rfl (lvs_n)))))) ?_
  exact w_X10_goAll_J173 cx h_c0 hkb30  l1 l2 l3 l4 (1 : Int32) S  h
def f_X10_goAll_J91 (c0 : Nat) (kb30 : Int32 → Int32 → St → Option (Unit × St)) (l1 : Int32) (l2 : Int32) (l3 : Int32) (l4 : Int32) (S : St) : Option (Unit × St) := ob l4 12 (ob l3 8 (ob l4 12 (bd (f_X10_lackOf c0 (S.1 c0 19) (S.1 c0 32) S) fun x24 S25 => bd (f_X10_giftBy c0 (S.1 (c0 + 5) (Int32.toNatClampNeg l4)) l3 (S.1 (c0 + 19) (Int32.toNatClampNeg l3)) (S.1 (c0 + 6) (Int32.toNatClampNeg l4)) x24 ((S25.1 c0 27) - l2) S25) fun x27 S28 => ob l3 8 (sq (pI S28 (c0 + 20) (Int32.toNatClampNeg l3) x27) fun S31 => ob l4 12 (if (S31.1 (c0 + 5) (Int32.toNatClampNeg l4)) = (3 : Int32) then f_X10_goAll_J162 c0 kb30 l1 l2 l3 l4 S31 else ob l4 12 (if (S31.1 (c0 + 5) (Int32.toNatClampNeg l4)) = (5 : Int32) then f_X10_goAll_J162 c0 kb30 l1 l2 l3 l4 S31 else ob l4 12 (f_X10_goAll_J173 c0 kb30 l1 l2 l3 l4 (S31.1 (c0 + 5) (Int32.toNatClampNeg l4)) S31)))))))
set_option maxHeartbeats 4000000 in
set_option maxRecDepth 100000 in
theorem w_X10_goAll_J91 {p : Program} {l : Launch} {e : Env} {s : State} {m : MethodId} {args : Array Value} {below : List Frame} {meth : Method} {c : Code} {g : Gl} {r : Unit × St} {c0 : Nat} {kb30 : Int32 → Int32 → St → Option (Unit × St)} (cx : Cx p s m args meth c cX10_goAll 6 none RX10 g (Ap g)) (h_c0 : kd g c0 = 10) (hkb30 : ∀ (l1 : Int32) (l2 : Int32) (S : St), kb30 l1 l2 S = some r → WA p l e rm_X10_goAll s m args below meth c 0 0 (MQ below (QWv g r) args s 0 0 (Ap g)) 6 g (Ap g) S 30 [(0, .ref (ad g c0)), (1, .int l1), (2, .int l2)] []) : ∀ (l1 : Int32) (l2 : Int32) (l3 : Int32) (l4 : Int32) (S : St), f_X10_goAll_J91 c0 kb30 l1 l2 l3 l4 S = some r → WA p l e rm_X10_goAll s m args below meth c 0 0 (MQ below (QWv g r) args s 0 0 (Ap g)) 6 g (Ap g) S 91 [(0, .ref (ad g c0)), (1, .int l1), (2, .int l2), (3, .int l3), (4, .int l4)] [] := by
  intro l1 l2 l3 l4 S h
  rw [f_X10_goAll_J91] at h
  refine wa_aload_n cx (i := 0) dX10_goAll_91 rfl rfl ?_
  refine gf_X10_67 cx h_c0 dX10_goAll_92 ?_
  refine wa_iload_n cx (i := 3) dX10_goAll_95 rfl rfl ?_
  refine wa_aload_n cx (i := 0) dX10_goAll_96 rfl rfl ?_
  refine wa_aload_n cx (i := 0) dX10_goAll_97 rfl rfl ?_
  refine gf_X10_22 cx h_c0 dX10_goAll_98 ?_
  refine wa_iload cx dX10_goAll_101 rfl ?_
  obtain ⟨b21, h⟩ := ob_some h
  refine wa_iald cx dX10_goAll_103 (kq10_5 cx.2.2.2.2.2.2.1 h_c0) b21 ?_
  refine wa_iload_n cx (i := 3) dX10_goAll_104 rfl rfl ?_
  refine wa_aload_n cx (i := 0) dX10_goAll_105 rfl rfl ?_
  refine gf_X10_64 cx h_c0 dX10_goAll_106 ?_
  refine wa_iload_n cx (i := 3) dX10_goAll_109 rfl rfl ?_
  obtain ⟨b22, h⟩ := ob_some h
  refine wa_iald cx dX10_goAll_110 (kq10_29 cx.2.2.2.2.2.2.1 h_c0) b22 ?_
  refine wa_aload_n cx (i := 0) dX10_goAll_111 rfl rfl ?_
  refine gf_X10_25 cx h_c0 dX10_goAll_112 ?_
  refine wa_iload cx dX10_goAll_115 rfl ?_
  obtain ⟨b23, h⟩ := ob_some h
  refine wa_iald cx dX10_goAll_117 (kq10_6 cx.2.2.2.2.2.2.1 h_c0) b23 ?_
  refine wa_aload_n cx (i := 0) dX10_goAll_118 rfl rfl ?_
  refine wa_aload_n cx (i := 0) dX10_goAll_119 rfl rfl ?_
  refine gf_X10_154 cx h_c0 dX10_goAll_120 ?_
  refine wa_aload_n cx (i := 0) dX10_goAll_123 rfl rfl ?_
  refine gf_X10_196 cx h_c0 dX10_goAll_124 ?_
  obtain ⟨x24, S25, e26, h⟩ := bd_some h
  refine wa_callVi cx (m_X10_lackOf l cx.2.2.2.2.2.2.1 h_c0 e26) vl_X10_205 h_c0 (by decide) rfl rfl ⟨_, cell_eq10 (kd_lt h_c0 (by decide)).2⟩ ⟨Nat.le_of_ble_eq_true rfl, Nat.le_of_ble_eq_true rfl⟩ ⟨rfl, rfl⟩ ⟨Nat.zero_le _, Nat.zero_le _⟩ rfl (Nat.le_of_ble_eq_true rfl) dX10_goAll_127 rfl ?_
  refine wa_aload_n cx (i := 0) dX10_goAll_130 rfl rfl ?_
  refine gf_X10_175 cx h_c0 dX10_goAll_131 ?_
  refine wa_iload_n cx (i := 2) dX10_goAll_134 rfl rfl ?_
  refine wa_isub cx dX10_goAll_135 ?_
  obtain ⟨x27, S28, e29, h⟩ := bd_some h
  refine wa_callVi cx (m_X10_giftBy l cx.2.2.2.2.2.2.1 h_c0 e29) vl_X10_208 h_c0 (by decide) rfl rfl ⟨_, cell_eq10 (kd_lt h_c0 (by decide)).2⟩ ⟨Nat.le_of_ble_eq_true rfl, Nat.le_of_ble_eq_true rfl⟩ ⟨rfl, rfl⟩ ⟨Nat.zero_le _, Nat.zero_le _⟩ rfl (Nat.le_of_ble_eq_true rfl) dX10_goAll_136 rfl ?_
  obtain ⟨b30, h⟩ := ob_some h
  refine wa_iast cx dX10_goAll_139 (kq10_30 cx.2.2.2.2.2.2.1 h_c0) b30 ?_
  replace h := sq_eq h
  generalize (pI S28 (c0 + 20) (Int32.toNatClampNeg l3) x27) = S31 at h ⊢
  refine wa_aload_n cx (i := 0) dX10_goAll_140 rfl rfl ?_
  refine gf_X10_22 cx h_c0 dX10_goAll_141 ?_
  refine wa_iload cx dX10_goAll_144 rfl ?_
  obtain ⟨b32, h⟩ := ob_some h
  refine wa_iald cx dX10_goAll_146 (kq10_5 cx.2.2.2.2.2.2.1 h_c0) b32 ?_
  refine wa_iconst cx dX10_goAll_147 (3 : Int32) (by decide) ?_
  refine wa_icmp_eq cx dX10_goAll_148 162 (by decide) (fun q33 => ?_) (fun q33 => ?_)
  · rw [if_pos q33] at h
    refine wa_sub (lv' := [(0, .ref (ad g c0)), (1, .int l1), (2, .int l2), (3, .int l3), (4, .int l4)]) (lvs_c rfl (lvs_c rfl (lvs_c rfl (lvs_c rfl (lvs_c rfl (lvs_n)))))) ?_
    exact w_X10_goAll_J162 cx h_c0 hkb30  l1 l2 l3 l4 S31  h
  · rw [if_neg q33] at h
    refine wa_aload_n cx (i := 0) dX10_goAll_151 rfl rfl ?_
    refine gf_X10_22 cx h_c0 dX10_goAll_152 ?_
    refine wa_iload cx dX10_goAll_155 rfl ?_
    obtain ⟨b34, h⟩ := ob_some h
    refine wa_iald cx dX10_goAll_157 (kq10_5 cx.2.2.2.2.2.2.1 h_c0) b34 ?_
    refine wa_iconst cx dX10_goAll_158 (5 : Int32) (by decide) ?_
    refine wa_icmp_ne cx dX10_goAll_159 166 (by decide) (fun q35 => ?_) (fun q35 => ?_)
    · rw [if_neg q35] at h
      refine wa_aload_n cx (i := 0) dX10_goAll_166 rfl rfl ?_
      refine gf_X10_22 cx h_c0 dX10_goAll_167 ?_
      refine wa_iload cx dX10_goAll_170 rfl ?_
      obtain ⟨b36, h⟩ := ob_some h
      refine wa_iald cx dX10_goAll_172 (kq10_5 cx.2.2.2.2.2.2.1 h_c0) b36 ?_
      refine wa_sub (lv' := [(0, .ref (ad g c0)), (1, .int l1), (2, .int l2), (3, .int l3), (4, .int l4)]) (lvs_c rfl (lvs_c rfl (lvs_c rfl (lvs_c rfl (lvs_c rfl (lvs_n)))))) ?_
      exact w_X10_goAll_J173 cx h_c0 hkb30  l1 l2 l3 l4 (S31.1 (c0 + 5) (Int32.toNatClampNeg l4)) S31  h
    · rw [if_pos q35] at h
      refine wa_sub (lv' := [(0, .ref (ad g c0)), (1, .int l1), (2, .int l2), (3, .int l3), (4, .int l4)]) (lvs_c rfl (lvs_c rfl (lvs_c rfl (lvs_c rfl (lvs_c rfl (lvs_n)))))) ?_
      exact w_X10_goAll_J162 cx h_c0 hkb30  l1 l2 l3 l4 S31  h
def f_X10_goAll_L30 : Nat → Nat → Int32 → Int32 → St → Option (Unit × St)
  | 0, _, _, _, _ => none
  | n + 1, c0, l1, l2, S => if (S.1 c0 27) ≤ l2 then if l1 = 0 then bd (f_X10_lesser (S.1 c0 23) (S.1 c0 32) S) fun x39 S40 => sq (pI S40 c0 32 ((S.1 c0 32) + x39)) fun S42 => some ((), S42) else some ((), S) else ob l2 8 (sq (S.1 (c0 + 18) (Int32.toNatClampNeg l2)) fun x44 => ob x44 8 (sq (S.1 (c0 + 13) (Int32.toNatClampNeg x44)) fun x46 => if l1 = 0 then bd (f_X10_dayOf c0 x44 S) fun x48 S49 => if x48 ≤ (S49.1 c0 24) then f_X10_goAll_J91 c0 (fun l1 l2 S => f_X10_goAll_L30 n c0 l1 l2 S) l1 l2 x44 x46 S49 else bd (f_X10_lesser (S49.1 c0 23) (S49.1 c0 32) S49) fun x52 S53 => sq (pI S53 c0 32 ((S49.1 c0 32) + x52)) fun S55 => f_X10_goAll_J91 c0 (fun l1 l2 S => f_X10_goAll_L30 n c0 l1 l2 S) (1 : Int32) l2 x44 x46 S55 else f_X10_goAll_J91 c0 (fun l1 l2 S => f_X10_goAll_L30 n c0 l1 l2 S) l1 l2 x44 x46 S))
set_option maxHeartbeats 4000000 in
set_option maxRecDepth 100000 in
theorem w_X10_goAll_L30 {p : Program} {l : Launch} {e : Env} {s : State} {m : MethodId} {args : Array Value} {below : List Frame} {meth : Method} {c : Code} {g : Gl} {r : Unit × St} {c0 : Nat} (cx : Cx p s m args meth c cX10_goAll 6 none RX10 g (Ap g)) (h_c0 : kd g c0 = 10) : ∀ n : Nat, ∀ (l1 : Int32) (l2 : Int32) (S : St), f_X10_goAll_L30 n c0 l1 l2 S = some r → WA p l e rm_X10_goAll s m args below meth c 0 0 (MQ below (QWv g r) args s 0 0 (Ap g)) 6 g (Ap g) S 30 [(0, .ref (ad g c0)), (1, .int l1), (2, .int l2)] [] := by
  intro n
  induction n with
  | zero => intro l1 l2 S h; rw [f_X10_goAll_L30] at h; cases h
  | succ n ih =>
    intro l1 l2 S h
    rw [f_X10_goAll_L30] at h
    refine wa_iload_n cx (i := 2) dX10_goAll_30 rfl rfl ?_
    refine wa_aload_n cx (i := 0) dX10_goAll_31 rfl rfl ?_
    refine gf_X10_175 cx h_c0 dX10_goAll_32 ?_
    refine wa_icmp_ge cx dX10_goAll_35 313 (by decide) (fun q37 => ?_) (fun q37 => ?_)
    · rw [if_pos q37] at h
      refine wa_iload_n cx (i := 1) dX10_goAll_313 rfl rfl ?_
      refine wa_if_ne cx dX10_goAll_314 337 (by decide) (fun q38 => ?_) (fun q38 => ?_)
      · rw [if_neg q38] at h
        exact wa_vret cx h dX10_goAll_337
      · rw [if_pos q38] at h
        refine wa_aload_n cx (i := 0) dX10_goAll_317 rfl rfl ?_
        refine wa_dup cx dX10_goAll_318 rfl ?_
        refine gf_X10_196 cx h_c0 dX10_goAll_319 ?_
        refine wa_aload_n cx (i := 0) dX10_goAll_322 rfl rfl ?_
        refine gf_X10_166 cx h_c0 dX10_goAll_323 ?_
        refine wa_aload_n cx (i := 0) dX10_goAll_326 rfl rfl ?_
        refine gf_X10_196 cx h_c0 dX10_goAll_327 ?_
        obtain ⟨x39, S40, e41, h⟩ := bd_some h
        refine wa_callSi cx (m_X10_lesser l cx.2.2.2.2.2.2.1  e41) vl_X10_192 ⟨Nat.le_of_ble_eq_true rfl, Nat.le_of_ble_eq_true rfl⟩ ⟨rfl, rfl⟩ ⟨Nat.zero_le _, Nat.zero_le _⟩ rfl (Nat.le_of_ble_eq_true rfl) dX10_goAll_330 rfl ?_
        refine wa_iadd cx dX10_goAll_333 ?_
        refine pf_X10_196 cx h_c0 dX10_goAll_334 ?_
        replace h := sq_eq h
        generalize (pI S40 c0 32 ((S.1 c0 32) + x39)) = S42 at h ⊢
        exact wa_vret cx h dX10_goAll_337
    · rw [if_neg q37] at h
      refine wa_aload_n cx (i := 0) dX10_goAll_38 rfl rfl ?_
      refine gf_X10_61 cx h_c0 dX10_goAll_39 ?_
      refine wa_iload_n cx (i := 2) dX10_goAll_42 rfl rfl ?_
      obtain ⟨b43, h⟩ := ob_some h
      refine wa_iald cx dX10_goAll_43 (kq10_28 cx.2.2.2.2.2.2.1 h_c0) b43 ?_
      replace h := sq_eq h
      generalize (S.1 (c0 + 18) (Int32.toNatClampNeg l2)) = x44 at h ⊢
      refine wa_istore_n cx (i := 3) dX10_goAll_44 [(0, .ref (ad g c0)), (1, .int l1), (2, .int l2), (3, .int x44)] rfl (Nat.le_of_ble_eq_true rfl) rfl (lvs_c rfl (lvs_c rfl (lvs_c rfl (lvs_c rfl (lvs_n))))) ?_
      refine wa_aload_n cx (i := 0) dX10_goAll_45 rfl rfl ?_
      refine gf_X10_46 cx h_c0 dX10_goAll_46 ?_
      refine wa_iload_n cx (i := 3) dX10_goAll_49 rfl rfl ?_
      obtain ⟨b45, h⟩ := ob_some h
      refine wa_iald cx dX10_goAll_50 (kq10_14 cx.2.2.2.2.2.2.1 h_c0) b45 ?_
      replace h := sq_eq h
      generalize (S.1 (c0 + 13) (Int32.toNatClampNeg x44)) = x46 at h ⊢
      refine wa_istore cx dX10_goAll_51 [(0, .ref (ad g c0)), (1, .int l1), (2, .int l2), (3, .int x44), (4, .int x46)] (Nat.le_of_ble_eq_true rfl) rfl (lvs_c rfl (lvs_c rfl (lvs_c rfl (lvs_c rfl (lvs_c rfl (lvs_n)))))) ?_
      refine wa_iload_n cx (i := 1) dX10_goAll_53 rfl rfl ?_
      refine wa_if_ne cx dX10_goAll_54 91 (by decide) (fun q47 => ?_) (fun q47 => ?_)
      · rw [if_neg q47] at h
        refine wa_sub (lv' := [(0, .ref (ad g c0)), (1, .int l1), (2, .int l2), (3, .int x44), (4, .int x46)]) (lvs_c rfl (lvs_c rfl (lvs_c rfl (lvs_c rfl (lvs_c rfl (lvs_n)))))) ?_
        exact w_X10_goAll_J91 cx h_c0 ih  l1 l2 x44 x46 S  h
      · rw [if_pos q47] at h
        refine wa_aload_n cx (i := 0) dX10_goAll_57 rfl rfl ?_
        refine wa_iload_n cx (i := 3) dX10_goAll_58 rfl rfl ?_
        obtain ⟨x48, S49, e50, h⟩ := bd_some h
        refine wa_callVi cx (m_X10_dayOf l cx.2.2.2.2.2.2.1 h_c0 e50) vl_X10_178 h_c0 (by decide) rfl rfl ⟨_, cell_eq10 (kd_lt h_c0 (by decide)).2⟩ ⟨Nat.le_of_ble_eq_true rfl, Nat.le_of_ble_eq_true rfl⟩ ⟨rfl, rfl⟩ ⟨Nat.zero_le _, Nat.zero_le _⟩ rfl (Nat.le_of_ble_eq_true rfl) dX10_goAll_59 rfl ?_
        refine wa_aload_n cx (i := 0) dX10_goAll_62 rfl rfl ?_
        refine gf_X10_169 cx h_c0 dX10_goAll_63 ?_
        refine wa_icmp_le cx dX10_goAll_66 91 (by decide) (fun q51 => ?_) (fun q51 => ?_)
        · rw [if_pos q51] at h
          refine wa_sub (lv' := [(0, .ref (ad g c0)), (1, .int l1), (2, .int l2), (3, .int x44), (4, .int x46)]) (lvs_c rfl (lvs_c rfl (lvs_c rfl (lvs_c rfl (lvs_c rfl (lvs_n)))))) ?_
          exact w_X10_goAll_J91 cx h_c0 ih  l1 l2 x44 x46 S49  h
        · rw [if_neg q51] at h
          refine wa_aload_n cx (i := 0) dX10_goAll_69 rfl rfl ?_
          refine wa_dup cx dX10_goAll_70 rfl ?_
          refine gf_X10_196 cx h_c0 dX10_goAll_71 ?_
          refine wa_aload_n cx (i := 0) dX10_goAll_74 rfl rfl ?_
          refine gf_X10_166 cx h_c0 dX10_goAll_75 ?_
          refine wa_aload_n cx (i := 0) dX10_goAll_78 rfl rfl ?_
          refine gf_X10_196 cx h_c0 dX10_goAll_79 ?_
          obtain ⟨x52, S53, e54, h⟩ := bd_some h
          refine wa_callSi cx (m_X10_lesser l cx.2.2.2.2.2.2.1  e54) vl_X10_192 ⟨Nat.le_of_ble_eq_true rfl, Nat.le_of_ble_eq_true rfl⟩ ⟨rfl, rfl⟩ ⟨Nat.zero_le _, Nat.zero_le _⟩ rfl (Nat.le_of_ble_eq_true rfl) dX10_goAll_82 rfl ?_
          refine wa_iadd cx dX10_goAll_85 ?_
          refine pf_X10_196 cx h_c0 dX10_goAll_86 ?_
          replace h := sq_eq h
          generalize (pI S53 c0 32 ((S49.1 c0 32) + x52)) = S55 at h ⊢
          refine wa_iconst cx dX10_goAll_89 (1 : Int32) (by decide) ?_
          refine wa_istore_n cx (i := 1) dX10_goAll_90 [(0, .ref (ad g c0)), (1, .int (1 : Int32)), (2, .int l2), (3, .int x44), (4, .int x46)] rfl (Nat.le_of_ble_eq_true rfl) rfl (lvs_c rfl (lvs_c rfl (lvs_c rfl (lvs_c rfl (lvs_c rfl (lvs_n)))))) ?_
          refine wa_sub (lv' := [(0, .ref (ad g c0)), (1, .int (1 : Int32)), (2, .int l2), (3, .int x44), (4, .int x46)]) (lvs_c rfl (lvs_c rfl (lvs_c rfl (lvs_c rfl (lvs_c rfl (lvs_n)))))) ?_
          exact w_X10_goAll_J91 cx h_c0 ih  (1 : Int32) l2 x44 x46 S55  h
def f_X10_goAll (c0 : Nat) (S : St) : Option (Unit × St) := sq (pI S c0 32 (0 : Int32)) fun S56 => sq (pI S56 c0 33 (0 : Int32)) fun S57 => sq (pI S57 c0 34 (0 : Int32)) fun S58 => if 0 ≤ (S58.1 c0 24) then f_X10_goAll_L30 FU c0 (0 : Int32) (0 : Int32) S58 else f_X10_goAll_L30 FU c0 (1 : Int32) (0 : Int32) S58
set_option maxHeartbeats 4000000 in
set_option maxRecDepth 100000 in
theorem m_X10_goAll (l : Launch) {g : Gl} (hg : GOK g) {c0 : Nat} {S : St} {r : Unit × St} (h_c0 : kd g c0 = 10) (h : f_X10_goAll c0 S = some r) : MW l yX10_goAll cX10_goAll 6 none rm_X10_goAll g S [.ref (ad g c0)] (QWv g r) := by
  refine startW [(0, .ref (ad g c0))] (by decide +kernel) (Nat.le_of_ble_eq_true rfl) rfl hg (fun p e s m args below meth c cx => ?_)
  have cx : Cx p s m args meth c cX10_goAll 6 none RX10 g (Ap g) := cx
  rw [f_X10_goAll] at h
  refine wa_aload_n cx (i := 0) dX10_goAll_0 rfl rfl ?_
  refine wa_iconst cx dX10_goAll_1 (0 : Int32) (by decide) ?_
  refine pf_X10_196 cx h_c0 dX10_goAll_2 ?_
  replace h := sq_eq h
  generalize (pI S c0 32 (0 : Int32)) = S56 at h ⊢
  refine wa_aload_n cx (i := 0) dX10_goAll_5 rfl rfl ?_
  refine wa_iconst cx dX10_goAll_6 (0 : Int32) (by decide) ?_
  refine pf_X10_199 cx h_c0 dX10_goAll_7 ?_
  replace h := sq_eq h
  generalize (pI S56 c0 33 (0 : Int32)) = S57 at h ⊢
  refine wa_aload_n cx (i := 0) dX10_goAll_10 rfl rfl ?_
  refine wa_iconst cx dX10_goAll_11 (0 : Int32) (by decide) ?_
  refine pf_X10_202 cx h_c0 dX10_goAll_12 ?_
  replace h := sq_eq h
  generalize (pI S57 c0 34 (0 : Int32)) = S58 at h ⊢
  refine wa_aload_n cx (i := 0) dX10_goAll_15 rfl rfl ?_
  refine gf_X10_169 cx h_c0 dX10_goAll_16 ?_
  refine wa_if_ge cx dX10_goAll_19 26 (by decide) (fun q59 => ?_) (fun q59 => ?_)
  · rw [if_pos q59] at h
    refine wa_iconst cx dX10_goAll_26 (0 : Int32) (by decide) ?_
    refine wa_istore_n cx (i := 1) dX10_goAll_27 [(0, .ref (ad g c0)), (1, .int (0 : Int32))] rfl (Nat.le_of_ble_eq_true rfl) rfl (lvs_c rfl (lvs_c rfl (lvs_n))) ?_
    refine wa_iconst cx dX10_goAll_28 (0 : Int32) (by decide) ?_
    refine wa_istore_n cx (i := 2) dX10_goAll_29 [(0, .ref (ad g c0)), (1, .int (0 : Int32)), (2, .int (0 : Int32))] rfl (Nat.le_of_ble_eq_true rfl) rfl (lvs_c rfl (lvs_c rfl (lvs_c rfl (lvs_n)))) ?_
    refine wa_sub (lv' := [(0, .ref (ad g c0)), (1, .int (0 : Int32)), (2, .int (0 : Int32))]) (lvs_c rfl (lvs_c rfl (lvs_c rfl (lvs_n)))) ?_
    exact w_X10_goAll_L30 cx h_c0  FU (0 : Int32) (0 : Int32) S58  h
  · rw [if_neg q59] at h
    refine wa_iconst cx dX10_goAll_22 (1 : Int32) (by decide) ?_
    refine wa_goto cx dX10_goAll_23 27 (by decide) ?_
    refine wa_istore_n cx (i := 1) dX10_goAll_27 [(0, .ref (ad g c0)), (1, .int (1 : Int32))] rfl (Nat.le_of_ble_eq_true rfl) rfl (lvs_c rfl (lvs_c rfl (lvs_n))) ?_
    refine wa_iconst cx dX10_goAll_28 (0 : Int32) (by decide) ?_
    refine wa_istore_n cx (i := 2) dX10_goAll_29 [(0, .ref (ad g c0)), (1, .int (1 : Int32)), (2, .int (0 : Int32))] rfl (Nat.le_of_ble_eq_true rfl) rfl (lvs_c rfl (lvs_c rfl (lvs_c rfl (lvs_n)))) ?_
    refine wa_sub (lv' := [(0, .ref (ad g c0)), (1, .int (1 : Int32)), (2, .int (0 : Int32))]) (lvs_c rfl (lvs_c rfl (lvs_c rfl (lvs_n)))) ?_
    exact w_X10_goAll_L30 cx h_c0  FU (1 : Int32) (0 : Int32) S58  h
def rm_X10_isBuilt : Room := { frames := 0, cells := 0, slots := 0, locals := 0 }
def f_X10_isBuilt (c0 : Nat) (S : St) : Option (Int32 × St) := if (S.1 c0 32) < (S.1 c0 19) then some ((0 : Int32), S) else if (S.1 c0 34) < (S.1 (c0 + 2) (Int32.toNatClampNeg (1 : Int32))) then some ((0 : Int32), S) else some ((1 : Int32), S)
set_option maxHeartbeats 4000000 in
set_option maxRecDepth 100000 in
theorem m_X10_isBuilt (l : Launch) {g : Gl} (hg : GOK g) {c0 : Nat} {S : St} {r : Int32 × St} (h_c0 : kd g c0 = 10) (h : f_X10_isBuilt c0 S = some r) : MW l yX10_isBuilt cX10_isBuilt 1 (some .boolean) rm_X10_isBuilt g S [.ref (ad g c0)] (QWi g r) := by
  refine startW [(0, .ref (ad g c0))] (by decide +kernel) (Nat.le_of_ble_eq_true rfl) rfl hg (fun p e s m args below meth c cx => ?_)
  have cx : Cx p s m args meth c cX10_isBuilt 1 (some .boolean) RX10 g (Ap g) := cx
  rw [f_X10_isBuilt] at h
  refine wa_aload_n cx (i := 0) dX10_isBuilt_0 rfl rfl ?_
  refine gf_X10_196 cx h_c0 dX10_isBuilt_1 ?_
  refine wa_aload_n cx (i := 0) dX10_isBuilt_4 rfl rfl ?_
  refine gf_X10_154 cx h_c0 dX10_isBuilt_5 ?_
  refine wa_icmp_lt cx dX10_isBuilt_8 28 (by decide) (fun q1 => ?_) (fun q1 => ?_)
  · rw [if_pos q1] at h
    refine wa_iconst cx dX10_isBuilt_28 (0 : Int32) (by decide) ?_
    exact wa_zret cx (by decide) h dX10_isBuilt_29
  · rw [if_neg q1] at h
    refine wa_aload_n cx (i := 0) dX10_isBuilt_11 rfl rfl ?_
    refine gf_X10_202 cx h_c0 dX10_isBuilt_12 ?_
    refine wa_aload_n cx (i := 0) dX10_isBuilt_15 rfl rfl ?_
    refine gf_X10_13 cx h_c0 dX10_isBuilt_16 ?_
    refine wa_iconst cx dX10_isBuilt_19 (1 : Int32) (by decide) ?_
    refine wa_iald cx dX10_isBuilt_20 (kq10_2 cx.2.2.2.2.2.2.1 h_c0) (vinl (by decide)) ?_
    refine wa_icmp_lt cx dX10_isBuilt_21 28 (by decide) (fun q2 => ?_) (fun q2 => ?_)
    · rw [if_pos q2] at h
      refine wa_iconst cx dX10_isBuilt_28 (0 : Int32) (by decide) ?_
      exact wa_zret cx (by decide) h dX10_isBuilt_29
    · rw [if_neg q2] at h
      refine wa_iconst cx dX10_isBuilt_24 (1 : Int32) (by decide) ?_
      refine wa_goto cx dX10_isBuilt_25 29 (by decide) ?_
      exact wa_zret cx (by decide) h dX10_isBuilt_29
def rm_X10_hasOf : Room := { frames := 1, cells := 0, slots := 0, locals := 21 }
def f_X10_hasOf_J74 (c0 : Nat) (a1 : Int32) (k0 : Int32) (k1 : Int32) (S : St) : Option (Int32 × St) := sq (k0 + k1) fun x1 => if (S.1 (c0 + 2) (Int32.toNatClampNeg (7 : Int32))) = (1 : Int32) then ob a1 8 (ck (¬ (S.1 c0 32) = 0) (some ((x1 + (((S.1 (c0 + 20) (Int32.toNatClampNeg a1)) * ((S.1 c0 32) - (S.1 c0 19))) / (S.1 c0 32))), S))) else some ((x1 + (0 : Int32)), S)
set_option maxHeartbeats 4000000 in
set_option maxRecDepth 100000 in
theorem w_X10_hasOf_J74 {p : Program} {l : Launch} {e : Env} {s : State} {m : MethodId} {args : Array Value} {below : List Frame} {meth : Method} {c : Code} {g : Gl} {r : Int32 × St} {c0 : Nat} {a1 : Int32} (cx : Cx p s m args meth c cX10_hasOf 3 (some .int) RX10 g (Ap g)) (h_c0 : kd g c0 = 10) : ∀ (k0 : Int32) (k1 : Int32) (S : St), f_X10_hasOf_J74 c0 a1 k0 k1 S = some r → WA p l e rm_X10_hasOf s m args below meth c 0 0 (MQ below (QWi g r) args s 0 0 (Ap g)) 3 g (Ap g) S 74 [(0, .ref (ad g c0)), (1, .int a1)] [.int k1, .int k0] := by
  intro k0 k1 S h
  rw [f_X10_hasOf_J74] at h
  refine wa_iadd cx dX10_hasOf_74 ?_
  replace h := sq_eq h
  generalize (k0 + k1) = x1 at h ⊢
  refine wa_istore_n cx (i := 2) dX10_hasOf_75 [(0, .ref (ad g c0)), (1, .int a1), (2, .int x1)] rfl (Nat.le_of_ble_eq_true rfl) rfl (lvs_c rfl (lvs_c rfl (lvs_c rfl (lvs_n)))) ?_
  refine wa_iload_n cx (i := 2) dX10_hasOf_76 rfl rfl ?_
  refine wa_aload_n cx (i := 0) dX10_hasOf_77 rfl rfl ?_
  refine gf_X10_13 cx h_c0 dX10_hasOf_78 ?_
  refine wa_bipush cx dX10_hasOf_81 (7 : Int32) (by decide) ?_
  refine wa_iald cx dX10_hasOf_83 (kq10_2 cx.2.2.2.2.2.2.1 h_c0) (vinl (by decide)) ?_
  refine wa_iconst cx dX10_hasOf_84 (1 : Int32) (by decide) ?_
  refine wa_icmp_ne cx dX10_hasOf_85 112 (by decide) (fun q2 => ?_) (fun q2 => ?_)
  · rw [if_neg q2] at h
    refine wa_iconst cx dX10_hasOf_112 (0 : Int32) (by decide) ?_
    refine wa_iadd cx dX10_hasOf_113 ?_
    exact wa_iret cx h dX10_hasOf_114
  · rw [if_pos q2] at h
    refine wa_aload_n cx (i := 0) dX10_hasOf_88 rfl rfl ?_
    refine gf_X10_67 cx h_c0 dX10_hasOf_89 ?_
    refine wa_iload_n cx (i := 1) dX10_hasOf_92 rfl rfl ?_
    obtain ⟨b3, h⟩ := ob_some h
    refine wa_iald cx dX10_hasOf_93 (kq10_30 cx.2.2.2.2.2.2.1 h_c0) b3 ?_
    refine wa_aload_n cx (i := 0) dX10_hasOf_94 rfl rfl ?_
    refine gf_X10_196 cx h_c0 dX10_hasOf_95 ?_
    refine wa_aload_n cx (i := 0) dX10_hasOf_98 rfl rfl ?_
    refine gf_X10_154 cx h_c0 dX10_hasOf_99 ?_
    refine wa_isub cx dX10_hasOf_102 ?_
    refine wa_imul cx dX10_hasOf_103 ?_
    refine wa_aload_n cx (i := 0) dX10_hasOf_104 rfl rfl ?_
    refine gf_X10_196 cx h_c0 dX10_hasOf_105 ?_
    obtain ⟨b4, h⟩ := ck_some h
    refine wa_idiv cx dX10_hasOf_108 b4 ?_
    refine wa_goto cx dX10_hasOf_109 113 (by decide) ?_
    refine wa_iadd cx dX10_hasOf_113 ?_
    exact wa_iret cx h dX10_hasOf_114
def f_X10_hasOf_J73 (c0 : Nat) (a1 : Int32) (k0 : Int32) (S : St) : Option (Int32 × St) := f_X10_hasOf_J74 c0 a1 k0 (0 : Int32) S
set_option maxHeartbeats 4000000 in
set_option maxRecDepth 100000 in
theorem w_X10_hasOf_J73 {p : Program} {l : Launch} {e : Env} {s : State} {m : MethodId} {args : Array Value} {below : List Frame} {meth : Method} {c : Code} {g : Gl} {r : Int32 × St} {c0 : Nat} {a1 : Int32} (cx : Cx p s m args meth c cX10_hasOf 3 (some .int) RX10 g (Ap g)) (h_c0 : kd g c0 = 10) : ∀ (k0 : Int32) (S : St), f_X10_hasOf_J73 c0 a1 k0 S = some r → WA p l e rm_X10_hasOf s m args below meth c 0 0 (MQ below (QWi g r) args s 0 0 (Ap g)) 3 g (Ap g) S 73 [(0, .ref (ad g c0)), (1, .int a1)] [.int k0] := by
  intro k0 S h
  rw [f_X10_hasOf_J73] at h
  refine wa_iconst cx dX10_hasOf_73 (0 : Int32) (by decide) ?_
  refine wa_sub (lv' := [(0, .ref (ad g c0)), (1, .int a1)]) (lvs_c rfl (lvs_c rfl (lvs_n))) ?_
  exact w_X10_hasOf_J74 cx h_c0   k0 (0 : Int32) S  h
def f_X10_hasOf (c0 : Nat) (a1 : Int32) (S : St) : Option (Int32 × St) := bd (f_X10_isBuilt c0 S) fun x5 S6 => if x5 = 0 then ob a1 8 (if (S6.1 (c0 + 20) (Int32.toNatClampNeg a1)) ≤ 0 then some ((0 : Int32), S6) else some ((S6.1 (c0 + 2) (Int32.toNatClampNeg (4 : Int32))), S6)) else ob a1 8 (ob a1 8 (sq ((S6.1 (c0 + 19) (Int32.toNatClampNeg a1)) - (S6.1 (c0 + 20) (Int32.toNatClampNeg a1))) fun x11 => ob a1 8 (if (S6.1 (c0 + 20) (Int32.toNatClampNeg a1)) ≤ 0 then f_X10_hasOf_J73 c0 a1 x11 S6 else bd (f_X10_dayOf c0 a1 S6) fun x14 S15 => if (S15.1 (c0 + 2) (Int32.toNatClampNeg (6 : Int32))) < x14 then f_X10_hasOf_J73 c0 a1 x11 S15 else f_X10_hasOf_J74 c0 a1 x11 (S15.1 c0 21) S15)))
set_option maxHeartbeats 4000000 in
set_option maxRecDepth 100000 in
theorem m_X10_hasOf (l : Launch) {g : Gl} (hg : GOK g) {c0 : Nat} {a1 : Int32} {S : St} {r : Int32 × St} (h_c0 : kd g c0 = 10) (h : f_X10_hasOf c0 a1 S = some r) : MW l yX10_hasOf cX10_hasOf 3 (some .int) rm_X10_hasOf g S [.ref (ad g c0), .int a1] (QWi g r) := by
  refine startW [(0, .ref (ad g c0)), (1, .int a1)] (by decide +kernel) (Nat.le_of_ble_eq_true rfl) rfl hg (fun p e s m args below meth c cx => ?_)
  have cx : Cx p s m args meth c cX10_hasOf 3 (some .int) RX10 g (Ap g) := cx
  rw [f_X10_hasOf] at h
  refine wa_aload_n cx (i := 0) dX10_hasOf_0 rfl rfl ?_
  obtain ⟨x5, S6, e7, h⟩ := bd_some h
  refine wa_callVi cx (m_X10_isBuilt l cx.2.2.2.2.2.2.1 h_c0 e7) vl_X10_212 h_c0 (by decide) rfl rfl ⟨_, cell_eq10 (kd_lt h_c0 (by decide)).2⟩ ⟨Nat.le_of_ble_eq_true rfl, Nat.le_of_ble_eq_true rfl⟩ ⟨rfl, rfl⟩ ⟨Nat.zero_le _, Nat.zero_le _⟩ rfl (Nat.le_of_ble_eq_true rfl) dX10_hasOf_1 rfl ?_
  refine wa_if_ne cx dX10_hasOf_4 27 (by decide) (fun q8 => ?_) (fun q8 => ?_)
  · rw [if_neg q8] at h
    refine wa_aload_n cx (i := 0) dX10_hasOf_27 rfl rfl ?_
    refine gf_X10_64 cx h_c0 dX10_hasOf_28 ?_
    refine wa_iload_n cx (i := 1) dX10_hasOf_31 rfl rfl ?_
    obtain ⟨b9, h⟩ := ob_some h
    refine wa_iald cx dX10_hasOf_32 (kq10_29 cx.2.2.2.2.2.2.1 h_c0) b9 ?_
    refine wa_aload_n cx (i := 0) dX10_hasOf_33 rfl rfl ?_
    refine gf_X10_67 cx h_c0 dX10_hasOf_34 ?_
    refine wa_iload_n cx (i := 1) dX10_hasOf_37 rfl rfl ?_
    obtain ⟨b10, h⟩ := ob_some h
    refine wa_iald cx dX10_hasOf_38 (kq10_30 cx.2.2.2.2.2.2.1 h_c0) b10 ?_
    refine wa_isub cx dX10_hasOf_39 ?_
    replace h := sq_eq h
    generalize ((S6.1 (c0 + 19) (Int32.toNatClampNeg a1)) - (S6.1 (c0 + 20) (Int32.toNatClampNeg a1))) = x11 at h ⊢
    refine wa_istore_n cx (i := 2) dX10_hasOf_40 [(0, .ref (ad g c0)), (1, .int a1), (2, .int x11)] rfl (Nat.le_of_ble_eq_true rfl) rfl (lvs_c rfl (lvs_c rfl (lvs_c rfl (lvs_n)))) ?_
    refine wa_iload_n cx (i := 2) dX10_hasOf_41 rfl rfl ?_
    refine wa_aload_n cx (i := 0) dX10_hasOf_42 rfl rfl ?_
    refine gf_X10_67 cx h_c0 dX10_hasOf_43 ?_
    refine wa_iload_n cx (i := 1) dX10_hasOf_46 rfl rfl ?_
    obtain ⟨b12, h⟩ := ob_some h
    refine wa_iald cx dX10_hasOf_47 (kq10_30 cx.2.2.2.2.2.2.1 h_c0) b12 ?_
    refine wa_if_le cx dX10_hasOf_48 73 (by decide) (fun q13 => ?_) (fun q13 => ?_)
    · rw [if_pos q13] at h
      refine wa_sub (lv' := [(0, .ref (ad g c0)), (1, .int a1)]) (lvs_c rfl (lvs_c rfl (lvs_n))) ?_
      exact w_X10_hasOf_J73 cx h_c0   x11 S6  h
    · rw [if_neg q13] at h
      refine wa_aload_n cx (i := 0) dX10_hasOf_51 rfl rfl ?_
      refine wa_iload_n cx (i := 1) dX10_hasOf_52 rfl rfl ?_
      obtain ⟨x14, S15, e16, h⟩ := bd_some h
      refine wa_callVi cx (m_X10_dayOf l cx.2.2.2.2.2.2.1 h_c0 e16) vl_X10_178 h_c0 (by decide) rfl rfl ⟨_, cell_eq10 (kd_lt h_c0 (by decide)).2⟩ ⟨Nat.le_of_ble_eq_true rfl, Nat.le_of_ble_eq_true rfl⟩ ⟨rfl, rfl⟩ ⟨Nat.zero_le _, Nat.zero_le _⟩ rfl (Nat.le_of_ble_eq_true rfl) dX10_hasOf_53 rfl ?_
      refine wa_aload_n cx (i := 0) dX10_hasOf_56 rfl rfl ?_
      refine gf_X10_13 cx h_c0 dX10_hasOf_57 ?_
      refine wa_bipush cx dX10_hasOf_60 (6 : Int32) (by decide) ?_
      refine wa_iald cx dX10_hasOf_62 (kq10_2 cx.2.2.2.2.2.2.1 h_c0) (vinl (by decide)) ?_
      refine wa_icmp_gt cx dX10_hasOf_63 73 (by decide) (fun q17 => ?_) (fun q17 => ?_)
      · rw [if_pos q17] at h
        refine wa_sub (lv' := [(0, .ref (ad g c0)), (1, .int a1)]) (lvs_c rfl (lvs_c rfl (lvs_n))) ?_
        exact w_X10_hasOf_J73 cx h_c0   x11 S15  h
      · rw [if_neg q17] at h
        refine wa_aload_n cx (i := 0) dX10_hasOf_66 rfl rfl ?_
        refine gf_X10_160 cx h_c0 dX10_hasOf_67 ?_
        refine wa_goto cx dX10_hasOf_70 74 (by decide) ?_
        refine wa_sub (lv' := [(0, .ref (ad g c0)), (1, .int a1)]) (lvs_c rfl (lvs_c rfl (lvs_n))) ?_
        exact w_X10_hasOf_J74 cx h_c0   x11 (S15.1 c0 21) S15  h
  · rw [if_pos q8] at h
    refine wa_aload_n cx (i := 0) dX10_hasOf_7 rfl rfl ?_
    refine gf_X10_67 cx h_c0 dX10_hasOf_8 ?_
    refine wa_iload_n cx (i := 1) dX10_hasOf_11 rfl rfl ?_
    obtain ⟨b18, h⟩ := ob_some h
    refine wa_iald cx dX10_hasOf_12 (kq10_30 cx.2.2.2.2.2.2.1 h_c0) b18 ?_
    refine wa_if_le cx dX10_hasOf_13 25 (by decide) (fun q19 => ?_) (fun q19 => ?_)
    · rw [if_pos q19] at h
      refine wa_iconst cx dX10_hasOf_25 (0 : Int32) (by decide) ?_
      exact wa_iret cx h dX10_hasOf_26
    · rw [if_neg q19] at h
      refine wa_aload_n cx (i := 0) dX10_hasOf_16 rfl rfl ?_
      refine gf_X10_13 cx h_c0 dX10_hasOf_17 ?_
      refine wa_iconst cx dX10_hasOf_20 (4 : Int32) (by decide) ?_
      refine wa_iald cx dX10_hasOf_21 (kq10_2 cx.2.2.2.2.2.2.1 h_c0) (vinl (by decide)) ?_
      refine wa_goto cx dX10_hasOf_22 26 (by decide) ?_
      exact wa_iret cx h dX10_hasOf_26
def rm_X10_beginWays : Room := { frames := 2, cells := 0, slots := 0, locals := 43 }
def f_X10_beginWays_L6 : Nat → Nat → Int32 → St → Option (Unit × St)
  | 0, _, _, _ => none
  | n + 1, c0, l1, S => if (8 : Int32) ≤ l1 then some ((), S) else ob l1 8 (sq (pI S (c0 + 22) (Int32.toNatClampNeg l1) (0 : Int32)) fun S3 => f_X10_beginWays_L6 n c0 (l1 + (1 : Int32)) S3)
set_option maxHeartbeats 4000000 in
set_option maxRecDepth 100000 in
theorem w_X10_beginWays_L6 {p : Program} {l : Launch} {e : Env} {s : State} {m : MethodId} {args : Array Value} {below : List Frame} {meth : Method} {c : Code} {g : Gl} {r : Unit × St} {c0 : Nat} (cx : Cx p s m args meth c cX10_beginWays 2 none RX10 g (Ap g)) (h_c0 : kd g c0 = 10) : ∀ n : Nat, ∀ (l1 : Int32) (S : St), f_X10_beginWays_L6 n c0 l1 S = some r → WA p l e rm_X10_beginWays s m args below meth c 0 0 (MQ below (QWv g r) args s 0 0 (Ap g)) 2 g (Ap g) S 6 [(0, .ref (ad g c0)), (1, .int l1)] [] := by
  intro n
  induction n with
  | zero => intro l1 S h; rw [f_X10_beginWays_L6] at h; cases h
  | succ n ih =>
    intro l1 S h
    rw [f_X10_beginWays_L6] at h
    refine wa_iload_n cx (i := 1) dX10_beginWays_6 rfl rfl ?_
    refine wa_bipush cx dX10_beginWays_7 (8 : Int32) (by decide) ?_
    refine wa_icmp_ge cx dX10_beginWays_9 25 (by decide) (fun q1 => ?_) (fun q1 => ?_)
    · rw [if_pos q1] at h
      exact wa_vret cx h dX10_beginWays_25
    · rw [if_neg q1] at h
      refine wa_aload_n cx (i := 0) dX10_beginWays_12 rfl rfl ?_
      refine gf_X10_73 cx h_c0 dX10_beginWays_13 ?_
      refine wa_iload_n cx (i := 1) dX10_beginWays_16 rfl rfl ?_
      refine wa_iconst cx dX10_beginWays_17 (0 : Int32) (by decide) ?_
      obtain ⟨b2, h⟩ := ob_some h
      refine wa_iast cx dX10_beginWays_18 (kq10_35 cx.2.2.2.2.2.2.1 h_c0) b2 ?_
      replace h := sq_eq h
      generalize (pI S (c0 + 22) (Int32.toNatClampNeg l1) (0 : Int32)) = S3 at h ⊢
      refine wa_iinc cx dX10_beginWays_19 (l1 + (1 : Int32)) [(0, .ref (ad g c0)), (1, .int (l1 + (1 : Int32)))] rfl rfl (Nat.le_of_ble_eq_true rfl) rfl (lvs_c rfl (lvs_c rfl (lvs_n))) ?_
      refine wa_goto cx dX10_beginWays_22 6 (by decide) ?_
      refine wa_sub (lv' := [(0, .ref (ad g c0)), (1, .int (l1 + (1 : Int32)))]) (lvs_c rfl (lvs_c rfl (lvs_n))) ?_
      exact ih (l1 + (1 : Int32)) S3  h
def f_X10_beginWays (c0 : Nat) (S : St) : Option (Unit × St) := bd (f_X10_layOrder c0 S) fun _ S4 => f_X10_beginWays_L6 FU c0 (0 : Int32) S4
set_option maxHeartbeats 4000000 in
set_option maxRecDepth 100000 in
theorem m_X10_beginWays (l : Launch) {g : Gl} (hg : GOK g) {c0 : Nat} {S : St} {r : Unit × St} (h_c0 : kd g c0 = 10) (h : f_X10_beginWays c0 S = some r) : MW l yX10_beginWays cX10_beginWays 2 none rm_X10_beginWays g S [.ref (ad g c0)] (QWv g r) := by
  refine startW [(0, .ref (ad g c0))] (by decide +kernel) (Nat.le_of_ble_eq_true rfl) rfl hg (fun p e s m args below meth c cx => ?_)
  have cx : Cx p s m args meth c cX10_beginWays 2 none RX10 g (Ap g) := cx
  rw [f_X10_beginWays] at h
  refine wa_aload_n cx (i := 0) dX10_beginWays_0 rfl rfl ?_
  obtain ⟨u6, S4, e5, h⟩ := bd_some h
  refine wa_callVv cx (m_X10_layOrder l cx.2.2.2.2.2.2.1 h_c0 e5) vl_X10_184 h_c0 (by decide) rfl rfl ⟨_, cell_eq10 (kd_lt h_c0 (by decide)).2⟩ ⟨Nat.le_of_ble_eq_true rfl, Nat.le_of_ble_eq_true rfl⟩ ⟨rfl, rfl⟩ ⟨Nat.zero_le _, Nat.zero_le _⟩ rfl (Nat.le_of_ble_eq_true rfl) dX10_beginWays_1 rfl ?_
  refine wa_iconst cx dX10_beginWays_4 (0 : Int32) (by decide) ?_
  refine wa_istore_n cx (i := 1) dX10_beginWays_5 [(0, .ref (ad g c0)), (1, .int (0 : Int32))] rfl (Nat.le_of_ble_eq_true rfl) rfl (lvs_c rfl (lvs_c rfl (lvs_n))) ?_
  refine wa_sub (lv' := [(0, .ref (ad g c0)), (1, .int (0 : Int32))]) (lvs_c rfl (lvs_c rfl (lvs_n))) ?_
  exact w_X10_beginWays_L6 cx h_c0  FU (0 : Int32) S4  h
def rm_X10_nextWay : Room := { frames := 0, cells := 0, slots := 0, locals := 0 }
def f_X10_nextWay_J50 (c0 : Nat) (l1 : Int32) (S : St) : Option (Int32 × St) := if l1 = (S.1 c0 27) then some ((0 : Int32), S) else ob l1 8 (ob l1 8 (sq (pI S (c0 + 22) (Int32.toNatClampNeg l1) ((S.1 (c0 + 22) (Int32.toNatClampNeg l1)) + (1 : Int32))) fun S4 => some ((1 : Int32), S4)))
set_option maxHeartbeats 4000000 in
set_option maxRecDepth 100000 in
theorem w_X10_nextWay_J50 {p : Program} {l : Launch} {e : Env} {s : State} {m : MethodId} {args : Array Value} {below : List Frame} {meth : Method} {c : Code} {g : Gl} {r : Int32 × St} {c0 : Nat} (cx : Cx p s m args meth c cX10_nextWay 2 (some .boolean) RX10 g (Ap g)) (h_c0 : kd g c0 = 10) : ∀ (l1 : Int32) (S : St), f_X10_nextWay_J50 c0 l1 S = some r → WA p l e rm_X10_nextWay s m args below meth c 0 0 (MQ below (QWi g r) args s 0 0 (Ap g)) 2 g (Ap g) S 50 [(0, .ref (ad g c0)), (1, .int l1)] [] := by
  intro l1 S h
  rw [f_X10_nextWay_J50] at h
  refine wa_iload_n cx (i := 1) dX10_nextWay_50 rfl rfl ?_
  refine wa_aload_n cx (i := 0) dX10_nextWay_51 rfl rfl ?_
  refine gf_X10_175 cx h_c0 dX10_nextWay_52 ?_
  refine wa_icmp_ne cx dX10_nextWay_55 60 (by decide) (fun q1 => ?_) (fun q1 => ?_)
  · rw [if_neg q1] at h
    refine wa_aload_n cx (i := 0) dX10_nextWay_60 rfl rfl ?_
    refine gf_X10_73 cx h_c0 dX10_nextWay_61 ?_
    refine wa_iload_n cx (i := 1) dX10_nextWay_64 rfl rfl ?_
    refine wa_dup2 cx dX10_nextWay_65 rfl rfl ?_
    obtain ⟨b2, h⟩ := ob_some h
    refine wa_iald cx dX10_nextWay_66 (kq10_35 cx.2.2.2.2.2.2.1 h_c0) b2 ?_
    refine wa_iconst cx dX10_nextWay_67 (1 : Int32) (by decide) ?_
    refine wa_iadd cx dX10_nextWay_68 ?_
    obtain ⟨b3, h⟩ := ob_some h
    refine wa_iast cx dX10_nextWay_69 (kq10_35 cx.2.2.2.2.2.2.1 h_c0) b3 ?_
    replace h := sq_eq h
    generalize (pI S (c0 + 22) (Int32.toNatClampNeg l1) ((S.1 (c0 + 22) (Int32.toNatClampNeg l1)) + (1 : Int32))) = S4 at h ⊢
    refine wa_iconst cx dX10_nextWay_70 (1 : Int32) (by decide) ?_
    exact wa_zret cx (by decide) h dX10_nextWay_71
  · rw [if_pos q1] at h
    refine wa_iconst cx dX10_nextWay_58 (0 : Int32) (by decide) ?_
    exact wa_zret cx (by decide) h dX10_nextWay_59
def f_X10_nextWay_L2 : Nat → Nat → Int32 → St → Option (Int32 × St)
  | 0, _, _, _ => none
  | n + 1, c0, l1, S => if (S.1 c0 27) ≤ l1 then f_X10_nextWay_J50 c0 l1 S else ob l1 8 (ob l1 8 (ob (S.1 (c0 + 18) (Int32.toNatClampNeg l1)) 8 (ob (S.1 (c0 + 13) (Int32.toNatClampNeg (S.1 (c0 + 18) (Int32.toNatClampNeg l1)))) 12 (if (S.1 (c0 + 22) (Int32.toNatClampNeg l1)) = ((S.1 (c0 + 10) (Int32.toNatClampNeg (S.1 (c0 + 13) (Int32.toNatClampNeg (S.1 (c0 + 18) (Int32.toNatClampNeg l1)))))) - (1 : Int32)) then ob l1 8 (sq (pI S (c0 + 22) (Int32.toNatClampNeg l1) (0 : Int32)) fun S12 => f_X10_nextWay_L2 n c0 (l1 + (1 : Int32)) S12) else f_X10_nextWay_J50 c0 l1 S))))
set_option maxHeartbeats 4000000 in
set_option maxRecDepth 100000 in
theorem w_X10_nextWay_L2 {p : Program} {l : Launch} {e : Env} {s : State} {m : MethodId} {args : Array Value} {below : List Frame} {meth : Method} {c : Code} {g : Gl} {r : Int32 × St} {c0 : Nat} (cx : Cx p s m args meth c cX10_nextWay 2 (some .boolean) RX10 g (Ap g)) (h_c0 : kd g c0 = 10) : ∀ n : Nat, ∀ (l1 : Int32) (S : St), f_X10_nextWay_L2 n c0 l1 S = some r → WA p l e rm_X10_nextWay s m args below meth c 0 0 (MQ below (QWi g r) args s 0 0 (Ap g)) 2 g (Ap g) S 2 [(0, .ref (ad g c0)), (1, .int l1)] [] := by
  intro n
  induction n with
  | zero => intro l1 S h; rw [f_X10_nextWay_L2] at h; cases h
  | succ n ih =>
    intro l1 S h
    rw [f_X10_nextWay_L2] at h
    refine wa_iload_n cx (i := 1) dX10_nextWay_2 rfl rfl ?_
    refine wa_aload_n cx (i := 0) dX10_nextWay_3 rfl rfl ?_
    refine gf_X10_175 cx h_c0 dX10_nextWay_4 ?_
    refine wa_icmp_ge cx dX10_nextWay_7 50 (by decide) (fun q5 => ?_) (fun q5 => ?_)
    · rw [if_pos q5] at h
      refine wa_sub (lv' := [(0, .ref (ad g c0)), (1, .int l1)]) (lvs_c rfl (lvs_c rfl (lvs_n))) ?_
      exact w_X10_nextWay_J50 cx h_c0   l1 S  h
    · rw [if_neg q5] at h
      refine wa_aload_n cx (i := 0) dX10_nextWay_10 rfl rfl ?_
      refine gf_X10_73 cx h_c0 dX10_nextWay_11 ?_
      refine wa_iload_n cx (i := 1) dX10_nextWay_14 rfl rfl ?_
      obtain ⟨b6, h⟩ := ob_some h
      refine wa_iald cx dX10_nextWay_15 (kq10_35 cx.2.2.2.2.2.2.1 h_c0) b6 ?_
      refine wa_aload_n cx (i := 0) dX10_nextWay_16 rfl rfl ?_
      refine gf_X10_37 cx h_c0 dX10_nextWay_17 ?_
      refine wa_aload_n cx (i := 0) dX10_nextWay_20 rfl rfl ?_
      refine gf_X10_46 cx h_c0 dX10_nextWay_21 ?_
      refine wa_aload_n cx (i := 0) dX10_nextWay_24 rfl rfl ?_
      refine gf_X10_61 cx h_c0 dX10_nextWay_25 ?_
      refine wa_iload_n cx (i := 1) dX10_nextWay_28 rfl rfl ?_
      obtain ⟨b7, h⟩ := ob_some h
      refine wa_iald cx dX10_nextWay_29 (kq10_28 cx.2.2.2.2.2.2.1 h_c0) b7 ?_
      obtain ⟨b8, h⟩ := ob_some h
      refine wa_iald cx dX10_nextWay_30 (kq10_14 cx.2.2.2.2.2.2.1 h_c0) b8 ?_
      obtain ⟨b9, h⟩ := ob_some h
      refine wa_iald cx dX10_nextWay_31 (kq10_10 cx.2.2.2.2.2.2.1 h_c0) b9 ?_
      refine wa_iconst cx dX10_nextWay_32 (1 : Int32) (by decide) ?_
      refine wa_isub cx dX10_nextWay_33 ?_
      refine wa_icmp_ne cx dX10_nextWay_34 50 (by decide) (fun q10 => ?_) (fun q10 => ?_)
      · rw [if_neg q10] at h
        refine wa_sub (lv' := [(0, .ref (ad g c0)), (1, .int l1)]) (lvs_c rfl (lvs_c rfl (lvs_n))) ?_
        exact w_X10_nextWay_J50 cx h_c0   l1 S  h
      · rw [if_pos q10] at h
        refine wa_aload_n cx (i := 0) dX10_nextWay_37 rfl rfl ?_
        refine gf_X10_73 cx h_c0 dX10_nextWay_38 ?_
        refine wa_iload_n cx (i := 1) dX10_nextWay_41 rfl rfl ?_
        refine wa_iconst cx dX10_nextWay_42 (0 : Int32) (by decide) ?_
        obtain ⟨b11, h⟩ := ob_some h
        refine wa_iast cx dX10_nextWay_43 (kq10_35 cx.2.2.2.2.2.2.1 h_c0) b11 ?_
        replace h := sq_eq h
        generalize (pI S (c0 + 22) (Int32.toNatClampNeg l1) (0 : Int32)) = S12 at h ⊢
        refine wa_iinc cx dX10_nextWay_44 (l1 + (1 : Int32)) [(0, .ref (ad g c0)), (1, .int (l1 + (1 : Int32)))] rfl rfl (Nat.le_of_ble_eq_true rfl) rfl (lvs_c rfl (lvs_c rfl (lvs_n))) ?_
        refine wa_goto cx dX10_nextWay_47 2 (by decide) ?_
        refine wa_sub (lv' := [(0, .ref (ad g c0)), (1, .int (l1 + (1 : Int32)))]) (lvs_c rfl (lvs_c rfl (lvs_n))) ?_
        exact ih (l1 + (1 : Int32)) S12  h
def f_X10_nextWay (c0 : Nat) (S : St) : Option (Int32 × St) := f_X10_nextWay_L2 FU c0 (0 : Int32) S
set_option maxHeartbeats 4000000 in
set_option maxRecDepth 100000 in
theorem m_X10_nextWay (l : Launch) {g : Gl} (hg : GOK g) {c0 : Nat} {S : St} {r : Int32 × St} (h_c0 : kd g c0 = 10) (h : f_X10_nextWay c0 S = some r) : MW l yX10_nextWay cX10_nextWay 2 (some .boolean) rm_X10_nextWay g S [.ref (ad g c0)] (QWi g r) := by
  refine startW [(0, .ref (ad g c0))] (by decide +kernel) (Nat.le_of_ble_eq_true rfl) rfl hg (fun p e s m args below meth c cx => ?_)
  have cx : Cx p s m args meth c cX10_nextWay 2 (some .boolean) RX10 g (Ap g) := cx
  rw [f_X10_nextWay] at h
  refine wa_iconst cx dX10_nextWay_0 (0 : Int32) (by decide) ?_
  refine wa_istore_n cx (i := 1) dX10_nextWay_1 [(0, .ref (ad g c0)), (1, .int (0 : Int32))] rfl (Nat.le_of_ble_eq_true rfl) rfl (lvs_c rfl (lvs_c rfl (lvs_n))) ?_
  refine wa_sub (lv' := [(0, .ref (ad g c0)), (1, .int (0 : Int32))]) (lvs_c rfl (lvs_c rfl (lvs_n))) ?_
  exact w_X10_nextWay_L2 cx h_c0  FU (0 : Int32) S  h
def rm_X10_takeWay : Room := { frames := 3, cells := 0, slots := 0, locals := 73 }
def f_X10_takeWay_L4 : Nat → Nat → Int64 → Int32 → St → Option (Int64 × St)
  | 0, _, _, _, _ => none
  | n + 1, c0, l1, l3, S => if (S.1 c0 27) ≤ l3 then bd (f_X10_goAll c0 S) fun _ S2 => some (l1, S2) else ob l3 8 (ob (S.1 (c0 + 18) (Int32.toNatClampNeg l3)) 8 (ob l3 8 (sq (((3 : Int32) * (S.1 (c0 + 13) (Int32.toNatClampNeg (S.1 (c0 + 18) (Int32.toNatClampNeg l3))))) + (S.1 (c0 + 22) (Int32.toNatClampNeg l3))) fun x8 => ob l3 8 (ob x8 36 (ob (S.1 (c0 + 18) (Int32.toNatClampNeg l3)) 8 (sq (pI S (c0 + 19) (Int32.toNatClampNeg (S.1 (c0 + 18) (Int32.toNatClampNeg l3))) (S.1 (c0 + 11) (Int32.toNatClampNeg x8))) fun S12 => ob x8 36 (sq (l1 * (Int32.toInt64 (S12.1 (c0 + 12) (Int32.toNatClampNeg x8)))) fun x14 => f_X10_takeWay_L4 n c0 x14 (l3 + (1 : Int32)) S12)))))))
set_option maxHeartbeats 4000000 in
set_option maxRecDepth 100000 in
theorem w_X10_takeWay_L4 {p : Program} {l : Launch} {e : Env} {s : State} {m : MethodId} {args : Array Value} {below : List Frame} {meth : Method} {c : Code} {g : Gl} {r : Int64 × St} {c0 : Nat} (cx : Cx p s m args meth c cX10_takeWay 5 (some .long) RX10 g (Ap g)) (h_c0 : kd g c0 = 10) : ∀ n : Nat, ∀ (l1 : Int64) (l3 : Int32) (S : St), f_X10_takeWay_L4 n c0 l1 l3 S = some r → WA p l e rm_X10_takeWay s m args below meth c 0 0 (MQ below (QWl g r) args s 0 0 (Ap g)) 5 g (Ap g) S 4 [(0, .ref (ad g c0)), (1, .long l1), (3, .int l3)] [] := by
  intro n
  induction n with
  | zero => intro l1 l3 S h; rw [f_X10_takeWay_L4] at h; cases h
  | succ n ih =>
    intro l1 l3 S h
    rw [f_X10_takeWay_L4] at h
    refine wa_iload_n cx (i := 3) dX10_takeWay_4 rfl rfl ?_
    refine wa_aload_n cx (i := 0) dX10_takeWay_5 rfl rfl ?_
    refine gf_X10_175 cx h_c0 dX10_takeWay_6 ?_
    refine wa_icmp_ge cx dX10_takeWay_9 69 (by decide) (fun q1 => ?_) (fun q1 => ?_)
    · rw [if_pos q1] at h
      refine wa_aload_n cx (i := 0) dX10_takeWay_69 rfl rfl ?_
      obtain ⟨u4, S2, e3, h⟩ := bd_some h
      refine wa_callVv cx (m_X10_goAll l cx.2.2.2.2.2.2.1 h_c0 e3) vl_X10_215 h_c0 (by decide) rfl rfl ⟨_, cell_eq10 (kd_lt h_c0 (by decide)).2⟩ ⟨Nat.le_of_ble_eq_true rfl, Nat.le_of_ble_eq_true rfl⟩ ⟨rfl, rfl⟩ ⟨Nat.zero_le _, Nat.zero_le _⟩ rfl (Nat.le_of_ble_eq_true rfl) dX10_takeWay_70 rfl ?_
      refine wa_lload_n cx (i := 1) dX10_takeWay_73 rfl rfl ?_
      exact wa_lret cx h dX10_takeWay_74
    · rw [if_neg q1] at h
      refine wa_iconst cx dX10_takeWay_12 (3 : Int32) (by decide) ?_
      refine wa_aload_n cx (i := 0) dX10_takeWay_13 rfl rfl ?_
      refine gf_X10_46 cx h_c0 dX10_takeWay_14 ?_
      refine wa_aload_n cx (i := 0) dX10_takeWay_17 rfl rfl ?_
      refine gf_X10_61 cx h_c0 dX10_takeWay_18 ?_
      refine wa_iload_n cx (i := 3) dX10_takeWay_21 rfl rfl ?_
      obtain ⟨b5, h⟩ := ob_some h
      refine wa_iald cx dX10_takeWay_22 (kq10_28 cx.2.2.2.2.2.2.1 h_c0) b5 ?_
      obtain ⟨b6, h⟩ := ob_some h
      refine wa_iald cx dX10_takeWay_23 (kq10_14 cx.2.2.2.2.2.2.1 h_c0) b6 ?_
      refine wa_imul cx dX10_takeWay_24 ?_
      refine wa_aload_n cx (i := 0) dX10_takeWay_25 rfl rfl ?_
      refine gf_X10_73 cx h_c0 dX10_takeWay_26 ?_
      refine wa_iload_n cx (i := 3) dX10_takeWay_29 rfl rfl ?_
      obtain ⟨b7, h⟩ := ob_some h
      refine wa_iald cx dX10_takeWay_30 (kq10_35 cx.2.2.2.2.2.2.1 h_c0) b7 ?_
      refine wa_iadd cx dX10_takeWay_31 ?_
      replace h := sq_eq h
      generalize (((3 : Int32) * (S.1 (c0 + 13) (Int32.toNatClampNeg (S.1 (c0 + 18) (Int32.toNatClampNeg l3))))) + (S.1 (c0 + 22) (Int32.toNatClampNeg l3))) = x8 at h ⊢
      refine wa_istore cx dX10_takeWay_32 [(0, .ref (ad g c0)), (1, .long l1), (3, .int l3), (4, .int x8)] (Nat.le_of_ble_eq_true rfl) rfl (lvs_c rfl (lvs_c rfl (lvs_c rfl (lvs_c rfl (lvs_n))))) ?_
      refine wa_aload_n cx (i := 0) dX10_takeWay_34 rfl rfl ?_
      refine gf_X10_64 cx h_c0 dX10_takeWay_35 ?_
      refine wa_aload_n cx (i := 0) dX10_takeWay_38 rfl rfl ?_
      refine gf_X10_61 cx h_c0 dX10_takeWay_39 ?_
      refine wa_iload_n cx (i := 3) dX10_takeWay_42 rfl rfl ?_
      obtain ⟨b9, h⟩ := ob_some h
      refine wa_iald cx dX10_takeWay_43 (kq10_28 cx.2.2.2.2.2.2.1 h_c0) b9 ?_
      refine wa_aload_n cx (i := 0) dX10_takeWay_44 rfl rfl ?_
      refine gf_X10_40 cx h_c0 dX10_takeWay_45 ?_
      refine wa_iload cx dX10_takeWay_48 rfl ?_
      obtain ⟨b10, h⟩ := ob_some h
      refine wa_iald cx dX10_takeWay_50 (kq10_11 cx.2.2.2.2.2.2.1 h_c0) b10 ?_
      obtain ⟨b11, h⟩ := ob_some h
      refine wa_iast cx dX10_takeWay_51 (kq10_29 cx.2.2.2.2.2.2.1 h_c0) b11 ?_
      replace h := sq_eq h
      generalize (pI S (c0 + 19) (Int32.toNatClampNeg (S.1 (c0 + 18) (Int32.toNatClampNeg l3))) (S.1 (c0 + 11) (Int32.toNatClampNeg x8))) = S12 at h ⊢
      refine wa_lload_n cx (i := 1) dX10_takeWay_52 rfl rfl ?_
      refine wa_aload_n cx (i := 0) dX10_takeWay_53 rfl rfl ?_
      refine gf_X10_43 cx h_c0 dX10_takeWay_54 ?_
      refine wa_iload cx dX10_takeWay_57 rfl ?_
      obtain ⟨b13, h⟩ := ob_some h
      refine wa_iald cx dX10_takeWay_59 (kq10_12 cx.2.2.2.2.2.2.1 h_c0) b13 ?_
      refine wa_i2l cx dX10_takeWay_60 ?_
      refine wa_lmul cx dX10_takeWay_61 ?_
      replace h := sq_eq h
      generalize (l1 * (Int32.toInt64 (S12.1 (c0 + 12) (Int32.toNatClampNeg x8)))) = x14 at h ⊢
      refine wa_lstore_n cx (i := 1) dX10_takeWay_62 [(0, .ref (ad g c0)), (1, .long x14), (3, .int l3)] rfl (Nat.le_of_ble_eq_true rfl) rfl (lvs_c rfl (lvs_c rfl (lvs_c rfl (lvs_n)))) ?_
      refine wa_iinc cx dX10_takeWay_63 (l3 + (1 : Int32)) [(0, .ref (ad g c0)), (1, .long x14), (3, .int (l3 + (1 : Int32)))] rfl rfl (Nat.le_of_ble_eq_true rfl) rfl (lvs_c rfl (lvs_c rfl (lvs_c rfl (lvs_n)))) ?_
      refine wa_goto cx dX10_takeWay_66 4 (by decide) ?_
      refine wa_sub (lv' := [(0, .ref (ad g c0)), (1, .long x14), (3, .int (l3 + (1 : Int32)))]) (lvs_c rfl (lvs_c rfl (lvs_c rfl (lvs_n)))) ?_
      exact ih x14 (l3 + (1 : Int32)) S12  h
def f_X10_takeWay (c0 : Nat) (S : St) : Option (Int64 × St) := f_X10_takeWay_L4 FU c0 (1 : Int64) (0 : Int32) S
set_option maxHeartbeats 4000000 in
set_option maxRecDepth 100000 in
theorem m_X10_takeWay (l : Launch) {g : Gl} (hg : GOK g) {c0 : Nat} {S : St} {r : Int64 × St} (h_c0 : kd g c0 = 10) (h : f_X10_takeWay c0 S = some r) : MW l yX10_takeWay cX10_takeWay 5 (some .long) rm_X10_takeWay g S [.ref (ad g c0)] (QWl g r) := by
  refine startW [(0, .ref (ad g c0))] (by decide +kernel) (Nat.le_of_ble_eq_true rfl) rfl hg (fun p e s m args below meth c cx => ?_)
  have cx : Cx p s m args meth c cX10_takeWay 5 (some .long) RX10 g (Ap g) := cx
  rw [f_X10_takeWay] at h
  refine wa_lconst cx dX10_takeWay_0 (1 : Int64) (by decide) ?_
  refine wa_lstore_n cx (i := 1) dX10_takeWay_1 [(0, .ref (ad g c0)), (1, .long (1 : Int64))] rfl (Nat.le_of_ble_eq_true rfl) rfl (lvs_c rfl (lvs_c rfl (lvs_n))) ?_
  refine wa_iconst cx dX10_takeWay_2 (0 : Int32) (by decide) ?_
  refine wa_istore_n cx (i := 3) dX10_takeWay_3 [(0, .ref (ad g c0)), (1, .long (1 : Int64)), (3, .int (0 : Int32))] rfl (Nat.le_of_ble_eq_true rfl) rfl (lvs_c rfl (lvs_c rfl (lvs_c rfl (lvs_n)))) ?_
  refine wa_sub (lv' := [(0, .ref (ad g c0)), (1, .long (1 : Int64)), (3, .int (0 : Int32))]) (lvs_c rfl (lvs_c rfl (lvs_c rfl (lvs_n)))) ?_
  exact w_X10_takeWay_L4 cx h_c0  FU (1 : Int64) (0 : Int32) S  h
def rm_X10_allWays : Room := { frames := 0, cells := 0, slots := 0, locals := 0 }
def f_X10_allWays_L4 : Nat → Nat → Int64 → Int32 → St → Option (Int64 × St)
  | 0, _, _, _, _ => none
  | n + 1, c0, l1, l3, S => if (S.1 c0 27) ≤ l3 then some (l1, S) else sq (l1 * (10 : Int64)) fun x2 => f_X10_allWays_L4 n c0 x2 (l3 + (1 : Int32)) S
set_option maxHeartbeats 4000000 in
set_option maxRecDepth 100000 in
theorem w_X10_allWays_L4 {p : Program} {l : Launch} {e : Env} {s : State} {m : MethodId} {args : Array Value} {below : List Frame} {meth : Method} {c : Code} {g : Gl} {r : Int64 × St} {c0 : Nat} (cx : Cx p s m args meth c cX10_allWays 4 (some .long) RX10 g (Ap g)) (h_c0 : kd g c0 = 10) : ∀ n : Nat, ∀ (l1 : Int64) (l3 : Int32) (S : St), f_X10_allWays_L4 n c0 l1 l3 S = some r → WA p l e rm_X10_allWays s m args below meth c 0 0 (MQ below (QWl g r) args s 0 0 (Ap g)) 4 g (Ap g) S 4 [(0, .ref (ad g c0)), (1, .long l1), (3, .int l3)] [] := by
  intro n
  induction n with
  | zero => intro l1 l3 S h; rw [f_X10_allWays_L4] at h; cases h
  | succ n ih =>
    intro l1 l3 S h
    rw [f_X10_allWays_L4] at h
    refine wa_iload_n cx (i := 3) dX10_allWays_4 rfl rfl ?_
    refine wa_aload_n cx (i := 0) dX10_allWays_5 rfl rfl ?_
    refine gf_X10_175 cx h_c0 dX10_allWays_6 ?_
    refine wa_icmp_ge cx dX10_allWays_9 24 (by decide) (fun q1 => ?_) (fun q1 => ?_)
    · rw [if_pos q1] at h
      refine wa_lload_n cx (i := 1) dX10_allWays_24 rfl rfl ?_
      exact wa_lret cx h dX10_allWays_25
    · rw [if_neg q1] at h
      refine wa_lload_n cx (i := 1) dX10_allWays_12 rfl rfl ?_
      refine wa_ldc2 cx dX10_allWays_13 (10 : Int64) kc_X10_126 ?_
      refine wa_lmul cx dX10_allWays_16 ?_
      replace h := sq_eq h
      generalize (l1 * (10 : Int64)) = x2 at h ⊢
      refine wa_lstore_n cx (i := 1) dX10_allWays_17 [(0, .ref (ad g c0)), (1, .long x2), (3, .int l3)] rfl (Nat.le_of_ble_eq_true rfl) rfl (lvs_c rfl (lvs_c rfl (lvs_c rfl (lvs_n)))) ?_
      refine wa_iinc cx dX10_allWays_18 (l3 + (1 : Int32)) [(0, .ref (ad g c0)), (1, .long x2), (3, .int (l3 + (1 : Int32)))] rfl rfl (Nat.le_of_ble_eq_true rfl) rfl (lvs_c rfl (lvs_c rfl (lvs_c rfl (lvs_n)))) ?_
      refine wa_goto cx dX10_allWays_21 4 (by decide) ?_
      refine wa_sub (lv' := [(0, .ref (ad g c0)), (1, .long x2), (3, .int (l3 + (1 : Int32)))]) (lvs_c rfl (lvs_c rfl (lvs_c rfl (lvs_n)))) ?_
      exact ih x2 (l3 + (1 : Int32)) S  h
def f_X10_allWays (c0 : Nat) (S : St) : Option (Int64 × St) := f_X10_allWays_L4 FU c0 (1 : Int64) (0 : Int32) S
set_option maxHeartbeats 4000000 in
set_option maxRecDepth 100000 in
theorem m_X10_allWays (l : Launch) {g : Gl} (hg : GOK g) {c0 : Nat} {S : St} {r : Int64 × St} (h_c0 : kd g c0 = 10) (h : f_X10_allWays c0 S = some r) : MW l yX10_allWays cX10_allWays 4 (some .long) rm_X10_allWays g S [.ref (ad g c0)] (QWl g r) := by
  refine startW [(0, .ref (ad g c0))] (by decide +kernel) (Nat.le_of_ble_eq_true rfl) rfl hg (fun p e s m args below meth c cx => ?_)
  have cx : Cx p s m args meth c cX10_allWays 4 (some .long) RX10 g (Ap g) := cx
  rw [f_X10_allWays] at h
  refine wa_lconst cx dX10_allWays_0 (1 : Int64) (by decide) ?_
  refine wa_lstore_n cx (i := 1) dX10_allWays_1 [(0, .ref (ad g c0)), (1, .long (1 : Int64))] rfl (Nat.le_of_ble_eq_true rfl) rfl (lvs_c rfl (lvs_c rfl (lvs_n))) ?_
  refine wa_iconst cx dX10_allWays_2 (0 : Int32) (by decide) ?_
  refine wa_istore_n cx (i := 3) dX10_allWays_3 [(0, .ref (ad g c0)), (1, .long (1 : Int64)), (3, .int (0 : Int32))] rfl (Nat.le_of_ble_eq_true rfl) rfl (lvs_c rfl (lvs_c rfl (lvs_c rfl (lvs_n)))) ?_
  refine wa_sub (lv' := [(0, .ref (ad g c0)), (1, .long (1 : Int64)), (3, .int (0 : Int32))]) (lvs_c rfl (lvs_c rfl (lvs_c rfl (lvs_n)))) ?_
  exact w_X10_allWays_L4 cx h_c0  FU (1 : Int64) (0 : Int32) S  h
def rm_X10_isDue : Room := { frames := 0, cells := 0, slots := 0, locals := 0 }
def f_X10_isDue_L4 : Nat → Nat → Int32 → Int32 → St → Option (Int32 × St)
  | 0, _, _, _, _ => none
  | n + 1, c0, l1, l2, S => if (S.1 c0 27) ≤ l2 then if l1 < (S.1 (c0 + 2) (Int32.toNatClampNeg (3 : Int32))) then some ((0 : Int32), S) else some ((1 : Int32), S) else ob l2 8 (ob (S.1 (c0 + 18) (Int32.toNatClampNeg l2)) 8 (sq (l1 + (S.1 (c0 + 19) (Int32.toNatClampNeg (S.1 (c0 + 18) (Int32.toNatClampNeg l2))))) fun x5 => f_X10_isDue_L4 n c0 x5 (l2 + (1 : Int32)) S))
set_option maxHeartbeats 4000000 in
set_option maxRecDepth 100000 in
theorem w_X10_isDue_L4 {p : Program} {l : Launch} {e : Env} {s : State} {m : MethodId} {args : Array Value} {below : List Frame} {meth : Method} {c : Code} {g : Gl} {r : Int32 × St} {c0 : Nat} (cx : Cx p s m args meth c cX10_isDue 3 (some .boolean) RX10 g (Ap g)) (h_c0 : kd g c0 = 10) : ∀ n : Nat, ∀ (l1 : Int32) (l2 : Int32) (S : St), f_X10_isDue_L4 n c0 l1 l2 S = some r → WA p l e rm_X10_isDue s m args below meth c 0 0 (MQ below (QWi g r) args s 0 0 (Ap g)) 3 g (Ap g) S 4 [(0, .ref (ad g c0)), (1, .int l1), (2, .int l2)] [] := by
  intro n
  induction n with
  | zero => intro l1 l2 S h; rw [f_X10_isDue_L4] at h; cases h
  | succ n ih =>
    intro l1 l2 S h
    rw [f_X10_isDue_L4] at h
    refine wa_iload_n cx (i := 2) dX10_isDue_4 rfl rfl ?_
    refine wa_aload_n cx (i := 0) dX10_isDue_5 rfl rfl ?_
    refine gf_X10_175 cx h_c0 dX10_isDue_6 ?_
    refine wa_icmp_ge cx dX10_isDue_9 32 (by decide) (fun q1 => ?_) (fun q1 => ?_)
    · rw [if_pos q1] at h
      refine wa_iload_n cx (i := 1) dX10_isDue_32 rfl rfl ?_
      refine wa_aload_n cx (i := 0) dX10_isDue_33 rfl rfl ?_
      refine gf_X10_13 cx h_c0 dX10_isDue_34 ?_
      refine wa_iconst cx dX10_isDue_37 (3 : Int32) (by decide) ?_
      refine wa_iald cx dX10_isDue_38 (kq10_2 cx.2.2.2.2.2.2.1 h_c0) (vinl (by decide)) ?_
      refine wa_icmp_lt cx dX10_isDue_39 46 (by decide) (fun q2 => ?_) (fun q2 => ?_)
      · rw [if_pos q2] at h
        refine wa_iconst cx dX10_isDue_46 (0 : Int32) (by decide) ?_
        exact wa_zret cx (by decide) h dX10_isDue_47
      · rw [if_neg q2] at h
        refine wa_iconst cx dX10_isDue_42 (1 : Int32) (by decide) ?_
        refine wa_goto cx dX10_isDue_43 47 (by decide) ?_
        exact wa_zret cx (by decide) h dX10_isDue_47
    · rw [if_neg q1] at h
      refine wa_iload_n cx (i := 1) dX10_isDue_12 rfl rfl ?_
      refine wa_aload_n cx (i := 0) dX10_isDue_13 rfl rfl ?_
      refine gf_X10_64 cx h_c0 dX10_isDue_14 ?_
      refine wa_aload_n cx (i := 0) dX10_isDue_17 rfl rfl ?_
      refine gf_X10_61 cx h_c0 dX10_isDue_18 ?_
      refine wa_iload_n cx (i := 2) dX10_isDue_21 rfl rfl ?_
      obtain ⟨b3, h⟩ := ob_some h
      refine wa_iald cx dX10_isDue_22 (kq10_28 cx.2.2.2.2.2.2.1 h_c0) b3 ?_
      obtain ⟨b4, h⟩ := ob_some h
      refine wa_iald cx dX10_isDue_23 (kq10_29 cx.2.2.2.2.2.2.1 h_c0) b4 ?_
      refine wa_iadd cx dX10_isDue_24 ?_
      replace h := sq_eq h
      generalize (l1 + (S.1 (c0 + 19) (Int32.toNatClampNeg (S.1 (c0 + 18) (Int32.toNatClampNeg l2))))) = x5 at h ⊢
      refine wa_istore_n cx (i := 1) dX10_isDue_25 [(0, .ref (ad g c0)), (1, .int x5), (2, .int l2)] rfl (Nat.le_of_ble_eq_true rfl) rfl (lvs_c rfl (lvs_c rfl (lvs_c rfl (lvs_n)))) ?_
      refine wa_iinc cx dX10_isDue_26 (l2 + (1 : Int32)) [(0, .ref (ad g c0)), (1, .int x5), (2, .int (l2 + (1 : Int32)))] rfl rfl (Nat.le_of_ble_eq_true rfl) rfl (lvs_c rfl (lvs_c rfl (lvs_c rfl (lvs_n)))) ?_
      refine wa_goto cx dX10_isDue_29 4 (by decide) ?_
      refine wa_sub (lv' := [(0, .ref (ad g c0)), (1, .int x5), (2, .int (l2 + (1 : Int32)))]) (lvs_c rfl (lvs_c rfl (lvs_c rfl (lvs_n)))) ?_
      exact ih x5 (l2 + (1 : Int32)) S  h
def f_X10_isDue (c0 : Nat) (S : St) : Option (Int32 × St) := f_X10_isDue_L4 FU c0 (0 : Int32) (0 : Int32) S
set_option maxHeartbeats 4000000 in
set_option maxRecDepth 100000 in
theorem m_X10_isDue (l : Launch) {g : Gl} (hg : GOK g) {c0 : Nat} {S : St} {r : Int32 × St} (h_c0 : kd g c0 = 10) (h : f_X10_isDue c0 S = some r) : MW l yX10_isDue cX10_isDue 3 (some .boolean) rm_X10_isDue g S [.ref (ad g c0)] (QWi g r) := by
  refine startW [(0, .ref (ad g c0))] (by decide +kernel) (Nat.le_of_ble_eq_true rfl) rfl hg (fun p e s m args below meth c cx => ?_)
  have cx : Cx p s m args meth c cX10_isDue 3 (some .boolean) RX10 g (Ap g) := cx
  rw [f_X10_isDue] at h
  refine wa_iconst cx dX10_isDue_0 (0 : Int32) (by decide) ?_
  refine wa_istore_n cx (i := 1) dX10_isDue_1 [(0, .ref (ad g c0)), (1, .int (0 : Int32))] rfl (Nat.le_of_ble_eq_true rfl) rfl (lvs_c rfl (lvs_c rfl (lvs_n))) ?_
  refine wa_iconst cx dX10_isDue_2 (0 : Int32) (by decide) ?_
  refine wa_istore_n cx (i := 2) dX10_isDue_3 [(0, .ref (ad g c0)), (1, .int (0 : Int32)), (2, .int (0 : Int32))] rfl (Nat.le_of_ble_eq_true rfl) rfl (lvs_c rfl (lvs_c rfl (lvs_c rfl (lvs_n)))) ?_
  refine wa_sub (lv' := [(0, .ref (ad g c0)), (1, .int (0 : Int32)), (2, .int (0 : Int32))]) (lvs_c rfl (lvs_c rfl (lvs_c rfl (lvs_n)))) ?_
  exact w_X10_isDue_L4 cx h_c0  FU (0 : Int32) (0 : Int32) S  h
def rm_X10_waysOf : Room := { frames := 4, cells := 0, slots := 0, locals := 97 }
def f_X10_waysOf_J167 (c0 : Nat) (a1 : Int32) (kb9 : Int64 → Int32 → St → Option (Int64 × St)) (k0 : Int64) (k1 : Int64) (S : St) : Option (Int64 × St) := sq (k0 + k1) fun x1 => bd (f_X10_nextWay c0 S) fun x2 S3 => kb9 x1 x2 S3
set_option maxHeartbeats 4000000 in
set_option maxRecDepth 100000 in
theorem w_X10_waysOf_J167 {p : Program} {l : Launch} {e : Env} {s : State} {m : MethodId} {args : Array Value} {below : List Frame} {meth : Method} {c : Code} {g : Gl} {r : Int64 × St} {c0 : Nat} {a1 : Int32} {kb9 : Int64 → Int32 → St → Option (Int64 × St)} (cx : Cx p s m args meth c cX10_waysOf 10 (some .long) RX10 g (Ap g)) (h_c0 : kd g c0 = 10) (hkb9 : ∀ (l2 : Int64) (l4 : Int32) (S : St), kb9 l2 l4 S = some r → WA p l e rm_X10_waysOf s m args below meth c 0 0 (MQ below (QWl g r) args s 0 0 (Ap g)) 10 g (Ap g) S 9 [(0, .ref (ad g c0)), (1, .int a1), (2, .long l2), (4, .int l4)] []) : ∀ (k0 : Int64) (k1 : Int64) (S : St), f_X10_waysOf_J167 c0 a1 kb9 k0 k1 S = some r → WA p l e rm_X10_waysOf s m args below meth c 0 0 (MQ below (QWl g r) args s 0 0 (Ap g)) 10 g (Ap g) S 167 [(0, .ref (ad g c0)), (1, .int a1)] [.long k1, .long k0] := by
  intro k0 k1 S h
  rw [f_X10_waysOf_J167] at h
  refine wa_ladd cx dX10_waysOf_167 ?_
  replace h := sq_eq h
  generalize (k0 + k1) = x1 at h ⊢
  refine wa_lstore_n cx (i := 2) dX10_waysOf_168 [(0, .ref (ad g c0)), (1, .int a1), (2, .long x1)] rfl (Nat.le_of_ble_eq_true rfl) rfl (lvs_c rfl (lvs_c rfl (lvs_c rfl (lvs_n)))) ?_
  refine wa_aload_n cx (i := 0) dX10_waysOf_169 rfl rfl ?_
  obtain ⟨x2, S3, e4, h⟩ := bd_some h
  refine wa_callVi cx (m_X10_nextWay l cx.2.2.2.2.2.2.1 h_c0 e4) vl_X10_228 h_c0 (by decide) rfl rfl ⟨_, cell_eq10 (kd_lt h_c0 (by decide)).2⟩ ⟨Nat.le_of_ble_eq_true rfl, Nat.le_of_ble_eq_true rfl⟩ ⟨rfl, rfl⟩ ⟨Nat.zero_le _, Nat.zero_le _⟩ rfl (Nat.le_of_ble_eq_true rfl) dX10_waysOf_170 rfl ?_
  refine wa_istore cx dX10_waysOf_173 [(0, .ref (ad g c0)), (1, .int a1), (2, .long x1), (4, .int x2)] (Nat.le_of_ble_eq_true rfl) rfl (lvs_c rfl (lvs_c rfl (lvs_c rfl (lvs_c rfl (lvs_n))))) ?_
  refine wa_goto cx dX10_waysOf_175 9 (by decide) ?_
  refine wa_sub (lv' := [(0, .ref (ad g c0)), (1, .int a1), (2, .long x1), (4, .int x2)]) (lvs_c rfl (lvs_c rfl (lvs_c rfl (lvs_c rfl (lvs_n))))) ?_
  exact hkb9 x1 x2 S3  h
def f_X10_waysOf_J153 (c0 : Nat) (a1 : Int32) (kb9 : Int64 → Int32 → St → Option (Int64 × St)) (l2 : Int64) (l5 : Int64) (k0 : Int32) (S : St) : Option (Int64 × St) := if k0 = 0 then f_X10_waysOf_J167 c0 a1 kb9 l2 (0 : Int64) S else f_X10_waysOf_J167 c0 a1 kb9 l2 l5 S
set_option maxHeartbeats 4000000 in
set_option maxRecDepth 100000 in
theorem w_X10_waysOf_J153 {p : Program} {l : Launch} {e : Env} {s : State} {m : MethodId} {args : Array Value} {below : List Frame} {meth : Method} {c : Code} {g : Gl} {r : Int64 × St} {c0 : Nat} {a1 : Int32} {kb9 : Int64 → Int32 → St → Option (Int64 × St)} (cx : Cx p s m args meth c cX10_waysOf 10 (some .long) RX10 g (Ap g)) (h_c0 : kd g c0 = 10) (hkb9 : ∀ (l2 : Int64) (l4 : Int32) (S : St), kb9 l2 l4 S = some r → WA p l e rm_X10_waysOf s m args below meth c 0 0 (MQ below (QWl g r) args s 0 0 (Ap g)) 10 g (Ap g) S 9 [(0, .ref (ad g c0)), (1, .int a1), (2, .long l2), (4, .int l4)] []) : ∀ (l2 : Int64) (l5 : Int64) (k0 : Int32) (S : St), f_X10_waysOf_J153 c0 a1 kb9 l2 l5 k0 S = some r → WA p l e rm_X10_waysOf s m args below meth c 0 0 (MQ below (QWl g r) args s 0 0 (Ap g)) 10 g (Ap g) S 153 [(0, .ref (ad g c0)), (1, .int a1), (2, .long l2), (5, .long l5)] [.int k0] := by
  intro l2 l5 k0 S h
  rw [f_X10_waysOf_J153] at h
  refine wa_istore cx dX10_waysOf_153 [(0, .ref (ad g c0)), (1, .int a1), (2, .long l2), (5, .long l5), (9, .int k0)] (Nat.le_of_ble_eq_true rfl) rfl (lvs_c rfl (lvs_c rfl (lvs_c rfl (lvs_c rfl (lvs_c rfl (lvs_n)))))) ?_
  refine wa_lload_n cx (i := 2) dX10_waysOf_155 rfl rfl ?_
  refine wa_iload cx dX10_waysOf_156 rfl ?_
  refine wa_if_eq cx dX10_waysOf_158 166 (by decide) (fun q5 => ?_) (fun q5 => ?_)
  · rw [if_pos q5] at h
    refine wa_lconst cx dX10_waysOf_166 (0 : Int64) (by decide) ?_
    refine wa_sub (lv' := [(0, .ref (ad g c0)), (1, .int a1)]) (lvs_c rfl (lvs_c rfl (lvs_n))) ?_
    exact w_X10_waysOf_J167 cx h_c0 hkb9  l2 (0 : Int64) S  h
  · rw [if_neg q5] at h
    refine wa_lload cx dX10_waysOf_161 rfl ?_
    refine wa_goto cx dX10_waysOf_163 167 (by decide) ?_
    refine wa_sub (lv' := [(0, .ref (ad g c0)), (1, .int a1)]) (lvs_c rfl (lvs_c rfl (lvs_n))) ?_
    exact w_X10_waysOf_J167 cx h_c0 hkb9  l2 l5 S  h
def f_X10_waysOf_J152 (c0 : Nat) (a1 : Int32) (kb9 : Int64 → Int32 → St → Option (Int64 × St)) (l2 : Int64) (l5 : Int64) (S : St) : Option (Int64 × St) := f_X10_waysOf_J153 c0 a1 kb9 l2 l5 (0 : Int32) S
set_option maxHeartbeats 4000000 in
set_option maxRecDepth 100000 in
theorem w_X10_waysOf_J152 {p : Program} {l : Launch} {e : Env} {s : State} {m : MethodId} {args : Array Value} {below : List Frame} {meth : Method} {c : Code} {g : Gl} {r : Int64 × St} {c0 : Nat} {a1 : Int32} {kb9 : Int64 → Int32 → St → Option (Int64 × St)} (cx : Cx p s m args meth c cX10_waysOf 10 (some .long) RX10 g (Ap g)) (h_c0 : kd g c0 = 10) (hkb9 : ∀ (l2 : Int64) (l4 : Int32) (S : St), kb9 l2 l4 S = some r → WA p l e rm_X10_waysOf s m args below meth c 0 0 (MQ below (QWl g r) args s 0 0 (Ap g)) 10 g (Ap g) S 9 [(0, .ref (ad g c0)), (1, .int a1), (2, .long l2), (4, .int l4)] []) : ∀ (l2 : Int64) (l5 : Int64) (S : St), f_X10_waysOf_J152 c0 a1 kb9 l2 l5 S = some r → WA p l e rm_X10_waysOf s m args below meth c 0 0 (MQ below (QWl g r) args s 0 0 (Ap g)) 10 g (Ap g) S 152 [(0, .ref (ad g c0)), (1, .int a1), (2, .long l2), (5, .long l5)] [] := by
  intro l2 l5 S h
  rw [f_X10_waysOf_J152] at h
  refine wa_iconst cx dX10_waysOf_152 (0 : Int32) (by decide) ?_
  refine wa_sub (lv' := [(0, .ref (ad g c0)), (1, .int a1), (2, .long l2), (5, .long l5)]) (lvs_c rfl (lvs_c rfl (lvs_c rfl (lvs_c rfl (lvs_n))))) ?_
  exact w_X10_waysOf_J153 cx h_c0 hkb9  l2 l5 (0 : Int32) S  h
def f_X10_waysOf_J102 (c0 : Nat) (a1 : Int32) (kb9 : Int64 → Int32 → St → Option (Int64 × St)) (l2 : Int64) (l5 : Int64) (S : St) : Option (Int64 × St) := f_X10_waysOf_J153 c0 a1 kb9 l2 l5 (0 : Int32) S
set_option maxHeartbeats 4000000 in
set_option maxRecDepth 100000 in
theorem w_X10_waysOf_J102 {p : Program} {l : Launch} {e : Env} {s : State} {m : MethodId} {args : Array Value} {below : List Frame} {meth : Method} {c : Code} {g : Gl} {r : Int64 × St} {c0 : Nat} {a1 : Int32} {kb9 : Int64 → Int32 → St → Option (Int64 × St)} (cx : Cx p s m args meth c cX10_waysOf 10 (some .long) RX10 g (Ap g)) (h_c0 : kd g c0 = 10) (hkb9 : ∀ (l2 : Int64) (l4 : Int32) (S : St), kb9 l2 l4 S = some r → WA p l e rm_X10_waysOf s m args below meth c 0 0 (MQ below (QWl g r) args s 0 0 (Ap g)) 10 g (Ap g) S 9 [(0, .ref (ad g c0)), (1, .int a1), (2, .long l2), (4, .int l4)] []) : ∀ (l2 : Int64) (l5 : Int64) (S : St), f_X10_waysOf_J102 c0 a1 kb9 l2 l5 S = some r → WA p l e rm_X10_waysOf s m args below meth c 0 0 (MQ below (QWl g r) args s 0 0 (Ap g)) 10 g (Ap g) S 102 [(0, .ref (ad g c0)), (1, .int a1), (2, .long l2), (5, .long l5)] [] := by
  intro l2 l5 S h
  rw [f_X10_waysOf_J102] at h
  refine wa_iconst cx dX10_waysOf_102 (0 : Int32) (by decide) ?_
  refine wa_goto cx dX10_waysOf_103 153 (by decide) ?_
  refine wa_sub (lv' := [(0, .ref (ad g c0)), (1, .int a1), (2, .long l2), (5, .long l5)]) (lvs_c rfl (lvs_c rfl (lvs_c rfl (lvs_c rfl (lvs_n))))) ?_
  exact w_X10_waysOf_J153 cx h_c0 hkb9  l2 l5 (0 : Int32) S  h
def f_X10_waysOf_J77 (c0 : Nat) (a1 : Int32) (kb9 : Int64 → Int32 → St → Option (Int64 × St)) (l2 : Int64) (l5 : Int64) (S : St) : Option (Int64 × St) := f_X10_waysOf_J153 c0 a1 kb9 l2 l5 (0 : Int32) S
set_option maxHeartbeats 4000000 in
set_option maxRecDepth 100000 in
theorem w_X10_waysOf_J77 {p : Program} {l : Launch} {e : Env} {s : State} {m : MethodId} {args : Array Value} {below : List Frame} {meth : Method} {c : Code} {g : Gl} {r : Int64 × St} {c0 : Nat} {a1 : Int32} {kb9 : Int64 → Int32 → St → Option (Int64 × St)} (cx : Cx p s m args meth c cX10_waysOf 10 (some .long) RX10 g (Ap g)) (h_c0 : kd g c0 = 10) (hkb9 : ∀ (l2 : Int64) (l4 : Int32) (S : St), kb9 l2 l4 S = some r → WA p l e rm_X10_waysOf s m args below meth c 0 0 (MQ below (QWl g r) args s 0 0 (Ap g)) 10 g (Ap g) S 9 [(0, .ref (ad g c0)), (1, .int a1), (2, .long l2), (4, .int l4)] []) : ∀ (l2 : Int64) (l5 : Int64) (S : St), f_X10_waysOf_J77 c0 a1 kb9 l2 l5 S = some r → WA p l e rm_X10_waysOf s m args below meth c 0 0 (MQ below (QWl g r) args s 0 0 (Ap g)) 10 g (Ap g) S 77 [(0, .ref (ad g c0)), (1, .int a1), (2, .long l2), (5, .long l5)] [] := by
  intro l2 l5 S h
  rw [f_X10_waysOf_J77] at h
  refine wa_iconst cx dX10_waysOf_77 (0 : Int32) (by decide) ?_
  refine wa_goto cx dX10_waysOf_78 153 (by decide) ?_
  refine wa_sub (lv' := [(0, .ref (ad g c0)), (1, .int a1), (2, .long l2), (5, .long l5)]) (lvs_c rfl (lvs_c rfl (lvs_c rfl (lvs_c rfl (lvs_n))))) ?_
  exact w_X10_waysOf_J153 cx h_c0 hkb9  l2 l5 (0 : Int32) S  h
def f_X10_waysOf_J45 (c0 : Nat) (a1 : Int32) (kb9 : Int64 → Int32 → St → Option (Int64 × St)) (l2 : Int64) (l5 : Int64) (l7 : Int32) (k0 : Int32) (S : St) : Option (Int64 × St) := if a1 = 0 then f_X10_waysOf_J153 c0 a1 kb9 l2 l5 l7 S else if a1 = (1 : Int32) then if l7 = 0 then f_X10_waysOf_J77 c0 a1 kb9 l2 l5 S else bd (f_X10_isDue c0 S) fun x23 S24 => if x23 = 0 then f_X10_waysOf_J153 c0 a1 kb9 l2 l5 (1 : Int32) S24 else f_X10_waysOf_J77 c0 a1 kb9 l2 l5 S24 else if a1 = (2 : Int32) then if l7 = 0 then bd (f_X10_isDue c0 S) fun x18 S19 => if x18 = 0 then f_X10_waysOf_J102 c0 a1 kb9 l2 l5 S19 else f_X10_waysOf_J153 c0 a1 kb9 l2 l5 (1 : Int32) S19 else f_X10_waysOf_J102 c0 a1 kb9 l2 l5 S else if a1 = (3 : Int32) then bd (f_X10_isDue c0 S) fun x13 S14 => if l7 = x13 then f_X10_waysOf_J153 c0 a1 kb9 l2 l5 (0 : Int32) S14 else f_X10_waysOf_J153 c0 a1 kb9 l2 l5 (1 : Int32) S14 else if a1 = (4 : Int32) then f_X10_waysOf_J153 c0 a1 kb9 l2 l5 k0 S else if l7 = 0 then f_X10_waysOf_J152 c0 a1 kb9 l2 l5 S else if k0 = 0 then f_X10_waysOf_J152 c0 a1 kb9 l2 l5 S else f_X10_waysOf_J153 c0 a1 kb9 l2 l5 (1 : Int32) S
set_option maxHeartbeats 4000000 in
set_option maxRecDepth 100000 in
theorem w_X10_waysOf_J45 {p : Program} {l : Launch} {e : Env} {s : State} {m : MethodId} {args : Array Value} {below : List Frame} {meth : Method} {c : Code} {g : Gl} {r : Int64 × St} {c0 : Nat} {a1 : Int32} {kb9 : Int64 → Int32 → St → Option (Int64 × St)} (cx : Cx p s m args meth c cX10_waysOf 10 (some .long) RX10 g (Ap g)) (h_c0 : kd g c0 = 10) (hkb9 : ∀ (l2 : Int64) (l4 : Int32) (S : St), kb9 l2 l4 S = some r → WA p l e rm_X10_waysOf s m args below meth c 0 0 (MQ below (QWl g r) args s 0 0 (Ap g)) 10 g (Ap g) S 9 [(0, .ref (ad g c0)), (1, .int a1), (2, .long l2), (4, .int l4)] []) : ∀ (l2 : Int64) (l5 : Int64) (l7 : Int32) (k0 : Int32) (S : St), f_X10_waysOf_J45 c0 a1 kb9 l2 l5 l7 k0 S = some r → WA p l e rm_X10_waysOf s m args below meth c 0 0 (MQ below (QWl g r) args s 0 0 (Ap g)) 10 g (Ap g) S 45 [(0, .ref (ad g c0)), (1, .int a1), (2, .long l2), (5, .long l5), (7, .int l7)] [.int k0] := by
  intro l2 l5 l7 k0 S h
  rw [f_X10_waysOf_J45] at h
  refine wa_istore cx dX10_waysOf_45 [(0, .ref (ad g c0)), (1, .int a1), (2, .long l2), (5, .long l5), (7, .int l7), (8, .int k0)] (Nat.le_of_ble_eq_true rfl) rfl (lvs_c rfl (lvs_c rfl (lvs_c rfl (lvs_c rfl (lvs_c rfl (lvs_c rfl (lvs_n))))))) ?_
  refine wa_iload_n cx (i := 1) dX10_waysOf_47 rfl rfl ?_
  refine wa_if_ne cx dX10_waysOf_48 56 (by decide) (fun q6 => ?_) (fun q6 => ?_)
  · rw [if_neg q6] at h
    refine wa_iload_n cx (i := 1) dX10_waysOf_56 rfl rfl ?_
    refine wa_iconst cx dX10_waysOf_57 (1 : Int32) (by decide) ?_
    refine wa_icmp_ne cx dX10_waysOf_58 81 (by decide) (fun q7 => ?_) (fun q7 => ?_)
    · rw [if_neg q7] at h
      refine wa_iload_n cx (i := 1) dX10_waysOf_81 rfl rfl ?_
      refine wa_iconst cx dX10_waysOf_82 (2 : Int32) (by decide) ?_
      refine wa_icmp_ne cx dX10_waysOf_83 106 (by decide) (fun q8 => ?_) (fun q8 => ?_)
      · rw [if_neg q8] at h
        refine wa_iload_n cx (i := 1) dX10_waysOf_106 rfl rfl ?_
        refine wa_iconst cx dX10_waysOf_107 (3 : Int32) (by decide) ?_
        refine wa_icmp_ne cx dX10_waysOf_108 128 (by decide) (fun q9 => ?_) (fun q9 => ?_)
        · rw [if_neg q9] at h
          refine wa_iload_n cx (i := 1) dX10_waysOf_128 rfl rfl ?_
          refine wa_iconst cx dX10_waysOf_129 (4 : Int32) (by decide) ?_
          refine wa_icmp_ne cx dX10_waysOf_130 138 (by decide) (fun q10 => ?_) (fun q10 => ?_)
          · rw [if_neg q10] at h
            refine wa_iload cx dX10_waysOf_138 rfl ?_
            refine wa_if_eq cx dX10_waysOf_140 152 (by decide) (fun q11 => ?_) (fun q11 => ?_)
            · rw [if_pos q11] at h
              refine wa_sub (lv' := [(0, .ref (ad g c0)), (1, .int a1), (2, .long l2), (5, .long l5)]) (lvs_c rfl (lvs_c rfl (lvs_c rfl (lvs_c rfl (lvs_n))))) ?_
              exact w_X10_waysOf_J152 cx h_c0 hkb9  l2 l5 S  h
            · rw [if_neg q11] at h
              refine wa_iload cx dX10_waysOf_143 rfl ?_
              refine wa_if_eq cx dX10_waysOf_145 152 (by decide) (fun q12 => ?_) (fun q12 => ?_)
              · rw [if_pos q12] at h
                refine wa_sub (lv' := [(0, .ref (ad g c0)), (1, .int a1), (2, .long l2), (5, .long l5)]) (lvs_c rfl (lvs_c rfl (lvs_c rfl (lvs_c rfl (lvs_n))))) ?_
                exact w_X10_waysOf_J152 cx h_c0 hkb9  l2 l5 S  h
              · rw [if_neg q12] at h
                refine wa_iconst cx dX10_waysOf_148 (1 : Int32) (by decide) ?_
                refine wa_goto cx dX10_waysOf_149 153 (by decide) ?_
                refine wa_sub (lv' := [(0, .ref (ad g c0)), (1, .int a1), (2, .long l2), (5, .long l5)]) (lvs_c rfl (lvs_c rfl (lvs_c rfl (lvs_c rfl (lvs_n))))) ?_
                exact w_X10_waysOf_J153 cx h_c0 hkb9  l2 l5 (1 : Int32) S  h
          · rw [if_pos q10] at h
            refine wa_iload cx dX10_waysOf_133 rfl ?_
            refine wa_goto cx dX10_waysOf_135 153 (by decide) ?_
            refine wa_sub (lv' := [(0, .ref (ad g c0)), (1, .int a1), (2, .long l2), (5, .long l5)]) (lvs_c rfl (lvs_c rfl (lvs_c rfl (lvs_c rfl (lvs_n))))) ?_
            exact w_X10_waysOf_J153 cx h_c0 hkb9  l2 l5 k0 S  h
        · rw [if_pos q9] at h
          refine wa_iload cx dX10_waysOf_111 rfl ?_
          refine wa_aload_n cx (i := 0) dX10_waysOf_113 rfl rfl ?_
          obtain ⟨x13, S14, e15, h⟩ := bd_some h
          refine wa_callVi cx (m_X10_isDue l cx.2.2.2.2.2.2.1 h_c0 e15) vl_X10_225 h_c0 (by decide) rfl rfl ⟨_, cell_eq10 (kd_lt h_c0 (by decide)).2⟩ ⟨Nat.le_of_ble_eq_true rfl, Nat.le_of_ble_eq_true rfl⟩ ⟨rfl, rfl⟩ ⟨Nat.zero_le _, Nat.zero_le _⟩ rfl (Nat.le_of_ble_eq_true rfl) dX10_waysOf_114 rfl ?_
          refine wa_icmp_eq cx dX10_waysOf_117 124 (by decide) (fun q16 => ?_) (fun q16 => ?_)
          · rw [if_pos q16] at h
            refine wa_iconst cx dX10_waysOf_124 (0 : Int32) (by decide) ?_
            refine wa_goto cx dX10_waysOf_125 153 (by decide) ?_
            refine wa_sub (lv' := [(0, .ref (ad g c0)), (1, .int a1), (2, .long l2), (5, .long l5)]) (lvs_c rfl (lvs_c rfl (lvs_c rfl (lvs_c rfl (lvs_n))))) ?_
            exact w_X10_waysOf_J153 cx h_c0 hkb9  l2 l5 (0 : Int32) S14  h
          · rw [if_neg q16] at h
            refine wa_iconst cx dX10_waysOf_120 (1 : Int32) (by decide) ?_
            refine wa_goto cx dX10_waysOf_121 153 (by decide) ?_
            refine wa_sub (lv' := [(0, .ref (ad g c0)), (1, .int a1), (2, .long l2), (5, .long l5)]) (lvs_c rfl (lvs_c rfl (lvs_c rfl (lvs_c rfl (lvs_n))))) ?_
            exact w_X10_waysOf_J153 cx h_c0 hkb9  l2 l5 (1 : Int32) S14  h
      · rw [if_pos q8] at h
        refine wa_iload cx dX10_waysOf_86 rfl ?_
        refine wa_if_ne cx dX10_waysOf_88 102 (by decide) (fun q17 => ?_) (fun q17 => ?_)
        · rw [if_neg q17] at h
          refine wa_sub (lv' := [(0, .ref (ad g c0)), (1, .int a1), (2, .long l2), (5, .long l5)]) (lvs_c rfl (lvs_c rfl (lvs_c rfl (lvs_c rfl (lvs_n))))) ?_
          exact w_X10_waysOf_J102 cx h_c0 hkb9  l2 l5 S  h
        · rw [if_pos q17] at h
          refine wa_aload_n cx (i := 0) dX10_waysOf_91 rfl rfl ?_
          obtain ⟨x18, S19, e20, h⟩ := bd_some h
          refine wa_callVi cx (m_X10_isDue l cx.2.2.2.2.2.2.1 h_c0 e20) vl_X10_225 h_c0 (by decide) rfl rfl ⟨_, cell_eq10 (kd_lt h_c0 (by decide)).2⟩ ⟨Nat.le_of_ble_eq_true rfl, Nat.le_of_ble_eq_true rfl⟩ ⟨rfl, rfl⟩ ⟨Nat.zero_le _, Nat.zero_le _⟩ rfl (Nat.le_of_ble_eq_true rfl) dX10_waysOf_92 rfl ?_
          refine wa_if_eq cx dX10_waysOf_95 102 (by decide) (fun q21 => ?_) (fun q21 => ?_)
          · rw [if_pos q21] at h
            refine wa_sub (lv' := [(0, .ref (ad g c0)), (1, .int a1), (2, .long l2), (5, .long l5)]) (lvs_c rfl (lvs_c rfl (lvs_c rfl (lvs_c rfl (lvs_n))))) ?_
            exact w_X10_waysOf_J102 cx h_c0 hkb9  l2 l5 S19  h
          · rw [if_neg q21] at h
            refine wa_iconst cx dX10_waysOf_98 (1 : Int32) (by decide) ?_
            refine wa_goto cx dX10_waysOf_99 153 (by decide) ?_
            refine wa_sub (lv' := [(0, .ref (ad g c0)), (1, .int a1), (2, .long l2), (5, .long l5)]) (lvs_c rfl (lvs_c rfl (lvs_c rfl (lvs_c rfl (lvs_n))))) ?_
            exact w_X10_waysOf_J153 cx h_c0 hkb9  l2 l5 (1 : Int32) S19  h
    · rw [if_pos q7] at h
      refine wa_iload cx dX10_waysOf_61 rfl ?_
      refine wa_if_eq cx dX10_waysOf_63 77 (by decide) (fun q22 => ?_) (fun q22 => ?_)
      · rw [if_pos q22] at h
        refine wa_sub (lv' := [(0, .ref (ad g c0)), (1, .int a1), (2, .long l2), (5, .long l5)]) (lvs_c rfl (lvs_c rfl (lvs_c rfl (lvs_c rfl (lvs_n))))) ?_
        exact w_X10_waysOf_J77 cx h_c0 hkb9  l2 l5 S  h
      · rw [if_neg q22] at h
        refine wa_aload_n cx (i := 0) dX10_waysOf_66 rfl rfl ?_
        obtain ⟨x23, S24, e25, h⟩ := bd_some h
        refine wa_callVi cx (m_X10_isDue l cx.2.2.2.2.2.2.1 h_c0 e25) vl_X10_225 h_c0 (by decide) rfl rfl ⟨_, cell_eq10 (kd_lt h_c0 (by decide)).2⟩ ⟨Nat.le_of_ble_eq_true rfl, Nat.le_of_ble_eq_true rfl⟩ ⟨rfl, rfl⟩ ⟨Nat.zero_le _, Nat.zero_le _⟩ rfl (Nat.le_of_ble_eq_true rfl) dX10_waysOf_67 rfl ?_
        refine wa_if_ne cx dX10_waysOf_70 77 (by decide) (fun q26 => ?_) (fun q26 => ?_)
        · rw [if_neg q26] at h
          refine wa_sub (lv' := [(0, .ref (ad g c0)), (1, .int a1), (2, .long l2), (5, .long l5)]) (lvs_c rfl (lvs_c rfl (lvs_c rfl (lvs_c rfl (lvs_n))))) ?_
          exact w_X10_waysOf_J77 cx h_c0 hkb9  l2 l5 S24  h
        · rw [if_pos q26] at h
          refine wa_iconst cx dX10_waysOf_73 (1 : Int32) (by decide) ?_
          refine wa_goto cx dX10_waysOf_74 153 (by decide) ?_
          refine wa_sub (lv' := [(0, .ref (ad g c0)), (1, .int a1), (2, .long l2), (5, .long l5)]) (lvs_c rfl (lvs_c rfl (lvs_c rfl (lvs_c rfl (lvs_n))))) ?_
          exact w_X10_waysOf_J153 cx h_c0 hkb9  l2 l5 (1 : Int32) S24  h
  · rw [if_pos q6] at h
    refine wa_iload cx dX10_waysOf_51 rfl ?_
    refine wa_goto cx dX10_waysOf_53 153 (by decide) ?_
    refine wa_sub (lv' := [(0, .ref (ad g c0)), (1, .int a1), (2, .long l2), (5, .long l5)]) (lvs_c rfl (lvs_c rfl (lvs_c rfl (lvs_c rfl (lvs_n))))) ?_
    exact w_X10_waysOf_J153 cx h_c0 hkb9  l2 l5 l7 S  h
def f_X10_waysOf_L9 : Nat → Nat → Int32 → Int64 → Int32 → St → Option (Int64 × St)
  | 0, _, _, _, _, _ => none
  | n + 1, c0, a1, l2, l4, S => if l4 = 0 then some (l2, S) else bd (f_X10_takeWay c0 S) fun x28 S29 => bd (f_X10_isBuilt c0 S29) fun x31 S32 => if (S32.1 c0 33) < (S32.1 (c0 + 2) (Int32.toNatClampNeg (8 : Int32))) then f_X10_waysOf_J45 c0 a1 (fun l2 l4 S => f_X10_waysOf_L9 n c0 a1 l2 l4 S) l2 x28 x31 (0 : Int32) S32 else f_X10_waysOf_J45 c0 a1 (fun l2 l4 S => f_X10_waysOf_L9 n c0 a1 l2 l4 S) l2 x28 x31 (1 : Int32) S32
set_option maxHeartbeats 4000000 in
set_option maxRecDepth 100000 in
theorem w_X10_waysOf_L9 {p : Program} {l : Launch} {e : Env} {s : State} {m : MethodId} {args : Array Value} {below : List Frame} {meth : Method} {c : Code} {g : Gl} {r : Int64 × St} {c0 : Nat} {a1 : Int32} (cx : Cx p s m args meth c cX10_waysOf 10 (some .long) RX10 g (Ap g)) (h_c0 : kd g c0 = 10) : ∀ n : Nat, ∀ (l2 : Int64) (l4 : Int32) (S : St), f_X10_waysOf_L9 n c0 a1 l2 l4 S = some r → WA p l e rm_X10_waysOf s m args below meth c 0 0 (MQ below (QWl g r) args s 0 0 (Ap g)) 10 g (Ap g) S 9 [(0, .ref (ad g c0)), (1, .int a1), (2, .long l2), (4, .int l4)] [] := by
  intro n
  induction n with
  | zero => intro l2 l4 S h; rw [f_X10_waysOf_L9] at h; cases h
  | succ n ih =>
    intro l2 l4 S h
    rw [f_X10_waysOf_L9] at h
    refine wa_iload cx dX10_waysOf_9 rfl ?_
    refine wa_if_eq cx dX10_waysOf_11 178 (by decide) (fun q27 => ?_) (fun q27 => ?_)
    · rw [if_pos q27] at h
      refine wa_lload_n cx (i := 2) dX10_waysOf_178 rfl rfl ?_
      exact wa_lret cx h dX10_waysOf_179
    · rw [if_neg q27] at h
      refine wa_aload_n cx (i := 0) dX10_waysOf_14 rfl rfl ?_
      obtain ⟨x28, S29, e30, h⟩ := bd_some h
      refine wa_callVl cx (m_X10_takeWay l cx.2.2.2.2.2.2.1 h_c0 e30) vl_X10_221 h_c0 (by decide) rfl rfl ⟨_, cell_eq10 (kd_lt h_c0 (by decide)).2⟩ ⟨Nat.le_of_ble_eq_true rfl, Nat.le_of_ble_eq_true rfl⟩ ⟨rfl, rfl⟩ ⟨Nat.zero_le _, Nat.zero_le _⟩ rfl (Nat.le_of_ble_eq_true rfl) dX10_waysOf_15 rfl ?_
      refine wa_lstore cx dX10_waysOf_18 [(0, .ref (ad g c0)), (1, .int a1), (2, .long l2), (5, .long x28)] (Nat.le_of_ble_eq_true rfl) rfl (lvs_c rfl (lvs_c rfl (lvs_c rfl (lvs_c rfl (lvs_n))))) ?_
      refine wa_aload_n cx (i := 0) dX10_waysOf_20 rfl rfl ?_
      obtain ⟨x31, S32, e33, h⟩ := bd_some h
      refine wa_callVi cx (m_X10_isBuilt l cx.2.2.2.2.2.2.1 h_c0 e33) vl_X10_212 h_c0 (by decide) rfl rfl ⟨_, cell_eq10 (kd_lt h_c0 (by decide)).2⟩ ⟨Nat.le_of_ble_eq_true rfl, Nat.le_of_ble_eq_true rfl⟩ ⟨rfl, rfl⟩ ⟨Nat.zero_le _, Nat.zero_le _⟩ rfl (Nat.le_of_ble_eq_true rfl) dX10_waysOf_21 rfl ?_
      refine wa_istore cx dX10_waysOf_24 [(0, .ref (ad g c0)), (1, .int a1), (2, .long l2), (5, .long x28), (7, .int x31)] (Nat.le_of_ble_eq_true rfl) rfl (lvs_c rfl (lvs_c rfl (lvs_c rfl (lvs_c rfl (lvs_c rfl (lvs_n)))))) ?_
      refine wa_aload_n cx (i := 0) dX10_waysOf_26 rfl rfl ?_
      refine gf_X10_199 cx h_c0 dX10_waysOf_27 ?_
      refine wa_aload_n cx (i := 0) dX10_waysOf_30 rfl rfl ?_
      refine gf_X10_13 cx h_c0 dX10_waysOf_31 ?_
      refine wa_bipush cx dX10_waysOf_34 (8 : Int32) (by decide) ?_
      refine wa_iald cx dX10_waysOf_36 (kq10_2 cx.2.2.2.2.2.2.1 h_c0) (vinl (by decide)) ?_
      refine wa_icmp_lt cx dX10_waysOf_37 44 (by decide) (fun q34 => ?_) (fun q34 => ?_)
      · rw [if_pos q34] at h
        refine wa_iconst cx dX10_waysOf_44 (0 : Int32) (by decide) ?_
        refine wa_sub (lv' := [(0, .ref (ad g c0)), (1, .int a1), (2, .long l2), (5, .long x28), (7, .int x31)]) (lvs_c rfl (lvs_c rfl (lvs_c rfl (lvs_c rfl (lvs_c rfl (lvs_n)))))) ?_
        exact w_X10_waysOf_J45 cx h_c0 ih  l2 x28 x31 (0 : Int32) S32  h
      · rw [if_neg q34] at h
        refine wa_iconst cx dX10_waysOf_40 (1 : Int32) (by decide) ?_
        refine wa_goto cx dX10_waysOf_41 45 (by decide) ?_
        refine wa_sub (lv' := [(0, .ref (ad g c0)), (1, .int a1), (2, .long l2), (5, .long x28), (7, .int x31)]) (lvs_c rfl (lvs_c rfl (lvs_c rfl (lvs_c rfl (lvs_c rfl (lvs_n)))))) ?_
        exact w_X10_waysOf_J45 cx h_c0 ih  l2 x28 x31 (1 : Int32) S32  h
def f_X10_waysOf (c0 : Nat) (a1 : Int32) (S : St) : Option (Int64 × St) := bd (f_X10_beginWays c0 S) fun _ S35 => f_X10_waysOf_L9 FU c0 a1 (0 : Int64) (1 : Int32) S35
set_option maxHeartbeats 4000000 in
set_option maxRecDepth 100000 in
theorem m_X10_waysOf (l : Launch) {g : Gl} (hg : GOK g) {c0 : Nat} {a1 : Int32} {S : St} {r : Int64 × St} (h_c0 : kd g c0 = 10) (h : f_X10_waysOf c0 a1 S = some r) : MW l yX10_waysOf cX10_waysOf 10 (some .long) rm_X10_waysOf g S [.ref (ad g c0), .int a1] (QWl g r) := by
  refine startW [(0, .ref (ad g c0)), (1, .int a1)] (by decide +kernel) (Nat.le_of_ble_eq_true rfl) rfl hg (fun p e s m args below meth c cx => ?_)
  have cx : Cx p s m args meth c cX10_waysOf 10 (some .long) RX10 g (Ap g) := cx
  rw [f_X10_waysOf] at h
  refine wa_aload_n cx (i := 0) dX10_waysOf_0 rfl rfl ?_
  obtain ⟨u37, S35, e36, h⟩ := bd_some h
  refine wa_callVv cx (m_X10_beginWays l cx.2.2.2.2.2.2.1 h_c0 e36) vl_X10_218 h_c0 (by decide) rfl rfl ⟨_, cell_eq10 (kd_lt h_c0 (by decide)).2⟩ ⟨Nat.le_of_ble_eq_true rfl, Nat.le_of_ble_eq_true rfl⟩ ⟨rfl, rfl⟩ ⟨Nat.zero_le _, Nat.zero_le _⟩ rfl (Nat.le_of_ble_eq_true rfl) dX10_waysOf_1 rfl ?_
  refine wa_lconst cx dX10_waysOf_4 (0 : Int64) (by decide) ?_
  refine wa_lstore_n cx (i := 2) dX10_waysOf_5 [(0, .ref (ad g c0)), (1, .int a1), (2, .long (0 : Int64))] rfl (Nat.le_of_ble_eq_true rfl) rfl (lvs_c rfl (lvs_c rfl (lvs_c rfl (lvs_n)))) ?_
  refine wa_iconst cx dX10_waysOf_6 (1 : Int32) (by decide) ?_
  refine wa_istore cx dX10_waysOf_7 [(0, .ref (ad g c0)), (1, .int a1), (2, .long (0 : Int64)), (4, .int (1 : Int32))] (Nat.le_of_ble_eq_true rfl) rfl (lvs_c rfl (lvs_c rfl (lvs_c rfl (lvs_c rfl (lvs_n))))) ?_
  refine wa_sub (lv' := [(0, .ref (ad g c0)), (1, .int a1), (2, .long (0 : Int64)), (4, .int (1 : Int32))]) (lvs_c rfl (lvs_c rfl (lvs_c rfl (lvs_c rfl (lvs_n))))) ?_
  exact w_X10_waysOf_L9 cx h_c0  FU (0 : Int64) (1 : Int32) S35  h
def rm_X10_common : Room := { frames := 0, cells := 0, slots := 0, locals := 0 }
def f_X10_common_L6 : Nat → Int64 → Int64 → Int64 → Int64 → St → Option (Int64 × St)
  | 0, _, _, _, _, _ => none
  | n + 1, a0, a2, l4, l6, S => if l6 = (0 : Int64) then some (l4, S) else ck (¬ l6 = 0) (sq (l4 - l4 / l6 * l6) fun x3 => f_X10_common_L6 n a0 a2 l6 x3 S)
set_option maxHeartbeats 4000000 in
set_option maxRecDepth 100000 in
theorem w_X10_common_L6 {p : Program} {l : Launch} {e : Env} {s : State} {m : MethodId} {args : Array Value} {below : List Frame} {meth : Method} {c : Code} {g : Gl} {r : Int64 × St} {a0 : Int64} {a2 : Int64} (cx : Cx p s m args meth c cX10_common 10 (some .long) RX10 g (Ap g))  : ∀ n : Nat, ∀ (l4 : Int64) (l6 : Int64) (S : St), f_X10_common_L6 n a0 a2 l4 l6 S = some r → WA p l e rm_X10_common s m args below meth c 0 0 (MQ below (QWl g r) args s 0 0 (Ap g)) 10 g (Ap g) S 6 [(4, .long l4), (6, .long l6)] [] := by
  intro n
  induction n with
  | zero => intro l4 l6 S h; rw [f_X10_common_L6] at h; cases h
  | succ n ih =>
    intro l4 l6 S h
    rw [f_X10_common_L6] at h
    refine wa_lload cx dX10_common_6 rfl ?_
    refine wa_lconst cx dX10_common_8 (0 : Int64) (by decide) ?_
    refine wa_lcmp_eq cx dX10_common_9 dX10_common_10 31 (by decide) (fun q1 => ?_) (fun q1 => ?_)
    · rw [if_pos q1] at h
      refine wa_lload cx dX10_common_31 rfl ?_
      exact wa_lret cx h dX10_common_33
    · rw [if_neg q1] at h
      refine wa_lload cx dX10_common_13 rfl ?_
      refine wa_lload cx dX10_common_15 rfl ?_
      obtain ⟨b2, h⟩ := ck_some h
      refine wa_lrem cx dX10_common_17 b2 ?_
      replace h := sq_eq h
      generalize (l4 - l4 / l6 * l6) = x3 at h ⊢
      refine wa_lstore cx dX10_common_18 [(6, .long l6), (8, .long x3)] (Nat.le_of_ble_eq_true rfl) rfl (lvs_c rfl (lvs_c rfl (lvs_n))) ?_
      refine wa_lload cx dX10_common_20 rfl ?_
      refine wa_lstore cx dX10_common_22 [(4, .long l6), (8, .long x3)] (Nat.le_of_ble_eq_true rfl) rfl (lvs_c rfl (lvs_c rfl (lvs_n))) ?_
      refine wa_lload cx dX10_common_24 rfl ?_
      refine wa_lstore cx dX10_common_26 [(4, .long l6), (6, .long x3)] (Nat.le_of_ble_eq_true rfl) rfl (lvs_c rfl (lvs_c rfl (lvs_n))) ?_
      refine wa_goto cx dX10_common_28 6 (by decide) ?_
      refine wa_sub (lv' := [(4, .long l6), (6, .long x3)]) (lvs_c rfl (lvs_c rfl (lvs_n))) ?_
      exact ih l6 x3 S  h
def f_X10_common (a0 : Int64) (a2 : Int64) (S : St) : Option (Int64 × St) := f_X10_common_L6 FU a0 a2 a0 a2 S
set_option maxHeartbeats 4000000 in
set_option maxRecDepth 100000 in
theorem m_X10_common (l : Launch) {g : Gl} (hg : GOK g) {a0 : Int64} {a2 : Int64} {S : St} {r : Int64 × St}  (h : f_X10_common a0 a2 S = some r) : MW l yX10_common cX10_common 10 (some .long) rm_X10_common g S [.long a0, .long a2] (QWl g r) := by
  refine startW [(0, .long a0), (2, .long a2)] (by decide +kernel) (Nat.le_of_ble_eq_true rfl) rfl hg (fun p e s m args below meth c cx => ?_)
  have cx : Cx p s m args meth c cX10_common 10 (some .long) RX10 g (Ap g) := cx
  rw [f_X10_common] at h
  refine wa_lload_n cx (i := 0) dX10_common_0 rfl rfl ?_
  refine wa_lstore cx dX10_common_1 [(2, .long a2), (4, .long a0)] (Nat.le_of_ble_eq_true rfl) rfl (lvs_c rfl (lvs_c rfl (lvs_n))) ?_
  refine wa_lload_n cx (i := 2) dX10_common_3 rfl rfl ?_
  refine wa_lstore cx dX10_common_4 [(4, .long a0), (6, .long a2)] (Nat.le_of_ble_eq_true rfl) rfl (lvs_c rfl (lvs_c rfl (lvs_n))) ?_
  refine wa_sub (lv' := [(4, .long a0), (6, .long a2)]) (lvs_c rfl (lvs_c rfl (lvs_n))) ?_
  exact w_X10_common_L6 cx   FU a0 a2 S  h
def rm_X10_odds : Room := { frames := 5, cells := 0, slots := 0, locals := 126 }
def f_X10_odds (c0 : Nat) (a1 : Int32) (S : St) : Option (Int64 × St) := bd (f_X10_in (Int32.toInt64 a1) (0 : Int64) (2 : Int64) S) fun x1 S2 => if x1 = 0 then some ((-1 : Int64), S2) else bd (f_X10_plain c0 S2) fun _ S5 => bd (f_X10_waysOf c0 (0 : Int32) S5) fun x8 S9 => bd (f_X10_allWays c0 S9) fun x11 S12 => bd (f_X10_common x8 x11 S12) fun x14 S15 => if a1 = 0 then some (x8, S15) else if a1 = (1 : Int32) then ck (¬ x14 = 0) (some ((x8 / x14), S15)) else bd (f_X10_allWays c0 S15) fun x19 S20 => ck (¬ x14 = 0) (some ((x19 / x14), S20))
set_option maxHeartbeats 4000000 in
set_option maxRecDepth 100000 in
theorem m_X10_odds (l : Launch) {g : Gl} (hg : GOK g) {c0 : Nat} {a1 : Int32} {S : St} {r : Int64 × St} (h_c0 : kd g c0 = 10) (h : f_X10_odds c0 a1 S = some r) : MW l yX10_odds cX10_odds 6 (some .long) rm_X10_odds g S [.ref (ad g c0), .int a1] (QWl g r) := by
  refine startW [(0, .ref (ad g c0)), (1, .int a1)] (by decide +kernel) (Nat.le_of_ble_eq_true rfl) rfl hg (fun p e s m args below meth c cx => ?_)
  have cx : Cx p s m args meth c cX10_odds 6 (some .long) RX10 g (Ap g) := cx
  rw [f_X10_odds] at h
  refine wa_iload_n cx (i := 1) dX10_odds_0 rfl rfl ?_
  refine wa_i2l cx dX10_odds_1 ?_
  refine wa_lconst cx dX10_odds_2 (0 : Int64) (by decide) ?_
  refine wa_ldc2 cx dX10_odds_3 (2 : Int64) kc_X10_190 ?_
  obtain ⟨x1, S2, e3, h⟩ := bd_some h
  refine wa_callSi cx (m_X10_in l cx.2.2.2.2.2.2.1  e3) vl_X10_95 ⟨Nat.le_of_ble_eq_true rfl, Nat.le_of_ble_eq_true rfl⟩ ⟨rfl, rfl⟩ ⟨Nat.zero_le _, Nat.zero_le _⟩ rfl (Nat.le_of_ble_eq_true rfl) dX10_odds_6 rfl ?_
  refine wa_if_ne cx dX10_odds_9 16 (by decide) (fun q4 => ?_) (fun q4 => ?_)
  · rw [if_neg q4] at h
    refine wa_aload_n cx (i := 0) dX10_odds_16 rfl rfl ?_
    obtain ⟨u7, S5, e6, h⟩ := bd_some h
    refine wa_callVv cx (m_X10_plain l cx.2.2.2.2.2.2.1 h_c0 e6) vl_X10_151 h_c0 (by decide) rfl rfl ⟨_, cell_eq10 (kd_lt h_c0 (by decide)).2⟩ ⟨Nat.le_of_ble_eq_true rfl, Nat.le_of_ble_eq_true rfl⟩ ⟨rfl, rfl⟩ ⟨Nat.zero_le _, Nat.zero_le _⟩ rfl (Nat.le_of_ble_eq_true rfl) dX10_odds_17 rfl ?_
    refine wa_aload_n cx (i := 0) dX10_odds_20 rfl rfl ?_
    refine wa_iconst cx dX10_odds_21 (0 : Int32) (by decide) ?_
    obtain ⟨x8, S9, e10, h⟩ := bd_some h
    refine wa_callVl cx (m_X10_waysOf l cx.2.2.2.2.2.2.1 h_c0 e10) vl_X10_233 h_c0 (by decide) rfl rfl ⟨_, cell_eq10 (kd_lt h_c0 (by decide)).2⟩ ⟨Nat.le_of_ble_eq_true rfl, Nat.le_of_ble_eq_true rfl⟩ ⟨rfl, rfl⟩ ⟨Nat.zero_le _, Nat.zero_le _⟩ rfl (Nat.le_of_ble_eq_true rfl) dX10_odds_22 rfl ?_
    refine wa_lstore_n cx (i := 2) dX10_odds_25 [(0, .ref (ad g c0)), (1, .int a1), (2, .long x8)] rfl (Nat.le_of_ble_eq_true rfl) rfl (lvs_c rfl (lvs_c rfl (lvs_c rfl (lvs_n)))) ?_
    refine wa_lload_n cx (i := 2) dX10_odds_26 rfl rfl ?_
    refine wa_aload_n cx (i := 0) dX10_odds_27 rfl rfl ?_
    obtain ⟨x11, S12, e13, h⟩ := bd_some h
    refine wa_callVl cx (m_X10_allWays l cx.2.2.2.2.2.2.1 h_c0 e13) vl_X10_237 h_c0 (by decide) rfl rfl ⟨_, cell_eq10 (kd_lt h_c0 (by decide)).2⟩ ⟨Nat.le_of_ble_eq_true rfl, Nat.le_of_ble_eq_true rfl⟩ ⟨rfl, rfl⟩ ⟨Nat.zero_le _, Nat.zero_le _⟩ rfl (Nat.le_of_ble_eq_true rfl) dX10_odds_28 rfl ?_
    obtain ⟨x14, S15, e16, h⟩ := bd_some h
    refine wa_callSl cx (m_X10_common l cx.2.2.2.2.2.2.1  e16) vl_X10_240 ⟨Nat.le_of_ble_eq_true rfl, Nat.le_of_ble_eq_true rfl⟩ ⟨rfl, rfl⟩ ⟨Nat.zero_le _, Nat.zero_le _⟩ rfl (Nat.le_of_ble_eq_true rfl) dX10_odds_31 rfl ?_
    refine wa_lstore cx dX10_odds_34 [(0, .ref (ad g c0)), (1, .int a1), (2, .long x8), (4, .long x14)] (Nat.le_of_ble_eq_true rfl) rfl (lvs_c rfl (lvs_c rfl (lvs_c rfl (lvs_c rfl (lvs_n))))) ?_
    refine wa_iload_n cx (i := 1) dX10_odds_36 rfl rfl ?_
    refine wa_if_ne cx dX10_odds_37 44 (by decide) (fun q17 => ?_) (fun q17 => ?_)
    · rw [if_neg q17] at h
      refine wa_iload_n cx (i := 1) dX10_odds_44 rfl rfl ?_
      refine wa_iconst cx dX10_odds_45 (1 : Int32) (by decide) ?_
      refine wa_icmp_ne cx dX10_odds_46 56 (by decide) (fun q18 => ?_) (fun q18 => ?_)
      · rw [if_neg q18] at h
        refine wa_aload_n cx (i := 0) dX10_odds_56 rfl rfl ?_
        obtain ⟨x19, S20, e21, h⟩ := bd_some h
        refine wa_callVl cx (m_X10_allWays l cx.2.2.2.2.2.2.1 h_c0 e21) vl_X10_237 h_c0 (by decide) rfl rfl ⟨_, cell_eq10 (kd_lt h_c0 (by decide)).2⟩ ⟨Nat.le_of_ble_eq_true rfl, Nat.le_of_ble_eq_true rfl⟩ ⟨rfl, rfl⟩ ⟨Nat.zero_le _, Nat.zero_le _⟩ rfl (Nat.le_of_ble_eq_true rfl) dX10_odds_57 rfl ?_
        refine wa_lload cx dX10_odds_60 rfl ?_
        obtain ⟨b22, h⟩ := ck_some h
        refine wa_ldiv cx dX10_odds_62 b22 ?_
        exact wa_lret cx h dX10_odds_63
      · rw [if_pos q18] at h
        refine wa_lload_n cx (i := 2) dX10_odds_49 rfl rfl ?_
        refine wa_lload cx dX10_odds_50 rfl ?_
        obtain ⟨b23, h⟩ := ck_some h
        refine wa_ldiv cx dX10_odds_52 b23 ?_
        refine wa_goto cx dX10_odds_53 63 (by decide) ?_
        exact wa_lret cx h dX10_odds_63
    · rw [if_pos q17] at h
      refine wa_lload_n cx (i := 2) dX10_odds_40 rfl rfl ?_
      refine wa_goto cx dX10_odds_41 63 (by decide) ?_
      exact wa_lret cx h dX10_odds_63
  · rw [if_pos q4] at h
    refine wa_ldc2 cx dX10_odds_12 (-1 : Int64) kc_X10_231 ?_
    exact wa_lret cx h dX10_odds_15
def rm_X10_mean : Room := { frames := 4, cells := 0, slots := 0, locals := 97 }
def f_X10_mean_J81 (c0 : Nat) (a1 : Int32) (a2 : Int32) (kb49 : Int64 → Int32 → St → Option (Int64 × St)) (k0 : Int64) (k1 : Int64) (k2 : Int32) (S : St) : Option (Int64 × St) := sq (k0 + (k1 * (Int32.toInt64 k2))) fun x1 => bd (f_X10_nextWay c0 S) fun x2 S3 => kb49 x1 x2 S3
set_option maxHeartbeats 4000000 in
set_option maxRecDepth 100000 in
theorem w_X10_mean_J81 {p : Program} {l : Launch} {e : Env} {s : State} {m : MethodId} {args : Array Value} {below : List Frame} {meth : Method} {c : Code} {g : Gl} {r : Int64 × St} {c0 : Nat} {a1 : Int32} {a2 : Int32} {kb49 : Int64 → Int32 → St → Option (Int64 × St)} (cx : Cx p s m args meth c cX10_mean 8 (some .long) RX10 g (Ap g)) (h_c0 : kd g c0 = 10) (hkb49 : ∀ (l3 : Int64) (l5 : Int32) (S : St), kb49 l3 l5 S = some r → WA p l e rm_X10_mean s m args below meth c 0 0 (MQ below (QWl g r) args s 0 0 (Ap g)) 8 g (Ap g) S 49 [(0, .ref (ad g c0)), (1, .int a1), (2, .int a2), (3, .long l3), (5, .int l5)] []) : ∀ (k0 : Int64) (k1 : Int64) (k2 : Int32) (S : St), f_X10_mean_J81 c0 a1 a2 kb49 k0 k1 k2 S = some r → WA p l e rm_X10_mean s m args below meth c 0 0 (MQ below (QWl g r) args s 0 0 (Ap g)) 8 g (Ap g) S 81 [(0, .ref (ad g c0)), (1, .int a1), (2, .int a2)] [.int k2, .long k1, .long k0] := by
  intro k0 k1 k2 S h
  rw [f_X10_mean_J81] at h
  refine wa_i2l cx dX10_mean_81 ?_
  refine wa_lmul cx dX10_mean_82 ?_
  refine wa_ladd cx dX10_mean_83 ?_
  replace h := sq_eq h
  generalize (k0 + (k1 * (Int32.toInt64 k2))) = x1 at h ⊢
  refine wa_lstore_n cx (i := 3) dX10_mean_84 [(0, .ref (ad g c0)), (1, .int a1), (2, .int a2), (3, .long x1)] rfl (Nat.le_of_ble_eq_true rfl) rfl (lvs_c rfl (lvs_c rfl (lvs_c rfl (lvs_c rfl (lvs_n))))) ?_
  refine wa_aload_n cx (i := 0) dX10_mean_85 rfl rfl ?_
  obtain ⟨x2, S3, e4, h⟩ := bd_some h
  refine wa_callVi cx (m_X10_nextWay l cx.2.2.2.2.2.2.1 h_c0 e4) vl_X10_228 h_c0 (by decide) rfl rfl ⟨_, cell_eq10 (kd_lt h_c0 (by decide)).2⟩ ⟨Nat.le_of_ble_eq_true rfl, Nat.le_of_ble_eq_true rfl⟩ ⟨rfl, rfl⟩ ⟨Nat.zero_le _, Nat.zero_le _⟩ rfl (Nat.le_of_ble_eq_true rfl) dX10_mean_86 rfl ?_
  refine wa_istore cx dX10_mean_89 [(0, .ref (ad g c0)), (1, .int a1), (2, .int a2), (3, .long x1), (5, .int x2)] (Nat.le_of_ble_eq_true rfl) rfl (lvs_c rfl (lvs_c rfl (lvs_c rfl (lvs_c rfl (lvs_c rfl (lvs_n)))))) ?_
  refine wa_goto cx dX10_mean_91 49 (by decide) ?_
  refine wa_sub (lv' := [(0, .ref (ad g c0)), (1, .int a1), (2, .int a2), (3, .long x1), (5, .int x2)]) (lvs_c rfl (lvs_c rfl (lvs_c rfl (lvs_c rfl (lvs_c rfl (lvs_n)))))) ?_
  exact hkb49 x1 x2 S3  h
def f_X10_mean_L49 : Nat → Nat → Int32 → Int32 → Int64 → Int32 → St → Option (Int64 × St)
  | 0, _, _, _, _, _, _ => none
  | n + 1, c0, a1, a2, l3, l5, S => if l5 = 0 then some (l3, S) else bd (f_X10_takeWay c0 S) fun x6 S7 => if a2 = 0 then ob a1 8 (f_X10_mean_J81 c0 a1 a2 (fun l3 l5 S => f_X10_mean_L49 n c0 a1 a2 l3 l5 S) l3 x6 (S7.1 (c0 + 20) (Int32.toNatClampNeg a1)) S7) else bd (f_X10_hasOf c0 a1 S7) fun x10 S11 => f_X10_mean_J81 c0 a1 a2 (fun l3 l5 S => f_X10_mean_L49 n c0 a1 a2 l3 l5 S) l3 x6 x10 S11
set_option maxHeartbeats 4000000 in
set_option maxRecDepth 100000 in
theorem w_X10_mean_L49 {p : Program} {l : Launch} {e : Env} {s : State} {m : MethodId} {args : Array Value} {below : List Frame} {meth : Method} {c : Code} {g : Gl} {r : Int64 × St} {c0 : Nat} {a1 : Int32} {a2 : Int32} (cx : Cx p s m args meth c cX10_mean 8 (some .long) RX10 g (Ap g)) (h_c0 : kd g c0 = 10) : ∀ n : Nat, ∀ (l3 : Int64) (l5 : Int32) (S : St), f_X10_mean_L49 n c0 a1 a2 l3 l5 S = some r → WA p l e rm_X10_mean s m args below meth c 0 0 (MQ below (QWl g r) args s 0 0 (Ap g)) 8 g (Ap g) S 49 [(0, .ref (ad g c0)), (1, .int a1), (2, .int a2), (3, .long l3), (5, .int l5)] [] := by
  intro n
  induction n with
  | zero => intro l3 l5 S h; rw [f_X10_mean_L49] at h; cases h
  | succ n ih =>
    intro l3 l5 S h
    rw [f_X10_mean_L49] at h
    refine wa_iload cx dX10_mean_49 rfl ?_
    refine wa_if_eq cx dX10_mean_51 94 (by decide) (fun q5 => ?_) (fun q5 => ?_)
    · rw [if_pos q5] at h
      refine wa_lload_n cx (i := 3) dX10_mean_94 rfl rfl ?_
      exact wa_lret cx h dX10_mean_95
    · rw [if_neg q5] at h
      refine wa_aload_n cx (i := 0) dX10_mean_54 rfl rfl ?_
      obtain ⟨x6, S7, e8, h⟩ := bd_some h
      refine wa_callVl cx (m_X10_takeWay l cx.2.2.2.2.2.2.1 h_c0 e8) vl_X10_221 h_c0 (by decide) rfl rfl ⟨_, cell_eq10 (kd_lt h_c0 (by decide)).2⟩ ⟨Nat.le_of_ble_eq_true rfl, Nat.le_of_ble_eq_true rfl⟩ ⟨rfl, rfl⟩ ⟨Nat.zero_le _, Nat.zero_le _⟩ rfl (Nat.le_of_ble_eq_true rfl) dX10_mean_55 rfl ?_
      refine wa_lstore cx dX10_mean_58 [(0, .ref (ad g c0)), (1, .int a1), (2, .int a2), (3, .long l3), (6, .long x6)] (Nat.le_of_ble_eq_true rfl) rfl (lvs_c rfl (lvs_c rfl (lvs_c rfl (lvs_c rfl (lvs_c rfl (lvs_n)))))) ?_
      refine wa_lload_n cx (i := 3) dX10_mean_60 rfl rfl ?_
      refine wa_lload cx dX10_mean_61 rfl ?_
      refine wa_iload_n cx (i := 2) dX10_mean_63 rfl rfl ?_
      refine wa_if_ne cx dX10_mean_64 76 (by decide) (fun q9 => ?_) (fun q9 => ?_)
      · rw [if_neg q9] at h
        refine wa_aload_n cx (i := 0) dX10_mean_76 rfl rfl ?_
        refine wa_iload_n cx (i := 1) dX10_mean_77 rfl rfl ?_
        obtain ⟨x10, S11, e12, h⟩ := bd_some h
        refine wa_callVi cx (m_X10_hasOf l cx.2.2.2.2.2.2.1 h_c0 e12) vl_X10_248 h_c0 (by decide) rfl rfl ⟨_, cell_eq10 (kd_lt h_c0 (by decide)).2⟩ ⟨Nat.le_of_ble_eq_true rfl, Nat.le_of_ble_eq_true rfl⟩ ⟨rfl, rfl⟩ ⟨Nat.zero_le _, Nat.zero_le _⟩ rfl (Nat.le_of_ble_eq_true rfl) dX10_mean_78 rfl ?_
        refine wa_sub (lv' := [(0, .ref (ad g c0)), (1, .int a1), (2, .int a2)]) (lvs_c rfl (lvs_c rfl (lvs_c rfl (lvs_n)))) ?_
        exact w_X10_mean_J81 cx h_c0 ih  l3 x6 x10 S11  h
      · rw [if_pos q9] at h
        refine wa_aload_n cx (i := 0) dX10_mean_67 rfl rfl ?_
        refine gf_X10_67 cx h_c0 dX10_mean_68 ?_
        refine wa_iload_n cx (i := 1) dX10_mean_71 rfl rfl ?_
        obtain ⟨b13, h⟩ := ob_some h
        refine wa_iald cx dX10_mean_72 (kq10_30 cx.2.2.2.2.2.2.1 h_c0) b13 ?_
        refine wa_goto cx dX10_mean_73 81 (by decide) ?_
        refine wa_sub (lv' := [(0, .ref (ad g c0)), (1, .int a1), (2, .int a2)]) (lvs_c rfl (lvs_c rfl (lvs_c rfl (lvs_n)))) ?_
        exact w_X10_mean_J81 cx h_c0 ih  l3 x6 (S7.1 (c0 + 20) (Int32.toNatClampNeg a1)) S7  h
def f_X10_mean (c0 : Nat) (a1 : Int32) (a2 : Int32) (S : St) : Option (Int64 × St) := bd (f_X10_isGiver c0 a1 S) fun x14 S15 => if x14 = 0 then some ((-9223372036854775808 : Int64), S15) else bd (f_X10_in (Int32.toInt64 a2) (0 : Int64) (1 : Int64) S15) fun x18 S19 => if x18 = 0 then some ((-9223372036854775808 : Int64), S19) else bd (f_X10_plain c0 S19) fun _ S22 => bd (f_X10_beginWays c0 S22) fun _ S25 => bd (f_X10_placeOf c0 a1 S25) fun x28 S29 => if x28 = (-4 : Int32) then some ((-4 : Int64), S29) else f_X10_mean_L49 FU c0 a1 a2 (0 : Int64) (1 : Int32) S29
set_option maxHeartbeats 4000000 in
set_option maxRecDepth 100000 in
theorem m_X10_mean (l : Launch) {g : Gl} (hg : GOK g) {c0 : Nat} {a1 : Int32} {a2 : Int32} {S : St} {r : Int64 × St} (h_c0 : kd g c0 = 10) (h : f_X10_mean c0 a1 a2 S = some r) : MW l yX10_mean cX10_mean 8 (some .long) rm_X10_mean g S [.ref (ad g c0), .int a1, .int a2] (QWl g r) := by
  refine startW [(0, .ref (ad g c0)), (1, .int a1), (2, .int a2)] (by decide +kernel) (Nat.le_of_ble_eq_true rfl) rfl hg (fun p e s m args below meth c cx => ?_)
  have cx : Cx p s m args meth c cX10_mean 8 (some .long) RX10 g (Ap g) := cx
  rw [f_X10_mean] at h
  refine wa_aload_n cx (i := 0) dX10_mean_0 rfl rfl ?_
  refine wa_iload_n cx (i := 1) dX10_mean_1 rfl rfl ?_
  obtain ⟨x14, S15, e16, h⟩ := bd_some h
  refine wa_callVi cx (m_X10_isGiver l cx.2.2.2.2.2.2.1 h_c0 e16) vl_X10_181 h_c0 (by decide) rfl rfl ⟨_, cell_eq10 (kd_lt h_c0 (by decide)).2⟩ ⟨Nat.le_of_ble_eq_true rfl, Nat.le_of_ble_eq_true rfl⟩ ⟨rfl, rfl⟩ ⟨Nat.zero_le _, Nat.zero_le _⟩ rfl (Nat.le_of_ble_eq_true rfl) dX10_mean_2 rfl ?_
  refine wa_if_eq cx dX10_mean_5 18 (by decide) (fun q17 => ?_) (fun q17 => ?_)
  · rw [if_pos q17] at h
    refine wa_ldc2 cx dX10_mean_18 (-9223372036854775808 : Int64) kc_X10_244 ?_
    exact wa_lret cx h dX10_mean_21
  · rw [if_neg q17] at h
    refine wa_iload_n cx (i := 2) dX10_mean_8 rfl rfl ?_
    refine wa_i2l cx dX10_mean_9 ?_
    refine wa_lconst cx dX10_mean_10 (0 : Int64) (by decide) ?_
    refine wa_lconst cx dX10_mean_11 (1 : Int64) (by decide) ?_
    obtain ⟨x18, S19, e20, h⟩ := bd_some h
    refine wa_callSi cx (m_X10_in l cx.2.2.2.2.2.2.1  e20) vl_X10_95 ⟨Nat.le_of_ble_eq_true rfl, Nat.le_of_ble_eq_true rfl⟩ ⟨rfl, rfl⟩ ⟨Nat.zero_le _, Nat.zero_le _⟩ rfl (Nat.le_of_ble_eq_true rfl) dX10_mean_12 rfl ?_
    refine wa_if_ne cx dX10_mean_15 22 (by decide) (fun q21 => ?_) (fun q21 => ?_)
    · rw [if_neg q21] at h
      refine wa_aload_n cx (i := 0) dX10_mean_22 rfl rfl ?_
      obtain ⟨u24, S22, e23, h⟩ := bd_some h
      refine wa_callVv cx (m_X10_plain l cx.2.2.2.2.2.2.1 h_c0 e23) vl_X10_151 h_c0 (by decide) rfl rfl ⟨_, cell_eq10 (kd_lt h_c0 (by decide)).2⟩ ⟨Nat.le_of_ble_eq_true rfl, Nat.le_of_ble_eq_true rfl⟩ ⟨rfl, rfl⟩ ⟨Nat.zero_le _, Nat.zero_le _⟩ rfl (Nat.le_of_ble_eq_true rfl) dX10_mean_23 rfl ?_
      refine wa_aload_n cx (i := 0) dX10_mean_26 rfl rfl ?_
      obtain ⟨u27, S25, e26, h⟩ := bd_some h
      refine wa_callVv cx (m_X10_beginWays l cx.2.2.2.2.2.2.1 h_c0 e26) vl_X10_218 h_c0 (by decide) rfl rfl ⟨_, cell_eq10 (kd_lt h_c0 (by decide)).2⟩ ⟨Nat.le_of_ble_eq_true rfl, Nat.le_of_ble_eq_true rfl⟩ ⟨rfl, rfl⟩ ⟨Nat.zero_le _, Nat.zero_le _⟩ rfl (Nat.le_of_ble_eq_true rfl) dX10_mean_27 rfl ?_
      refine wa_aload_n cx (i := 0) dX10_mean_30 rfl rfl ?_
      refine wa_iload_n cx (i := 1) dX10_mean_31 rfl rfl ?_
      obtain ⟨x28, S29, e30, h⟩ := bd_some h
      refine wa_callVi cx (m_X10_placeOf l cx.2.2.2.2.2.2.1 h_c0 e30) vl_X10_187 h_c0 (by decide) rfl rfl ⟨_, cell_eq10 (kd_lt h_c0 (by decide)).2⟩ ⟨Nat.le_of_ble_eq_true rfl, Nat.le_of_ble_eq_true rfl⟩ ⟨rfl, rfl⟩ ⟨Nat.zero_le _, Nat.zero_le _⟩ rfl (Nat.le_of_ble_eq_true rfl) dX10_mean_32 rfl ?_
      refine wa_bipush cx dX10_mean_35 (-4 : Int32) (by decide) ?_
      refine wa_icmp_ne cx dX10_mean_37 44 (by decide) (fun q31 => ?_) (fun q31 => ?_)
      · rw [if_neg q31] at h
        refine wa_lconst cx dX10_mean_44 (0 : Int64) (by decide) ?_
        refine wa_lstore_n cx (i := 3) dX10_mean_45 [(0, .ref (ad g c0)), (1, .int a1), (2, .int a2), (3, .long (0 : Int64))] rfl (Nat.le_of_ble_eq_true rfl) rfl (lvs_c rfl (lvs_c rfl (lvs_c rfl (lvs_c rfl (lvs_n))))) ?_
        refine wa_iconst cx dX10_mean_46 (1 : Int32) (by decide) ?_
        refine wa_istore cx dX10_mean_47 [(0, .ref (ad g c0)), (1, .int a1), (2, .int a2), (3, .long (0 : Int64)), (5, .int (1 : Int32))] (Nat.le_of_ble_eq_true rfl) rfl (lvs_c rfl (lvs_c rfl (lvs_c rfl (lvs_c rfl (lvs_c rfl (lvs_n)))))) ?_
        refine wa_sub (lv' := [(0, .ref (ad g c0)), (1, .int a1), (2, .int a2), (3, .long (0 : Int64)), (5, .int (1 : Int32))]) (lvs_c rfl (lvs_c rfl (lvs_c rfl (lvs_c rfl (lvs_c rfl (lvs_n)))))) ?_
        exact w_X10_mean_L49 cx h_c0  FU (0 : Int64) (1 : Int32) S29  h
      · rw [if_pos q31] at h
        refine wa_ldc2 cx dX10_mean_40 (-4 : Int64) kc_X10_246 ?_
        exact wa_lret cx h dX10_mean_43
    · rw [if_pos q21] at h
      refine wa_ldc2 cx dX10_mean_18 (-9223372036854775808 : Int64) kc_X10_244 ?_
      exact wa_lret cx h dX10_mean_21
def rm_X10_wrong : Room := { frames := 5, cells := 0, slots := 0, locals := 126 }
def f_X10_wrong (c0 : Nat) (a1 : Int32) (S : St) : Option (Int64 × St) := bd (f_X10_in (Int32.toInt64 a1) (0 : Int64) (1 : Int64) S) fun x1 S2 => if x1 = 0 then some ((-1 : Int64), S2) else bd (f_X10_plain c0 S2) fun _ S5 => bd (f_X10_waysOf c0 (a1 + (1 : Int32)) S5) fun x8 S9 => some (x8, S9)
set_option maxHeartbeats 4000000 in
set_option maxRecDepth 100000 in
theorem m_X10_wrong (l : Launch) {g : Gl} (hg : GOK g) {c0 : Nat} {a1 : Int32} {S : St} {r : Int64 × St} (h_c0 : kd g c0 = 10) (h : f_X10_wrong c0 a1 S = some r) : MW l yX10_wrong cX10_wrong 2 (some .long) rm_X10_wrong g S [.ref (ad g c0), .int a1] (QWl g r) := by
  refine startW [(0, .ref (ad g c0)), (1, .int a1)] (by decide +kernel) (Nat.le_of_ble_eq_true rfl) rfl hg (fun p e s m args below meth c cx => ?_)
  have cx : Cx p s m args meth c cX10_wrong 2 (some .long) RX10 g (Ap g) := cx
  rw [f_X10_wrong] at h
  refine wa_iload_n cx (i := 1) dX10_wrong_0 rfl rfl ?_
  refine wa_i2l cx dX10_wrong_1 ?_
  refine wa_lconst cx dX10_wrong_2 (0 : Int64) (by decide) ?_
  refine wa_lconst cx dX10_wrong_3 (1 : Int64) (by decide) ?_
  obtain ⟨x1, S2, e3, h⟩ := bd_some h
  refine wa_callSi cx (m_X10_in l cx.2.2.2.2.2.2.1  e3) vl_X10_95 ⟨Nat.le_of_ble_eq_true rfl, Nat.le_of_ble_eq_true rfl⟩ ⟨rfl, rfl⟩ ⟨Nat.zero_le _, Nat.zero_le _⟩ rfl (Nat.le_of_ble_eq_true rfl) dX10_wrong_4 rfl ?_
  refine wa_if_ne cx dX10_wrong_7 14 (by decide) (fun q4 => ?_) (fun q4 => ?_)
  · rw [if_neg q4] at h
    refine wa_aload_n cx (i := 0) dX10_wrong_14 rfl rfl ?_
    obtain ⟨u7, S5, e6, h⟩ := bd_some h
    refine wa_callVv cx (m_X10_plain l cx.2.2.2.2.2.2.1 h_c0 e6) vl_X10_151 h_c0 (by decide) rfl rfl ⟨_, cell_eq10 (kd_lt h_c0 (by decide)).2⟩ ⟨Nat.le_of_ble_eq_true rfl, Nat.le_of_ble_eq_true rfl⟩ ⟨rfl, rfl⟩ ⟨Nat.zero_le _, Nat.zero_le _⟩ rfl (Nat.le_of_ble_eq_true rfl) dX10_wrong_15 rfl ?_
    refine wa_aload_n cx (i := 0) dX10_wrong_18 rfl rfl ?_
    refine wa_iload_n cx (i := 1) dX10_wrong_19 rfl rfl ?_
    refine wa_iconst cx dX10_wrong_20 (1 : Int32) (by decide) ?_
    refine wa_iadd cx dX10_wrong_21 ?_
    obtain ⟨x8, S9, e10, h⟩ := bd_some h
    refine wa_callVl cx (m_X10_waysOf l cx.2.2.2.2.2.2.1 h_c0 e10) vl_X10_233 h_c0 (by decide) rfl rfl ⟨_, cell_eq10 (kd_lt h_c0 (by decide)).2⟩ ⟨Nat.le_of_ble_eq_true rfl, Nat.le_of_ble_eq_true rfl⟩ ⟨rfl, rfl⟩ ⟨Nat.zero_le _, Nat.zero_le _⟩ rfl (Nat.le_of_ble_eq_true rfl) dX10_wrong_22 rfl ?_
    exact wa_lret cx h dX10_wrong_25
  · rw [if_pos q4] at h
    refine wa_ldc2 cx dX10_wrong_10 (-1 : Int64) kc_X10_231 ?_
    exact wa_lret cx h dX10_wrong_13
def rm_X10_row : Room := { frames := 2, cells := 0, slots := 0, locals := 46 }
def f_X10_row (c0 : Nat) (a1 : Int32) (a2 : Int32) (S : St) : Option (Int32 × St) := bd (f_X10_isGiver c0 a1 S) fun x1 S2 => if x1 = 0 then some ((-1 : Int32), S2) else bd (f_X10_in (Int32.toInt64 a2) (0 : Int64) (30 : Int64) S2) fun x5 S6 => if x5 = 0 then some ((-1 : Int32), S6) else ob a1 24 (sq (S6.1 (c0 + 16) (Int32.toNatClampNeg a1)) fun x10 => ob a1 24 (sq (pI S6 (c0 + 16) (Int32.toNatClampNeg a1) a2) fun S12 => some (x10, S12)))
set_option maxHeartbeats 4000000 in
set_option maxRecDepth 100000 in
theorem m_X10_row (l : Launch) {g : Gl} (hg : GOK g) {c0 : Nat} {a1 : Int32} {a2 : Int32} {S : St} {r : Int32 × St} (h_c0 : kd g c0 = 10) (h : f_X10_row c0 a1 a2 S = some r) : MW l yX10_row cX10_row 4 (some .int) rm_X10_row g S [.ref (ad g c0), .int a1, .int a2] (QWi g r) := by
  refine startW [(0, .ref (ad g c0)), (1, .int a1), (2, .int a2)] (by decide +kernel) (Nat.le_of_ble_eq_true rfl) rfl hg (fun p e s m args below meth c cx => ?_)
  have cx : Cx p s m args meth c cX10_row 4 (some .int) RX10 g (Ap g) := cx
  rw [f_X10_row] at h
  refine wa_aload_n cx (i := 0) dX10_row_0 rfl rfl ?_
  refine wa_iload_n cx (i := 1) dX10_row_1 rfl rfl ?_
  obtain ⟨x1, S2, e3, h⟩ := bd_some h
  refine wa_callVi cx (m_X10_isGiver l cx.2.2.2.2.2.2.1 h_c0 e3) vl_X10_181 h_c0 (by decide) rfl rfl ⟨_, cell_eq10 (kd_lt h_c0 (by decide)).2⟩ ⟨Nat.le_of_ble_eq_true rfl, Nat.le_of_ble_eq_true rfl⟩ ⟨rfl, rfl⟩ ⟨Nat.zero_le _, Nat.zero_le _⟩ rfl (Nat.le_of_ble_eq_true rfl) dX10_row_2 rfl ?_
  refine wa_if_eq cx dX10_row_5 20 (by decide) (fun q4 => ?_) (fun q4 => ?_)
  · rw [if_pos q4] at h
    refine wa_iconst cx dX10_row_20 (-1 : Int32) (by decide) ?_
    exact wa_iret cx h dX10_row_21
  · rw [if_neg q4] at h
    refine wa_iload_n cx (i := 2) dX10_row_8 rfl rfl ?_
    refine wa_i2l cx dX10_row_9 ?_
    refine wa_lconst cx dX10_row_10 (0 : Int64) (by decide) ?_
    refine wa_ldc2 cx dX10_row_11 (30 : Int64) kc_X10_251 ?_
    obtain ⟨x5, S6, e7, h⟩ := bd_some h
    refine wa_callSi cx (m_X10_in l cx.2.2.2.2.2.2.1  e7) vl_X10_95 ⟨Nat.le_of_ble_eq_true rfl, Nat.le_of_ble_eq_true rfl⟩ ⟨rfl, rfl⟩ ⟨Nat.zero_le _, Nat.zero_le _⟩ rfl (Nat.le_of_ble_eq_true rfl) dX10_row_14 rfl ?_
    refine wa_if_ne cx dX10_row_17 22 (by decide) (fun q8 => ?_) (fun q8 => ?_)
    · rw [if_neg q8] at h
      refine wa_aload_n cx (i := 0) dX10_row_22 rfl rfl ?_
      refine gf_X10_55 cx h_c0 dX10_row_23 ?_
      refine wa_iload_n cx (i := 1) dX10_row_26 rfl rfl ?_
      obtain ⟨b9, h⟩ := ob_some h
      refine wa_iald cx dX10_row_27 (kq10_17 cx.2.2.2.2.2.2.1 h_c0) b9 ?_
      replace h := sq_eq h
      generalize (S6.1 (c0 + 16) (Int32.toNatClampNeg a1)) = x10 at h ⊢
      refine wa_istore_n cx (i := 3) dX10_row_28 [(0, .ref (ad g c0)), (1, .int a1), (2, .int a2), (3, .int x10)] rfl (Nat.le_of_ble_eq_true rfl) rfl (lvs_c rfl (lvs_c rfl (lvs_c rfl (lvs_c rfl (lvs_n))))) ?_
      refine wa_aload_n cx (i := 0) dX10_row_29 rfl rfl ?_
      refine gf_X10_55 cx h_c0 dX10_row_30 ?_
      refine wa_iload_n cx (i := 1) dX10_row_33 rfl rfl ?_
      refine wa_iload_n cx (i := 2) dX10_row_34 rfl rfl ?_
      obtain ⟨b11, h⟩ := ob_some h
      refine wa_iast cx dX10_row_35 (kq10_17 cx.2.2.2.2.2.2.1 h_c0) b11 ?_
      replace h := sq_eq h
      generalize (pI S6 (c0 + 16) (Int32.toNatClampNeg a1) a2) = S12 at h ⊢
      refine wa_iload_n cx (i := 3) dX10_row_36 rfl rfl ?_
      exact wa_iret cx h dX10_row_37
    · rw [if_pos q8] at h
      refine wa_iconst cx dX10_row_20 (-1 : Int32) (by decide) ?_
      exact wa_iret cx h dX10_row_21
def rm_X10_most : Room := { frames := 0, cells := 0, slots := 0, locals := 0 }
def f_X10_most_L12 : Nat → Nat → Int32 → Int32 → Int32 → Int32 → St → Option (Int32 × St)
  | 0, _, _, _, _, _, _ => none
  | n + 1, c0, a1, l2, l3, l4, S => ob l2 12 (if (S.1 (c0 + 10) (Int32.toNatClampNeg l2)) ≤ l4 then some (l3, S) else ob (((3 : Int32) * l2) + l4) 36 (if (S.1 (c0 + 11) (Int32.toNatClampNeg (((3 : Int32) * l2) + l4))) ≤ l3 then f_X10_most_L12 n c0 a1 l2 l3 (l4 + (1 : Int32)) S else ob (((3 : Int32) * l2) + l4) 36 (sq (S.1 (c0 + 11) (Int32.toNatClampNeg (((3 : Int32) * l2) + l4))) fun x6 => f_X10_most_L12 n c0 a1 l2 x6 (l4 + (1 : Int32)) S)))
set_option maxHeartbeats 4000000 in
set_option maxRecDepth 100000 in
theorem w_X10_most_L12 {p : Program} {l : Launch} {e : Env} {s : State} {m : MethodId} {args : Array Value} {below : List Frame} {meth : Method} {c : Code} {g : Gl} {r : Int32 × St} {c0 : Nat} {a1 : Int32} (cx : Cx p s m args meth c cX10_most 5 (some .int) RX10 g (Ap g)) (h_c0 : kd g c0 = 10) : ∀ n : Nat, ∀ (l2 : Int32) (l3 : Int32) (l4 : Int32) (S : St), f_X10_most_L12 n c0 a1 l2 l3 l4 S = some r → WA p l e rm_X10_most s m args below meth c 0 0 (MQ below (QWi g r) args s 0 0 (Ap g)) 5 g (Ap g) S 12 [(0, .ref (ad g c0)), (2, .int l2), (3, .int l3), (4, .int l4)] [] := by
  intro n
  induction n with
  | zero => intro l2 l3 l4 S h; rw [f_X10_most_L12] at h; cases h
  | succ n ih =>
    intro l2 l3 l4 S h
    rw [f_X10_most_L12] at h
    refine wa_iload cx dX10_most_12 rfl ?_
    refine wa_aload_n cx (i := 0) dX10_most_14 rfl rfl ?_
    refine gf_X10_37 cx h_c0 dX10_most_15 ?_
    refine wa_iload_n cx (i := 2) dX10_most_18 rfl rfl ?_
    obtain ⟨b1, h⟩ := ob_some h
    refine wa_iald cx dX10_most_19 (kq10_10 cx.2.2.2.2.2.2.1 h_c0) b1 ?_
    refine wa_icmp_ge cx dX10_most_20 60 (by decide) (fun q2 => ?_) (fun q2 => ?_)
    · rw [if_pos q2] at h
      refine wa_iload_n cx (i := 3) dX10_most_60 rfl rfl ?_
      exact wa_iret cx h dX10_most_61
    · rw [if_neg q2] at h
      refine wa_aload_n cx (i := 0) dX10_most_23 rfl rfl ?_
      refine gf_X10_40 cx h_c0 dX10_most_24 ?_
      refine wa_iconst cx dX10_most_27 (3 : Int32) (by decide) ?_
      refine wa_iload_n cx (i := 2) dX10_most_28 rfl rfl ?_
      refine wa_imul cx dX10_most_29 ?_
      refine wa_iload cx dX10_most_30 rfl ?_
      refine wa_iadd cx dX10_most_32 ?_
      obtain ⟨b3, h⟩ := ob_some h
      refine wa_iald cx dX10_most_33 (kq10_11 cx.2.2.2.2.2.2.1 h_c0) b3 ?_
      refine wa_iload_n cx (i := 3) dX10_most_34 rfl rfl ?_
      refine wa_icmp_le cx dX10_most_35 52 (by decide) (fun q4 => ?_) (fun q4 => ?_)
      · rw [if_pos q4] at h
        refine wa_iload_n cx (i := 3) dX10_most_52 rfl rfl ?_
        refine wa_istore_n cx (i := 3) dX10_most_53 [(0, .ref (ad g c0)), (2, .int l2), (3, .int l3), (4, .int l4)] rfl (Nat.le_of_ble_eq_true rfl) rfl (lvs_c rfl (lvs_c rfl (lvs_c rfl (lvs_c rfl (lvs_n))))) ?_
        refine wa_iinc cx dX10_most_54 (l4 + (1 : Int32)) [(0, .ref (ad g c0)), (2, .int l2), (3, .int l3), (4, .int (l4 + (1 : Int32)))] rfl rfl (Nat.le_of_ble_eq_true rfl) rfl (lvs_c rfl (lvs_c rfl (lvs_c rfl (lvs_c rfl (lvs_n))))) ?_
        refine wa_goto cx dX10_most_57 12 (by decide) ?_
        refine wa_sub (lv' := [(0, .ref (ad g c0)), (2, .int l2), (3, .int l3), (4, .int (l4 + (1 : Int32)))]) (lvs_c rfl (lvs_c rfl (lvs_c rfl (lvs_c rfl (lvs_n))))) ?_
        exact ih l2 l3 (l4 + (1 : Int32)) S  h
      · rw [if_neg q4] at h
        refine wa_aload_n cx (i := 0) dX10_most_38 rfl rfl ?_
        refine gf_X10_40 cx h_c0 dX10_most_39 ?_
        refine wa_iconst cx dX10_most_42 (3 : Int32) (by decide) ?_
        refine wa_iload_n cx (i := 2) dX10_most_43 rfl rfl ?_
        refine wa_imul cx dX10_most_44 ?_
        refine wa_iload cx dX10_most_45 rfl ?_
        refine wa_iadd cx dX10_most_47 ?_
        obtain ⟨b5, h⟩ := ob_some h
        refine wa_iald cx dX10_most_48 (kq10_11 cx.2.2.2.2.2.2.1 h_c0) b5 ?_
        refine wa_goto cx dX10_most_49 53 (by decide) ?_
        replace h := sq_eq h
        generalize (S.1 (c0 + 11) (Int32.toNatClampNeg (((3 : Int32) * l2) + l4))) = x6 at h ⊢
        refine wa_istore_n cx (i := 3) dX10_most_53 [(0, .ref (ad g c0)), (2, .int l2), (3, .int x6), (4, .int l4)] rfl (Nat.le_of_ble_eq_true rfl) rfl (lvs_c rfl (lvs_c rfl (lvs_c rfl (lvs_c rfl (lvs_n))))) ?_
        refine wa_iinc cx dX10_most_54 (l4 + (1 : Int32)) [(0, .ref (ad g c0)), (2, .int l2), (3, .int x6), (4, .int (l4 + (1 : Int32)))] rfl rfl (Nat.le_of_ble_eq_true rfl) rfl (lvs_c rfl (lvs_c rfl (lvs_c rfl (lvs_c rfl (lvs_n))))) ?_
        refine wa_goto cx dX10_most_57 12 (by decide) ?_
        refine wa_sub (lv' := [(0, .ref (ad g c0)), (2, .int l2), (3, .int x6), (4, .int (l4 + (1 : Int32)))]) (lvs_c rfl (lvs_c rfl (lvs_c rfl (lvs_c rfl (lvs_n))))) ?_
        exact ih l2 x6 (l4 + (1 : Int32)) S  h
def f_X10_most (c0 : Nat) (a1 : Int32) (S : St) : Option (Int32 × St) := ob a1 8 (sq (S.1 (c0 + 13) (Int32.toNatClampNeg a1)) fun x8 => f_X10_most_L12 FU c0 a1 x8 (0 : Int32) (0 : Int32) S)
set_option maxHeartbeats 4000000 in
set_option maxRecDepth 100000 in
theorem m_X10_most (l : Launch) {g : Gl} (hg : GOK g) {c0 : Nat} {a1 : Int32} {S : St} {r : Int32 × St} (h_c0 : kd g c0 = 10) (h : f_X10_most c0 a1 S = some r) : MW l yX10_most cX10_most 5 (some .int) rm_X10_most g S [.ref (ad g c0), .int a1] (QWi g r) := by
  refine startW [(0, .ref (ad g c0)), (1, .int a1)] (by decide +kernel) (Nat.le_of_ble_eq_true rfl) rfl hg (fun p e s m args below meth c cx => ?_)
  have cx : Cx p s m args meth c cX10_most 5 (some .int) RX10 g (Ap g) := cx
  rw [f_X10_most] at h
  refine wa_aload_n cx (i := 0) dX10_most_0 rfl rfl ?_
  refine gf_X10_46 cx h_c0 dX10_most_1 ?_
  refine wa_iload_n cx (i := 1) dX10_most_4 rfl rfl ?_
  obtain ⟨b7, h⟩ := ob_some h
  refine wa_iald cx dX10_most_5 (kq10_14 cx.2.2.2.2.2.2.1 h_c0) b7 ?_
  replace h := sq_eq h
  generalize (S.1 (c0 + 13) (Int32.toNatClampNeg a1)) = x8 at h ⊢
  refine wa_istore_n cx (i := 2) dX10_most_6 [(0, .ref (ad g c0)), (2, .int x8)] rfl (Nat.le_of_ble_eq_true rfl) rfl (lvs_c rfl (lvs_c rfl (lvs_n))) ?_
  refine wa_iconst cx dX10_most_7 (0 : Int32) (by decide) ?_
  refine wa_istore_n cx (i := 3) dX10_most_8 [(0, .ref (ad g c0)), (2, .int x8), (3, .int (0 : Int32))] rfl (Nat.le_of_ble_eq_true rfl) rfl (lvs_c rfl (lvs_c rfl (lvs_c rfl (lvs_n)))) ?_
  refine wa_iconst cx dX10_most_9 (0 : Int32) (by decide) ?_
  refine wa_istore cx dX10_most_10 [(0, .ref (ad g c0)), (2, .int x8), (3, .int (0 : Int32)), (4, .int (0 : Int32))] (Nat.le_of_ble_eq_true rfl) rfl (lvs_c rfl (lvs_c rfl (lvs_c rfl (lvs_c rfl (lvs_n))))) ?_
  refine wa_sub (lv' := [(0, .ref (ad g c0)), (2, .int x8), (3, .int (0 : Int32)), (4, .int (0 : Int32))]) (lvs_c rfl (lvs_c rfl (lvs_c rfl (lvs_c rfl (lvs_n))))) ?_
  exact w_X10_most_L12 cx h_c0  FU x8 (0 : Int32) (0 : Int32) S  h
def rm_X10_judge : Room := { frames := 2, cells := 0, slots := 0, locals := 48 }
def f_X10_judge_L12 : Nat → Nat → Int32 → Int32 → St → Option (Int32 × St)
  | 0, _, _, _, _ => none
  | n + 1, c0, l1, l2, S => if (S.1 c0 27) ≤ l2 then some ((-4 : Int32), S) else ob l2 8 (sq (S.1 (c0 + 18) (Int32.toNatClampNeg l2)) fun x3 => ob x3 8 (sq (S.1 (c0 + 13) (Int32.toNatClampNeg x3)) fun x5 => ob x5 12 (bd (f_X10_most c0 x3 S) fun x7 S8 => ob x5 12 (bd (f_X10_lackOf c0 (S8.1 c0 19) l1 S8) fun x11 S12 => bd (f_X10_giftBy c0 (S.1 (c0 + 5) (Int32.toNatClampNeg x5)) x3 x7 (S8.1 (c0 + 6) (Int32.toNatClampNeg x5)) x11 ((S12.1 c0 27) - l2) S12) fun x14 S15 => ob x3 24 (if x14 = (S15.1 (c0 + 16) (Int32.toNatClampNeg x3)) then ob x3 24 (sq (l1 + (S15.1 (c0 + 16) (Int32.toNatClampNeg x3))) fun x20 => f_X10_judge_L12 n c0 x20 (l2 + (1 : Int32)) S15) else some (x3, S15))))))
set_option maxHeartbeats 4000000 in
set_option maxRecDepth 100000 in
theorem w_X10_judge_L12 {p : Program} {l : Launch} {e : Env} {s : State} {m : MethodId} {args : Array Value} {below : List Frame} {meth : Method} {c : Code} {g : Gl} {r : Int32 × St} {c0 : Nat} (cx : Cx p s m args meth c cX10_judge 5 (some .int) RX10 g (Ap g)) (h_c0 : kd g c0 = 10) : ∀ n : Nat, ∀ (l1 : Int32) (l2 : Int32) (S : St), f_X10_judge_L12 n c0 l1 l2 S = some r → WA p l e rm_X10_judge s m args below meth c 0 0 (MQ below (QWi g r) args s 0 0 (Ap g)) 5 g (Ap g) S 12 [(0, .ref (ad g c0)), (1, .int l1), (2, .int l2)] [] := by
  intro n
  induction n with
  | zero => intro l1 l2 S h; rw [f_X10_judge_L12] at h; cases h
  | succ n ih =>
    intro l1 l2 S h
    rw [f_X10_judge_L12] at h
    refine wa_iload_n cx (i := 2) dX10_judge_12 rfl rfl ?_
    refine wa_aload_n cx (i := 0) dX10_judge_13 rfl rfl ?_
    refine gf_X10_175 cx h_c0 dX10_judge_14 ?_
    refine wa_icmp_ge cx dX10_judge_17 100 (by decide) (fun q1 => ?_) (fun q1 => ?_)
    · rw [if_pos q1] at h
      refine wa_bipush cx dX10_judge_100 (-4 : Int32) (by decide) ?_
      exact wa_iret cx h dX10_judge_102
    · rw [if_neg q1] at h
      refine wa_aload_n cx (i := 0) dX10_judge_20 rfl rfl ?_
      refine gf_X10_61 cx h_c0 dX10_judge_21 ?_
      refine wa_iload_n cx (i := 2) dX10_judge_24 rfl rfl ?_
      obtain ⟨b2, h⟩ := ob_some h
      refine wa_iald cx dX10_judge_25 (kq10_28 cx.2.2.2.2.2.2.1 h_c0) b2 ?_
      replace h := sq_eq h
      generalize (S.1 (c0 + 18) (Int32.toNatClampNeg l2)) = x3 at h ⊢
      refine wa_istore_n cx (i := 3) dX10_judge_26 [(0, .ref (ad g c0)), (1, .int l1), (2, .int l2), (3, .int x3)] rfl (Nat.le_of_ble_eq_true rfl) rfl (lvs_c rfl (lvs_c rfl (lvs_c rfl (lvs_c rfl (lvs_n))))) ?_
      refine wa_aload_n cx (i := 0) dX10_judge_27 rfl rfl ?_
      refine gf_X10_46 cx h_c0 dX10_judge_28 ?_
      refine wa_iload_n cx (i := 3) dX10_judge_31 rfl rfl ?_
      obtain ⟨b4, h⟩ := ob_some h
      refine wa_iald cx dX10_judge_32 (kq10_14 cx.2.2.2.2.2.2.1 h_c0) b4 ?_
      replace h := sq_eq h
      generalize (S.1 (c0 + 13) (Int32.toNatClampNeg x3)) = x5 at h ⊢
      refine wa_istore cx dX10_judge_33 [(0, .ref (ad g c0)), (1, .int l1), (2, .int l2), (3, .int x3), (4, .int x5)] (Nat.le_of_ble_eq_true rfl) rfl (lvs_c rfl (lvs_c rfl (lvs_c rfl (lvs_c rfl (lvs_c rfl (lvs_n)))))) ?_
      refine wa_aload_n cx (i := 0) dX10_judge_35 rfl rfl ?_
      refine wa_aload_n cx (i := 0) dX10_judge_36 rfl rfl ?_
      refine gf_X10_22 cx h_c0 dX10_judge_37 ?_
      refine wa_iload cx dX10_judge_40 rfl ?_
      obtain ⟨b6, h⟩ := ob_some h
      refine wa_iald cx dX10_judge_42 (kq10_5 cx.2.2.2.2.2.2.1 h_c0) b6 ?_
      refine wa_iload_n cx (i := 3) dX10_judge_43 rfl rfl ?_
      refine wa_aload_n cx (i := 0) dX10_judge_44 rfl rfl ?_
      refine wa_iload_n cx (i := 3) dX10_judge_45 rfl rfl ?_
      obtain ⟨x7, S8, e9, h⟩ := bd_some h
      refine wa_callVi cx (m_X10_most l cx.2.2.2.2.2.2.1 h_c0 e9) vl_X10_253 h_c0 (by decide) rfl rfl ⟨_, cell_eq10 (kd_lt h_c0 (by decide)).2⟩ ⟨Nat.le_of_ble_eq_true rfl, Nat.le_of_ble_eq_true rfl⟩ ⟨rfl, rfl⟩ ⟨Nat.zero_le _, Nat.zero_le _⟩ rfl (Nat.le_of_ble_eq_true rfl) dX10_judge_46 rfl ?_
      refine wa_aload_n cx (i := 0) dX10_judge_49 rfl rfl ?_
      refine gf_X10_25 cx h_c0 dX10_judge_50 ?_
      refine wa_iload cx dX10_judge_53 rfl ?_
      obtain ⟨b10, h⟩ := ob_some h
      refine wa_iald cx dX10_judge_55 (kq10_6 cx.2.2.2.2.2.2.1 h_c0) b10 ?_
      refine wa_aload_n cx (i := 0) dX10_judge_56 rfl rfl ?_
      refine wa_aload_n cx (i := 0) dX10_judge_57 rfl rfl ?_
      refine gf_X10_154 cx h_c0 dX10_judge_58 ?_
      refine wa_iload_n cx (i := 1) dX10_judge_61 rfl rfl ?_
      obtain ⟨x11, S12, e13, h⟩ := bd_some h
      refine wa_callVi cx (m_X10_lackOf l cx.2.2.2.2.2.2.1 h_c0 e13) vl_X10_205 h_c0 (by decide) rfl rfl ⟨_, cell_eq10 (kd_lt h_c0 (by decide)).2⟩ ⟨Nat.le_of_ble_eq_true rfl, Nat.le_of_ble_eq_true rfl⟩ ⟨rfl, rfl⟩ ⟨Nat.zero_le _, Nat.zero_le _⟩ rfl (Nat.le_of_ble_eq_true rfl) dX10_judge_62 rfl ?_
      refine wa_aload_n cx (i := 0) dX10_judge_65 rfl rfl ?_
      refine gf_X10_175 cx h_c0 dX10_judge_66 ?_
      refine wa_iload_n cx (i := 2) dX10_judge_69 rfl rfl ?_
      refine wa_isub cx dX10_judge_70 ?_
      obtain ⟨x14, S15, e16, h⟩ := bd_some h
      refine wa_callVi cx (m_X10_giftBy l cx.2.2.2.2.2.2.1 h_c0 e16) vl_X10_208 h_c0 (by decide) rfl rfl ⟨_, cell_eq10 (kd_lt h_c0 (by decide)).2⟩ ⟨Nat.le_of_ble_eq_true rfl, Nat.le_of_ble_eq_true rfl⟩ ⟨rfl, rfl⟩ ⟨Nat.zero_le _, Nat.zero_le _⟩ rfl (Nat.le_of_ble_eq_true rfl) dX10_judge_71 rfl ?_
      refine wa_aload_n cx (i := 0) dX10_judge_74 rfl rfl ?_
      refine gf_X10_55 cx h_c0 dX10_judge_75 ?_
      refine wa_iload_n cx (i := 3) dX10_judge_78 rfl rfl ?_
      obtain ⟨b17, h⟩ := ob_some h
      refine wa_iald cx dX10_judge_79 (kq10_17 cx.2.2.2.2.2.2.1 h_c0) b17 ?_
      refine wa_icmp_eq cx dX10_judge_80 85 (by decide) (fun q18 => ?_) (fun q18 => ?_)
      · rw [if_pos q18] at h
        refine wa_iload_n cx (i := 1) dX10_judge_85 rfl rfl ?_
        refine wa_aload_n cx (i := 0) dX10_judge_86 rfl rfl ?_
        refine gf_X10_55 cx h_c0 dX10_judge_87 ?_
        refine wa_iload_n cx (i := 3) dX10_judge_90 rfl rfl ?_
        obtain ⟨b19, h⟩ := ob_some h
        refine wa_iald cx dX10_judge_91 (kq10_17 cx.2.2.2.2.2.2.1 h_c0) b19 ?_
        refine wa_iadd cx dX10_judge_92 ?_
        replace h := sq_eq h
        generalize (l1 + (S15.1 (c0 + 16) (Int32.toNatClampNeg x3))) = x20 at h ⊢
        refine wa_istore_n cx (i := 1) dX10_judge_93 [(0, .ref (ad g c0)), (1, .int x20), (2, .int l2)] rfl (Nat.le_of_ble_eq_true rfl) rfl (lvs_c rfl (lvs_c rfl (lvs_c rfl (lvs_n)))) ?_
        refine wa_iinc cx dX10_judge_94 (l2 + (1 : Int32)) [(0, .ref (ad g c0)), (1, .int x20), (2, .int (l2 + (1 : Int32)))] rfl rfl (Nat.le_of_ble_eq_true rfl) rfl (lvs_c rfl (lvs_c rfl (lvs_c rfl (lvs_n)))) ?_
        refine wa_goto cx dX10_judge_97 12 (by decide) ?_
        refine wa_sub (lv' := [(0, .ref (ad g c0)), (1, .int x20), (2, .int (l2 + (1 : Int32)))]) (lvs_c rfl (lvs_c rfl (lvs_c rfl (lvs_n)))) ?_
        exact ih x20 (l2 + (1 : Int32)) S15  h
      · rw [if_neg q18] at h
        refine wa_iload_n cx (i := 3) dX10_judge_83 rfl rfl ?_
        exact wa_iret cx h dX10_judge_84
def f_X10_judge (c0 : Nat) (S : St) : Option (Int32 × St) := bd (f_X10_plain c0 S) fun _ S21 => bd (f_X10_layOrder c0 S21) fun _ S24 => f_X10_judge_L12 FU c0 (0 : Int32) (0 : Int32) S24
set_option maxHeartbeats 4000000 in
set_option maxRecDepth 100000 in
theorem m_X10_judge (l : Launch) {g : Gl} (hg : GOK g) {c0 : Nat} {S : St} {r : Int32 × St} (h_c0 : kd g c0 = 10) (h : f_X10_judge c0 S = some r) : MW l yX10_judge cX10_judge 5 (some .int) rm_X10_judge g S [.ref (ad g c0)] (QWi g r) := by
  refine startW [(0, .ref (ad g c0))] (by decide +kernel) (Nat.le_of_ble_eq_true rfl) rfl hg (fun p e s m args below meth c cx => ?_)
  have cx : Cx p s m args meth c cX10_judge 5 (some .int) RX10 g (Ap g) := cx
  rw [f_X10_judge] at h
  refine wa_aload_n cx (i := 0) dX10_judge_0 rfl rfl ?_
  obtain ⟨u23, S21, e22, h⟩ := bd_some h
  refine wa_callVv cx (m_X10_plain l cx.2.2.2.2.2.2.1 h_c0 e22) vl_X10_151 h_c0 (by decide) rfl rfl ⟨_, cell_eq10 (kd_lt h_c0 (by decide)).2⟩ ⟨Nat.le_of_ble_eq_true rfl, Nat.le_of_ble_eq_true rfl⟩ ⟨rfl, rfl⟩ ⟨Nat.zero_le _, Nat.zero_le _⟩ rfl (Nat.le_of_ble_eq_true rfl) dX10_judge_1 rfl ?_
  refine wa_aload_n cx (i := 0) dX10_judge_4 rfl rfl ?_
  obtain ⟨u26, S24, e25, h⟩ := bd_some h
  refine wa_callVv cx (m_X10_layOrder l cx.2.2.2.2.2.2.1 h_c0 e25) vl_X10_184 h_c0 (by decide) rfl rfl ⟨_, cell_eq10 (kd_lt h_c0 (by decide)).2⟩ ⟨Nat.le_of_ble_eq_true rfl, Nat.le_of_ble_eq_true rfl⟩ ⟨rfl, rfl⟩ ⟨Nat.zero_le _, Nat.zero_le _⟩ rfl (Nat.le_of_ble_eq_true rfl) dX10_judge_5 rfl ?_
  refine wa_iconst cx dX10_judge_8 (0 : Int32) (by decide) ?_
  refine wa_istore_n cx (i := 1) dX10_judge_9 [(0, .ref (ad g c0)), (1, .int (0 : Int32))] rfl (Nat.le_of_ble_eq_true rfl) rfl (lvs_c rfl (lvs_c rfl (lvs_n))) ?_
  refine wa_iconst cx dX10_judge_10 (0 : Int32) (by decide) ?_
  refine wa_istore_n cx (i := 2) dX10_judge_11 [(0, .ref (ad g c0)), (1, .int (0 : Int32)), (2, .int (0 : Int32))] rfl (Nat.le_of_ble_eq_true rfl) rfl (lvs_c rfl (lvs_c rfl (lvs_c rfl (lvs_n)))) ?_
  refine wa_sub (lv' := [(0, .ref (ad g c0)), (1, .int (0 : Int32)), (2, .int (0 : Int32))]) (lvs_c rfl (lvs_c rfl (lvs_c rfl (lvs_n)))) ?_
  exact w_X10_judge_L12 cx h_c0  FU (0 : Int32) (0 : Int32) S24  h
def rm_X10_made : Room := { frames := 2, cells := 0, slots := 0, locals := 43 }
def f_X10_made_L32 : Nat → Nat → Int32 → Int32 → St → Option (Int32 × St)
  | 0, _, _, _, _ => none
  | n + 1, c0, a1, l2, S => if (S.1 c0 27) ≤ l2 then if a1 = 0 then some ((S.1 c0 32), S) else bd (f_X10_isBuilt c0 S) fun x3 S4 => if x3 = 0 then some ((0 : Int32), S4) else some ((1 : Int32), S4) else ob l2 8 (ob (S.1 (c0 + 18) (Int32.toNatClampNeg l2)) 24 (sq (pI S c0 32 ((S.1 c0 32) + (S.1 (c0 + 16) (Int32.toNatClampNeg (S.1 (c0 + 18) (Int32.toNatClampNeg l2)))))) fun S9 => ob l2 8 (ob (S9.1 (c0 + 18) (Int32.toNatClampNeg l2)) 24 (if (S9.1 (c0 + 16) (Int32.toNatClampNeg (S9.1 (c0 + 18) (Int32.toNatClampNeg l2)))) ≤ 0 then sq (pI S9 c0 34 ((S9.1 c0 34) + (0 : Int32))) fun S13 => f_X10_made_L32 n c0 a1 (l2 + (1 : Int32)) S13 else sq (pI S9 c0 34 ((S9.1 c0 34) + (1 : Int32))) fun S14 => f_X10_made_L32 n c0 a1 (l2 + (1 : Int32)) S14))))
set_option maxHeartbeats 4000000 in
set_option maxRecDepth 100000 in
theorem w_X10_made_L32 {p : Program} {l : Launch} {e : Env} {s : State} {m : MethodId} {args : Array Value} {below : List Frame} {meth : Method} {c : Code} {g : Gl} {r : Int32 × St} {c0 : Nat} {a1 : Int32} (cx : Cx p s m args meth c cX10_made 3 (some .int) RX10 g (Ap g)) (h_c0 : kd g c0 = 10) : ∀ n : Nat, ∀ (l2 : Int32) (S : St), f_X10_made_L32 n c0 a1 l2 S = some r → WA p l e rm_X10_made s m args below meth c 0 0 (MQ below (QWi g r) args s 0 0 (Ap g)) 3 g (Ap g) S 32 [(0, .ref (ad g c0)), (1, .int a1), (2, .int l2)] [] := by
  intro n
  induction n with
  | zero => intro l2 S h; rw [f_X10_made_L32] at h; cases h
  | succ n ih =>
    intro l2 S h
    rw [f_X10_made_L32] at h
    refine wa_iload_n cx (i := 2) dX10_made_32 rfl rfl ?_
    refine wa_aload_n cx (i := 0) dX10_made_33 rfl rfl ?_
    refine gf_X10_175 cx h_c0 dX10_made_34 ?_
    refine wa_icmp_ge cx dX10_made_37 94 (by decide) (fun q1 => ?_) (fun q1 => ?_)
    · rw [if_pos q1] at h
      refine wa_iload_n cx (i := 1) dX10_made_94 rfl rfl ?_
      refine wa_if_ne cx dX10_made_95 105 (by decide) (fun q2 => ?_) (fun q2 => ?_)
      · rw [if_neg q2] at h
        refine wa_aload_n cx (i := 0) dX10_made_105 rfl rfl ?_
        obtain ⟨x3, S4, e5, h⟩ := bd_some h
        refine wa_callVi cx (m_X10_isBuilt l cx.2.2.2.2.2.2.1 h_c0 e5) vl_X10_212 h_c0 (by decide) rfl rfl ⟨_, cell_eq10 (kd_lt h_c0 (by decide)).2⟩ ⟨Nat.le_of_ble_eq_true rfl, Nat.le_of_ble_eq_true rfl⟩ ⟨rfl, rfl⟩ ⟨Nat.zero_le _, Nat.zero_le _⟩ rfl (Nat.le_of_ble_eq_true rfl) dX10_made_106 rfl ?_
        refine wa_if_eq cx dX10_made_109 116 (by decide) (fun q6 => ?_) (fun q6 => ?_)
        · rw [if_pos q6] at h
          refine wa_iconst cx dX10_made_116 (0 : Int32) (by decide) ?_
          exact wa_iret cx h dX10_made_117
        · rw [if_neg q6] at h
          refine wa_iconst cx dX10_made_112 (1 : Int32) (by decide) ?_
          refine wa_goto cx dX10_made_113 117 (by decide) ?_
          exact wa_iret cx h dX10_made_117
      · rw [if_pos q2] at h
        refine wa_aload_n cx (i := 0) dX10_made_98 rfl rfl ?_
        refine gf_X10_196 cx h_c0 dX10_made_99 ?_
        refine wa_goto cx dX10_made_102 117 (by decide) ?_
        exact wa_iret cx h dX10_made_117
    · rw [if_neg q1] at h
      refine wa_aload_n cx (i := 0) dX10_made_40 rfl rfl ?_
      refine wa_dup cx dX10_made_41 rfl ?_
      refine gf_X10_196 cx h_c0 dX10_made_42 ?_
      refine wa_aload_n cx (i := 0) dX10_made_45 rfl rfl ?_
      refine gf_X10_55 cx h_c0 dX10_made_46 ?_
      refine wa_aload_n cx (i := 0) dX10_made_49 rfl rfl ?_
      refine gf_X10_61 cx h_c0 dX10_made_50 ?_
      refine wa_iload_n cx (i := 2) dX10_made_53 rfl rfl ?_
      obtain ⟨b7, h⟩ := ob_some h
      refine wa_iald cx dX10_made_54 (kq10_28 cx.2.2.2.2.2.2.1 h_c0) b7 ?_
      obtain ⟨b8, h⟩ := ob_some h
      refine wa_iald cx dX10_made_55 (kq10_17 cx.2.2.2.2.2.2.1 h_c0) b8 ?_
      refine wa_iadd cx dX10_made_56 ?_
      refine pf_X10_196 cx h_c0 dX10_made_57 ?_
      replace h := sq_eq h
      generalize (pI S c0 32 ((S.1 c0 32) + (S.1 (c0 + 16) (Int32.toNatClampNeg (S.1 (c0 + 18) (Int32.toNatClampNeg l2)))))) = S9 at h ⊢
      refine wa_aload_n cx (i := 0) dX10_made_60 rfl rfl ?_
      refine wa_dup cx dX10_made_61 rfl ?_
      refine gf_X10_202 cx h_c0 dX10_made_62 ?_
      refine wa_aload_n cx (i := 0) dX10_made_65 rfl rfl ?_
      refine gf_X10_55 cx h_c0 dX10_made_66 ?_
      refine wa_aload_n cx (i := 0) dX10_made_69 rfl rfl ?_
      refine gf_X10_61 cx h_c0 dX10_made_70 ?_
      refine wa_iload_n cx (i := 2) dX10_made_73 rfl rfl ?_
      obtain ⟨b10, h⟩ := ob_some h
      refine wa_iald cx dX10_made_74 (kq10_28 cx.2.2.2.2.2.2.1 h_c0) b10 ?_
      obtain ⟨b11, h⟩ := ob_some h
      refine wa_iald cx dX10_made_75 (kq10_17 cx.2.2.2.2.2.2.1 h_c0) b11 ?_
      refine wa_if_le cx dX10_made_76 83 (by decide) (fun q12 => ?_) (fun q12 => ?_)
      · rw [if_pos q12] at h
        refine wa_iconst cx dX10_made_83 (0 : Int32) (by decide) ?_
        refine wa_iadd cx dX10_made_84 ?_
        refine pf_X10_202 cx h_c0 dX10_made_85 ?_
        replace h := sq_eq h
        generalize (pI S9 c0 34 ((S9.1 c0 34) + (0 : Int32))) = S13 at h ⊢
        refine wa_iinc cx dX10_made_88 (l2 + (1 : Int32)) [(0, .ref (ad g c0)), (1, .int a1), (2, .int (l2 + (1 : Int32)))] rfl rfl (Nat.le_of_ble_eq_true rfl) rfl (lvs_c rfl (lvs_c rfl (lvs_c rfl (lvs_n)))) ?_
        refine wa_goto cx dX10_made_91 32 (by decide) ?_
        refine wa_sub (lv' := [(0, .ref (ad g c0)), (1, .int a1), (2, .int (l2 + (1 : Int32)))]) (lvs_c rfl (lvs_c rfl (lvs_c rfl (lvs_n)))) ?_
        exact ih (l2 + (1 : Int32)) S13  h
      · rw [if_neg q12] at h
        refine wa_iconst cx dX10_made_79 (1 : Int32) (by decide) ?_
        refine wa_goto cx dX10_made_80 84 (by decide) ?_
        refine wa_iadd cx dX10_made_84 ?_
        refine pf_X10_202 cx h_c0 dX10_made_85 ?_
        replace h := sq_eq h
        generalize (pI S9 c0 34 ((S9.1 c0 34) + (1 : Int32))) = S14 at h ⊢
        refine wa_iinc cx dX10_made_88 (l2 + (1 : Int32)) [(0, .ref (ad g c0)), (1, .int a1), (2, .int (l2 + (1 : Int32)))] rfl rfl (Nat.le_of_ble_eq_true rfl) rfl (lvs_c rfl (lvs_c rfl (lvs_c rfl (lvs_n)))) ?_
        refine wa_goto cx dX10_made_91 32 (by decide) ?_
        refine wa_sub (lv' := [(0, .ref (ad g c0)), (1, .int a1), (2, .int (l2 + (1 : Int32)))]) (lvs_c rfl (lvs_c rfl (lvs_c rfl (lvs_n)))) ?_
        exact ih (l2 + (1 : Int32)) S14  h
def f_X10_made (c0 : Nat) (a1 : Int32) (S : St) : Option (Int32 × St) := bd (f_X10_in (Int32.toInt64 a1) (0 : Int64) (1 : Int64) S) fun x15 S16 => if x15 = 0 then some ((-1 : Int32), S16) else bd (f_X10_plain c0 S16) fun _ S19 => bd (f_X10_layOrder c0 S19) fun _ S22 => sq (pI S22 c0 32 (0 : Int32)) fun S25 => sq (pI S25 c0 34 (0 : Int32)) fun S26 => f_X10_made_L32 FU c0 a1 (0 : Int32) S26
set_option maxHeartbeats 4000000 in
set_option maxRecDepth 100000 in
theorem m_X10_made (l : Launch) {g : Gl} (hg : GOK g) {c0 : Nat} {a1 : Int32} {S : St} {r : Int32 × St} (h_c0 : kd g c0 = 10) (h : f_X10_made c0 a1 S = some r) : MW l yX10_made cX10_made 3 (some .int) rm_X10_made g S [.ref (ad g c0), .int a1] (QWi g r) := by
  refine startW [(0, .ref (ad g c0)), (1, .int a1)] (by decide +kernel) (Nat.le_of_ble_eq_true rfl) rfl hg (fun p e s m args below meth c cx => ?_)
  have cx : Cx p s m args meth c cX10_made 3 (some .int) RX10 g (Ap g) := cx
  rw [f_X10_made] at h
  refine wa_iload_n cx (i := 1) dX10_made_0 rfl rfl ?_
  refine wa_i2l cx dX10_made_1 ?_
  refine wa_lconst cx dX10_made_2 (0 : Int64) (by decide) ?_
  refine wa_lconst cx dX10_made_3 (1 : Int64) (by decide) ?_
  obtain ⟨x15, S16, e17, h⟩ := bd_some h
  refine wa_callSi cx (m_X10_in l cx.2.2.2.2.2.2.1  e17) vl_X10_95 ⟨Nat.le_of_ble_eq_true rfl, Nat.le_of_ble_eq_true rfl⟩ ⟨rfl, rfl⟩ ⟨Nat.zero_le _, Nat.zero_le _⟩ rfl (Nat.le_of_ble_eq_true rfl) dX10_made_4 rfl ?_
  refine wa_if_ne cx dX10_made_7 12 (by decide) (fun q18 => ?_) (fun q18 => ?_)
  · rw [if_neg q18] at h
    refine wa_aload_n cx (i := 0) dX10_made_12 rfl rfl ?_
    obtain ⟨u21, S19, e20, h⟩ := bd_some h
    refine wa_callVv cx (m_X10_plain l cx.2.2.2.2.2.2.1 h_c0 e20) vl_X10_151 h_c0 (by decide) rfl rfl ⟨_, cell_eq10 (kd_lt h_c0 (by decide)).2⟩ ⟨Nat.le_of_ble_eq_true rfl, Nat.le_of_ble_eq_true rfl⟩ ⟨rfl, rfl⟩ ⟨Nat.zero_le _, Nat.zero_le _⟩ rfl (Nat.le_of_ble_eq_true rfl) dX10_made_13 rfl ?_
    refine wa_aload_n cx (i := 0) dX10_made_16 rfl rfl ?_
    obtain ⟨u24, S22, e23, h⟩ := bd_some h
    refine wa_callVv cx (m_X10_layOrder l cx.2.2.2.2.2.2.1 h_c0 e23) vl_X10_184 h_c0 (by decide) rfl rfl ⟨_, cell_eq10 (kd_lt h_c0 (by decide)).2⟩ ⟨Nat.le_of_ble_eq_true rfl, Nat.le_of_ble_eq_true rfl⟩ ⟨rfl, rfl⟩ ⟨Nat.zero_le _, Nat.zero_le _⟩ rfl (Nat.le_of_ble_eq_true rfl) dX10_made_17 rfl ?_
    refine wa_aload_n cx (i := 0) dX10_made_20 rfl rfl ?_
    refine wa_iconst cx dX10_made_21 (0 : Int32) (by decide) ?_
    refine pf_X10_196 cx h_c0 dX10_made_22 ?_
    replace h := sq_eq h
    generalize (pI S22 c0 32 (0 : Int32)) = S25 at h ⊢
    refine wa_aload_n cx (i := 0) dX10_made_25 rfl rfl ?_
    refine wa_iconst cx dX10_made_26 (0 : Int32) (by decide) ?_
    refine pf_X10_202 cx h_c0 dX10_made_27 ?_
    replace h := sq_eq h
    generalize (pI S25 c0 34 (0 : Int32)) = S26 at h ⊢
    refine wa_iconst cx dX10_made_30 (0 : Int32) (by decide) ?_
    refine wa_istore_n cx (i := 2) dX10_made_31 [(0, .ref (ad g c0)), (1, .int a1), (2, .int (0 : Int32))] rfl (Nat.le_of_ble_eq_true rfl) rfl (lvs_c rfl (lvs_c rfl (lvs_c rfl (lvs_n)))) ?_
    refine wa_sub (lv' := [(0, .ref (ad g c0)), (1, .int a1), (2, .int (0 : Int32))]) (lvs_c rfl (lvs_c rfl (lvs_c rfl (lvs_n)))) ?_
    exact w_X10_made_L32 cx h_c0  FU (0 : Int32) S26  h
  · rw [if_pos q18] at h
    refine wa_iconst cx dX10_made_10 (-1 : Int32) (by decide) ?_
    exact wa_iret cx h dX10_made_11
def rm_X10_spot : Room := { frames := 0, cells := 0, slots := 0, locals := 0 }
def f_X10_spot (a0 : Int32) (a1 : Int32) (a2 : Int32) (S : St) : Option (Int32 × St) := some ((((((100 : Int32) * a0) + a1) * (9 : Int32)) + a2), S)
set_option maxHeartbeats 4000000 in
set_option maxRecDepth 100000 in
theorem m_X10_spot (l : Launch) {g : Gl} (hg : GOK g) {a0 : Int32} {a1 : Int32} {a2 : Int32} {S : St} {r : Int32 × St}  (h : f_X10_spot a0 a1 a2 S = some r) : MW l yX10_spot cX10_spot 3 (some .int) rm_X10_spot g S [.int a0, .int a1, .int a2] (QWi g r) := by
  refine startW [(0, .int a0), (1, .int a1), (2, .int a2)] (by decide +kernel) (Nat.le_of_ble_eq_true rfl) rfl hg (fun p e s m args below meth c cx => ?_)
  have cx : Cx p s m args meth c cX10_spot 3 (some .int) RX10 g (Ap g) := cx
  rw [f_X10_spot] at h
  refine wa_bipush cx dX10_spot_0 (100 : Int32) (by decide) ?_
  refine wa_iload_n cx (i := 0) dX10_spot_2 rfl rfl ?_
  refine wa_imul cx dX10_spot_3 ?_
  refine wa_iload_n cx (i := 1) dX10_spot_4 rfl rfl ?_
  refine wa_iadd cx dX10_spot_5 ?_
  refine wa_bipush cx dX10_spot_6 (9 : Int32) (by decide) ?_
  refine wa_imul cx dX10_spot_8 ?_
  refine wa_iload_n cx (i := 2) dX10_spot_9 rfl rfl ?_
  refine wa_iadd cx dX10_spot_10 ?_
  exact wa_iret cx h dX10_spot_11
def rm_X10_comes : Room := { frames := 1, cells := 0, slots := 0, locals := 22 }
def f_X10_comes (c0 : Nat) (a1 : Int32) (S : St) : Option (Int32 × St) := bd (f_X10_placeOf c0 a1 S) fun x1 S2 => if x1 = (-4 : Int32) then some ((0 : Int32), S2) else some ((1 : Int32), S2)
set_option maxHeartbeats 4000000 in
set_option maxRecDepth 100000 in
theorem m_X10_comes (l : Launch) {g : Gl} (hg : GOK g) {c0 : Nat} {a1 : Int32} {S : St} {r : Int32 × St} (h_c0 : kd g c0 = 10) (h : f_X10_comes c0 a1 S = some r) : MW l yX10_comes cX10_comes 2 (some .boolean) rm_X10_comes g S [.ref (ad g c0), .int a1] (QWi g r) := by
  refine startW [(0, .ref (ad g c0)), (1, .int a1)] (by decide +kernel) (Nat.le_of_ble_eq_true rfl) rfl hg (fun p e s m args below meth c cx => ?_)
  have cx : Cx p s m args meth c cX10_comes 2 (some .boolean) RX10 g (Ap g) := cx
  rw [f_X10_comes] at h
  refine wa_aload_n cx (i := 0) dX10_comes_0 rfl rfl ?_
  refine wa_iload_n cx (i := 1) dX10_comes_1 rfl rfl ?_
  obtain ⟨x1, S2, e3, h⟩ := bd_some h
  refine wa_callVi cx (m_X10_placeOf l cx.2.2.2.2.2.2.1 h_c0 e3) vl_X10_187 h_c0 (by decide) rfl rfl ⟨_, cell_eq10 (kd_lt h_c0 (by decide)).2⟩ ⟨Nat.le_of_ble_eq_true rfl, Nat.le_of_ble_eq_true rfl⟩ ⟨rfl, rfl⟩ ⟨Nat.zero_le _, Nat.zero_le _⟩ rfl (Nat.le_of_ble_eq_true rfl) dX10_comes_2 rfl ?_
  refine wa_bipush cx dX10_comes_5 (-4 : Int32) (by decide) ?_
  refine wa_icmp_eq cx dX10_comes_7 14 (by decide) (fun q4 => ?_) (fun q4 => ?_)
  · rw [if_pos q4] at h
    refine wa_iconst cx dX10_comes_14 (0 : Int32) (by decide) ?_
    exact wa_zret cx (by decide) h dX10_comes_15
  · rw [if_neg q4] at h
    refine wa_iconst cx dX10_comes_10 (1 : Int32) (by decide) ?_
    refine wa_goto cx dX10_comes_11 15 (by decide) ?_
    exact wa_zret cx (by decide) h dX10_comes_15
def rm_X10_mostGift : Room := { frames := 2, cells := 0, slots := 0, locals := 43 }
def f_X10_mostGift (c0 : Nat) (a1 : Int32) (S : St) : Option (Int32 × St) := bd (f_X10_comes c0 a1 S) fun x1 S2 => if x1 = 0 then some ((0 : Int32), S2) else bd (f_X10_most c0 a1 S2) fun x5 S6 => ob a1 8 (ob (S6.1 (c0 + 13) (Int32.toNatClampNeg a1)) 12 (bd (f_X10_lesser x5 (S6.1 (c0 + 6) (Int32.toNatClampNeg (S6.1 (c0 + 13) (Int32.toNatClampNeg a1)))) S6) fun x10 S11 => some (x10, S11)))
set_option maxHeartbeats 4000000 in
set_option maxRecDepth 100000 in
theorem m_X10_mostGift (l : Launch) {g : Gl} (hg : GOK g) {c0 : Nat} {a1 : Int32} {S : St} {r : Int32 × St} (h_c0 : kd g c0 = 10) (h : f_X10_mostGift c0 a1 S = some r) : MW l yX10_mostGift cX10_mostGift 2 (some .int) rm_X10_mostGift g S [.ref (ad g c0), .int a1] (QWi g r) := by
  refine startW [(0, .ref (ad g c0)), (1, .int a1)] (by decide +kernel) (Nat.le_of_ble_eq_true rfl) rfl hg (fun p e s m args below meth c cx => ?_)
  have cx : Cx p s m args meth c cX10_mostGift 2 (some .int) RX10 g (Ap g) := cx
  rw [f_X10_mostGift] at h
  refine wa_aload_n cx (i := 0) dX10_mostGift_0 rfl rfl ?_
  refine wa_iload_n cx (i := 1) dX10_mostGift_1 rfl rfl ?_
  obtain ⟨x1, S2, e3, h⟩ := bd_some h
  refine wa_callVi cx (m_X10_comes l cx.2.2.2.2.2.2.1 h_c0 e3) vl_X10_256 h_c0 (by decide) rfl rfl ⟨_, cell_eq10 (kd_lt h_c0 (by decide)).2⟩ ⟨Nat.le_of_ble_eq_true rfl, Nat.le_of_ble_eq_true rfl⟩ ⟨rfl, rfl⟩ ⟨Nat.zero_le _, Nat.zero_le _⟩ rfl (Nat.le_of_ble_eq_true rfl) dX10_mostGift_2 rfl ?_
  refine wa_if_eq cx dX10_mostGift_5 30 (by decide) (fun q4 => ?_) (fun q4 => ?_)
  · rw [if_pos q4] at h
    refine wa_iconst cx dX10_mostGift_30 (0 : Int32) (by decide) ?_
    exact wa_iret cx h dX10_mostGift_31
  · rw [if_neg q4] at h
    refine wa_aload_n cx (i := 0) dX10_mostGift_8 rfl rfl ?_
    refine wa_iload_n cx (i := 1) dX10_mostGift_9 rfl rfl ?_
    obtain ⟨x5, S6, e7, h⟩ := bd_some h
    refine wa_callVi cx (m_X10_most l cx.2.2.2.2.2.2.1 h_c0 e7) vl_X10_253 h_c0 (by decide) rfl rfl ⟨_, cell_eq10 (kd_lt h_c0 (by decide)).2⟩ ⟨Nat.le_of_ble_eq_true rfl, Nat.le_of_ble_eq_true rfl⟩ ⟨rfl, rfl⟩ ⟨Nat.zero_le _, Nat.zero_le _⟩ rfl (Nat.le_of_ble_eq_true rfl) dX10_mostGift_10 rfl ?_
    refine wa_aload_n cx (i := 0) dX10_mostGift_13 rfl rfl ?_
    refine gf_X10_25 cx h_c0 dX10_mostGift_14 ?_
    refine wa_aload_n cx (i := 0) dX10_mostGift_17 rfl rfl ?_
    refine gf_X10_46 cx h_c0 dX10_mostGift_18 ?_
    refine wa_iload_n cx (i := 1) dX10_mostGift_21 rfl rfl ?_
    obtain ⟨b8, h⟩ := ob_some h
    refine wa_iald cx dX10_mostGift_22 (kq10_14 cx.2.2.2.2.2.2.1 h_c0) b8 ?_
    obtain ⟨b9, h⟩ := ob_some h
    refine wa_iald cx dX10_mostGift_23 (kq10_6 cx.2.2.2.2.2.2.1 h_c0) b9 ?_
    obtain ⟨x10, S11, e12, h⟩ := bd_some h
    refine wa_callSi cx (m_X10_lesser l cx.2.2.2.2.2.2.1  e12) vl_X10_192 ⟨Nat.le_of_ble_eq_true rfl, Nat.le_of_ble_eq_true rfl⟩ ⟨rfl, rfl⟩ ⟨Nat.zero_le _, Nat.zero_le _⟩ rfl (Nat.le_of_ble_eq_true rfl) dX10_mostGift_24 rfl ?_
    refine wa_goto cx dX10_mostGift_27 31 (by decide) ?_
    exact wa_iret cx h dX10_mostGift_31
