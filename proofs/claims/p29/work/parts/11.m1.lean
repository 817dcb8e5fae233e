def rm_X3_upTo : Room := { frames := 0, cells := 0, slots := 0, locals := 0 }
def f_X3_upTo (c0 : Nat) (a1 : Int32) (a2 : Int32) (S : St) : Option (Int32 × St) := if a1 < 0 then some ((0 : Int32), S) else if (5 : Int32) ≤ a1 then some ((0 : Int32), S) else ob a1 5 (if a2 < (S.1 (c0 + 1) (Int32.toNatClampNeg a1)) then some ((0 : Int32), S) else some ((1 : Int32), S))
set_option maxHeartbeats 4000000 in
set_option maxRecDepth 100000 in
theorem m_X3_upTo (l : Launch) {g : Gl} (hg : GOK g) {c0 : Nat} {a1 : Int32} {a2 : Int32} {S : St} {r : Int32 × St} (h_c0 : kd g c0 = 3) (h : f_X3_upTo c0 a1 a2 S = some r) : MW l yX3_upTo cX3_upTo 3 (some .boolean) rm_X3_upTo g S [.ref (ad g c0), .int a1, .int a2] (QWi g r) := by
  refine startW [(0, .ref (ad g c0)), (1, .int a1), (2, .int a2)] (by decide +kernel) (Nat.le_of_ble_eq_true rfl) rfl hg (fun p e s m args below meth c cx => ?_)
  have cx : Cx p s m args meth c cX3_upTo 3 (some .boolean) RX3 g (Ap g) := cx
  rw [f_X3_upTo] at h
  refine wa_iload_n cx (i := 1) dX3_upTo_0 rfl rfl ?_
  refine wa_if_lt cx dX3_upTo_1 23 (by decide) (fun q1 => ?_) (fun q1 => ?_)
  · rw [if_pos q1] at h
    refine wa_iconst cx dX3_upTo_23 (0 : Int32) (by decide) ?_
    exact wa_zret cx (by decide) h dX3_upTo_24
  · rw [if_neg q1] at h
    refine wa_iload_n cx (i := 1) dX3_upTo_4 rfl rfl ?_
    refine wa_iconst cx dX3_upTo_5 (5 : Int32) (by decide) ?_
    refine wa_icmp_ge cx dX3_upTo_6 23 (by decide) (fun q2 => ?_) (fun q2 => ?_)
    · rw [if_pos q2] at h
      refine wa_iconst cx dX3_upTo_23 (0 : Int32) (by decide) ?_
      exact wa_zret cx (by decide) h dX3_upTo_24
    · rw [if_neg q2] at h
      refine wa_aload_n cx (i := 0) dX3_upTo_9 rfl rfl ?_
      refine gf_X3_11 cx h_c0 dX3_upTo_10 ?_
      refine wa_iload_n cx (i := 1) dX3_upTo_13 rfl rfl ?_
      obtain ⟨b3, h⟩ := ob_some h
      refine wa_iald cx dX3_upTo_14 (kq3_0 cx.2.2.2.2.2.2.1 h_c0) b3 ?_
      refine wa_iload_n cx (i := 2) dX3_upTo_15 rfl rfl ?_
      refine wa_icmp_gt cx dX3_upTo_16 23 (by decide) (fun q4 => ?_) (fun q4 => ?_)
      · rw [if_pos q4] at h
        refine wa_iconst cx dX3_upTo_23 (0 : Int32) (by decide) ?_
        exact wa_zret cx (by decide) h dX3_upTo_24
      · rw [if_neg q4] at h
        refine wa_iconst cx dX3_upTo_19 (1 : Int32) (by decide) ?_
        refine wa_goto cx dX3_upTo_20 24 (by decide) ?_
        exact wa_zret cx (by decide) h dX3_upTo_24
def rm_X6_add : Room := { frames := 0, cells := 0, slots := 0, locals := 0 }
def f_X6_add_L70 : Nat → Nat → Int32 → Int32 → Int32 → Int32 → Int32 → Int32 → St → Option (Int32 × St)
  | 0, _, _, _, _, _, _, _, _ => none
  | n + 1, c0, a1, a2, a3, a4, a5, l6, S => if a1 ≤ l6 then sq (pI S c0 0 ((S.1 c0 0) + (1 : Int32))) fun S2 => some ((1 : Int32), S2) else ob (S.1 c0 1) 8 (sq (pI S (c0 + 7) (Int32.toNatClampNeg (S.1 c0 1)) (S.1 c0 0)) fun S4 => ob (S4.1 c0 1) 8 (sq (pI S4 (c0 + 8) (Int32.toNatClampNeg (S4.1 c0 1)) (a4 + (l6 * a5))) fun S6 => sq (pI S6 c0 1 ((S6.1 c0 1) + (1 : Int32))) fun S7 => f_X6_add_L70 n c0 a1 a2 a3 a4 a5 (l6 + (1 : Int32)) S7))
set_option maxHeartbeats 4000000 in
set_option maxRecDepth 100000 in
theorem w_X6_add_L70 {p : Program} {l : Launch} {e : Env} {s : State} {m : MethodId} {args : Array Value} {below : List Frame} {meth : Method} {c : Code} {g : Gl} {r : Int32 × St} {c0 : Nat} {a1 : Int32} {a2 : Int32} {a3 : Int32} {a4 : Int32} {a5 : Int32} (cx : Cx p s m args meth c cX6_add 7 (some .boolean) RX6 g (Ap g)) (h_c0 : kd g c0 = 6) : ∀ n : Nat, ∀ (l6 : Int32) (S : St), f_X6_add_L70 n c0 a1 a2 a3 a4 a5 l6 S = some r → WA p l e rm_X6_add s m args below meth c 0 0 (MQ below (QWi g r) args s 0 0 (Ap g)) 7 g (Ap g) S 70 [(0, .ref (ad g c0)), (1, .int a1), (4, .int a4), (5, .int a5), (6, .int l6)] [] := by
  intro n
  induction n with
  | zero => intro l6 S h; rw [f_X6_add_L70] at h; cases h
  | succ n ih =>
    intro l6 S h
    rw [f_X6_add_L70] at h
    refine wa_iload cx dX6_add_70 rfl ?_
    refine wa_iload_n cx (i := 1) dX6_add_72 rfl rfl ?_
    refine wa_icmp_ge cx dX6_add_73 122 (by decide) (fun q1 => ?_) (fun q1 => ?_)
    · rw [if_pos q1] at h
      refine wa_aload_n cx (i := 0) dX6_add_122 rfl rfl ?_
      refine wa_dup cx dX6_add_123 rfl ?_
      refine gf_X6_34 cx h_c0 dX6_add_124 ?_
      refine wa_iconst cx dX6_add_127 (1 : Int32) (by decide) ?_
      refine wa_iadd cx dX6_add_128 ?_
      refine pf_X6_34 cx h_c0 dX6_add_129 ?_
      replace h := sq_eq h
      generalize (pI S c0 0 ((S.1 c0 0) + (1 : Int32))) = S2 at h ⊢
      refine wa_iconst cx dX6_add_132 (1 : Int32) (by decide) ?_
      exact wa_zret cx (by decide) h dX6_add_133
    · rw [if_neg q1] at h
      refine wa_aload_n cx (i := 0) dX6_add_76 rfl rfl ?_
      refine gf_X6_28 cx h_c0 dX6_add_77 ?_
      refine wa_aload_n cx (i := 0) dX6_add_80 rfl rfl ?_
      refine gf_X6_38 cx h_c0 dX6_add_81 ?_
      refine wa_aload_n cx (i := 0) dX6_add_84 rfl rfl ?_
      refine gf_X6_34 cx h_c0 dX6_add_85 ?_
      obtain ⟨b3, h⟩ := ob_some h
      refine wa_iast cx dX6_add_88 (kq6_8 cx.2.2.2.2.2.2.1 h_c0) b3 ?_
      replace h := sq_eq h
      generalize (pI S (c0 + 7) (Int32.toNatClampNeg (S.1 c0 1)) (S.1 c0 0)) = S4 at h ⊢
      refine wa_aload_n cx (i := 0) dX6_add_89 rfl rfl ?_
      refine gf_X6_31 cx h_c0 dX6_add_90 ?_
      refine wa_aload_n cx (i := 0) dX6_add_93 rfl rfl ?_
      refine gf_X6_38 cx h_c0 dX6_add_94 ?_
      refine wa_iload cx dX6_add_97 rfl ?_
      refine wa_iload cx dX6_add_99 rfl ?_
      refine wa_iload cx dX6_add_101 rfl ?_
      refine wa_imul cx dX6_add_103 ?_
      refine wa_iadd cx dX6_add_104 ?_
      obtain ⟨b5, h⟩ := ob_some h
      refine wa_iast cx dX6_add_105 (kq6_9 cx.2.2.2.2.2.2.1 h_c0) b5 ?_
      replace h := sq_eq h
      generalize (pI S4 (c0 + 8) (Int32.toNatClampNeg (S4.1 c0 1)) (a4 + (l6 * a5))) = S6 at h ⊢
      refine wa_aload_n cx (i := 0) dX6_add_106 rfl rfl ?_
      refine wa_dup cx dX6_add_107 rfl ?_
      refine gf_X6_38 cx h_c0 dX6_add_108 ?_
      refine wa_iconst cx dX6_add_111 (1 : Int32) (by decide) ?_
      refine wa_iadd cx dX6_add_112 ?_
      refine pf_X6_38 cx h_c0 dX6_add_113 ?_
      replace h := sq_eq h
      generalize (pI S6 c0 1 ((S6.1 c0 1) + (1 : Int32))) = S7 at h ⊢
      refine wa_iinc cx dX6_add_116 (l6 + (1 : Int32)) [(0, .ref (ad g c0)), (1, .int a1), (4, .int a4), (5, .int a5), (6, .int (l6 + (1 : Int32)))] rfl rfl (Nat.le_of_ble_eq_true rfl) rfl (lvs_c rfl (lvs_c rfl (lvs_c rfl (lvs_c rfl (lvs_c rfl (lvs_n)))))) ?_
      refine wa_goto cx dX6_add_119 70 (by decide) ?_
      refine wa_sub (lv' := [(0, .ref (ad g c0)), (1, .int a1), (4, .int a4), (5, .int a5), (6, .int (l6 + (1 : Int32)))]) (lvs_c rfl (lvs_c rfl (lvs_c rfl (lvs_c rfl (lvs_c rfl (lvs_n)))))) ?_
      exact ih (l6 + (1 : Int32)) S7  h
def f_X6_add (c0 : Nat) (a1 : Int32) (a2 : Int32) (a3 : Int32) (a4 : Int32) (a5 : Int32) (S : St) : Option (Int32 × St) := if (6 : Int32) ≤ (S.1 c0 0) then some ((0 : Int32), S) else if a1 < (1 : Int32) then some ((0 : Int32), S) else if ((S.1 c0 1) + a1) ≤ (8 : Int32) then ob (S.1 c0 0) 6 (sq (pI S (c0 + 1) (Int32.toNatClampNeg (S.1 c0 0)) a2) fun S12 => ob (S12.1 c0 0) 6 (sq (pI S12 (c0 + 2) (Int32.toNatClampNeg (S12.1 c0 0)) a3) fun S14 => ob (S14.1 c0 0) 6 (sq (pI S14 (c0 + 3) (Int32.toNatClampNeg (S14.1 c0 0)) (0 : Int32)) fun S16 => ob (S16.1 c0 0) 6 (sq (pI S16 (c0 + 4) (Int32.toNatClampNeg (S16.1 c0 0)) (0 : Int32)) fun S18 => f_X6_add_L70 FU c0 a1 a2 a3 a4 a5 (0 : Int32) S18)))) else some ((0 : Int32), S)
set_option maxHeartbeats 4000000 in
set_option maxRecDepth 100000 in
theorem m_X6_add (l : Launch) {g : Gl} (hg : GOK g) {c0 : Nat} {a1 : Int32} {a2 : Int32} {a3 : Int32} {a4 : Int32} {a5 : Int32} {S : St} {r : Int32 × St} (h_c0 : kd g c0 = 6) (h : f_X6_add c0 a1 a2 a3 a4 a5 S = some r) : MW l yX6_add cX6_add 7 (some .boolean) rm_X6_add g S [.ref (ad g c0), .int a1, .int a2, .int a3, .int a4, .int a5] (QWi g r) := by
  refine startW [(0, .ref (ad g c0)), (1, .int a1), (2, .int a2), (3, .int a3), (4, .int a4), (5, .int a5)] (by decide +kernel) (Nat.le_of_ble_eq_true rfl) rfl hg (fun p e s m args below meth c cx => ?_)
  have cx : Cx p s m args meth c cX6_add 7 (some .boolean) RX6 g (Ap g) := cx
  rw [f_X6_add] at h
  refine wa_aload_n cx (i := 0) dX6_add_0 rfl rfl ?_
  refine gf_X6_34 cx h_c0 dX6_add_1 ?_
  refine wa_bipush cx dX6_add_4 (6 : Int32) (by decide) ?_
  refine wa_icmp_ge cx dX6_add_6 25 (by decide) (fun q8 => ?_) (fun q8 => ?_)
  · rw [if_pos q8] at h
    refine wa_iconst cx dX6_add_25 (0 : Int32) (by decide) ?_
    exact wa_zret cx (by decide) h dX6_add_26
  · rw [if_neg q8] at h
    refine wa_iload_n cx (i := 1) dX6_add_9 rfl rfl ?_
    refine wa_iconst cx dX6_add_10 (1 : Int32) (by decide) ?_
    refine wa_icmp_lt cx dX6_add_11 25 (by decide) (fun q9 => ?_) (fun q9 => ?_)
    · rw [if_pos q9] at h
      refine wa_iconst cx dX6_add_25 (0 : Int32) (by decide) ?_
      exact wa_zret cx (by decide) h dX6_add_26
    · rw [if_neg q9] at h
      refine wa_aload_n cx (i := 0) dX6_add_14 rfl rfl ?_
      refine gf_X6_38 cx h_c0 dX6_add_15 ?_
      refine wa_iload_n cx (i := 1) dX6_add_18 rfl rfl ?_
      refine wa_iadd cx dX6_add_19 ?_
      refine wa_bipush cx dX6_add_20 (8 : Int32) (by decide) ?_
      refine wa_icmp_le cx dX6_add_22 27 (by decide) (fun q10 => ?_) (fun q10 => ?_)
      · rw [if_pos q10] at h
        refine wa_aload_n cx (i := 0) dX6_add_27 rfl rfl ?_
        refine gf_X6_9 cx h_c0 dX6_add_28 ?_
        refine wa_aload_n cx (i := 0) dX6_add_31 rfl rfl ?_
        refine gf_X6_34 cx h_c0 dX6_add_32 ?_
        refine wa_iload_n cx (i := 2) dX6_add_35 rfl rfl ?_
        obtain ⟨b11, h⟩ := ob_some h
        refine wa_iast cx dX6_add_36 (kq6_2 cx.2.2.2.2.2.2.1 h_c0) b11 ?_
        replace h := sq_eq h
        generalize (pI S (c0 + 1) (Int32.toNatClampNeg (S.1 c0 0)) a2) = S12 at h ⊢
        refine wa_aload_n cx (i := 0) dX6_add_37 rfl rfl ?_
        refine gf_X6_13 cx h_c0 dX6_add_38 ?_
        refine wa_aload_n cx (i := 0) dX6_add_41 rfl rfl ?_
        refine gf_X6_34 cx h_c0 dX6_add_42 ?_
        refine wa_iload_n cx (i := 3) dX6_add_45 rfl rfl ?_
        obtain ⟨b13, h⟩ := ob_some h
        refine wa_iast cx dX6_add_46 (kq6_3 cx.2.2.2.2.2.2.1 h_c0) b13 ?_
        replace h := sq_eq h
        generalize (pI S12 (c0 + 2) (Int32.toNatClampNeg (S12.1 c0 0)) a3) = S14 at h ⊢
        refine wa_aload_n cx (i := 0) dX6_add_47 rfl rfl ?_
        refine gf_X6_16 cx h_c0 dX6_add_48 ?_
        refine wa_aload_n cx (i := 0) dX6_add_51 rfl rfl ?_
        refine gf_X6_34 cx h_c0 dX6_add_52 ?_
        refine wa_iconst cx dX6_add_55 (0 : Int32) (by decide) ?_
        obtain ⟨b15, h⟩ := ob_some h
        refine wa_iast cx dX6_add_56 (kq6_4 cx.2.2.2.2.2.2.1 h_c0) b15 ?_
        replace h := sq_eq h
        generalize (pI S14 (c0 + 3) (Int32.toNatClampNeg (S14.1 c0 0)) (0 : Int32)) = S16 at h ⊢
        refine wa_aload_n cx (i := 0) dX6_add_57 rfl rfl ?_
        refine gf_X6_19 cx h_c0 dX6_add_58 ?_
        refine wa_aload_n cx (i := 0) dX6_add_61 rfl rfl ?_
        refine gf_X6_34 cx h_c0 dX6_add_62 ?_
        refine wa_iconst cx dX6_add_65 (0 : Int32) (by decide) ?_
        obtain ⟨b17, h⟩ := ob_some h
        refine wa_iast cx dX6_add_66 (kq6_5 cx.2.2.2.2.2.2.1 h_c0) b17 ?_
        replace h := sq_eq h
        generalize (pI S16 (c0 + 4) (Int32.toNatClampNeg (S16.1 c0 0)) (0 : Int32)) = S18 at h ⊢
        refine wa_iconst cx dX6_add_67 (0 : Int32) (by decide) ?_
        refine wa_istore cx dX6_add_68 [(0, .ref (ad g c0)), (1, .int a1), (4, .int a4), (5, .int a5), (6, .int (0 : Int32))] (Nat.le_of_ble_eq_true rfl) rfl (lvs_c rfl (lvs_c rfl (lvs_c rfl (lvs_c rfl (lvs_c rfl (lvs_n)))))) ?_
        refine wa_sub (lv' := [(0, .ref (ad g c0)), (1, .int a1), (4, .int a4), (5, .int a5), (6, .int (0 : Int32))]) (lvs_c rfl (lvs_c rfl (lvs_c rfl (lvs_c rfl (lvs_c rfl (lvs_n)))))) ?_
        exact w_X6_add_L70 cx h_c0  FU (0 : Int32) S18  h
      · rw [if_neg q10] at h
        refine wa_iconst cx dX6_add_25 (0 : Int32) (by decide) ?_
        exact wa_zret cx (by decide) h dX6_add_26
def rm_X6_has : Room := { frames := 0, cells := 0, slots := 0, locals := 0 }
def f_X6_has (c0 : Nat) (a1 : Int32) (S : St) : Option (Int32 × St) := if a1 < 0 then some ((0 : Int32), S) else if (S.1 c0 0) ≤ a1 then some ((0 : Int32), S) else some ((1 : Int32), S)
set_option maxHeartbeats 4000000 in
set_option maxRecDepth 100000 in
theorem m_X6_has (l : Launch) {g : Gl} (hg : GOK g) {c0 : Nat} {a1 : Int32} {S : St} {r : Int32 × St} (h_c0 : kd g c0 = 6) (h : f_X6_has c0 a1 S = some r) : MW l yX6_has cX6_has 2 (some .boolean) rm_X6_has g S [.ref (ad g c0), .int a1] (QWi g r) := by
  refine startW [(0, .ref (ad g c0)), (1, .int a1)] (by decide +kernel) (Nat.le_of_ble_eq_true rfl) rfl hg (fun p e s m args below meth c cx => ?_)
  have cx : Cx p s m args meth c cX6_has 2 (some .boolean) RX6 g (Ap g) := cx
  rw [f_X6_has] at h
  refine wa_iload_n cx (i := 1) dX6_has_0 rfl rfl ?_
  refine wa_if_lt cx dX6_has_1 16 (by decide) (fun q1 => ?_) (fun q1 => ?_)
  · rw [if_pos q1] at h
    refine wa_iconst cx dX6_has_16 (0 : Int32) (by decide) ?_
    exact wa_zret cx (by decide) h dX6_has_17
  · rw [if_neg q1] at h
    refine wa_iload_n cx (i := 1) dX6_has_4 rfl rfl ?_
    refine wa_aload_n cx (i := 0) dX6_has_5 rfl rfl ?_
    refine gf_X6_34 cx h_c0 dX6_has_6 ?_
    refine wa_icmp_ge cx dX6_has_9 16 (by decide) (fun q2 => ?_) (fun q2 => ?_)
    · rw [if_pos q2] at h
      refine wa_iconst cx dX6_has_16 (0 : Int32) (by decide) ?_
      exact wa_zret cx (by decide) h dX6_has_17
    · rw [if_neg q2] at h
      refine wa_iconst cx dX6_has_12 (1 : Int32) (by decide) ?_
      refine wa_goto cx dX6_has_13 17 (by decide) ?_
      exact wa_zret cx (by decide) h dX6_has_17
def rm_X6_addWorth : Room := { frames := 1, cells := 0, slots := 0, locals := 21 }
def f_X6_addWorth (c0 : Nat) (a1 : Int32) (a2 : Int32) (a3 : Int32) (S : St) : Option (Int32 × St) := bd (f_X6_has c0 a1 S) fun x1 S2 => if x1 = 0 then some ((0 : Int32), S2) else ob a1 6 (if (S2.1 (c0 + 4) (Int32.toNatClampNeg a1)) < (3 : Int32) then ob a1 6 (ob ((a1 * (3 : Int32)) + (S2.1 (c0 + 4) (Int32.toNatClampNeg a1))) 18 (sq (pI S2 (c0 + 5) (Int32.toNatClampNeg ((a1 * (3 : Int32)) + (S2.1 (c0 + 4) (Int32.toNatClampNeg a1)))) a2) fun S9 => ob a1 6 (ob ((a1 * (3 : Int32)) + (S9.1 (c0 + 4) (Int32.toNatClampNeg a1))) 18 (sq (pI S9 (c0 + 6) (Int32.toNatClampNeg ((a1 * (3 : Int32)) + (S9.1 (c0 + 4) (Int32.toNatClampNeg a1)))) a3) fun S12 => ob a1 6 (ob a1 6 (sq (pI S12 (c0 + 4) (Int32.toNatClampNeg a1) ((S12.1 (c0 + 4) (Int32.toNatClampNeg a1)) + (1 : Int32))) fun S15 => some ((1 : Int32), S15))))))) else some ((0 : Int32), S2))
set_option maxHeartbeats 4000000 in
set_option maxRecDepth 100000 in
theorem m_X6_addWorth (l : Launch) {g : Gl} (hg : GOK g) {c0 : Nat} {a1 : Int32} {a2 : Int32} {a3 : Int32} {S : St} {r : Int32 × St} (h_c0 : kd g c0 = 6) (h : f_X6_addWorth c0 a1 a2 a3 S = some r) : MW l yX6_addWorth cX6_addWorth 4 (some .boolean) rm_X6_addWorth g S [.ref (ad g c0), .int a1, .int a2, .int a3] (QWi g r) := by
  refine startW [(0, .ref (ad g c0)), (1, .int a1), (2, .int a2), (3, .int a3)] (by decide +kernel) (Nat.le_of_ble_eq_true rfl) rfl hg (fun p e s m args below meth c cx => ?_)
  have cx : Cx p s m args meth c cX6_addWorth 4 (some .boolean) RX6 g (Ap g) := cx
  rw [f_X6_addWorth] at h
  refine wa_aload_n cx (i := 0) dX6_addWorth_0 rfl rfl ?_
  refine wa_iload_n cx (i := 1) dX6_addWorth_1 rfl rfl ?_
  obtain ⟨x1, S2, e3, h⟩ := bd_some h
  refine wa_callVi cx (m_X6_has l cx.2.2.2.2.2.2.1 h_c0 e3) vl_X6_41 h_c0 (by decide) rfl rfl ⟨_, cell_eq6 (kd_lt h_c0 (by decide)).2⟩ ⟨Nat.le_of_ble_eq_true rfl, Nat.le_of_ble_eq_true rfl⟩ ⟨rfl, rfl⟩ ⟨Nat.zero_le _, Nat.zero_le _⟩ rfl (Nat.le_of_ble_eq_true rfl) dX6_addWorth_2 rfl ?_
  refine wa_if_eq cx dX6_addWorth_5 18 (by decide) (fun q4 => ?_) (fun q4 => ?_)
  · rw [if_pos q4] at h
    refine wa_iconst cx dX6_addWorth_18 (0 : Int32) (by decide) ?_
    exact wa_zret cx (by decide) h dX6_addWorth_19
  · rw [if_neg q4] at h
    refine wa_aload_n cx (i := 0) dX6_addWorth_8 rfl rfl ?_
    refine gf_X6_19 cx h_c0 dX6_addWorth_9 ?_
    refine wa_iload_n cx (i := 1) dX6_addWorth_12 rfl rfl ?_
    obtain ⟨b5, h⟩ := ob_some h
    refine wa_iald cx dX6_addWorth_13 (kq6_5 cx.2.2.2.2.2.2.1 h_c0) b5 ?_
    refine wa_iconst cx dX6_addWorth_14 (3 : Int32) (by decide) ?_
    refine wa_icmp_lt cx dX6_addWorth_15 20 (by decide) (fun q6 => ?_) (fun q6 => ?_)
    · rw [if_pos q6] at h
      refine wa_aload_n cx (i := 0) dX6_addWorth_20 rfl rfl ?_
      refine gf_X6_22 cx h_c0 dX6_addWorth_21 ?_
      refine wa_iload_n cx (i := 1) dX6_addWorth_24 rfl rfl ?_
      refine wa_iconst cx dX6_addWorth_25 (3 : Int32) (by decide) ?_
      refine wa_imul cx dX6_addWorth_26 ?_
      refine wa_aload_n cx (i := 0) dX6_addWorth_27 rfl rfl ?_
      refine gf_X6_19 cx h_c0 dX6_addWorth_28 ?_
      refine wa_iload_n cx (i := 1) dX6_addWorth_31 rfl rfl ?_
      obtain ⟨b7, h⟩ := ob_some h
      refine wa_iald cx dX6_addWorth_32 (kq6_5 cx.2.2.2.2.2.2.1 h_c0) b7 ?_
      refine wa_iadd cx dX6_addWorth_33 ?_
      refine wa_iload_n cx (i := 2) dX6_addWorth_34 rfl rfl ?_
      obtain ⟨b8, h⟩ := ob_some h
      refine wa_iast cx dX6_addWorth_35 (kq6_6 cx.2.2.2.2.2.2.1 h_c0) b8 ?_
      replace h := sq_eq h
      generalize (pI S2 (c0 + 5) (Int32.toNatClampNeg ((a1 * (3 : Int32)) + (S2.1 (c0 + 4) (Int32.toNatClampNeg a1)))) a2) = S9 at h ⊢
      refine wa_aload_n cx (i := 0) dX6_addWorth_36 rfl rfl ?_
      refine gf_X6_25 cx h_c0 dX6_addWorth_37 ?_
      refine wa_iload_n cx (i := 1) dX6_addWorth_40 rfl rfl ?_
      refine wa_iconst cx dX6_addWorth_41 (3 : Int32) (by decide) ?_
      refine wa_imul cx dX6_addWorth_42 ?_
      refine wa_aload_n cx (i := 0) dX6_addWorth_43 rfl rfl ?_
      refine gf_X6_19 cx h_c0 dX6_addWorth_44 ?_
      refine wa_iload_n cx (i := 1) dX6_addWorth_47 rfl rfl ?_
      obtain ⟨b10, h⟩ := ob_some h
      refine wa_iald cx dX6_addWorth_48 (kq6_5 cx.2.2.2.2.2.2.1 h_c0) b10 ?_
      refine wa_iadd cx dX6_addWorth_49 ?_
      refine wa_iload_n cx (i := 3) dX6_addWorth_50 rfl rfl ?_
      obtain ⟨b11, h⟩ := ob_some h
      refine wa_iast cx dX6_addWorth_51 (kq6_7 cx.2.2.2.2.2.2.1 h_c0) b11 ?_
      replace h := sq_eq h
      generalize (pI S9 (c0 + 6) (Int32.toNatClampNeg ((a1 * (3 : Int32)) + (S9.1 (c0 + 4) (Int32.toNatClampNeg a1)))) a3) = S12 at h ⊢
      refine wa_aload_n cx (i := 0) dX6_addWorth_52 rfl rfl ?_
      refine gf_X6_19 cx h_c0 dX6_addWorth_53 ?_
      refine wa_iload_n cx (i := 1) dX6_addWorth_56 rfl rfl ?_
      refine wa_dup2 cx dX6_addWorth_57 rfl rfl ?_
      obtain ⟨b13, h⟩ := ob_some h
      refine wa_iald cx dX6_addWorth_58 (kq6_5 cx.2.2.2.2.2.2.1 h_c0) b13 ?_
      refine wa_iconst cx dX6_addWorth_59 (1 : Int32) (by decide) ?_
      refine wa_iadd cx dX6_addWorth_60 ?_
      obtain ⟨b14, h⟩ := ob_some h
      refine wa_iast cx dX6_addWorth_61 (kq6_5 cx.2.2.2.2.2.2.1 h_c0) b14 ?_
      replace h := sq_eq h
      generalize (pI S12 (c0 + 4) (Int32.toNatClampNeg a1) ((S12.1 (c0 + 4) (Int32.toNatClampNeg a1)) + (1 : Int32))) = S15 at h ⊢
      refine wa_iconst cx dX6_addWorth_62 (1 : Int32) (by decide) ?_
      exact wa_zret cx (by decide) h dX6_addWorth_63
    · rw [if_neg q6] at h
      refine wa_iconst cx dX6_addWorth_18 (0 : Int32) (by decide) ?_
      exact wa_zret cx (by decide) h dX6_addWorth_19
def rm_X6_tell : Room := { frames := 1, cells := 0, slots := 0, locals := 21 }
def f_X6_tell (c0 : Nat) (a1 : Int32) (a2 : Int32) (S : St) : Option (Int32 × St) := bd (f_X6_has c0 a1 S) fun x1 S2 => if x1 = 0 then some ((0 : Int32), S2) else ob a1 6 (sq (pI S2 (c0 + 3) (Int32.toNatClampNeg a1) a2) fun S6 => some ((1 : Int32), S6))
set_option maxHeartbeats 4000000 in
set_option maxRecDepth 100000 in
theorem m_X6_tell (l : Launch) {g : Gl} (hg : GOK g) {c0 : Nat} {a1 : Int32} {a2 : Int32} {S : St} {r : Int32 × St} (h_c0 : kd g c0 = 6) (h : f_X6_tell c0 a1 a2 S = some r) : MW l yX6_tell cX6_tell 3 (some .boolean) rm_X6_tell g S [.ref (ad g c0), .int a1, .int a2] (QWi g r) := by
  refine startW [(0, .ref (ad g c0)), (1, .int a1), (2, .int a2)] (by decide +kernel) (Nat.le_of_ble_eq_true rfl) rfl hg (fun p e s m args below meth c cx => ?_)
  have cx : Cx p s m args meth c cX6_tell 3 (some .boolean) RX6 g (Ap g) := cx
  rw [f_X6_tell] at h
  refine wa_aload_n cx (i := 0) dX6_tell_0 rfl rfl ?_
  refine wa_iload_n cx (i := 1) dX6_tell_1 rfl rfl ?_
  obtain ⟨x1, S2, e3, h⟩ := bd_some h
  refine wa_callVi cx (m_X6_has l cx.2.2.2.2.2.2.1 h_c0 e3) vl_X6_41 h_c0 (by decide) rfl rfl ⟨_, cell_eq6 (kd_lt h_c0 (by decide)).2⟩ ⟨Nat.le_of_ble_eq_true rfl, Nat.le_of_ble_eq_true rfl⟩ ⟨rfl, rfl⟩ ⟨Nat.zero_le _, Nat.zero_le _⟩ rfl (Nat.le_of_ble_eq_true rfl) dX6_tell_2 rfl ?_
  refine wa_if_ne cx dX6_tell_5 10 (by decide) (fun q4 => ?_) (fun q4 => ?_)
  · rw [if_neg q4] at h
    refine wa_aload_n cx (i := 0) dX6_tell_10 rfl rfl ?_
    refine gf_X6_16 cx h_c0 dX6_tell_11 ?_
    refine wa_iload_n cx (i := 1) dX6_tell_14 rfl rfl ?_
    refine wa_iload_n cx (i := 2) dX6_tell_15 rfl rfl ?_
    obtain ⟨b5, h⟩ := ob_some h
    refine wa_iast cx dX6_tell_16 (kq6_4 cx.2.2.2.2.2.2.1 h_c0) b5 ?_
    replace h := sq_eq h
    generalize (pI S2 (c0 + 3) (Int32.toNatClampNeg a1) a2) = S6 at h ⊢
    refine wa_iconst cx dX6_tell_17 (1 : Int32) (by decide) ?_
    exact wa_zret cx (by decide) h dX6_tell_18
  · rw [if_pos q4] at h
    refine wa_iconst cx dX6_tell_8 (0 : Int32) (by decide) ?_
    exact wa_zret cx (by decide) h dX6_tell_9
def rm_X3_takeSort : Room := { frames := 2, cells := 0, slots := 0, locals := 44 }
def f_X3_takeSort (c0 : Nat) (a1 : Int32) (a2 : Nat) (S : St) : Option (Int32 × St) := if a1 = (103 : Int32) then bd (f_X3_upTo c0 (1 : Int32) (5 : Int32) S) fun x2 S3 => if x2 = 0 then some ((0 : Int32), S3) else bd (f_X3_upTo c0 (2 : Int32) (30 : Int32) S3) fun x6 S7 => if x6 = 0 then some ((0 : Int32), S7) else bd (f_X3_upTo c0 (3 : Int32) (30 : Int32) S7) fun x10 S11 => if x10 = 0 then some ((0 : Int32), S11) else bd (f_X3_upTo c0 (4 : Int32) (9 : Int32) S11) fun x14 S15 => if x14 = 0 then some ((0 : Int32), S15) else bd (f_X6_add a2 (S15.1 (c0 + 1) (Int32.toNatClampNeg (0 : Int32))) (S15.1 (c0 + 1) (Int32.toNatClampNeg (1 : Int32))) (S15.1 (c0 + 1) (Int32.toNatClampNeg (2 : Int32))) (S15.1 (c0 + 1) (Int32.toNatClampNeg (3 : Int32))) (S15.1 (c0 + 1) (Int32.toNatClampNeg (4 : Int32))) S15) fun x18 S19 => if x18 = 0 then some ((0 : Int32), S19) else some ((1 : Int32), S19) else if a1 = (116 : Int32) then bd (f_X3_upTo c0 (1 : Int32) (30 : Int32) S) fun x23 S24 => if x23 = 0 then some ((0 : Int32), S24) else bd (f_X6_tell a2 (S24.1 (c0 + 1) (Int32.toNatClampNeg (0 : Int32))) (S24.1 (c0 + 1) (Int32.toNatClampNeg (1 : Int32))) S24) fun x27 S28 => if x27 = 0 then some ((0 : Int32), S28) else some ((1 : Int32), S28) else if a1 = (119 : Int32) then bd (f_X3_upTo c0 (1 : Int32) (30 : Int32) S) fun x32 S33 => if x32 = 0 then some ((0 : Int32), S33) else if (S33.1 (c0 + 1) (Int32.toNatClampNeg (2 : Int32))) < (1 : Int32) then some ((0 : Int32), S33) else bd (f_X3_upTo c0 (2 : Int32) (10 : Int32) S33) fun x37 S38 => if x37 = 0 then some ((0 : Int32), S38) else bd (f_X6_addWorth a2 (S38.1 (c0 + 1) (Int32.toNatClampNeg (0 : Int32))) (S38.1 (c0 + 1) (Int32.toNatClampNeg (1 : Int32))) (S38.1 (c0 + 1) (Int32.toNatClampNeg (2 : Int32))) S38) fun x41 S42 => if x41 = 0 then some ((0 : Int32), S42) else some ((1 : Int32), S42) else some ((0 : Int32), S)
set_option maxHeartbeats 4000000 in
set_option maxRecDepth 100000 in
theorem m_X3_takeSort (l : Launch) {g : Gl} (hg : GOK g) {c0 : Nat} {a1 : Int32} {a2 : Nat} {S : St} {r : Int32 × St} (h_c0 : kd g c0 = 3) (h_a2 : kd g a2 = 6) (h : f_X3_takeSort c0 a1 a2 S = some r) : MW l yX3_takeSort cX3_takeSort 3 (some .boolean) rm_X3_takeSort g S [.ref (ad g c0), .int a1, .ref (ad g a2)] (QWi g r) := by
  refine startW [(0, .ref (ad g c0)), (1, .int a1), (2, .ref (ad g a2))] (by decide +kernel) (Nat.le_of_ble_eq_true rfl) rfl hg (fun p e s m args below meth c cx => ?_)
  have cx : Cx p s m args meth c cX3_takeSort 3 (some .boolean) RX3 g (Ap g) := cx
  rw [f_X3_takeSort] at h
  refine wa_iload_n cx (i := 1) dX3_takeSort_0 rfl rfl ?_
  by_cases q1 : a1 = (103 : Int32)
  · rw [if_pos q1] at h
    refine wa_lookup cx dX3_takeSort_1 36 (by decide) (by rw [q1] <;> rfl) (by decide) ?_
    refine wa_aload_n cx (i := 0) dX3_takeSort_36 rfl rfl ?_
    refine wa_iconst cx dX3_takeSort_37 (1 : Int32) (by decide) ?_
    refine wa_iconst cx dX3_takeSort_38 (5 : Int32) (by decide) ?_
    obtain ⟨x2, S3, e4, h⟩ := bd_some h
    refine wa_callVi cx (m_X3_upTo l cx.2.2.2.2.2.2.1 h_c0 e4) vl_X3_62 h_c0 (by decide) rfl rfl ⟨_, cell_eq3 (kd_lt h_c0 (by decide)).2⟩ ⟨Nat.le_of_ble_eq_true rfl, Nat.le_of_ble_eq_true rfl⟩ ⟨rfl, rfl⟩ ⟨Nat.zero_le _, Nat.zero_le _⟩ rfl (Nat.le_of_ble_eq_true rfl) dX3_takeSort_39 rfl ?_
    refine wa_if_eq cx dX3_takeSort_42 116 (by decide) (fun q5 => ?_) (fun q5 => ?_)
    · rw [if_pos q5] at h
      refine wa_iconst cx dX3_takeSort_116 (0 : Int32) (by decide) ?_
      exact wa_zret cx (by decide) h dX3_takeSort_117
    · rw [if_neg q5] at h
      refine wa_aload_n cx (i := 0) dX3_takeSort_45 rfl rfl ?_
      refine wa_iconst cx dX3_takeSort_46 (2 : Int32) (by decide) ?_
      refine wa_bipush cx dX3_takeSort_47 (30 : Int32) (by decide) ?_
      obtain ⟨x6, S7, e8, h⟩ := bd_some h
      refine wa_callVi cx (m_X3_upTo l cx.2.2.2.2.2.2.1 h_c0 e8) vl_X3_62 h_c0 (by decide) rfl rfl ⟨_, cell_eq3 (kd_lt h_c0 (by decide)).2⟩ ⟨Nat.le_of_ble_eq_true rfl, Nat.le_of_ble_eq_true rfl⟩ ⟨rfl, rfl⟩ ⟨Nat.zero_le _, Nat.zero_le _⟩ rfl (Nat.le_of_ble_eq_true rfl) dX3_takeSort_49 rfl ?_
      refine wa_if_eq cx dX3_takeSort_52 116 (by decide) (fun q9 => ?_) (fun q9 => ?_)
      · rw [if_pos q9] at h
        refine wa_iconst cx dX3_takeSort_116 (0 : Int32) (by decide) ?_
        exact wa_zret cx (by decide) h dX3_takeSort_117
      · rw [if_neg q9] at h
        refine wa_aload_n cx (i := 0) dX3_takeSort_55 rfl rfl ?_
        refine wa_iconst cx dX3_takeSort_56 (3 : Int32) (by decide) ?_
        refine wa_bipush cx dX3_takeSort_57 (30 : Int32) (by decide) ?_
        obtain ⟨x10, S11, e12, h⟩ := bd_some h
        refine wa_callVi cx (m_X3_upTo l cx.2.2.2.2.2.2.1 h_c0 e12) vl_X3_62 h_c0 (by decide) rfl rfl ⟨_, cell_eq3 (kd_lt h_c0 (by decide)).2⟩ ⟨Nat.le_of_ble_eq_true rfl, Nat.le_of_ble_eq_true rfl⟩ ⟨rfl, rfl⟩ ⟨Nat.zero_le _, Nat.zero_le _⟩ rfl (Nat.le_of_ble_eq_true rfl) dX3_takeSort_59 rfl ?_
        refine wa_if_eq cx dX3_takeSort_62 116 (by decide) (fun q13 => ?_) (fun q13 => ?_)
        · rw [if_pos q13] at h
          refine wa_iconst cx dX3_takeSort_116 (0 : Int32) (by decide) ?_
          exact wa_zret cx (by decide) h dX3_takeSort_117
        · rw [if_neg q13] at h
          refine wa_aload_n cx (i := 0) dX3_takeSort_65 rfl rfl ?_
          refine wa_iconst cx dX3_takeSort_66 (4 : Int32) (by decide) ?_
          refine wa_bipush cx dX3_takeSort_67 (9 : Int32) (by decide) ?_
          obtain ⟨x14, S15, e16, h⟩ := bd_some h
          refine wa_callVi cx (m_X3_upTo l cx.2.2.2.2.2.2.1 h_c0 e16) vl_X3_62 h_c0 (by decide) rfl rfl ⟨_, cell_eq3 (kd_lt h_c0 (by decide)).2⟩ ⟨Nat.le_of_ble_eq_true rfl, Nat.le_of_ble_eq_true rfl⟩ ⟨rfl, rfl⟩ ⟨Nat.zero_le _, Nat.zero_le _⟩ rfl (Nat.le_of_ble_eq_true rfl) dX3_takeSort_69 rfl ?_
          refine wa_if_eq cx dX3_takeSort_72 116 (by decide) (fun q17 => ?_) (fun q17 => ?_)
          · rw [if_pos q17] at h
            refine wa_iconst cx dX3_takeSort_116 (0 : Int32) (by decide) ?_
            exact wa_zret cx (by decide) h dX3_takeSort_117
          · rw [if_neg q17] at h
            refine wa_aload_n cx (i := 2) dX3_takeSort_75 rfl rfl ?_
            refine wa_aload_n cx (i := 0) dX3_takeSort_76 rfl rfl ?_
            refine gf_X3_11 cx h_c0 dX3_takeSort_77 ?_
            refine wa_iconst cx dX3_takeSort_80 (0 : Int32) (by decide) ?_
            refine wa_iald cx dX3_takeSort_81 (kq3_0 cx.2.2.2.2.2.2.1 h_c0) (vinl (by decide)) ?_
            refine wa_aload_n cx (i := 0) dX3_takeSort_82 rfl rfl ?_
            refine gf_X3_11 cx h_c0 dX3_takeSort_83 ?_
            refine wa_iconst cx dX3_takeSort_86 (1 : Int32) (by decide) ?_
            refine wa_iald cx dX3_takeSort_87 (kq3_0 cx.2.2.2.2.2.2.1 h_c0) (vinl (by decide)) ?_
            refine wa_aload_n cx (i := 0) dX3_takeSort_88 rfl rfl ?_
            refine gf_X3_11 cx h_c0 dX3_takeSort_89 ?_
            refine wa_iconst cx dX3_takeSort_92 (2 : Int32) (by decide) ?_
            refine wa_iald cx dX3_takeSort_93 (kq3_0 cx.2.2.2.2.2.2.1 h_c0) (vinl (by decide)) ?_
            refine wa_aload_n cx (i := 0) dX3_takeSort_94 rfl rfl ?_
            refine gf_X3_11 cx h_c0 dX3_takeSort_95 ?_
            refine wa_iconst cx dX3_takeSort_98 (3 : Int32) (by decide) ?_
            refine wa_iald cx dX3_takeSort_99 (kq3_0 cx.2.2.2.2.2.2.1 h_c0) (vinl (by decide)) ?_
            refine wa_aload_n cx (i := 0) dX3_takeSort_100 rfl rfl ?_
            refine gf_X3_11 cx h_c0 dX3_takeSort_101 ?_
            refine wa_iconst cx dX3_takeSort_104 (4 : Int32) (by decide) ?_
            refine wa_iald cx dX3_takeSort_105 (kq3_0 cx.2.2.2.2.2.2.1 h_c0) (vinl (by decide)) ?_
            obtain ⟨x18, S19, e20, h⟩ := bd_some h
            refine wa_callVi cx (m_X6_add l cx.2.2.2.2.2.2.1 h_a2 e20) vl_X3_93 h_a2 (by decide) rfl rfl ⟨_, cell_eq6 (kd_lt h_a2 (by decide)).2⟩ ⟨Nat.le_of_ble_eq_true rfl, Nat.le_of_ble_eq_true rfl⟩ ⟨rfl, rfl⟩ ⟨Nat.zero_le _, Nat.zero_le _⟩ rfl (Nat.le_of_ble_eq_true rfl) dX3_takeSort_106 rfl ?_
            refine wa_if_eq cx dX3_takeSort_109 116 (by decide) (fun q21 => ?_) (fun q21 => ?_)
            · rw [if_pos q21] at h
              refine wa_iconst cx dX3_takeSort_116 (0 : Int32) (by decide) ?_
              exact wa_zret cx (by decide) h dX3_takeSort_117
            · rw [if_neg q21] at h
              refine wa_iconst cx dX3_takeSort_112 (1 : Int32) (by decide) ?_
              refine wa_goto cx dX3_takeSort_113 117 (by decide) ?_
              exact wa_zret cx (by decide) h dX3_takeSort_117
  rw [if_neg q1] at h
  by_cases q22 : a1 = (116 : Int32)
  · rw [if_pos q22] at h
    refine wa_lookup cx dX3_takeSort_1 179 (by decide) (by rw [q22] <;> rfl) (by decide) ?_
    refine wa_aload_n cx (i := 0) dX3_takeSort_179 rfl rfl ?_
    refine wa_iconst cx dX3_takeSort_180 (1 : Int32) (by decide) ?_
    refine wa_bipush cx dX3_takeSort_181 (30 : Int32) (by decide) ?_
    obtain ⟨x23, S24, e25, h⟩ := bd_some h
    refine wa_callVi cx (m_X3_upTo l cx.2.2.2.2.2.2.1 h_c0 e25) vl_X3_62 h_c0 (by decide) rfl rfl ⟨_, cell_eq3 (kd_lt h_c0 (by decide)).2⟩ ⟨Nat.le_of_ble_eq_true rfl, Nat.le_of_ble_eq_true rfl⟩ ⟨rfl, rfl⟩ ⟨Nat.zero_le _, Nat.zero_le _⟩ rfl (Nat.le_of_ble_eq_true rfl) dX3_takeSort_183 rfl ?_
    refine wa_if_eq cx dX3_takeSort_186 212 (by decide) (fun q26 => ?_) (fun q26 => ?_)
    · rw [if_pos q26] at h
      refine wa_iconst cx dX3_takeSort_212 (0 : Int32) (by decide) ?_
      exact wa_zret cx (by decide) h dX3_takeSort_213
    · rw [if_neg q26] at h
      refine wa_aload_n cx (i := 2) dX3_takeSort_189 rfl rfl ?_
      refine wa_aload_n cx (i := 0) dX3_takeSort_190 rfl rfl ?_
      refine gf_X3_11 cx h_c0 dX3_takeSort_191 ?_
      refine wa_iconst cx dX3_takeSort_194 (0 : Int32) (by decide) ?_
      refine wa_iald cx dX3_takeSort_195 (kq3_0 cx.2.2.2.2.2.2.1 h_c0) (vinl (by decide)) ?_
      refine wa_aload_n cx (i := 0) dX3_takeSort_196 rfl rfl ?_
      refine gf_X3_11 cx h_c0 dX3_takeSort_197 ?_
      refine wa_iconst cx dX3_takeSort_200 (1 : Int32) (by decide) ?_
      refine wa_iald cx dX3_takeSort_201 (kq3_0 cx.2.2.2.2.2.2.1 h_c0) (vinl (by decide)) ?_
      obtain ⟨x27, S28, e29, h⟩ := bd_some h
      refine wa_callVi cx (m_X6_tell l cx.2.2.2.2.2.2.1 h_a2 e29) vl_X3_100 h_a2 (by decide) rfl rfl ⟨_, cell_eq6 (kd_lt h_a2 (by decide)).2⟩ ⟨Nat.le_of_ble_eq_true rfl, Nat.le_of_ble_eq_true rfl⟩ ⟨rfl, rfl⟩ ⟨Nat.zero_le _, Nat.zero_le _⟩ rfl (Nat.le_of_ble_eq_true rfl) dX3_takeSort_202 rfl ?_
      refine wa_if_eq cx dX3_takeSort_205 212 (by decide) (fun q30 => ?_) (fun q30 => ?_)
      · rw [if_pos q30] at h
        refine wa_iconst cx dX3_takeSort_212 (0 : Int32) (by decide) ?_
        exact wa_zret cx (by decide) h dX3_takeSort_213
      · rw [if_neg q30] at h
        refine wa_iconst cx dX3_takeSort_208 (1 : Int32) (by decide) ?_
        refine wa_goto cx dX3_takeSort_209 213 (by decide) ?_
        exact wa_zret cx (by decide) h dX3_takeSort_213
  rw [if_neg q22] at h
  by_cases q31 : a1 = (119 : Int32)
  · rw [if_pos q31] at h
    refine wa_lookup cx dX3_takeSort_1 118 (by decide) (by rw [q31] <;> rfl) (by decide) ?_
    refine wa_aload_n cx (i := 0) dX3_takeSort_118 rfl rfl ?_
    refine wa_iconst cx dX3_takeSort_119 (1 : Int32) (by decide) ?_
    refine wa_bipush cx dX3_takeSort_120 (30 : Int32) (by decide) ?_
    obtain ⟨x32, S33, e34, h⟩ := bd_some h
    refine wa_callVi cx (m_X3_upTo l cx.2.2.2.2.2.2.1 h_c0 e34) vl_X3_62 h_c0 (by decide) rfl rfl ⟨_, cell_eq3 (kd_lt h_c0 (by decide)).2⟩ ⟨Nat.le_of_ble_eq_true rfl, Nat.le_of_ble_eq_true rfl⟩ ⟨rfl, rfl⟩ ⟨Nat.zero_le _, Nat.zero_le _⟩ rfl (Nat.le_of_ble_eq_true rfl) dX3_takeSort_122 rfl ?_
    refine wa_if_eq cx dX3_takeSort_125 177 (by decide) (fun q35 => ?_) (fun q35 => ?_)
    · rw [if_pos q35] at h
      refine wa_iconst cx dX3_takeSort_177 (0 : Int32) (by decide) ?_
      exact wa_zret cx (by decide) h dX3_takeSort_178
    · rw [if_neg q35] at h
      refine wa_aload_n cx (i := 0) dX3_takeSort_128 rfl rfl ?_
      refine gf_X3_11 cx h_c0 dX3_takeSort_129 ?_
      refine wa_iconst cx dX3_takeSort_132 (2 : Int32) (by decide) ?_
      refine wa_iald cx dX3_takeSort_133 (kq3_0 cx.2.2.2.2.2.2.1 h_c0) (vinl (by decide)) ?_
      refine wa_iconst cx dX3_takeSort_134 (1 : Int32) (by decide) ?_
      refine wa_icmp_lt cx dX3_takeSort_135 177 (by decide) (fun q36 => ?_) (fun q36 => ?_)
      · rw [if_pos q36] at h
        refine wa_iconst cx dX3_takeSort_177 (0 : Int32) (by decide) ?_
        exact wa_zret cx (by decide) h dX3_takeSort_178
      · rw [if_neg q36] at h
        refine wa_aload_n cx (i := 0) dX3_takeSort_138 rfl rfl ?_
        refine wa_iconst cx dX3_takeSort_139 (2 : Int32) (by decide) ?_
        refine wa_bipush cx dX3_takeSort_140 (10 : Int32) (by decide) ?_
        obtain ⟨x37, S38, e39, h⟩ := bd_some h
        refine wa_callVi cx (m_X3_upTo l cx.2.2.2.2.2.2.1 h_c0 e39) vl_X3_62 h_c0 (by decide) rfl rfl ⟨_, cell_eq3 (kd_lt h_c0 (by decide)).2⟩ ⟨Nat.le_of_ble_eq_true rfl, Nat.le_of_ble_eq_true rfl⟩ ⟨rfl, rfl⟩ ⟨Nat.zero_le _, Nat.zero_le _⟩ rfl (Nat.le_of_ble_eq_true rfl) dX3_takeSort_142 rfl ?_
        refine wa_if_eq cx dX3_takeSort_145 177 (by decide) (fun q40 => ?_) (fun q40 => ?_)
        · rw [if_pos q40] at h
          refine wa_iconst cx dX3_takeSort_177 (0 : Int32) (by decide) ?_
          exact wa_zret cx (by decide) h dX3_takeSort_178
        · rw [if_neg q40] at h
          refine wa_aload_n cx (i := 2) dX3_takeSort_148 rfl rfl ?_
          refine wa_aload_n cx (i := 0) dX3_takeSort_149 rfl rfl ?_
          refine gf_X3_11 cx h_c0 dX3_takeSort_150 ?_
          refine wa_iconst cx dX3_takeSort_153 (0 : Int32) (by decide) ?_
          refine wa_iald cx dX3_takeSort_154 (kq3_0 cx.2.2.2.2.2.2.1 h_c0) (vinl (by decide)) ?_
          refine wa_aload_n cx (i := 0) dX3_takeSort_155 rfl rfl ?_
          refine gf_X3_11 cx h_c0 dX3_takeSort_156 ?_
          refine wa_iconst cx dX3_takeSort_159 (1 : Int32) (by decide) ?_
          refine wa_iald cx dX3_takeSort_160 (kq3_0 cx.2.2.2.2.2.2.1 h_c0) (vinl (by decide)) ?_
          refine wa_aload_n cx (i := 0) dX3_takeSort_161 rfl rfl ?_
          refine gf_X3_11 cx h_c0 dX3_takeSort_162 ?_
          refine wa_iconst cx dX3_takeSort_165 (2 : Int32) (by decide) ?_
          refine wa_iald cx dX3_takeSort_166 (kq3_0 cx.2.2.2.2.2.2.1 h_c0) (vinl (by decide)) ?_
          obtain ⟨x41, S42, e43, h⟩ := bd_some h
          refine wa_callVi cx (m_X6_addWorth l cx.2.2.2.2.2.2.1 h_a2 e43) vl_X3_97 h_a2 (by decide) rfl rfl ⟨_, cell_eq6 (kd_lt h_a2 (by decide)).2⟩ ⟨Nat.le_of_ble_eq_true rfl, Nat.le_of_ble_eq_true rfl⟩ ⟨rfl, rfl⟩ ⟨Nat.zero_le _, Nat.zero_le _⟩ rfl (Nat.le_of_ble_eq_true rfl) dX3_takeSort_167 rfl ?_
          refine wa_if_eq cx dX3_takeSort_170 177 (by decide) (fun q44 => ?_) (fun q44 => ?_)
          · rw [if_pos q44] at h
            refine wa_iconst cx dX3_takeSort_177 (0 : Int32) (by decide) ?_
            exact wa_zret cx (by decide) h dX3_takeSort_178
          · rw [if_neg q44] at h
            refine wa_iconst cx dX3_takeSort_173 (1 : Int32) (by decide) ?_
            refine wa_goto cx dX3_takeSort_174 178 (by decide) ?_
            exact wa_zret cx (by decide) h dX3_takeSort_178
  rw [if_neg q31] at h
  refine wa_lookup cx dX3_takeSort_1 214 (by decide) (off_ne (show allne _ _ from ⟨ne_toInt q1, ne_toInt q22, ne_toInt q31, trivial⟩)) (by decide) ?_
  refine wa_iconst cx dX3_takeSort_214 (0 : Int32) (by decide) ?_
  exact wa_zret cx (by decide) h dX3_takeSort_215
def rm_X3_take : Room := { frames := 3, cells := 0, slots := 0, locals := 66 }
def f_X3_take_J251 (c0 : Nat) (a1 : Int32) (a2 : Nat) (k0 : Nat) (k1 : Int32) (S : St) : Option (Int32 × St) := ck (k1 = 0 ∨ k1 = 1) (sq (pI S k0 9 k1) fun S2 => bd (f_X3_upTo c0 (0 : Int32) (1 : Int32) S2) fun x3 S4 => ck (x3 = 0 ∨ x3 = 1) (some (x3, S4)))
set_option maxHeartbeats 4000000 in
set_option maxRecDepth 100000 in
theorem w_X3_take_J251 {p : Program} {l : Launch} {e : Env} {s : State} {m : MethodId} {args : Array Value} {below : List Frame} {meth : Method} {c : Code} {g : Gl} {r : Int32 × St} {c0 : Nat} {a1 : Int32} {a2 : Nat} (cx : Cx p s m args meth c cX3_take 3 (some .boolean) RX3 g (Ap g)) (h_c0 : kd g c0 = 3) (h_a2 : kd g a2 = 2) : ∀ (k0 : Nat) (k1 : Int32) (S : St), kd g k0 = 2 → f_X3_take_J251 c0 a1 a2 k0 k1 S = some r → WA p l e rm_X3_take s m args below meth c 0 0 (MQ below (QWi g r) args s 0 0 (Ap g)) 3 g (Ap g) S 251 [(0, .ref (ad g c0))] [.int k1, .ref (ad g k0)] := by
  intro k0 k1 S h_k0 h
  rw [f_X3_take_J251] at h
  obtain ⟨b1, h⟩ := ck_some h
  refine pf_X3_82 cx b1 h_k0 dX3_take_251 ?_
  replace h := sq_eq h
  generalize (pI S k0 9 k1) = S2 at h ⊢
  refine wa_aload_n cx (i := 0) dX3_take_254 rfl rfl ?_
  refine wa_iconst cx dX3_take_255 (0 : Int32) (by decide) ?_
  refine wa_iconst cx dX3_take_256 (1 : Int32) (by decide) ?_
  obtain ⟨x3, S4, e5, h⟩ := bd_some h
  refine wa_callVi cx (m_X3_upTo l cx.2.2.2.2.2.2.1 h_c0 e5) vl_X3_62 h_c0 (by decide) rfl rfl ⟨_, cell_eq3 (kd_lt h_c0 (by decide)).2⟩ ⟨Nat.le_of_ble_eq_true rfl, Nat.le_of_ble_eq_true rfl⟩ ⟨rfl, rfl⟩ ⟨Nat.zero_le _, Nat.zero_le _⟩ rfl (Nat.le_of_ble_eq_true rfl) dX3_take_257 rfl ?_
  obtain ⟨b6, h⟩ := ck_some h
  exact wa_zret cx b6 h dX3_take_260
def f_X3_take (c0 : Nat) (a1 : Int32) (a2 : Nat) (S : St) : Option (Int32 × St) := if a1 = (98 : Int32) then if (S.1 (c0 + 1) (Int32.toNatClampNeg (0 : Int32))) < (1 : Int32) then some ((0 : Int32), S) else bd (f_X3_upTo c0 (0 : Int32) (60 : Int32) S) fun x9 S10 => if x9 = 0 then some ((0 : Int32), S10) else bd (f_X3_upTo c0 (1 : Int32) (8 : Int32) S10) fun x13 S14 => if x13 = 0 then some ((0 : Int32), S14) else bd (f_X2_setBar a2 (S14.1 (c0 + 1) (Int32.toNatClampNeg (0 : Int32))) (S14.1 (c0 + 1) (Int32.toNatClampNeg (1 : Int32))) S14) fun _ S17 => some ((1 : Int32), S17) else if a1 = (99 : Int32) then sq (pI S a2 3 (S.1 (c0 + 1) (Int32.toNatClampNeg (0 : Int32)))) fun S21 => bd (f_X3_upTo c0 (0 : Int32) (199 : Int32) S21) fun x22 S23 => ck (x22 = 0 ∨ x22 = 1) (some (x22, S23)) else if a1 = (100 : Int32) then sq (pI S a2 2 (S.1 (c0 + 1) (Int32.toNatClampNeg (0 : Int32)))) fun S27 => bd (f_X3_upTo c0 (0 : Int32) (30 : Int32) S27) fun x28 S29 => ck (x28 = 0 ∨ x28 = 1) (some (x28, S29)) else if a1 = (101 : Int32) then bd (f_X2_setExtra a2 (S.1 (c0 + 1) (Int32.toNatClampNeg (0 : Int32))) (S.1 (c0 + 1) (Int32.toNatClampNeg (1 : Int32))) S) fun _ S33 => bd (f_X3_upTo c0 (0 : Int32) (9 : Int32) S33) fun x36 S37 => if x36 = 0 then some ((0 : Int32), S37) else bd (f_X3_upTo c0 (1 : Int32) (30 : Int32) S37) fun x40 S41 => if x40 = 0 then some ((0 : Int32), S41) else some ((1 : Int32), S41) else if a1 = (111 : Int32) then if (S.1 (c0 + 1) (Int32.toNatClampNeg (0 : Int32))) = (1 : Int32) then f_X3_take_J251 c0 a1 a2 a2 (1 : Int32) S else f_X3_take_J251 c0 a1 a2 a2 (0 : Int32) S else if a1 = (112 : Int32) then sq (pI S a2 4 (S.1 (c0 + 1) (Int32.toNatClampNeg (0 : Int32)))) fun S47 => bd (f_X3_upTo c0 (0 : Int32) (9 : Int32) S47) fun x48 S49 => ck (x48 = 0 ∨ x48 = 1) (some (x48, S49)) else if a1 = (115 : Int32) then bd (f_X2_setSecond a2 (S.1 (c0 + 1) (Int32.toNatClampNeg (0 : Int32))) (S.1 (c0 + 1) (Int32.toNatClampNeg (1 : Int32))) S) fun _ S53 => if (S53.1 (c0 + 1) (Int32.toNatClampNeg (0 : Int32))) < (1 : Int32) then some ((0 : Int32), S53) else bd (f_X3_upTo c0 (0 : Int32) (60 : Int32) S53) fun x57 S58 => if x57 = 0 then some ((0 : Int32), S58) else bd (f_X3_upTo c0 (1 : Int32) (99 : Int32) S58) fun x61 S62 => if x61 = 0 then some ((0 : Int32), S62) else some ((1 : Int32), S62) else bd (f_X3_takeSort c0 a1 (a2 + 1) S) fun x65 S66 => ck (x65 = 0 ∨ x65 = 1) (some (x65, S66))
set_option maxHeartbeats 4000000 in
set_option maxRecDepth 100000 in
theorem m_X3_take (l : Launch) {g : Gl} (hg : GOK g) {c0 : Nat} {a1 : Int32} {a2 : Nat} {S : St} {r : Int32 × St} (h_c0 : kd g c0 = 3) (h_a2 : kd g a2 = 2) (h : f_X3_take c0 a1 a2 S = some r) : MW l yX3_take cX3_take 3 (some .boolean) rm_X3_take g S [.ref (ad g c0), .int a1, .ref (ad g a2)] (QWi g r) := by
  refine startW [(0, .ref (ad g c0)), (1, .int a1), (2, .ref (ad g a2))] (by decide +kernel) (Nat.le_of_ble_eq_true rfl) rfl hg (fun p e s m args below meth c cx => ?_)
  have cx : Cx p s m args meth c cX3_take 3 (some .boolean) RX3 g (Ap g) := cx
  rw [f_X3_take] at h
  refine wa_iload_n cx (i := 1) dX3_take_0 rfl rfl ?_
  by_cases q7 : a1 = (98 : Int32)
  · rw [if_pos q7] at h
    refine wa_tabIn cx dX3_take_1 88 (by rw [q7]; decide) (by rw [q7]; decide) (by rw [q7] <;> rfl) (by decide) ?_
    refine wa_aload_n cx (i := 0) dX3_take_88 rfl rfl ?_
    refine gf_X3_11 cx h_c0 dX3_take_89 ?_
    refine wa_iconst cx dX3_take_92 (0 : Int32) (by decide) ?_
    refine wa_iald cx dX3_take_93 (kq3_0 cx.2.2.2.2.2.2.1 h_c0) (vinl (by decide)) ?_
    refine wa_iconst cx dX3_take_94 (1 : Int32) (by decide) ?_
    refine wa_icmp_lt cx dX3_take_95 118 (by decide) (fun q8 => ?_) (fun q8 => ?_)
    · rw [if_pos q8] at h
      refine wa_iconst cx dX3_take_118 (0 : Int32) (by decide) ?_
      exact wa_zret cx (by decide) h dX3_take_119
    · rw [if_neg q8] at h
      refine wa_aload_n cx (i := 0) dX3_take_98 rfl rfl ?_
      refine wa_iconst cx dX3_take_99 (0 : Int32) (by decide) ?_
      refine wa_bipush cx dX3_take_100 (60 : Int32) (by decide) ?_
      obtain ⟨x9, S10, e11, h⟩ := bd_some h
      refine wa_callVi cx (m_X3_upTo l cx.2.2.2.2.2.2.1 h_c0 e11) vl_X3_62 h_c0 (by decide) rfl rfl ⟨_, cell_eq3 (kd_lt h_c0 (by decide)).2⟩ ⟨Nat.le_of_ble_eq_true rfl, Nat.le_of_ble_eq_true rfl⟩ ⟨rfl, rfl⟩ ⟨Nat.zero_le _, Nat.zero_le _⟩ rfl (Nat.le_of_ble_eq_true rfl) dX3_take_102 rfl ?_
      refine wa_if_eq cx dX3_take_105 118 (by decide) (fun q12 => ?_) (fun q12 => ?_)
      · rw [if_pos q12] at h
        refine wa_iconst cx dX3_take_118 (0 : Int32) (by decide) ?_
        exact wa_zret cx (by decide) h dX3_take_119
      · rw [if_neg q12] at h
        refine wa_aload_n cx (i := 0) dX3_take_108 rfl rfl ?_
        refine wa_iconst cx dX3_take_109 (1 : Int32) (by decide) ?_
        refine wa_bipush cx dX3_take_110 (8 : Int32) (by decide) ?_
        obtain ⟨x13, S14, e15, h⟩ := bd_some h
        refine wa_callVi cx (m_X3_upTo l cx.2.2.2.2.2.2.1 h_c0 e15) vl_X3_62 h_c0 (by decide) rfl rfl ⟨_, cell_eq3 (kd_lt h_c0 (by decide)).2⟩ ⟨Nat.le_of_ble_eq_true rfl, Nat.le_of_ble_eq_true rfl⟩ ⟨rfl, rfl⟩ ⟨Nat.zero_le _, Nat.zero_le _⟩ rfl (Nat.le_of_ble_eq_true rfl) dX3_take_112 rfl ?_
        refine wa_if_ne cx dX3_take_115 120 (by decide) (fun q16 => ?_) (fun q16 => ?_)
        · rw [if_neg q16] at h
          refine wa_aload_n cx (i := 2) dX3_take_120 rfl rfl ?_
          refine wa_aload_n cx (i := 0) dX3_take_121 rfl rfl ?_
          refine gf_X3_11 cx h_c0 dX3_take_122 ?_
          refine wa_iconst cx dX3_take_125 (0 : Int32) (by decide) ?_
          refine wa_iald cx dX3_take_126 (kq3_0 cx.2.2.2.2.2.2.1 h_c0) (vinl (by decide)) ?_
          refine wa_aload_n cx (i := 0) dX3_take_127 rfl rfl ?_
          refine gf_X3_11 cx h_c0 dX3_take_128 ?_
          refine wa_iconst cx dX3_take_131 (1 : Int32) (by decide) ?_
          refine wa_iald cx dX3_take_132 (kq3_0 cx.2.2.2.2.2.2.1 h_c0) (vinl (by decide)) ?_
          obtain ⟨u19, S17, e18, h⟩ := bd_some h
          refine wa_callVv cx (m_X2_setBar l cx.2.2.2.2.2.2.1 h_a2 e18) vl_X3_66 h_a2 (by decide) rfl rfl ⟨_, cell_eq2 (kd_lt h_a2 (by decide)).2⟩ ⟨Nat.le_of_ble_eq_true rfl, Nat.le_of_ble_eq_true rfl⟩ ⟨rfl, rfl⟩ ⟨Nat.zero_le _, Nat.zero_le _⟩ rfl (Nat.le_of_ble_eq_true rfl) dX3_take_133 rfl ?_
          refine wa_iconst cx dX3_take_136 (1 : Int32) (by decide) ?_
          exact wa_zret cx (by decide) h dX3_take_137
        · rw [if_pos q16] at h
          refine wa_iconst cx dX3_take_118 (0 : Int32) (by decide) ?_
          exact wa_zret cx (by decide) h dX3_take_119
  rw [if_neg q7] at h
  by_cases q20 : a1 = (99 : Int32)
  · rw [if_pos q20] at h
    refine wa_tabIn cx dX3_take_1 156 (by rw [q20]; decide) (by rw [q20]; decide) (by rw [q20] <;> rfl) (by decide) ?_
    refine wa_aload_n cx (i := 2) dX3_take_156 rfl rfl ?_
    refine wa_aload_n cx (i := 0) dX3_take_157 rfl rfl ?_
    refine gf_X3_11 cx h_c0 dX3_take_158 ?_
    refine wa_iconst cx dX3_take_161 (0 : Int32) (by decide) ?_
    refine wa_iald cx dX3_take_162 (kq3_0 cx.2.2.2.2.2.2.1 h_c0) (vinl (by decide)) ?_
    refine pf_X3_73 cx h_a2 dX3_take_163 ?_
    replace h := sq_eq h
    generalize (pI S a2 3 (S.1 (c0 + 1) (Int32.toNatClampNeg (0 : Int32)))) = S21 at h ⊢
    refine wa_aload_n cx (i := 0) dX3_take_166 rfl rfl ?_
    refine wa_iconst cx dX3_take_167 (0 : Int32) (by decide) ?_
    refine wa_sipush cx dX3_take_168 (199 : Int32) (by decide) ?_
    obtain ⟨x22, S23, e24, h⟩ := bd_some h
    refine wa_callVi cx (m_X3_upTo l cx.2.2.2.2.2.2.1 h_c0 e24) vl_X3_62 h_c0 (by decide) rfl rfl ⟨_, cell_eq3 (kd_lt h_c0 (by decide)).2⟩ ⟨Nat.le_of_ble_eq_true rfl, Nat.le_of_ble_eq_true rfl⟩ ⟨rfl, rfl⟩ ⟨Nat.zero_le _, Nat.zero_le _⟩ rfl (Nat.le_of_ble_eq_true rfl) dX3_take_171 rfl ?_
    obtain ⟨b25, h⟩ := ck_some h
    exact wa_zret cx b25 h dX3_take_174
  rw [if_neg q20] at h
  by_cases q26 : a1 = (100 : Int32)
  · rw [if_pos q26] at h
    refine wa_tabIn cx dX3_take_1 138 (by rw [q26]; decide) (by rw [q26]; decide) (by rw [q26] <;> rfl) (by decide) ?_
    refine wa_aload_n cx (i := 2) dX3_take_138 rfl rfl ?_
    refine wa_aload_n cx (i := 0) dX3_take_139 rfl rfl ?_
    refine gf_X3_11 cx h_c0 dX3_take_140 ?_
    refine wa_iconst cx dX3_take_143 (0 : Int32) (by decide) ?_
    refine wa_iald cx dX3_take_144 (kq3_0 cx.2.2.2.2.2.2.1 h_c0) (vinl (by decide)) ?_
    refine pf_X3_70 cx h_a2 dX3_take_145 ?_
    replace h := sq_eq h
    generalize (pI S a2 2 (S.1 (c0 + 1) (Int32.toNatClampNeg (0 : Int32)))) = S27 at h ⊢
    refine wa_aload_n cx (i := 0) dX3_take_148 rfl rfl ?_
    refine wa_iconst cx dX3_take_149 (0 : Int32) (by decide) ?_
    refine wa_bipush cx dX3_take_150 (30 : Int32) (by decide) ?_
    obtain ⟨x28, S29, e30, h⟩ := bd_some h
    refine wa_callVi cx (m_X3_upTo l cx.2.2.2.2.2.2.1 h_c0 e30) vl_X3_62 h_c0 (by decide) rfl rfl ⟨_, cell_eq3 (kd_lt h_c0 (by decide)).2⟩ ⟨Nat.le_of_ble_eq_true rfl, Nat.le_of_ble_eq_true rfl⟩ ⟨rfl, rfl⟩ ⟨Nat.zero_le _, Nat.zero_le _⟩ rfl (Nat.le_of_ble_eq_true rfl) dX3_take_152 rfl ?_
    obtain ⟨b31, h⟩ := ck_some h
    exact wa_zret cx b31 h dX3_take_155
  rw [if_neg q26] at h
  by_cases q32 : a1 = (101 : Int32)
  · rw [if_pos q32] at h
    refine wa_tabIn cx dX3_take_1 193 (by rw [q32]; decide) (by rw [q32]; decide) (by rw [q32] <;> rfl) (by decide) ?_
    refine wa_aload_n cx (i := 2) dX3_take_193 rfl rfl ?_
    refine wa_aload_n cx (i := 0) dX3_take_194 rfl rfl ?_
    refine gf_X3_11 cx h_c0 dX3_take_195 ?_
    refine wa_iconst cx dX3_take_198 (0 : Int32) (by decide) ?_
    refine wa_iald cx dX3_take_199 (kq3_0 cx.2.2.2.2.2.2.1 h_c0) (vinl (by decide)) ?_
    refine wa_aload_n cx (i := 0) dX3_take_200 rfl rfl ?_
    refine gf_X3_11 cx h_c0 dX3_take_201 ?_
    refine wa_iconst cx dX3_take_204 (1 : Int32) (by decide) ?_
    refine wa_iald cx dX3_take_205 (kq3_0 cx.2.2.2.2.2.2.1 h_c0) (vinl (by decide)) ?_
    obtain ⟨u35, S33, e34, h⟩ := bd_some h
    refine wa_callVv cx (m_X2_setExtra l cx.2.2.2.2.2.2.1 h_a2 e34) vl_X3_79 h_a2 (by decide) rfl rfl ⟨_, cell_eq2 (kd_lt h_a2 (by decide)).2⟩ ⟨Nat.le_of_ble_eq_true rfl, Nat.le_of_ble_eq_true rfl⟩ ⟨rfl, rfl⟩ ⟨Nat.zero_le _, Nat.zero_le _⟩ rfl (Nat.le_of_ble_eq_true rfl) dX3_take_206 rfl ?_
    refine wa_aload_n cx (i := 0) dX3_take_209 rfl rfl ?_
    refine wa_iconst cx dX3_take_210 (0 : Int32) (by decide) ?_
    refine wa_bipush cx dX3_take_211 (9 : Int32) (by decide) ?_
    obtain ⟨x36, S37, e38, h⟩ := bd_some h
    refine wa_callVi cx (m_X3_upTo l cx.2.2.2.2.2.2.1 h_c0 e38) vl_X3_62 h_c0 (by decide) rfl rfl ⟨_, cell_eq3 (kd_lt h_c0 (by decide)).2⟩ ⟨Nat.le_of_ble_eq_true rfl, Nat.le_of_ble_eq_true rfl⟩ ⟨rfl, rfl⟩ ⟨Nat.zero_le _, Nat.zero_le _⟩ rfl (Nat.le_of_ble_eq_true rfl) dX3_take_213 rfl ?_
    refine wa_if_eq cx dX3_take_216 233 (by decide) (fun q39 => ?_) (fun q39 => ?_)
    · rw [if_pos q39] at h
      refine wa_iconst cx dX3_take_233 (0 : Int32) (by decide) ?_
      exact wa_zret cx (by decide) h dX3_take_234
    · rw [if_neg q39] at h
      refine wa_aload_n cx (i := 0) dX3_take_219 rfl rfl ?_
      refine wa_iconst cx dX3_take_220 (1 : Int32) (by decide) ?_
      refine wa_bipush cx dX3_take_221 (30 : Int32) (by decide) ?_
      obtain ⟨x40, S41, e42, h⟩ := bd_some h
      refine wa_callVi cx (m_X3_upTo l cx.2.2.2.2.2.2.1 h_c0 e42) vl_X3_62 h_c0 (by decide) rfl rfl ⟨_, cell_eq3 (kd_lt h_c0 (by decide)).2⟩ ⟨Nat.le_of_ble_eq_true rfl, Nat.le_of_ble_eq_true rfl⟩ ⟨rfl, rfl⟩ ⟨Nat.zero_le _, Nat.zero_le _⟩ rfl (Nat.le_of_ble_eq_true rfl) dX3_take_223 rfl ?_
      refine wa_if_eq cx dX3_take_226 233 (by decide) (fun q43 => ?_) (fun q43 => ?_)
      · rw [if_pos q43] at h
        refine wa_iconst cx dX3_take_233 (0 : Int32) (by decide) ?_
        exact wa_zret cx (by decide) h dX3_take_234
      · rw [if_neg q43] at h
        refine wa_iconst cx dX3_take_229 (1 : Int32) (by decide) ?_
        refine wa_goto cx dX3_take_230 234 (by decide) ?_
        exact wa_zret cx (by decide) h dX3_take_234
  rw [if_neg q32] at h
  by_cases q44 : a1 = (111 : Int32)
  · rw [if_pos q44] at h
    refine wa_tabIn cx dX3_take_1 235 (by rw [q44]; decide) (by rw [q44]; decide) (by rw [q44] <;> rfl) (by decide) ?_
    refine wa_aload_n cx (i := 2) dX3_take_235 rfl rfl ?_
    refine wa_aload_n cx (i := 0) dX3_take_236 rfl rfl ?_
    refine gf_X3_11 cx h_c0 dX3_take_237 ?_
    refine wa_iconst cx dX3_take_240 (0 : Int32) (by decide) ?_
    refine wa_iald cx dX3_take_241 (kq3_0 cx.2.2.2.2.2.2.1 h_c0) (vinl (by decide)) ?_
    refine wa_iconst cx dX3_take_242 (1 : Int32) (by decide) ?_
    refine wa_icmp_ne cx dX3_take_243 250 (by decide) (fun q45 => ?_) (fun q45 => ?_)
    · rw [if_neg q45] at h
      refine wa_iconst cx dX3_take_250 (0 : Int32) (by decide) ?_
      refine wa_sub (lv' := [(0, .ref (ad g c0))]) (lvs_c rfl (lvs_n)) ?_
      exact w_X3_take_J251 cx h_c0 h_a2   a2 (0 : Int32) S h_a2 h
    · rw [if_pos q45] at h
      refine wa_iconst cx dX3_take_246 (1 : Int32) (by decide) ?_
      refine wa_goto cx dX3_take_247 251 (by decide) ?_
      refine wa_sub (lv' := [(0, .ref (ad g c0))]) (lvs_c rfl (lvs_n)) ?_
      exact w_X3_take_J251 cx h_c0 h_a2   a2 (1 : Int32) S h_a2 h
  rw [if_neg q44] at h
  by_cases q46 : a1 = (112 : Int32)
  · rw [if_pos q46] at h
    refine wa_tabIn cx dX3_take_1 175 (by rw [q46]; decide) (by rw [q46]; decide) (by rw [q46] <;> rfl) (by decide) ?_
    refine wa_aload_n cx (i := 2) dX3_take_175 rfl rfl ?_
    refine wa_aload_n cx (i := 0) dX3_take_176 rfl rfl ?_
    refine gf_X3_11 cx h_c0 dX3_take_177 ?_
    refine wa_iconst cx dX3_take_180 (0 : Int32) (by decide) ?_
    refine wa_iald cx dX3_take_181 (kq3_0 cx.2.2.2.2.2.2.1 h_c0) (vinl (by decide)) ?_
    refine pf_X3_76 cx h_a2 dX3_take_182 ?_
    replace h := sq_eq h
    generalize (pI S a2 4 (S.1 (c0 + 1) (Int32.toNatClampNeg (0 : Int32)))) = S47 at h ⊢
    refine wa_aload_n cx (i := 0) dX3_take_185 rfl rfl ?_
    refine wa_iconst cx dX3_take_186 (0 : Int32) (by decide) ?_
    refine wa_bipush cx dX3_take_187 (9 : Int32) (by decide) ?_
    obtain ⟨x48, S49, e50, h⟩ := bd_some h
    refine wa_callVi cx (m_X3_upTo l cx.2.2.2.2.2.2.1 h_c0 e50) vl_X3_62 h_c0 (by decide) rfl rfl ⟨_, cell_eq3 (kd_lt h_c0 (by decide)).2⟩ ⟨Nat.le_of_ble_eq_true rfl, Nat.le_of_ble_eq_true rfl⟩ ⟨rfl, rfl⟩ ⟨Nat.zero_le _, Nat.zero_le _⟩ rfl (Nat.le_of_ble_eq_true rfl) dX3_take_189 rfl ?_
    obtain ⟨b51, h⟩ := ck_some h
    exact wa_zret cx b51 h dX3_take_192
  rw [if_neg q46] at h
  by_cases q52 : a1 = (115 : Int32)
  · rw [if_pos q52] at h
    refine wa_tabIn cx dX3_take_1 261 (by rw [q52]; decide) (by rw [q52]; decide) (by rw [q52] <;> rfl) (by decide) ?_
    refine wa_aload_n cx (i := 2) dX3_take_261 rfl rfl ?_
    refine wa_aload_n cx (i := 0) dX3_take_262 rfl rfl ?_
    refine gf_X3_11 cx h_c0 dX3_take_263 ?_
    refine wa_iconst cx dX3_take_266 (0 : Int32) (by decide) ?_
    refine wa_iald cx dX3_take_267 (kq3_0 cx.2.2.2.2.2.2.1 h_c0) (vinl (by decide)) ?_
    refine wa_aload_n cx (i := 0) dX3_take_268 rfl rfl ?_
    refine gf_X3_11 cx h_c0 dX3_take_269 ?_
    refine wa_iconst cx dX3_take_272 (1 : Int32) (by decide) ?_
    refine wa_iald cx dX3_take_273 (kq3_0 cx.2.2.2.2.2.2.1 h_c0) (vinl (by decide)) ?_
    obtain ⟨u55, S53, e54, h⟩ := bd_some h
    refine wa_callVv cx (m_X2_setSecond l cx.2.2.2.2.2.2.1 h_a2 e54) vl_X3_86 h_a2 (by decide) rfl rfl ⟨_, cell_eq2 (kd_lt h_a2 (by decide)).2⟩ ⟨Nat.le_of_ble_eq_true rfl, Nat.le_of_ble_eq_true rfl⟩ ⟨rfl, rfl⟩ ⟨Nat.zero_le _, Nat.zero_le _⟩ rfl (Nat.le_of_ble_eq_true rfl) dX3_take_274 rfl ?_
    refine wa_aload_n cx (i := 0) dX3_take_277 rfl rfl ?_
    refine gf_X3_11 cx h_c0 dX3_take_278 ?_
    refine wa_iconst cx dX3_take_281 (0 : Int32) (by decide) ?_
    refine wa_iald cx dX3_take_282 (kq3_0 cx.2.2.2.2.2.2.1 h_c0) (vinl (by decide)) ?_
    refine wa_iconst cx dX3_take_283 (1 : Int32) (by decide) ?_
    refine wa_icmp_lt cx dX3_take_284 311 (by decide) (fun q56 => ?_) (fun q56 => ?_)
    · rw [if_pos q56] at h
      refine wa_iconst cx dX3_take_311 (0 : Int32) (by decide) ?_
      exact wa_zret cx (by decide) h dX3_take_312
    · rw [if_neg q56] at h
      refine wa_aload_n cx (i := 0) dX3_take_287 rfl rfl ?_
      refine wa_iconst cx dX3_take_288 (0 : Int32) (by decide) ?_
      refine wa_bipush cx dX3_take_289 (60 : Int32) (by decide) ?_
      obtain ⟨x57, S58, e59, h⟩ := bd_some h
      refine wa_callVi cx (m_X3_upTo l cx.2.2.2.2.2.2.1 h_c0 e59) vl_X3_62 h_c0 (by decide) rfl rfl ⟨_, cell_eq3 (kd_lt h_c0 (by decide)).2⟩ ⟨Nat.le_of_ble_eq_true rfl, Nat.le_of_ble_eq_true rfl⟩ ⟨rfl, rfl⟩ ⟨Nat.zero_le _, Nat.zero_le _⟩ rfl (Nat.le_of_ble_eq_true rfl) dX3_take_291 rfl ?_
      refine wa_if_eq cx dX3_take_294 311 (by decide) (fun q60 => ?_) (fun q60 => ?_)
      · rw [if_pos q60] at h
        refine wa_iconst cx dX3_take_311 (0 : Int32) (by decide) ?_
        exact wa_zret cx (by decide) h dX3_take_312
      · rw [if_neg q60] at h
        refine wa_aload_n cx (i := 0) dX3_take_297 rfl rfl ?_
        refine wa_iconst cx dX3_take_298 (1 : Int32) (by decide) ?_
        refine wa_bipush cx dX3_take_299 (99 : Int32) (by decide) ?_
        obtain ⟨x61, S62, e63, h⟩ := bd_some h
        refine wa_callVi cx (m_X3_upTo l cx.2.2.2.2.2.2.1 h_c0 e63) vl_X3_62 h_c0 (by decide) rfl rfl ⟨_, cell_eq3 (kd_lt h_c0 (by decide)).2⟩ ⟨Nat.le_of_ble_eq_true rfl, Nat.le_of_ble_eq_true rfl⟩ ⟨rfl, rfl⟩ ⟨Nat.zero_le _, Nat.zero_le _⟩ rfl (Nat.le_of_ble_eq_true rfl) dX3_take_301 rfl ?_
        refine wa_if_eq cx dX3_take_304 311 (by decide) (fun q64 => ?_) (fun q64 => ?_)
        · rw [if_pos q64] at h
          refine wa_iconst cx dX3_take_311 (0 : Int32) (by decide) ?_
          exact wa_zret cx (by decide) h dX3_take_312
        · rw [if_neg q64] at h
          refine wa_iconst cx dX3_take_307 (1 : Int32) (by decide) ?_
          refine wa_goto cx dX3_take_308 312 (by decide) ?_
          exact wa_zret cx (by decide) h dX3_take_312
  rw [if_neg q52] at h
  refine wa_tabDef cx dX3_take_1 313 [98, 99, 100, 101, 111, 112, 115] (by decide) (by decide) (show allne _ _ from ⟨ne_toInt q7, ne_toInt q20, ne_toInt q26, ne_toInt q32, ne_toInt q44, ne_toInt q46, ne_toInt q52, trivial⟩) (by decide) ?_
  refine wa_aload_n cx (i := 0) dX3_take_313 rfl rfl ?_
  refine wa_iload_n cx (i := 1) dX3_take_314 rfl rfl ?_
  refine wa_aload_n cx (i := 2) dX3_take_315 rfl rfl ?_
  refine gf_X3_44 cx h_a2 dX3_take_316 ?_
  obtain ⟨x65, S66, e67, h⟩ := bd_some h
  refine wa_callVi cx (m_X3_takeSort l cx.2.2.2.2.2.2.1 h_c0 (kq2_10 cx.2.2.2.2.2.2.1 h_a2) e67) vl_X3_89 h_c0 (by decide) rfl rfl ⟨_, cell_eq3 (kd_lt h_c0 (by decide)).2⟩ ⟨Nat.le_of_ble_eq_true rfl, Nat.le_of_ble_eq_true rfl⟩ ⟨rfl, rfl⟩ ⟨Nat.zero_le _, Nat.zero_le _⟩ rfl (Nat.le_of_ble_eq_true rfl) dX3_take_319 rfl ?_
  obtain ⟨b68, h⟩ := ck_some h
  exact wa_zret cx b68 h dX3_take_322
def rm_X6_areWhole : Room := { frames := 0, cells := 0, slots := 0, locals := 0 }
def f_X6_areWhole_L14 : Nat → Nat → (Int32 → St → Option (Int32 × St)) → Int32 → Int32 → Int32 → St → Option (Int32 × St)
  | 0, _, _, _, _, _, _ => none
  | n + 1, c0, kb2, l1, l2, l3, S => ob l1 6 (if (S.1 (c0 + 4) (Int32.toNatClampNeg l1)) ≤ l3 then if l2 = (10 : Int32) then kb2 (l1 + (1 : Int32)) S else some ((0 : Int32), S) else ob ((l1 * (3 : Int32)) + l3) 18 (sq (l2 + (S.1 (c0 + 6) (Int32.toNatClampNeg ((l1 * (3 : Int32)) + l3)))) fun x5 => f_X6_areWhole_L14 n c0 kb2 l1 x5 (l3 + (1 : Int32)) S))
set_option maxHeartbeats 4000000 in
set_option maxRecDepth 100000 in
theorem w_X6_areWhole_L14 {p : Program} {l : Launch} {e : Env} {s : State} {m : MethodId} {args : Array Value} {below : List Frame} {meth : Method} {c : Code} {g : Gl} {r : Int32 × St} {c0 : Nat} {kb2 : Int32 → St → Option (Int32 × St)} (cx : Cx p s m args meth c cX6_areWhole 4 (some .boolean) RX6 g (Ap g)) (h_c0 : kd g c0 = 6) (hkb2 : ∀ (l1 : Int32) (S : St), kb2 l1 S = some r → WA p l e rm_X6_areWhole s m args below meth c 0 0 (MQ below (QWi g r) args s 0 0 (Ap g)) 4 g (Ap g) S 2 [(0, .ref (ad g c0)), (1, .int l1)] []) : ∀ n : Nat, ∀ (l1 : Int32) (l2 : Int32) (l3 : Int32) (S : St), f_X6_areWhole_L14 n c0 kb2 l1 l2 l3 S = some r → WA p l e rm_X6_areWhole s m args below meth c 0 0 (MQ below (QWi g r) args s 0 0 (Ap g)) 4 g (Ap g) S 14 [(0, .ref (ad g c0)), (1, .int l1), (2, .int l2), (3, .int l3)] [] := by
  intro n
  induction n with
  | zero => intro l1 l2 l3 S h; rw [f_X6_areWhole_L14] at h; cases h
  | succ n ih =>
    intro l1 l2 l3 S h
    rw [f_X6_areWhole_L14] at h
    refine wa_iload_n cx (i := 3) dX6_areWhole_14 rfl rfl ?_
    refine wa_aload_n cx (i := 0) dX6_areWhole_15 rfl rfl ?_
    refine gf_X6_19 cx h_c0 dX6_areWhole_16 ?_
    refine wa_iload_n cx (i := 1) dX6_areWhole_19 rfl rfl ?_
    obtain ⟨b1, h⟩ := ob_some h
    refine wa_iald cx dX6_areWhole_20 (kq6_5 cx.2.2.2.2.2.2.1 h_c0) b1 ?_
    refine wa_icmp_ge cx dX6_areWhole_21 43 (by decide) (fun q2 => ?_) (fun q2 => ?_)
    · rw [if_pos q2] at h
      refine wa_iload_n cx (i := 2) dX6_areWhole_43 rfl rfl ?_
      refine wa_bipush cx dX6_areWhole_44 (10 : Int32) (by decide) ?_
      refine wa_icmp_eq cx dX6_areWhole_46 51 (by decide) (fun q3 => ?_) (fun q3 => ?_)
      · rw [if_pos q3] at h
        refine wa_iinc cx dX6_areWhole_51 (l1 + (1 : Int32)) [(0, .ref (ad g c0)), (1, .int (l1 + (1 : Int32)))] rfl rfl (Nat.le_of_ble_eq_true rfl) rfl (lvs_c rfl (lvs_c rfl (lvs_n))) ?_
        refine wa_goto cx dX6_areWhole_54 2 (by decide) ?_
        refine wa_sub (lv' := [(0, .ref (ad g c0)), (1, .int (l1 + (1 : Int32)))]) (lvs_c rfl (lvs_c rfl (lvs_n))) ?_
        exact hkb2 (l1 + (1 : Int32)) S  h
      · rw [if_neg q3] at h
        refine wa_iconst cx dX6_areWhole_49 (0 : Int32) (by decide) ?_
        exact wa_zret cx (by decide) h dX6_areWhole_50
    · rw [if_neg q2] at h
      refine wa_iload_n cx (i := 2) dX6_areWhole_24 rfl rfl ?_
      refine wa_aload_n cx (i := 0) dX6_areWhole_25 rfl rfl ?_
      refine gf_X6_25 cx h_c0 dX6_areWhole_26 ?_
      refine wa_iload_n cx (i := 1) dX6_areWhole_29 rfl rfl ?_
      refine wa_iconst cx dX6_areWhole_30 (3 : Int32) (by decide) ?_
      refine wa_imul cx dX6_areWhole_31 ?_
      refine wa_iload_n cx (i := 3) dX6_areWhole_32 rfl rfl ?_
      refine wa_iadd cx dX6_areWhole_33 ?_
      obtain ⟨b4, h⟩ := ob_some h
      refine wa_iald cx dX6_areWhole_34 (kq6_7 cx.2.2.2.2.2.2.1 h_c0) b4 ?_
      refine wa_iadd cx dX6_areWhole_35 ?_
      replace h := sq_eq h
      generalize (l2 + (S.1 (c0 + 6) (Int32.toNatClampNeg ((l1 * (3 : Int32)) + l3)))) = x5 at h ⊢
      refine wa_istore_n cx (i := 2) dX6_areWhole_36 [(0, .ref (ad g c0)), (1, .int l1), (2, .int x5), (3, .int l3)] rfl (Nat.le_of_ble_eq_true rfl) rfl (lvs_c rfl (lvs_c rfl (lvs_c rfl (lvs_c rfl (lvs_n))))) ?_
      refine wa_iinc cx dX6_areWhole_37 (l3 + (1 : Int32)) [(0, .ref (ad g c0)), (1, .int l1), (2, .int x5), (3, .int (l3 + (1 : Int32)))] rfl rfl (Nat.le_of_ble_eq_true rfl) rfl (lvs_c rfl (lvs_c rfl (lvs_c rfl (lvs_c rfl (lvs_n))))) ?_
      refine wa_goto cx dX6_areWhole_40 14 (by decide) ?_
      refine wa_sub (lv' := [(0, .ref (ad g c0)), (1, .int l1), (2, .int x5), (3, .int (l3 + (1 : Int32)))]) (lvs_c rfl (lvs_c rfl (lvs_c rfl (lvs_c rfl (lvs_n))))) ?_
      exact ih l1 x5 (l3 + (1 : Int32)) S  h
def f_X6_areWhole_L2 : Nat → Nat → Int32 → St → Option (Int32 × St)
  | 0, _, _, _ => none
  | n + 1, c0, l1, S => if (S.1 c0 0) ≤ l1 then some ((1 : Int32), S) else f_X6_areWhole_L14 FU c0 (fun l1 S => f_X6_areWhole_L2 n c0 l1 S) l1 (0 : Int32) (0 : Int32) S
set_option maxHeartbeats 4000000 in
set_option maxRecDepth 100000 in
theorem w_X6_areWhole_L2 {p : Program} {l : Launch} {e : Env} {s : State} {m : MethodId} {args : Array Value} {below : List Frame} {meth : Method} {c : Code} {g : Gl} {r : Int32 × St} {c0 : Nat} (cx : Cx p s m args meth c cX6_areWhole 4 (some .boolean) RX6 g (Ap g)) (h_c0 : kd g c0 = 6) : ∀ n : Nat, ∀ (l1 : Int32) (S : St), f_X6_areWhole_L2 n c0 l1 S = some r → WA p l e rm_X6_areWhole s m args below meth c 0 0 (MQ below (QWi g r) args s 0 0 (Ap g)) 4 g (Ap g) S 2 [(0, .ref (ad g c0)), (1, .int l1)] [] := by
  intro n
  induction n with
  | zero => intro l1 S h; rw [f_X6_areWhole_L2] at h; cases h
  | succ n ih =>
    intro l1 S h
    rw [f_X6_areWhole_L2] at h
    refine wa_iload_n cx (i := 1) dX6_areWhole_2 rfl rfl ?_
    refine wa_aload_n cx (i := 0) dX6_areWhole_3 rfl rfl ?_
    refine gf_X6_34 cx h_c0 dX6_areWhole_4 ?_
    refine wa_icmp_ge cx dX6_areWhole_7 57 (by decide) (fun q6 => ?_) (fun q6 => ?_)
    · rw [if_pos q6] at h
      refine wa_iconst cx dX6_areWhole_57 (1 : Int32) (by decide) ?_
      exact wa_zret cx (by decide) h dX6_areWhole_58
    · rw [if_neg q6] at h
      refine wa_iconst cx dX6_areWhole_10 (0 : Int32) (by decide) ?_
      refine wa_istore_n cx (i := 2) dX6_areWhole_11 [(0, .ref (ad g c0)), (1, .int l1), (2, .int (0 : Int32))] rfl (Nat.le_of_ble_eq_true rfl) rfl (lvs_c rfl (lvs_c rfl (lvs_c rfl (lvs_n)))) ?_
      refine wa_iconst cx dX6_areWhole_12 (0 : Int32) (by decide) ?_
      refine wa_istore_n cx (i := 3) dX6_areWhole_13 [(0, .ref (ad g c0)), (1, .int l1), (2, .int (0 : Int32)), (3, .int (0 : Int32))] rfl (Nat.le_of_ble_eq_true rfl) rfl (lvs_c rfl (lvs_c rfl (lvs_c rfl (lvs_c rfl (lvs_n))))) ?_
      refine wa_sub (lv' := [(0, .ref (ad g c0)), (1, .int l1), (2, .int (0 : Int32)), (3, .int (0 : Int32))]) (lvs_c rfl (lvs_c rfl (lvs_c rfl (lvs_c rfl (lvs_n))))) ?_
      exact w_X6_areWhole_L14 cx h_c0 ih FU l1 (0 : Int32) (0 : Int32) S  h
def f_X6_areWhole (c0 : Nat) (S : St) : Option (Int32 × St) := f_X6_areWhole_L2 FU c0 (0 : Int32) S
set_option maxHeartbeats 4000000 in
set_option maxRecDepth 100000 in
theorem m_X6_areWhole (l : Launch) {g : Gl} (hg : GOK g) {c0 : Nat} {S : St} {r : Int32 × St} (h_c0 : kd g c0 = 6) (h : f_X6_areWhole c0 S = some r) : MW l yX6_areWhole cX6_areWhole 4 (some .boolean) rm_X6_areWhole g S [.ref (ad g c0)] (QWi g r) := by
  refine startW [(0, .ref (ad g c0))] (by decide +kernel) (Nat.le_of_ble_eq_true rfl) rfl hg (fun p e s m args below meth c cx => ?_)
  have cx : Cx p s m args meth c cX6_areWhole 4 (some .boolean) RX6 g (Ap g) := cx
  rw [f_X6_areWhole] at h
  refine wa_iconst cx dX6_areWhole_0 (0 : Int32) (by decide) ?_
  refine wa_istore_n cx (i := 1) dX6_areWhole_1 [(0, .ref (ad g c0)), (1, .int (0 : Int32))] rfl (Nat.le_of_ble_eq_true rfl) rfl (lvs_c rfl (lvs_c rfl (lvs_n))) ?_
  refine wa_sub (lv' := [(0, .ref (ad g c0)), (1, .int (0 : Int32))]) (lvs_c rfl (lvs_c rfl (lvs_n))) ?_
  exact w_X6_areWhole_L2 cx h_c0  FU (0 : Int32) S  h
def rm_X3_read : Room := { frames := 4, cells := 0, slots := 0, locals := 88 }
def f_X3_read_J85 (c0 : Nat) (a1 : Nat) (a2 : Nat) (S : St) : Option (Int32 × St) := bd (f_X6_areWhole (a2 + 1) S) fun x1 S2 => if x1 = 0 then some ((S2.1 a1 1), S2) else some ((-4 : Int32), S2)
set_option maxHeartbeats 4000000 in
set_option maxRecDepth 100000 in
theorem w_X3_read_J85 {p : Program} {l : Launch} {e : Env} {s : State} {m : MethodId} {args : Array Value} {below : List Frame} {meth : Method} {c : Code} {g : Gl} {r : Int32 × St} {c0 : Nat} {a1 : Nat} {a2 : Nat} (cx : Cx p s m args meth c cX3_read 6 (some .int) RX3 g (Ap g)) (h_c0 : kd g c0 = 3) (h_a1 : kd g a1 = 7) (h_a2 : kd g a2 = 2) : ∀ (S : St), f_X3_read_J85 c0 a1 a2 S = some r → WA p l e rm_X3_read s m args below meth c 0 0 (MQ below (QWi g r) args s 0 0 (Ap g)) 6 g (Ap g) S 85 [(1, .ref (ad g a1)), (2, .ref (ad g a2))] [] := by
  intro S h
  rw [f_X3_read_J85] at h
  refine wa_aload_n cx (i := 2) dX3_read_85 rfl rfl ?_
  refine gf_X3_44 cx h_a2 dX3_read_86 ?_
  obtain ⟨x1, S2, e3, h⟩ := bd_some h
  refine wa_callVi cx (m_X6_areWhole l cx.2.2.2.2.2.2.1 (kq2_10 cx.2.2.2.2.2.2.1 h_a2) e3) vl_X3_48 (kq2_10 cx.2.2.2.2.2.2.1 h_a2) (by decide) rfl rfl ⟨_, cell_eq6 (kd_lt (kq2_10 cx.2.2.2.2.2.2.1 h_a2) (by decide)).2⟩ ⟨Nat.le_of_ble_eq_true rfl, Nat.le_of_ble_eq_true rfl⟩ ⟨rfl, rfl⟩ ⟨Nat.zero_le _, Nat.zero_le _⟩ rfl (Nat.le_of_ble_eq_true rfl) dX3_read_89 rfl ?_
  refine wa_if_eq cx dX3_read_92 100 (by decide) (fun q4 => ?_) (fun q4 => ?_)
  · rw [if_pos q4] at h
    refine wa_aload_n cx (i := 1) dX3_read_100 rfl rfl ?_
    refine gf_X3_26 cx h_a1 dX3_read_101 ?_
    exact wa_iret cx h dX3_read_104
  · rw [if_neg q4] at h
    refine wa_bipush cx dX3_read_95 (-4 : Int32) (by decide) ?_
    refine wa_goto cx dX3_read_97 104 (by decide) ?_
    exact wa_iret cx h dX3_read_104
def f_X3_read_L11 : Nat → Nat → Nat → Nat → Int32 → St → Option (Int32 × St)
  | 0, _, _, _, _, _ => none
  | n + 1, c0, a1, a2, l3, S => if (300 : Int32) ≤ l3 then f_X3_read_J85 c0 a1 a2 S else if (S.1 a1 1) ≤ (S.1 c0 1) then f_X3_read_J85 c0 a1 a2 S else sq (S.1 c0 1) fun x7 => bd (f_X7_byteAt a1 x7 S) fun x8 S9 => sq (pI S9 c0 1 ((S9.1 c0 1) + (1 : Int32))) fun S11 => bd (f_X3_numbersOf x8 S11) fun x12 S13 => bd (f_X3_readNumbers c0 a1 x12 S13) fun x15 S16 => if x15 = 0 then some (x7, S16) else bd (f_X3_take c0 x8 a2 S16) fun x19 S20 => if x19 = 0 then some (x7, S20) else f_X3_read_L11 n c0 a1 a2 (l3 + (1 : Int32)) S20
set_option maxHeartbeats 4000000 in
set_option maxRecDepth 100000 in
theorem w_X3_read_L11 {p : Program} {l : Launch} {e : Env} {s : State} {m : MethodId} {args : Array Value} {below : List Frame} {meth : Method} {c : Code} {g : Gl} {r : Int32 × St} {c0 : Nat} {a1 : Nat} {a2 : Nat} (cx : Cx p s m args meth c cX3_read 6 (some .int) RX3 g (Ap g)) (h_c0 : kd g c0 = 3) (h_a1 : kd g a1 = 7) (h_a2 : kd g a2 = 2) : ∀ n : Nat, ∀ (l3 : Int32) (S : St), f_X3_read_L11 n c0 a1 a2 l3 S = some r → WA p l e rm_X3_read s m args below meth c 0 0 (MQ below (QWi g r) args s 0 0 (Ap g)) 6 g (Ap g) S 11 [(0, .ref (ad g c0)), (1, .ref (ad g a1)), (2, .ref (ad g a2)), (3, .int l3)] [] := by
  intro n
  induction n with
  | zero => intro l3 S h; rw [f_X3_read_L11] at h; cases h
  | succ n ih =>
    intro l3 S h
    rw [f_X3_read_L11] at h
    refine wa_iload_n cx (i := 3) dX3_read_11 rfl rfl ?_
    refine wa_sipush cx dX3_read_12 (300 : Int32) (by decide) ?_
    refine wa_icmp_ge cx dX3_read_15 85 (by decide) (fun q5 => ?_) (fun q5 => ?_)
    · rw [if_pos q5] at h
      refine wa_sub (lv' := [(1, .ref (ad g a1)), (2, .ref (ad g a2))]) (lvs_c rfl (lvs_c rfl (lvs_n))) ?_
      exact w_X3_read_J85 cx h_c0 h_a1 h_a2   S  h
    · rw [if_neg q5] at h
      refine wa_aload_n cx (i := 0) dX3_read_18 rfl rfl ?_
      refine gf_X3_20 cx h_c0 dX3_read_19 ?_
      refine wa_aload_n cx (i := 1) dX3_read_22 rfl rfl ?_
      refine gf_X3_26 cx h_a1 dX3_read_23 ?_
      refine wa_icmp_ge cx dX3_read_26 85 (by decide) (fun q6 => ?_) (fun q6 => ?_)
      · rw [if_pos q6] at h
        refine wa_sub (lv' := [(1, .ref (ad g a1)), (2, .ref (ad g a2))]) (lvs_c rfl (lvs_c rfl (lvs_n))) ?_
        exact w_X3_read_J85 cx h_c0 h_a1 h_a2   S  h
      · rw [if_neg q6] at h
        refine wa_aload_n cx (i := 0) dX3_read_29 rfl rfl ?_
        refine gf_X3_20 cx h_c0 dX3_read_30 ?_
        replace h := sq_eq h
        generalize (S.1 c0 1) = x7 at h ⊢
        refine wa_istore cx dX3_read_33 [(0, .ref (ad g c0)), (1, .ref (ad g a1)), (2, .ref (ad g a2)), (3, .int l3), (4, .int x7)] (Nat.le_of_ble_eq_true rfl) rfl (lvs_c rfl (lvs_c rfl (lvs_c rfl (lvs_c rfl (lvs_c rfl (lvs_n)))))) ?_
        refine wa_aload_n cx (i := 1) dX3_read_35 rfl rfl ?_
        refine wa_iload cx dX3_read_36 rfl ?_
        obtain ⟨x8, S9, e10, h⟩ := bd_some h
        refine wa_callVi cx (m_X7_byteAt l cx.2.2.2.2.2.2.1 h_a1 e10) vl_X3_29 h_a1 (by decide) rfl rfl ⟨_, cell_eq7 (kd_lt h_a1 (by decide)).2⟩ ⟨Nat.le_of_ble_eq_true rfl, Nat.le_of_ble_eq_true rfl⟩ ⟨rfl, rfl⟩ ⟨Nat.zero_le _, Nat.zero_le _⟩ rfl (Nat.le_of_ble_eq_true rfl) dX3_read_38 rfl ?_
        refine wa_istore cx dX3_read_41 [(0, .ref (ad g c0)), (1, .ref (ad g a1)), (2, .ref (ad g a2)), (3, .int l3), (4, .int x7), (5, .int x8)] (Nat.le_of_ble_eq_true rfl) rfl (lvs_c rfl (lvs_c rfl (lvs_c rfl (lvs_c rfl (lvs_c rfl (lvs_c rfl (lvs_n))))))) ?_
        refine wa_aload_n cx (i := 0) dX3_read_43 rfl rfl ?_
        refine wa_dup cx dX3_read_44 rfl ?_
        refine gf_X3_20 cx h_c0 dX3_read_45 ?_
        refine wa_iconst cx dX3_read_48 (1 : Int32) (by decide) ?_
        refine wa_iadd cx dX3_read_49 ?_
        refine pf_X3_20 cx h_c0 dX3_read_50 ?_
        replace h := sq_eq h
        generalize (pI S9 c0 1 ((S9.1 c0 1) + (1 : Int32))) = S11 at h ⊢
        refine wa_aload_n cx (i := 0) dX3_read_53 rfl rfl ?_
        refine wa_aload_n cx (i := 1) dX3_read_54 rfl rfl ?_
        refine wa_iload cx dX3_read_55 rfl ?_
        obtain ⟨x12, S13, e14, h⟩ := bd_some h
        refine wa_callSi cx (m_X3_numbersOf l cx.2.2.2.2.2.2.1  e14) vl_X3_33 ⟨Nat.le_of_ble_eq_true rfl, Nat.le_of_ble_eq_true rfl⟩ ⟨rfl, rfl⟩ ⟨Nat.zero_le _, Nat.zero_le _⟩ rfl (Nat.le_of_ble_eq_true rfl) dX3_read_57 rfl ?_
        obtain ⟨x15, S16, e17, h⟩ := bd_some h
        refine wa_callVi cx (m_X3_readNumbers l cx.2.2.2.2.2.2.1 h_c0 h_a1 e17) vl_X3_36 h_c0 (by decide) rfl rfl ⟨_, cell_eq3 (kd_lt h_c0 (by decide)).2⟩ ⟨Nat.le_of_ble_eq_true rfl, Nat.le_of_ble_eq_true rfl⟩ ⟨rfl, rfl⟩ ⟨Nat.zero_le _, Nat.zero_le _⟩ rfl (Nat.le_of_ble_eq_true rfl) dX3_read_60 rfl ?_
        refine wa_if_eq cx dX3_read_63 76 (by decide) (fun q18 => ?_) (fun q18 => ?_)
        · rw [if_pos q18] at h
          refine wa_iload cx dX3_read_76 rfl ?_
          exact wa_iret cx h dX3_read_78
        · rw [if_neg q18] at h
          refine wa_aload_n cx (i := 0) dX3_read_66 rfl rfl ?_
          refine wa_iload cx dX3_read_67 rfl ?_
          refine wa_aload_n cx (i := 2) dX3_read_69 rfl rfl ?_
          obtain ⟨x19, S20, e21, h⟩ := bd_some h
          refine wa_callVi cx (m_X3_take l cx.2.2.2.2.2.2.1 h_c0 h_a2 e21) vl_X3_40 h_c0 (by decide) rfl rfl ⟨_, cell_eq3 (kd_lt h_c0 (by decide)).2⟩ ⟨Nat.le_of_ble_eq_true rfl, Nat.le_of_ble_eq_true rfl⟩ ⟨rfl, rfl⟩ ⟨Nat.zero_le _, Nat.zero_le _⟩ rfl (Nat.le_of_ble_eq_true rfl) dX3_read_70 rfl ?_
          refine wa_if_ne cx dX3_read_73 79 (by decide) (fun q22 => ?_) (fun q22 => ?_)
          · rw [if_neg q22] at h
            refine wa_iinc cx dX3_read_79 (l3 + (1 : Int32)) [(0, .ref (ad g c0)), (1, .ref (ad g a1)), (2, .ref (ad g a2)), (3, .int (l3 + (1 : Int32)))] rfl rfl (Nat.le_of_ble_eq_true rfl) rfl (lvs_c rfl (lvs_c rfl (lvs_c rfl (lvs_c rfl (lvs_n))))) ?_
            refine wa_goto cx dX3_read_82 11 (by decide) ?_
            refine wa_sub (lv' := [(0, .ref (ad g c0)), (1, .ref (ad g a1)), (2, .ref (ad g a2)), (3, .int (l3 + (1 : Int32)))]) (lvs_c rfl (lvs_c rfl (lvs_c rfl (lvs_c rfl (lvs_n))))) ?_
            exact ih (l3 + (1 : Int32)) S20  h
          · rw [if_pos q22] at h
            refine wa_iload cx dX3_read_76 rfl ?_
            exact wa_iret cx h dX3_read_78
def f_X3_read (c0 : Nat) (a1 : Nat) (a2 : Nat) (S : St) : Option (Int32 × St) := bd (f_X2_clear a2 S) fun _ S23 => sq (pI S23 c0 1 (0 : Int32)) fun S26 => f_X3_read_L11 FU c0 a1 a2 (0 : Int32) S26
set_option maxHeartbeats 4000000 in
set_option maxRecDepth 100000 in
theorem m_X3_read (l : Launch) {g : Gl} (hg : GOK g) {c0 : Nat} {a1 : Nat} {a2 : Nat} {S : St} {r : Int32 × St} (h_c0 : kd g c0 = 3) (h_a1 : kd g a1 = 7) (h_a2 : kd g a2 = 2) (h : f_X3_read c0 a1 a2 S = some r) : MW l yX3_read cX3_read 6 (some .int) rm_X3_read g S [.ref (ad g c0), .ref (ad g a1), .ref (ad g a2)] (QWi g r) := by
  refine startW [(0, .ref (ad g c0)), (1, .ref (ad g a1)), (2, .ref (ad g a2))] (by decide +kernel) (Nat.le_of_ble_eq_true rfl) rfl hg (fun p e s m args below meth c cx => ?_)
  have cx : Cx p s m args meth c cX3_read 6 (some .int) RX3 g (Ap g) := cx
  rw [f_X3_read] at h
  refine wa_aload_n cx (i := 2) dX3_read_0 rfl rfl ?_
  obtain ⟨u25, S23, e24, h⟩ := bd_some h
  refine wa_callVv cx (m_X2_clear l cx.2.2.2.2.2.2.1 h_a2 e24) vl_X3_15 h_a2 (by decide) rfl rfl ⟨_, cell_eq2 (kd_lt h_a2 (by decide)).2⟩ ⟨Nat.le_of_ble_eq_true rfl, Nat.le_of_ble_eq_true rfl⟩ ⟨rfl, rfl⟩ ⟨Nat.zero_le _, Nat.zero_le _⟩ rfl (Nat.le_of_ble_eq_true rfl) dX3_read_1 rfl ?_
  refine wa_aload_n cx (i := 0) dX3_read_4 rfl rfl ?_
  refine wa_iconst cx dX3_read_5 (0 : Int32) (by decide) ?_
  refine pf_X3_20 cx h_c0 dX3_read_6 ?_
  replace h := sq_eq h
  generalize (pI S23 c0 1 (0 : Int32)) = S26 at h ⊢
  refine wa_iconst cx dX3_read_9 (0 : Int32) (by decide) ?_
  refine wa_istore_n cx (i := 3) dX3_read_10 [(0, .ref (ad g c0)), (1, .ref (ad g a1)), (2, .ref (ad g a2)), (3, .int (0 : Int32))] rfl (Nat.le_of_ble_eq_true rfl) rfl (lvs_c rfl (lvs_c rfl (lvs_c rfl (lvs_c rfl (lvs_n))))) ?_
  refine wa_sub (lv' := [(0, .ref (ad g c0)), (1, .ref (ad g a1)), (2, .ref (ad g a2)), (3, .int (0 : Int32))]) (lvs_c rfl (lvs_c rfl (lvs_c rfl (lvs_c rfl (lvs_n))))) ?_
  exact w_X3_read_L11 cx h_c0 h_a1 h_a2  FU (0 : Int32) S26  h
def rm_X4_take : Room := { frames := 1, cells := 0, slots := 0, locals := 21 }
def f_X4_take_L31 : Nat → Nat → Nat → Nat → Int32 → St → Option (Unit × St)
  | 0, _, _, _, _, _ => none
  | n + 1, c0, a1, a2, l3, S => ck (kdE (S.2.2 c0 0) = 0) (if (S.1 (S.2.2 c0 0) 0) ≤ l3 then some ((), S) else ck (kdE (S.2.2 c0 0) = 0) (ob l3 8 (ck (kdE (S.2.2 c0 0) = 0) (ob l3 8 (ob l3 8 (sq (pI S (c0 + 12) (Int32.toNatClampNeg l3) (imin (S.1 ((S.2.2 c0 0) + 6) (Int32.toNatClampNeg l3)) (S.1 ((S.2.2 c0 0) + 4) (Int32.toNatClampNeg l3)))) fun S8 => f_X4_take_L31 n c0 a1 a2 (l3 + (1 : Int32)) S8))))))
set_option maxHeartbeats 4000000 in
set_option maxRecDepth 100000 in
theorem w_X4_take_L31 {p : Program} {l : Launch} {e : Env} {s : State} {m : MethodId} {args : Array Value} {below : List Frame} {meth : Method} {c : Code} {g : Gl} {r : Unit × St} {c0 : Nat} {a1 : Nat} {a2 : Nat} (cx : Cx p s m args meth c cX4_take 4 none RX4 g (Ap g)) (h_c0 : kd g c0 = 4) (h_a1 : kd g a1 = 2) (h_a2 : kd g a2 = 0) : ∀ n : Nat, ∀ (l3 : Int32) (S : St), f_X4_take_L31 n c0 a1 a2 l3 S = some r → WA p l e rm_X4_take s m args below meth c 0 0 (MQ below (QWv g r) args s 0 0 (Ap g)) 4 g (Ap g) S 31 [(0, .ref (ad g c0)), (3, .int l3)] [] := by
  intro n
  induction n with
  | zero => intro l3 S h; rw [f_X4_take_L31] at h; cases h
  | succ n ih =>
    intro l3 S h
    rw [f_X4_take_L31] at h
    refine wa_iload_n cx (i := 3) dX4_take_31 rfl rfl ?_
    refine wa_aload_n cx (i := 0) dX4_take_32 rfl rfl ?_
    obtain ⟨b1, h⟩ := ck_some h
    refine gf_X4_12 cx h_c0 dX4_take_33 ?_
    refine gf_X4_43 cx (kd_of cx.2.2.2.2.2.2.1 b1 (by decide)) dX4_take_36 ?_
    refine wa_icmp_ge cx dX4_take_39 75 (by decide) (fun q2 => ?_) (fun q2 => ?_)
    · rw [if_pos q2] at h
      exact wa_vret cx h dX4_take_75
    · rw [if_neg q2] at h
      refine wa_aload_n cx (i := 0) dX4_take_42 rfl rfl ?_
      refine gf_X4_20 cx h_c0 dX4_take_43 ?_
      refine wa_iload_n cx (i := 3) dX4_take_46 rfl rfl ?_
      refine wa_aload_n cx (i := 0) dX4_take_47 rfl rfl ?_
      obtain ⟨b3, h⟩ := ck_some h
      refine gf_X4_12 cx h_c0 dX4_take_48 ?_
      refine gf_X4_46 cx (kd_of cx.2.2.2.2.2.2.1 b3 (by decide)) dX4_take_51 ?_
      refine wa_iload_n cx (i := 3) dX4_take_54 rfl rfl ?_
      obtain ⟨b4, h⟩ := ob_some h
      refine wa_iald cx dX4_take_55 (kq0_6 cx.2.2.2.2.2.2.1 (kd_of cx.2.2.2.2.2.2.1 b3 (by decide))) b4 ?_
      refine wa_aload_n cx (i := 0) dX4_take_56 rfl rfl ?_
      obtain ⟨b5, h⟩ := ck_some h
      refine gf_X4_12 cx h_c0 dX4_take_57 ?_
      refine gf_X4_49 cx (kd_of cx.2.2.2.2.2.2.1 b5 (by decide)) dX4_take_60 ?_
      refine wa_iload_n cx (i := 3) dX4_take_63 rfl rfl ?_
      obtain ⟨b6, h⟩ := ob_some h
      refine wa_iald cx dX4_take_64 (kq0_4 cx.2.2.2.2.2.2.1 (kd_of cx.2.2.2.2.2.2.1 b5 (by decide))) b6 ?_
      refine wa_mmin cx dX4_take_65 ml_X4_52 mmin_s m_i mmin_c ⟨Nat.le_of_ble_eq_true rfl, Nat.le_of_ble_eq_true rfl⟩ ⟨Nat.zero_le _, Nat.zero_le _⟩ ?_
      obtain ⟨b7, h⟩ := ob_some h
      refine wa_iast cx dX4_take_68 (kq4_4 cx.2.2.2.2.2.2.1 h_c0) b7 ?_
      replace h := sq_eq h
      generalize (pI S (c0 + 12) (Int32.toNatClampNeg l3) (imin (S.1 ((S.2.2 c0 0) + 6) (Int32.toNatClampNeg l3)) (S.1 ((S.2.2 c0 0) + 4) (Int32.toNatClampNeg l3)))) = S8 at h ⊢
      refine wa_iinc cx dX4_take_69 (l3 + (1 : Int32)) [(0, .ref (ad g c0)), (3, .int (l3 + (1 : Int32)))] rfl rfl (Nat.le_of_ble_eq_true rfl) rfl (lvs_c rfl (lvs_c rfl (lvs_n))) ?_
      refine wa_goto cx dX4_take_72 31 (by decide) ?_
      refine wa_sub (lv' := [(0, .ref (ad g c0)), (3, .int (l3 + (1 : Int32)))]) (lvs_c rfl (lvs_c rfl (lvs_n))) ?_
      exact ih (l3 + (1 : Int32)) S8  h
def f_X4_take (c0 : Nat) (a1 : Nat) (a2 : Nat) (S : St) : Option (Unit × St) := sq (pR S c0 0 a2) fun S9 => sq (pI S9 c0 1 (S9.1 a1 0)) fun S10 => sq (pI S10 c0 2 (S10.1 a1 1)) fun S11 => sq (pI S11 c0 3 (S11.1 a1 4)) fun S12 => f_X4_take_L31 FU c0 a1 a2 (0 : Int32) S12
set_option maxHeartbeats 4000000 in
set_option maxRecDepth 100000 in
theorem m_X4_take (l : Launch) {g : Gl} (hg : GOK g) {c0 : Nat} {a1 : Nat} {a2 : Nat} {S : St} {r : Unit × St} (h_c0 : kd g c0 = 4) (h_a1 : kd g a1 = 2) (h_a2 : kd g a2 = 0) (h : f_X4_take c0 a1 a2 S = some r) : MW l yX4_take cX4_take 4 none rm_X4_take g S [.ref (ad g c0), .ref (ad g a1), .ref (ad g a2)] (QWv g r) := by
  refine startW [(0, .ref (ad g c0)), (1, .ref (ad g a1)), (2, .ref (ad g a2))] (by decide +kernel) (Nat.le_of_ble_eq_true rfl) rfl hg (fun p e s m args below meth c cx => ?_)
  have cx : Cx p s m args meth c cX4_take 4 none RX4 g (Ap g) := cx
  rw [f_X4_take] at h
  refine wa_aload_n cx (i := 0) dX4_take_0 rfl rfl ?_
  refine wa_aload_n cx (i := 2) dX4_take_1 rfl rfl ?_
  refine pf_X4_12 cx h_c0 dX4_take_2 ?_
  replace h := sq_eq h
  generalize (pR S c0 0 a2) = S9 at h ⊢
  refine wa_aload_n cx (i := 0) dX4_take_5 rfl rfl ?_
  refine wa_aload_n cx (i := 1) dX4_take_6 rfl rfl ?_
  refine gf_X4_28 cx h_a1 dX4_take_7 ?_
  refine pf_X4_34 cx h_c0 dX4_take_10 ?_
  replace h := sq_eq h
  generalize (pI S9 c0 1 (S9.1 a1 0)) = S10 at h ⊢
  refine wa_aload_n cx (i := 0) dX4_take_13 rfl rfl ?_
  refine wa_aload_n cx (i := 1) dX4_take_14 rfl rfl ?_
  refine gf_X4_35 cx h_a1 dX4_take_15 ?_
  refine pf_X4_38 cx h_c0 dX4_take_18 ?_
  replace h := sq_eq h
  generalize (pI S10 c0 2 (S10.1 a1 1)) = S11 at h ⊢
  refine wa_aload_n cx (i := 0) dX4_take_21 rfl rfl ?_
  refine wa_aload_n cx (i := 1) dX4_take_22 rfl rfl ?_
  refine gf_X4_39 cx h_a1 dX4_take_23 ?_
  refine pf_X4_42 cx h_c0 dX4_take_26 ?_
  replace h := sq_eq h
  generalize (pI S11 c0 3 (S11.1 a1 4)) = S12 at h ⊢
  refine wa_iconst cx dX4_take_29 (0 : Int32) (by decide) ?_
  refine wa_istore_n cx (i := 3) dX4_take_30 [(0, .ref (ad g c0)), (3, .int (0 : Int32))] rfl (Nat.le_of_ble_eq_true rfl) rfl (lvs_c rfl (lvs_c rfl (lvs_n))) ?_
  refine wa_sub (lv' := [(0, .ref (ad g c0)), (3, .int (0 : Int32))]) (lvs_c rfl (lvs_c rfl (lvs_n))) ?_
  exact w_X4_take_L31 cx h_c0 h_a1 h_a2  FU (0 : Int32) S12  h
def rm_X4_clearTable : Room := { frames := 1, cells := 0, slots := 0, locals := 24 }
def f_X4_clearTable (c0 : Nat) (S : St) : Option (Unit × St) := bd (f_J7_fill_d0a16 (c0 + 13) (0 : Int64) S) fun _ S1 => sq (pJ S1 (c0 + 13) (Int32.toNatClampNeg (0 : Int32)) (1 : Int64)) fun S4 => some ((), S4)
set_option maxHeartbeats 4000000 in
set_option maxRecDepth 100000 in
theorem m_X4_clearTable (l : Launch) {g : Gl} (hg : GOK g) {c0 : Nat} {S : St} {r : Unit × St} (h_c0 : kd g c0 = 4) (h : f_X4_clearTable c0 S = some r) : MW l yX4_clearTable cX4_clearTable 1 none rm_X4_clearTable g S [.ref (ad g c0)] (QWv g r) := by
  refine startW [(0, .ref (ad g c0))] (by decide +kernel) (Nat.le_of_ble_eq_true rfl) rfl hg (fun p e s m args below meth c cx => ?_)
  have cx : Cx p s m args meth c cX4_clearTable 1 none RX4 g (Ap g) := cx
  rw [f_X4_clearTable] at h
  refine wa_aload_n cx (i := 0) dX4_clearTable_0 rfl rfl ?_
  refine gf_X4_24 cx h_c0 dX4_clearTable_1 ?_
  refine wa_lconst cx dX4_clearTable_4 (0 : Int64) (by decide) ?_
  obtain ⟨u3, S1, e2, h⟩ := bd_some h
  refine wa_callSv cx (m_J7_fill_d0a16 l cx.2.2.2.2.2.2.1 ⟨(kq4_5 cx.2.2.2.2.2.2.1 h_c0).1, rfl⟩ e2) vl_X4_58 ⟨Nat.le_of_ble_eq_true rfl, Nat.le_of_ble_eq_true rfl⟩ ⟨rfl, rfl⟩ ⟨Nat.zero_le _, Nat.zero_le _⟩ rfl (Nat.le_of_ble_eq_true rfl) dX4_clearTable_5 rfl ?_
  refine wa_aload_n cx (i := 0) dX4_clearTable_8 rfl rfl ?_
  refine gf_X4_24 cx h_c0 dX4_clearTable_9 ?_
  refine wa_iconst cx dX4_clearTable_12 (0 : Int32) (by decide) ?_
  refine wa_lconst cx dX4_clearTable_13 (1 : Int64) (by decide) ?_
  refine wa_last cx dX4_clearTable_14 (kq4_5 cx.2.2.2.2.2.2.1 h_c0) (vinl (by decide)) ?_
  replace h := sq_eq h
  generalize (pJ S1 (c0 + 13) (Int32.toNatClampNeg (0 : Int32)) (1 : Int64)) = S4 at h ⊢
  exact wa_vret cx h dX4_clearTable_15
def rm_X4_join : Room := { frames := 0, cells := 0, slots := 0, locals := 0 }
def f_X4_join_J120 (c0 : Nat) (a1 : Int32) (a2 : Int32) (a3 : Int32) (a4 : Int32) (a5 : Int32) (kb31 : Int32 → St → Option (Unit × St)) (kb49 : Int32 → Int32 → Int64 → Int32 → St → Option (Unit × St)) (l6 : Int32) (l7 : Int32) (l8 : Int64) (l10 : Int32) (S : St) : Option (Unit × St) := if a3 = 0 then ob (l7 + l10) 549 (sq (pJ S (c0 + 13) (Int32.toNatClampNeg (l7 + l10)) (l8 + (0 : Int64))) fun S3 => kb49 l6 l7 l8 (l10 + (1 : Int32)) S3) else ob (l7 + l10) 549 (ob (l7 + l10) 549 (sq (pJ S (c0 + 13) (Int32.toNatClampNeg (l7 + l10)) (l8 + (S.2.1 (c0 + 13) (Int32.toNatClampNeg (l7 + l10))))) fun S6 => kb49 l6 l7 l8 (l10 + (1 : Int32)) S6))
set_option maxHeartbeats 4000000 in
set_option maxRecDepth 100000 in
theorem w_X4_join_J120 {p : Program} {l : Launch} {e : Env} {s : State} {m : MethodId} {args : Array Value} {below : List Frame} {meth : Method} {c : Code} {g : Gl} {r : Unit × St} {c0 : Nat} {a1 : Int32} {a2 : Int32} {a3 : Int32} {a4 : Int32} {a5 : Int32} {kb31 : Int32 → St → Option (Unit × St)} {kb49 : Int32 → Int32 → Int64 → Int32 → St → Option (Unit × St)} (cx : Cx p s m args meth c cX4_join 11 none RX4 g (Ap g)) (h_c0 : kd g c0 = 4) (hkb31 : ∀ (l6 : Int32) (S : St), kb31 l6 S = some r → WA p l e rm_X4_join s m args below meth c 0 0 (MQ below (QWv g r) args s 0 0 (Ap g)) 11 g (Ap g) S 31 [(0, .ref (ad g c0)), (1, .int a1), (2, .int a2), (3, .int a3), (4, .int a4), (6, .int l6)] []) (hkb49 : ∀ (l6 : Int32) (l7 : Int32) (l8 : Int64) (l10 : Int32) (S : St), kb49 l6 l7 l8 l10 S = some r → WA p l e rm_X4_join s m args below meth c 0 0 (MQ below (QWv g r) args s 0 0 (Ap g)) 11 g (Ap g) S 49 [(0, .ref (ad g c0)), (1, .int a1), (2, .int a2), (3, .int a3), (4, .int a4), (6, .int l6), (7, .int l7), (8, .long l8), (10, .int l10)] []) : ∀ (l6 : Int32) (l7 : Int32) (l8 : Int64) (l10 : Int32) (S : St), f_X4_join_J120 c0 a1 a2 a3 a4 a5 kb31 kb49 l6 l7 l8 l10 S = some r → WA p l e rm_X4_join s m args below meth c 0 0 (MQ below (QWv g r) args s 0 0 (Ap g)) 11 g (Ap g) S 120 [(0, .ref (ad g c0)), (1, .int a1), (2, .int a2), (3, .int a3), (4, .int a4), (6, .int l6), (7, .int l7), (8, .long l8), (10, .int l10)] [] := by
  intro l6 l7 l8 l10 S h
  rw [f_X4_join_J120] at h
  refine wa_aload_n cx (i := 0) dX4_join_120 rfl rfl ?_
  refine gf_X4_24 cx h_c0 dX4_join_121 ?_
  refine wa_iload cx dX4_join_124 rfl ?_
  refine wa_iload cx dX4_join_126 rfl ?_
  refine wa_iadd cx dX4_join_128 ?_
  refine wa_lload cx dX4_join_129 rfl ?_
  refine wa_iload_n cx (i := 3) dX4_join_131 rfl rfl ?_
  refine wa_if_eq cx dX4_join_132 148 (by decide) (fun q1 => ?_) (fun q1 => ?_)
  · rw [if_pos q1] at h
    refine wa_lconst cx dX4_join_148 (0 : Int64) (by decide) ?_
    refine wa_ladd cx dX4_join_149 ?_
    obtain ⟨b2, h⟩ := ob_some h
    refine wa_last cx dX4_join_150 (kq4_5 cx.2.2.2.2.2.2.1 h_c0) b2 ?_
    replace h := sq_eq h
    generalize (pJ S (c0 + 13) (Int32.toNatClampNeg (l7 + l10)) (l8 + (0 : Int64))) = S3 at h ⊢
    refine wa_iinc cx dX4_join_151 (l10 + (1 : Int32)) [(0, .ref (ad g c0)), (1, .int a1), (2, .int a2), (3, .int a3), (4, .int a4), (6, .int l6), (7, .int l7), (8, .long l8), (10, .int (l10 + (1 : Int32)))] rfl rfl (Nat.le_of_ble_eq_true rfl) rfl (lvs_c rfl (lvs_c rfl (lvs_c rfl (lvs_c rfl (lvs_c rfl (lvs_c rfl (lvs_c rfl (lvs_c rfl (lvs_c rfl (lvs_n)))))))))) ?_
    refine wa_goto cx dX4_join_154 49 (by decide) ?_
    refine wa_sub (lv' := [(0, .ref (ad g c0)), (1, .int a1), (2, .int a2), (3, .int a3), (4, .int a4), (6, .int l6), (7, .int l7), (8, .long l8), (10, .int (l10 + (1 : Int32)))]) (lvs_c rfl (lvs_c rfl (lvs_c rfl (lvs_c rfl (lvs_c rfl (lvs_c rfl (lvs_c rfl (lvs_c rfl (lvs_c rfl (lvs_n)))))))))) ?_
    exact hkb49 l6 l7 l8 (l10 + (1 : Int32)) S3  h
  · rw [if_neg q1] at h
    refine wa_aload_n cx (i := 0) dX4_join_135 rfl rfl ?_
    refine gf_X4_24 cx h_c0 dX4_join_136 ?_
    refine wa_iload cx dX4_join_139 rfl ?_
    refine wa_iload cx dX4_join_141 rfl ?_
    refine wa_iadd cx dX4_join_143 ?_
    obtain ⟨b4, h⟩ := ob_some h
    refine wa_lald cx dX4_join_144 (kq4_5 cx.2.2.2.2.2.2.1 h_c0) b4 ?_
    refine wa_goto cx dX4_join_145 149 (by decide) ?_
    refine wa_ladd cx dX4_join_149 ?_
    obtain ⟨b5, h⟩ := ob_some h
    refine wa_last cx dX4_join_150 (kq4_5 cx.2.2.2.2.2.2.1 h_c0) b5 ?_
    replace h := sq_eq h
    generalize (pJ S (c0 + 13) (Int32.toNatClampNeg (l7 + l10)) (l8 + (S.2.1 (c0 + 13) (Int32.toNatClampNeg (l7 + l10))))) = S6 at h ⊢
    refine wa_iinc cx dX4_join_151 (l10 + (1 : Int32)) [(0, .ref (ad g c0)), (1, .int a1), (2, .int a2), (3, .int a3), (4, .int a4), (6, .int l6), (7, .int l7), (8, .long l8), (10, .int (l10 + (1 : Int32)))] rfl rfl (Nat.le_of_ble_eq_true rfl) rfl (lvs_c rfl (lvs_c rfl (lvs_c rfl (lvs_c rfl (lvs_c rfl (lvs_c rfl (lvs_c rfl (lvs_c rfl (lvs_c rfl (lvs_n)))))))))) ?_
    refine wa_goto cx dX4_join_154 49 (by decide) ?_
    refine wa_sub (lv' := [(0, .ref (ad g c0)), (1, .int a1), (2, .int a2), (3, .int a3), (4, .int a4), (6, .int l6), (7, .int l7), (8, .long l8), (10, .int (l10 + (1 : Int32)))]) (lvs_c rfl (lvs_c rfl (lvs_c rfl (lvs_c rfl (lvs_c rfl (lvs_c rfl (lvs_c rfl (lvs_c rfl (lvs_c rfl (lvs_n)))))))))) ?_
    exact hkb49 l6 l7 l8 (l10 + (1 : Int32)) S6  h
def f_X4_join_J87 (c0 : Nat) (a1 : Int32) (a2 : Int32) (a3 : Int32) (a4 : Int32) (a5 : Int32) (kb31 : Int32 → St → Option (Unit × St)) (kb49 : Int32 → Int32 → Int64 → Int32 → St → Option (Unit × St)) (l6 : Int32) (l7 : Int32) (l8 : Int64) (l10 : Int32) (S : St) : Option (Unit × St) := if l6 ≤ 0 then f_X4_join_J120 c0 a1 a2 a3 a4 a5 kb31 kb49 l6 l7 l8 l10 S else if l10 ≤ a2 then f_X4_join_J120 c0 a1 a2 a3 a4 a5 kb31 kb49 l6 l7 l8 l10 S else ob ((((l7 - (61 : Int32)) + l10) - a2) - (1 : Int32)) 549 (sq (l8 - (S.2.1 (c0 + 13) (Int32.toNatClampNeg ((((l7 - (61 : Int32)) + l10) - a2) - (1 : Int32))))) fun x10 => f_X4_join_J120 c0 a1 a2 a3 a4 a5 kb31 kb49 l6 l7 x10 l10 S)
set_option maxHeartbeats 4000000 in
set_option maxRecDepth 100000 in
theorem w_X4_join_J87 {p : Program} {l : Launch} {e : Env} {s : State} {m : MethodId} {args : Array Value} {below : List Frame} {meth : Method} {c : Code} {g : Gl} {r : Unit × St} {c0 : Nat} {a1 : Int32} {a2 : Int32} {a3 : Int32} {a4 : Int32} {a5 : Int32} {kb31 : Int32 → St → Option (Unit × St)} {kb49 : Int32 → Int32 → Int64 → Int32 → St → Option (Unit × St)} (cx : Cx p s m args meth c cX4_join 11 none RX4 g (Ap g)) (h_c0 : kd g c0 = 4) (hkb31 : ∀ (l6 : Int32) (S : St), kb31 l6 S = some r → WA p l e rm_X4_join s m args below meth c 0 0 (MQ below (QWv g r) args s 0 0 (Ap g)) 11 g (Ap g) S 31 [(0, .ref (ad g c0)), (1, .int a1), (2, .int a2), (3, .int a3), (4, .int a4), (6, .int l6)] []) (hkb49 : ∀ (l6 : Int32) (l7 : Int32) (l8 : Int64) (l10 : Int32) (S : St), kb49 l6 l7 l8 l10 S = some r → WA p l e rm_X4_join s m args below meth c 0 0 (MQ below (QWv g r) args s 0 0 (Ap g)) 11 g (Ap g) S 49 [(0, .ref (ad g c0)), (1, .int a1), (2, .int a2), (3, .int a3), (4, .int a4), (6, .int l6), (7, .int l7), (8, .long l8), (10, .int l10)] []) : ∀ (l6 : Int32) (l7 : Int32) (l8 : Int64) (l10 : Int32) (S : St), f_X4_join_J87 c0 a1 a2 a3 a4 a5 kb31 kb49 l6 l7 l8 l10 S = some r → WA p l e rm_X4_join s m args below meth c 0 0 (MQ below (QWv g r) args s 0 0 (Ap g)) 11 g (Ap g) S 87 [(0, .ref (ad g c0)), (1, .int a1), (2, .int a2), (3, .int a3), (4, .int a4), (6, .int l6), (7, .int l7), (8, .long l8), (10, .int l10)] [] := by
  intro l6 l7 l8 l10 S h
  rw [f_X4_join_J87] at h
  refine wa_iload cx dX4_join_87 rfl ?_
  refine wa_if_le cx dX4_join_89 120 (by decide) (fun q7 => ?_) (fun q7 => ?_)
  · rw [if_pos q7] at h
    refine wa_sub (lv' := [(0, .ref (ad g c0)), (1, .int a1), (2, .int a2), (3, .int a3), (4, .int a4), (6, .int l6), (7, .int l7), (8, .long l8), (10, .int l10)]) (lvs_c rfl (lvs_c rfl (lvs_c rfl (lvs_c rfl (lvs_c rfl (lvs_c rfl (lvs_c rfl (lvs_c rfl (lvs_c rfl (lvs_n)))))))))) ?_
    exact w_X4_join_J120 cx h_c0 hkb31 hkb49  l6 l7 l8 l10 S  h
  · rw [if_neg q7] at h
    refine wa_iload cx dX4_join_92 rfl ?_
    refine wa_iload_n cx (i := 2) dX4_join_94 rfl rfl ?_
    refine wa_icmp_le cx dX4_join_95 120 (by decide) (fun q8 => ?_) (fun q8 => ?_)
    · rw [if_pos q8] at h
      refine wa_sub (lv' := [(0, .ref (ad g c0)), (1, .int a1), (2, .int a2), (3, .int a3), (4, .int a4), (6, .int l6), (7, .int l7), (8, .long l8), (10, .int l10)]) (lvs_c rfl (lvs_c rfl (lvs_c rfl (lvs_c rfl (lvs_c rfl (lvs_c rfl (lvs_c rfl (lvs_c rfl (lvs_c rfl (lvs_n)))))))))) ?_
      exact w_X4_join_J120 cx h_c0 hkb31 hkb49  l6 l7 l8 l10 S  h
    · rw [if_neg q8] at h
      refine wa_lload cx dX4_join_98 rfl ?_
      refine wa_aload_n cx (i := 0) dX4_join_100 rfl rfl ?_
      refine gf_X4_24 cx h_c0 dX4_join_101 ?_
      refine wa_iload cx dX4_join_104 rfl ?_
      refine wa_bipush cx dX4_join_106 (61 : Int32) (by decide) ?_
      refine wa_isub cx dX4_join_108 ?_
      refine wa_iload cx dX4_join_109 rfl ?_
      refine wa_iadd cx dX4_join_111 ?_
      refine wa_iload_n cx (i := 2) dX4_join_112 rfl rfl ?_
      refine wa_isub cx dX4_join_113 ?_
      refine wa_iconst cx dX4_join_114 (1 : Int32) (by decide) ?_
      refine wa_isub cx dX4_join_115 ?_
      obtain ⟨b9, h⟩ := ob_some h
      refine wa_lald cx dX4_join_116 (kq4_5 cx.2.2.2.2.2.2.1 h_c0) b9 ?_
      refine wa_lsub cx dX4_join_117 ?_
      replace h := sq_eq h
      generalize (l8 - (S.2.1 (c0 + 13) (Int32.toNatClampNeg ((((l7 - (61 : Int32)) + l10) - a2) - (1 : Int32))))) = x10 at h ⊢
      refine wa_lstore cx dX4_join_118 [(0, .ref (ad g c0)), (1, .int a1), (2, .int a2), (3, .int a3), (4, .int a4), (6, .int l6), (7, .int l7), (8, .long x10), (10, .int l10)] (Nat.le_of_ble_eq_true rfl) rfl (lvs_c rfl (lvs_c rfl (lvs_c rfl (lvs_c rfl (lvs_c rfl (lvs_c rfl (lvs_c rfl (lvs_c rfl (lvs_c rfl (lvs_n)))))))))) ?_
      refine wa_sub (lv' := [(0, .ref (ad g c0)), (1, .int a1), (2, .int a2), (3, .int a3), (4, .int a4), (6, .int l6), (7, .int l7), (8, .long x10), (10, .int l10)]) (lvs_c rfl (lvs_c rfl (lvs_c rfl (lvs_c rfl (lvs_c rfl (lvs_c rfl (lvs_c rfl (lvs_c rfl (lvs_c rfl (lvs_n)))))))))) ?_
      exact w_X4_join_J120 cx h_c0 hkb31 hkb49  l6 l7 x10 l10 S  h
def f_X4_join_L49 : Nat → Nat → Int32 → Int32 → Int32 → Int32 → Int32 → (Int32 → St → Option (Unit × St)) → Int32 → Int32 → Int64 → Int32 → St → Option (Unit × St)
  | 0, _, _, _, _, _, _, _, _, _, _, _, _ => none
  | n + 1, c0, a1, a2, a3, a4, a5, kb31, l6, l7, l8, l10, S => if a4 < l10 then kb31 (l6 + (-1 : Int32)) S else if l6 ≤ 0 then f_X4_join_J87 c0 a1 a2 a3 a4 a5 kb31 (fun l6 l7 l8 l10 S => f_X4_join_L49 n c0 a1 a2 a3 a4 a5 kb31 l6 l7 l8 l10 S) l6 l7 l8 l10 S else if l10 < a1 then f_X4_join_J87 c0 a1 a2 a3 a4 a5 kb31 (fun l6 l7 l8 l10 S => f_X4_join_L49 n c0 a1 a2 a3 a4 a5 kb31 l6 l7 l8 l10 S) l6 l7 l8 l10 S else ob (((l7 - (61 : Int32)) + l10) - a1) 549 (sq (l8 + (S.2.1 (c0 + 13) (Int32.toNatClampNeg (((l7 - (61 : Int32)) + l10) - a1)))) fun x15 => f_X4_join_J87 c0 a1 a2 a3 a4 a5 kb31 (fun l6 l7 l8 l10 S => f_X4_join_L49 n c0 a1 a2 a3 a4 a5 kb31 l6 l7 l8 l10 S) l6 l7 x15 l10 S)
set_option maxHeartbeats 4000000 in
set_option maxRecDepth 100000 in
theorem w_X4_join_L49 {p : Program} {l : Launch} {e : Env} {s : State} {m : MethodId} {args : Array Value} {below : List Frame} {meth : Method} {c : Code} {g : Gl} {r : Unit × St} {c0 : Nat} {a1 : Int32} {a2 : Int32} {a3 : Int32} {a4 : Int32} {a5 : Int32} {kb31 : Int32 → St → Option (Unit × St)} (cx : Cx p s m args meth c cX4_join 11 none RX4 g (Ap g)) (h_c0 : kd g c0 = 4) (hkb31 : ∀ (l6 : Int32) (S : St), kb31 l6 S = some r → WA p l e rm_X4_join s m args below meth c 0 0 (MQ below (QWv g r) args s 0 0 (Ap g)) 11 g (Ap g) S 31 [(0, .ref (ad g c0)), (1, .int a1), (2, .int a2), (3, .int a3), (4, .int a4), (6, .int l6)] []) : ∀ n : Nat, ∀ (l6 : Int32) (l7 : Int32) (l8 : Int64) (l10 : Int32) (S : St), f_X4_join_L49 n c0 a1 a2 a3 a4 a5 kb31 l6 l7 l8 l10 S = some r → WA p l e rm_X4_join s m args below meth c 0 0 (MQ below (QWv g r) args s 0 0 (Ap g)) 11 g (Ap g) S 49 [(0, .ref (ad g c0)), (1, .int a1), (2, .int a2), (3, .int a3), (4, .int a4), (6, .int l6), (7, .int l7), (8, .long l8), (10, .int l10)] [] := by
  intro n
  induction n with
  | zero => intro l6 l7 l8 l10 S h; rw [f_X4_join_L49] at h; cases h
  | succ n ih =>
    intro l6 l7 l8 l10 S h
    rw [f_X4_join_L49] at h
    refine wa_iload cx dX4_join_49 rfl ?_
    refine wa_iload cx dX4_join_51 rfl ?_
    refine wa_icmp_gt cx dX4_join_53 157 (by decide) (fun q11 => ?_) (fun q11 => ?_)
    · rw [if_pos q11] at h
      refine wa_iinc cx dX4_join_157 (l6 + (-1 : Int32)) [(0, .ref (ad g c0)), (1, .int a1), (2, .int a2), (3, .int a3), (4, .int a4), (6, .int (l6 + (-1 : Int32)))] rfl rfl (Nat.le_of_ble_eq_true rfl) rfl (lvs_c rfl (lvs_c rfl (lvs_c rfl (lvs_c rfl (lvs_c rfl (lvs_c rfl (lvs_n))))))) ?_
      refine wa_goto cx dX4_join_160 31 (by decide) ?_
      refine wa_sub (lv' := [(0, .ref (ad g c0)), (1, .int a1), (2, .int a2), (3, .int a3), (4, .int a4), (6, .int (l6 + (-1 : Int32)))]) (lvs_c rfl (lvs_c rfl (lvs_c rfl (lvs_c rfl (lvs_c rfl (lvs_c rfl (lvs_n))))))) ?_
      exact hkb31 (l6 + (-1 : Int32)) S  h
    · rw [if_neg q11] at h
      refine wa_iload cx dX4_join_56 rfl ?_
      refine wa_if_le cx dX4_join_58 87 (by decide) (fun q12 => ?_) (fun q12 => ?_)
      · rw [if_pos q12] at h
        refine wa_sub (lv' := [(0, .ref (ad g c0)), (1, .int a1), (2, .int a2), (3, .int a3), (4, .int a4), (6, .int l6), (7, .int l7), (8, .long l8), (10, .int l10)]) (lvs_c rfl (lvs_c rfl (lvs_c rfl (lvs_c rfl (lvs_c rfl (lvs_c rfl (lvs_c rfl (lvs_c rfl (lvs_c rfl (lvs_n)))))))))) ?_
        exact w_X4_join_J87 cx h_c0 hkb31 ih  l6 l7 l8 l10 S  h
      · rw [if_neg q12] at h
        refine wa_iload cx dX4_join_61 rfl ?_
        refine wa_iload_n cx (i := 1) dX4_join_63 rfl rfl ?_
        refine wa_icmp_lt cx dX4_join_64 87 (by decide) (fun q13 => ?_) (fun q13 => ?_)
        · rw [if_pos q13] at h
          refine wa_sub (lv' := [(0, .ref (ad g c0)), (1, .int a1), (2, .int a2), (3, .int a3), (4, .int a4), (6, .int l6), (7, .int l7), (8, .long l8), (10, .int l10)]) (lvs_c rfl (lvs_c rfl (lvs_c rfl (lvs_c rfl (lvs_c rfl (lvs_c rfl (lvs_c rfl (lvs_c rfl (lvs_c rfl (lvs_n)))))))))) ?_
          exact w_X4_join_J87 cx h_c0 hkb31 ih  l6 l7 l8 l10 S  h
        · rw [if_neg q13] at h
          refine wa_lload cx dX4_join_67 rfl ?_
          refine wa_aload_n cx (i := 0) dX4_join_69 rfl rfl ?_
          refine gf_X4_24 cx h_c0 dX4_join_70 ?_
          refine wa_iload cx dX4_join_73 rfl ?_
          refine wa_bipush cx dX4_join_75 (61 : Int32) (by decide) ?_
          refine wa_isub cx dX4_join_77 ?_
          refine wa_iload cx dX4_join_78 rfl ?_
          refine wa_iadd cx dX4_join_80 ?_
          refine wa_iload_n cx (i := 1) dX4_join_81 rfl rfl ?_
          refine wa_isub cx dX4_join_82 ?_
          obtain ⟨b14, h⟩ := ob_some h
          refine wa_lald cx dX4_join_83 (kq4_5 cx.2.2.2.2.2.2.1 h_c0) b14 ?_
          refine wa_ladd cx dX4_join_84 ?_
          replace h := sq_eq h
          generalize (l8 + (S.2.1 (c0 + 13) (Int32.toNatClampNeg (((l7 - (61 : Int32)) + l10) - a1)))) = x15 at h ⊢
          refine wa_lstore cx dX4_join_85 [(0, .ref (ad g c0)), (1, .int a1), (2, .int a2), (3, .int a3), (4, .int a4), (6, .int l6), (7, .int l7), (8, .long x15), (10, .int l10)] (Nat.le_of_ble_eq_true rfl) rfl (lvs_c rfl (lvs_c rfl (lvs_c rfl (lvs_c rfl (lvs_c rfl (lvs_c rfl (lvs_c rfl (lvs_c rfl (lvs_c rfl (lvs_n)))))))))) ?_
          refine wa_sub (lv' := [(0, .ref (ad g c0)), (1, .int a1), (2, .int a2), (3, .int a3), (4, .int a4), (6, .int l6), (7, .int l7), (8, .long x15), (10, .int l10)]) (lvs_c rfl (lvs_c rfl (lvs_c rfl (lvs_c rfl (lvs_c rfl (lvs_c rfl (lvs_c rfl (lvs_c rfl (lvs_c rfl (lvs_n)))))))))) ?_
          exact w_X4_join_J87 cx h_c0 hkb31 ih  l6 l7 x15 l10 S  h
def f_X4_join_L31 : Nat → Nat → Int32 → Int32 → Int32 → Int32 → Int32 → Int32 → St → Option (Unit × St)
  | 0, _, _, _, _, _, _, _, _ => none
  | n + 1, c0, a1, a2, a3, a4, a5, l6, S => if l6 < 0 then some ((), S) else sq (l6 * (61 : Int32)) fun x17 => f_X4_join_L49 FU c0 a1 a2 a3 a4 a5 (fun l6 S => f_X4_join_L31 n c0 a1 a2 a3 a4 a5 l6 S) l6 x17 (0 : Int64) (0 : Int32) S
set_option maxHeartbeats 4000000 in
set_option maxRecDepth 100000 in
theorem w_X4_join_L31 {p : Program} {l : Launch} {e : Env} {s : State} {m : MethodId} {args : Array Value} {below : List Frame} {meth : Method} {c : Code} {g : Gl} {r : Unit × St} {c0 : Nat} {a1 : Int32} {a2 : Int32} {a3 : Int32} {a4 : Int32} {a5 : Int32} (cx : Cx p s m args meth c cX4_join 11 none RX4 g (Ap g)) (h_c0 : kd g c0 = 4) : ∀ n : Nat, ∀ (l6 : Int32) (S : St), f_X4_join_L31 n c0 a1 a2 a3 a4 a5 l6 S = some r → WA p l e rm_X4_join s m args below meth c 0 0 (MQ below (QWv g r) args s 0 0 (Ap g)) 11 g (Ap g) S 31 [(0, .ref (ad g c0)), (1, .int a1), (2, .int a2), (3, .int a3), (4, .int a4), (6, .int l6)] [] := by
  intro n
  induction n with
  | zero => intro l6 S h; rw [f_X4_join_L31] at h; cases h
  | succ n ih =>
    intro l6 S h
    rw [f_X4_join_L31] at h
    refine wa_iload cx dX4_join_31 rfl ?_
    refine wa_if_lt cx dX4_join_33 163 (by decide) (fun q16 => ?_) (fun q16 => ?_)
    · rw [if_pos q16] at h
      exact wa_vret cx h dX4_join_163
    · rw [if_neg q16] at h
      refine wa_iload cx dX4_join_36 rfl ?_
      refine wa_bipush cx dX4_join_38 (61 : Int32) (by decide) ?_
      refine wa_imul cx dX4_join_40 ?_
      replace h := sq_eq h
      generalize (l6 * (61 : Int32)) = x17 at h ⊢
      refine wa_istore cx dX4_join_41 [(0, .ref (ad g c0)), (1, .int a1), (2, .int a2), (3, .int a3), (4, .int a4), (6, .int l6), (7, .int x17)] (Nat.le_of_ble_eq_true rfl) rfl (lvs_c rfl (lvs_c rfl (lvs_c rfl (lvs_c rfl (lvs_c rfl (lvs_c rfl (lvs_c rfl (lvs_n)))))))) ?_
      refine wa_lconst cx dX4_join_43 (0 : Int64) (by decide) ?_
      refine wa_lstore cx dX4_join_44 [(0, .ref (ad g c0)), (1, .int a1), (2, .int a2), (3, .int a3), (4, .int a4), (6, .int l6), (7, .int x17), (8, .long (0 : Int64))] (Nat.le_of_ble_eq_true rfl) rfl (lvs_c rfl (lvs_c rfl (lvs_c rfl (lvs_c rfl (lvs_c rfl (lvs_c rfl (lvs_c rfl (lvs_c rfl (lvs_n))))))))) ?_
      refine wa_iconst cx dX4_join_46 (0 : Int32) (by decide) ?_
      refine wa_istore cx dX4_join_47 [(0, .ref (ad g c0)), (1, .int a1), (2, .int a2), (3, .int a3), (4, .int a4), (6, .int l6), (7, .int x17), (8, .long (0 : Int64)), (10, .int (0 : Int32))] (Nat.le_of_ble_eq_true rfl) rfl (lvs_c rfl (lvs_c rfl (lvs_c rfl (lvs_c rfl (lvs_c rfl (lvs_c rfl (lvs_c rfl (lvs_c rfl (lvs_c rfl (lvs_n)))))))))) ?_
      refine wa_sub (lv' := [(0, .ref (ad g c0)), (1, .int a1), (2, .int a2), (3, .int a3), (4, .int a4), (6, .int l6), (7, .int x17), (8, .long (0 : Int64)), (10, .int (0 : Int32))]) (lvs_c rfl (lvs_c rfl (lvs_c rfl (lvs_c rfl (lvs_c rfl (lvs_c rfl (lvs_c rfl (lvs_c rfl (lvs_c rfl (lvs_n)))))))))) ?_
      exact w_X4_join_L49 cx h_c0 ih FU l6 x17 (0 : Int64) (0 : Int32) S  h
def f_X4_join (c0 : Nat) (a1 : Int32) (a2 : Int32) (a3 : Int32) (a4 : Int32) (a5 : Int32) (S : St) : Option (Unit × St) := if a1 < (1 : Int32) then some ((), S) else if a2 < (a1 - (1 : Int32)) then some ((), S) else if (61 : Int32) ≤ a4 then some ((), S) else if a5 ≤ (8 : Int32) then f_X4_join_L31 FU c0 a1 a2 a3 a4 a5 a5 S else some ((), S)
set_option maxHeartbeats 4000000 in
set_option maxRecDepth 100000 in
theorem m_X4_join (l : Launch) {g : Gl} (hg : GOK g) {c0 : Nat} {a1 : Int32} {a2 : Int32} {a3 : Int32} {a4 : Int32} {a5 : Int32} {S : St} {r : Unit × St} (h_c0 : kd g c0 = 4) (h : f_X4_join c0 a1 a2 a3 a4 a5 S = some r) : MW l yX4_join cX4_join 11 none rm_X4_join g S [.ref (ad g c0), .int a1, .int a2, .int a3, .int a4, .int a5] (QWv g r) := by
  refine startW [(0, .ref (ad g c0)), (1, .int a1), (2, .int a2), (3, .int a3), (4, .int a4), (5, .int a5)] (by decide +kernel) (Nat.le_of_ble_eq_true rfl) rfl hg (fun p e s m args below meth c cx => ?_)
  have cx : Cx p s m args meth c cX4_join 11 none RX4 g (Ap g) := cx
  rw [f_X4_join] at h
  refine wa_iload_n cx (i := 1) dX4_join_0 rfl rfl ?_
  refine wa_iconst cx dX4_join_1 (1 : Int32) (by decide) ?_
  refine wa_icmp_lt cx dX4_join_2 26 (by decide) (fun q18 => ?_) (fun q18 => ?_)
  · rw [if_pos q18] at h
    exact wa_vret cx h dX4_join_26
  · rw [if_neg q18] at h
    refine wa_iload_n cx (i := 2) dX4_join_5 rfl rfl ?_
    refine wa_iload_n cx (i := 1) dX4_join_6 rfl rfl ?_
    refine wa_iconst cx dX4_join_7 (1 : Int32) (by decide) ?_
    refine wa_isub cx dX4_join_8 ?_
    refine wa_icmp_lt cx dX4_join_9 26 (by decide) (fun q19 => ?_) (fun q19 => ?_)
    · rw [if_pos q19] at h
      exact wa_vret cx h dX4_join_26
    · rw [if_neg q19] at h
      refine wa_iload cx dX4_join_12 rfl ?_
      refine wa_bipush cx dX4_join_14 (61 : Int32) (by decide) ?_
      refine wa_icmp_ge cx dX4_join_16 26 (by decide) (fun q20 => ?_) (fun q20 => ?_)
      · rw [if_pos q20] at h
        exact wa_vret cx h dX4_join_26
      · rw [if_neg q20] at h
        refine wa_iload cx dX4_join_19 rfl ?_
        refine wa_bipush cx dX4_join_21 (8 : Int32) (by decide) ?_
        refine wa_icmp_le cx dX4_join_23 27 (by decide) (fun q21 => ?_) (fun q21 => ?_)
        · rw [if_pos q21] at h
          refine wa_iload cx dX4_join_27 rfl ?_
          refine wa_istore cx dX4_join_29 [(0, .ref (ad g c0)), (1, .int a1), (2, .int a2), (3, .int a3), (4, .int a4), (6, .int a5)] (Nat.le_of_ble_eq_true rfl) rfl (lvs_c rfl (lvs_c rfl (lvs_c rfl (lvs_c rfl (lvs_c rfl (lvs_c rfl (lvs_n))))))) ?_
          refine wa_sub (lv' := [(0, .ref (ad g c0)), (1, .int a1), (2, .int a2), (3, .int a3), (4, .int a4), (6, .int a5)]) (lvs_c rfl (lvs_c rfl (lvs_c rfl (lvs_c rfl (lvs_c rfl (lvs_c rfl (lvs_n))))))) ?_
          exact w_X4_join_L31 cx h_c0  FU a5 S  h
        · rw [if_neg q21] at h
          exact wa_vret cx h dX4_join_26
def rm_X4_justWays : Room := { frames := 2, cells := 0, slots := 0, locals := 44 }
def f_X4_justWays_L53 : Nat → Nat → Int64 → Int32 → St → Option (Int64 × St)
  | 0, _, _, _, _ => none
  | n + 1, c0, l1, l3, S => ck (kdE (S.2.2 c0 0) = 0) (if (S.1 (S.2.2 c0 0) 0) < l3 then some (l1, S) else ob ((l3 * (61 : Int32)) + (S.1 c0 1)) 549 (sq (l1 + (S.2.1 (c0 + 13) (Int32.toNatClampNeg ((l3 * (61 : Int32)) + (S.1 c0 1))))) fun x4 => f_X4_justWays_L53 n c0 x4 (l3 + (1 : Int32)) S))
set_option maxHeartbeats 4000000 in
set_option maxRecDepth 100000 in
theorem w_X4_justWays_L53 {p : Program} {l : Launch} {e : Env} {s : State} {m : MethodId} {args : Array Value} {below : List Frame} {meth : Method} {c : Code} {g : Gl} {r : Int64 × St} {c0 : Nat} (cx : Cx p s m args meth c cX4_justWays 4 (some .long) RX4 g (Ap g)) (h_c0 : kd g c0 = 4) : ∀ n : Nat, ∀ (l1 : Int64) (l3 : Int32) (S : St), f_X4_justWays_L53 n c0 l1 l3 S = some r → WA p l e rm_X4_justWays s m args below meth c 0 0 (MQ below (QWl g r) args s 0 0 (Ap g)) 4 g (Ap g) S 53 [(0, .ref (ad g c0)), (1, .long l1), (3, .int l3)] [] := by
  intro n
  induction n with
  | zero => intro l1 l3 S h; rw [f_X4_justWays_L53] at h; cases h
  | succ n ih =>
    intro l1 l3 S h
    rw [f_X4_justWays_L53] at h
    refine wa_iload_n cx (i := 3) dX4_justWays_53 rfl rfl ?_
    refine wa_aload_n cx (i := 0) dX4_justWays_54 rfl rfl ?_
    obtain ⟨b1, h⟩ := ck_some h
    refine gf_X4_12 cx h_c0 dX4_justWays_55 ?_
    refine gf_X4_43 cx (kd_of cx.2.2.2.2.2.2.1 b1 (by decide)) dX4_justWays_58 ?_
    refine wa_icmp_gt cx dX4_justWays_61 87 (by decide) (fun q2 => ?_) (fun q2 => ?_)
    · rw [if_pos q2] at h
      refine wa_lload_n cx (i := 1) dX4_justWays_87 rfl rfl ?_
      exact wa_lret cx h dX4_justWays_88
    · rw [if_neg q2] at h
      refine wa_lload_n cx (i := 1) dX4_justWays_64 rfl rfl ?_
      refine wa_aload_n cx (i := 0) dX4_justWays_65 rfl rfl ?_
      refine gf_X4_24 cx h_c0 dX4_justWays_66 ?_
      refine wa_iload_n cx (i := 3) dX4_justWays_69 rfl rfl ?_
      refine wa_bipush cx dX4_justWays_70 (61 : Int32) (by decide) ?_
      refine wa_imul cx dX4_justWays_72 ?_
      refine wa_aload_n cx (i := 0) dX4_justWays_73 rfl rfl ?_
      refine gf_X4_34 cx h_c0 dX4_justWays_74 ?_
      refine wa_iadd cx dX4_justWays_77 ?_
      obtain ⟨b3, h⟩ := ob_some h
      refine wa_lald cx dX4_justWays_78 (kq4_5 cx.2.2.2.2.2.2.1 h_c0) b3 ?_
      refine wa_ladd cx dX4_justWays_79 ?_
      replace h := sq_eq h
      generalize (l1 + (S.2.1 (c0 + 13) (Int32.toNatClampNeg ((l3 * (61 : Int32)) + (S.1 c0 1))))) = x4 at h ⊢
      refine wa_lstore_n cx (i := 1) dX4_justWays_80 [(0, .ref (ad g c0)), (1, .long x4), (3, .int l3)] rfl (Nat.le_of_ble_eq_true rfl) rfl (lvs_c rfl (lvs_c rfl (lvs_c rfl (lvs_n)))) ?_
      refine wa_iinc cx dX4_justWays_81 (l3 + (1 : Int32)) [(0, .ref (ad g c0)), (1, .long x4), (3, .int (l3 + (1 : Int32)))] rfl rfl (Nat.le_of_ble_eq_true rfl) rfl (lvs_c rfl (lvs_c rfl (lvs_c rfl (lvs_n)))) ?_
      refine wa_goto cx dX4_justWays_84 53 (by decide) ?_
      refine wa_sub (lv' := [(0, .ref (ad g c0)), (1, .long x4), (3, .int (l3 + (1 : Int32)))]) (lvs_c rfl (lvs_c rfl (lvs_c rfl (lvs_n)))) ?_
      exact ih x4 (l3 + (1 : Int32)) S  h
def f_X4_justWays_L6 : Nat → Nat → Int32 → St → Option (Int64 × St)
  | 0, _, _, _ => none
  | n + 1, c0, l1, S => ck (kdE (S.2.2 c0 0) = 0) (if (S.1 (S.2.2 c0 0) 0) ≤ l1 then sq (S.1 c0 2) fun x7 => f_X4_justWays_L53 FU c0 (0 : Int64) x7 S else ob l1 8 (ck (kdE (S.2.2 c0 0) = 0) (bd (f_X4_join c0 (1 : Int32) (S.1 (c0 + 12) (Int32.toNatClampNeg l1)) (1 : Int32) (S.1 c0 1) (S.1 (S.2.2 c0 0) 0) S) fun _ S10 => f_X4_justWays_L6 n c0 (l1 + (1 : Int32)) S10)))
set_option maxHeartbeats 4000000 in
set_option maxRecDepth 100000 in
theorem w_X4_justWays_L6 {p : Program} {l : Launch} {e : Env} {s : State} {m : MethodId} {args : Array Value} {below : List Frame} {meth : Method} {c : Code} {g : Gl} {r : Int64 × St} {c0 : Nat} (cx : Cx p s m args meth c cX4_justWays 4 (some .long) RX4 g (Ap g)) (h_c0 : kd g c0 = 4) : ∀ n : Nat, ∀ (l1 : Int32) (S : St), f_X4_justWays_L6 n c0 l1 S = some r → WA p l e rm_X4_justWays s m args below meth c 0 0 (MQ below (QWl g r) args s 0 0 (Ap g)) 4 g (Ap g) S 6 [(0, .ref (ad g c0)), (1, .int l1)] [] := by
  intro n
  induction n with
  | zero => intro l1 S h; rw [f_X4_justWays_L6] at h; cases h
  | succ n ih =>
    intro l1 S h
    rw [f_X4_justWays_L6] at h
    refine wa_iload_n cx (i := 1) dX4_justWays_6 rfl rfl ?_
    refine wa_aload_n cx (i := 0) dX4_justWays_7 rfl rfl ?_
    obtain ⟨b5, h⟩ := ck_some h
    refine gf_X4_12 cx h_c0 dX4_justWays_8 ?_
    refine gf_X4_43 cx (kd_of cx.2.2.2.2.2.2.1 b5 (by decide)) dX4_justWays_11 ?_
    refine wa_icmp_ge cx dX4_justWays_14 46 (by decide) (fun q6 => ?_) (fun q6 => ?_)
    · rw [if_pos q6] at h
      refine wa_lconst cx dX4_justWays_46 (0 : Int64) (by decide) ?_
      refine wa_lstore_n cx (i := 1) dX4_justWays_47 [(0, .ref (ad g c0)), (1, .long (0 : Int64))] rfl (Nat.le_of_ble_eq_true rfl) rfl (lvs_c rfl (lvs_c rfl (lvs_n))) ?_
      refine wa_aload_n cx (i := 0) dX4_justWays_48 rfl rfl ?_
      refine gf_X4_38 cx h_c0 dX4_justWays_49 ?_
      replace h := sq_eq h
      generalize (S.1 c0 2) = x7 at h ⊢
      refine wa_istore_n cx (i := 3) dX4_justWays_52 [(0, .ref (ad g c0)), (1, .long (0 : Int64)), (3, .int x7)] rfl (Nat.le_of_ble_eq_true rfl) rfl (lvs_c rfl (lvs_c rfl (lvs_c rfl (lvs_n)))) ?_
      refine wa_sub (lv' := [(0, .ref (ad g c0)), (1, .long (0 : Int64)), (3, .int x7)]) (lvs_c rfl (lvs_c rfl (lvs_c rfl (lvs_n)))) ?_
      exact w_X4_justWays_L53 cx h_c0  FU (0 : Int64) x7 S  h
    · rw [if_neg q6] at h
      refine wa_aload_n cx (i := 0) dX4_justWays_17 rfl rfl ?_
      refine wa_iconst cx dX4_justWays_18 (1 : Int32) (by decide) ?_
      refine wa_aload_n cx (i := 0) dX4_justWays_19 rfl rfl ?_
      refine gf_X4_20 cx h_c0 dX4_justWays_20 ?_
      refine wa_iload_n cx (i := 1) dX4_justWays_23 rfl rfl ?_
      obtain ⟨b8, h⟩ := ob_some h
      refine wa_iald cx dX4_justWays_24 (kq4_4 cx.2.2.2.2.2.2.1 h_c0) b8 ?_
      refine wa_iconst cx dX4_justWays_25 (1 : Int32) (by decide) ?_
      refine wa_aload_n cx (i := 0) dX4_justWays_26 rfl rfl ?_
      refine gf_X4_34 cx h_c0 dX4_justWays_27 ?_
      refine wa_aload_n cx (i := 0) dX4_justWays_30 rfl rfl ?_
      obtain ⟨b9, h⟩ := ck_some h
      refine gf_X4_12 cx h_c0 dX4_justWays_31 ?_
      refine gf_X4_43 cx (kd_of cx.2.2.2.2.2.2.1 b9 (by decide)) dX4_justWays_34 ?_
      obtain ⟨u12, S10, e11, h⟩ := bd_some h
      refine wa_callVv cx (m_X4_join l cx.2.2.2.2.2.2.1 h_c0 e11) vl_X4_67 h_c0 (by decide) rfl rfl ⟨_, cell_eq4 (kd_lt h_c0 (by decide)).2⟩ ⟨Nat.le_of_ble_eq_true rfl, Nat.le_of_ble_eq_true rfl⟩ ⟨rfl, rfl⟩ ⟨Nat.zero_le _, Nat.zero_le _⟩ rfl (Nat.le_of_ble_eq_true rfl) dX4_justWays_37 rfl ?_
      refine wa_iinc cx dX4_justWays_40 (l1 + (1 : Int32)) [(0, .ref (ad g c0)), (1, .int (l1 + (1 : Int32)))] rfl rfl (Nat.le_of_ble_eq_true rfl) rfl (lvs_c rfl (lvs_c rfl (lvs_n))) ?_
      refine wa_goto cx dX4_justWays_43 6 (by decide) ?_
      refine wa_sub (lv' := [(0, .ref (ad g c0)), (1, .int (l1 + (1 : Int32)))]) (lvs_c rfl (lvs_c rfl (lvs_n))) ?_
      exact ih (l1 + (1 : Int32)) S10  h
def f_X4_justWays (c0 : Nat) (S : St) : Option (Int64 × St) := bd (f_X4_clearTable c0 S) fun _ S13 => f_X4_justWays_L6 FU c0 (0 : Int32) S13
set_option maxHeartbeats 4000000 in
set_option maxRecDepth 100000 in
theorem m_X4_justWays (l : Launch) {g : Gl} (hg : GOK g) {c0 : Nat} {S : St} {r : Int64 × St} (h_c0 : kd g c0 = 4) (h : f_X4_justWays c0 S = some r) : MW l yX4_justWays cX4_justWays 4 (some .long) rm_X4_justWays g S [.ref (ad g c0)] (QWl g r) := by
  refine startW [(0, .ref (ad g c0))] (by decide +kernel) (Nat.le_of_ble_eq_true rfl) rfl hg (fun p e s m args below meth c cx => ?_)
  have cx : Cx p s m args meth c cX4_justWays 4 (some .long) RX4 g (Ap g) := cx
  rw [f_X4_justWays] at h
  refine wa_aload_n cx (i := 0) dX4_justWays_0 rfl rfl ?_
  obtain ⟨u15, S13, e14, h⟩ := bd_some h
  refine wa_callVv cx (m_X4_clearTable l cx.2.2.2.2.2.2.1 h_c0 e14) vl_X4_64 h_c0 (by decide) rfl rfl ⟨_, cell_eq4 (kd_lt h_c0 (by decide)).2⟩ ⟨Nat.le_of_ble_eq_true rfl, Nat.le_of_ble_eq_true rfl⟩ ⟨rfl, rfl⟩ ⟨Nat.zero_le _, Nat.zero_le _⟩ rfl (Nat.le_of_ble_eq_true rfl) dX4_justWays_1 rfl ?_
  refine wa_iconst cx dX4_justWays_4 (0 : Int32) (by decide) ?_
  refine wa_istore_n cx (i := 1) dX4_justWays_5 [(0, .ref (ad g c0)), (1, .int (0 : Int32))] rfl (Nat.le_of_ble_eq_true rfl) rfl (lvs_c rfl (lvs_c rfl (lvs_n))) ?_
  refine wa_sub (lv' := [(0, .ref (ad g c0)), (1, .int (0 : Int32))]) (lvs_c rfl (lvs_c rfl (lvs_n))) ?_
  exact w_X4_justWays_L6 cx h_c0  FU (0 : Int32) S13  h
def rm_X4_lowestGift : Room := { frames := 1, cells := 0, slots := 0, locals := 21 }
def f_X4_lowestGift_J96 (c0 : Nat) (a1 : Int32) (a2 : Int32) (a3 : Int32) (a4 : Int32) (kb72 : Int32 → Int32 → Int32 → St → Option (Int32 × St)) (l5 : Int32) (l6 : Int32) (l7 : Int32) (l8 : Int32) (k0 : Int32) (k1 : Int32) (S : St) : Option (Int32 × St) := sq (k0 - k1) fun x1 => if l5 < l8 then kb72 l5 l6 (l7 + (1 : Int32)) S else if (imin l6 l8) < x1 then kb72 l5 l6 (l7 + (1 : Int32)) S else some (l7, S)
set_option maxHeartbeats 4000000 in
set_option maxRecDepth 100000 in
theorem w_X4_lowestGift_J96 {p : Program} {l : Launch} {e : Env} {s : State} {m : MethodId} {args : Array Value} {below : List Frame} {meth : Method} {c : Code} {g : Gl} {r : Int32 × St} {c0 : Nat} {a1 : Int32} {a2 : Int32} {a3 : Int32} {a4 : Int32} {kb72 : Int32 → Int32 → Int32 → St → Option (Int32 × St)} (cx : Cx p s m args meth c cX4_lowestGift 10 (some .int) RX4 g (Ap g)) (h_c0 : kd g c0 = 4) (hkb72 : ∀ (l5 : Int32) (l6 : Int32) (l7 : Int32) (S : St), kb72 l5 l6 l7 S = some r → WA p l e rm_X4_lowestGift s m args below meth c 0 0 (MQ below (QWi g r) args s 0 0 (Ap g)) 10 g (Ap g) S 72 [(2, .int a2), (3, .int a3), (4, .int a4), (5, .int l5), (6, .int l6), (7, .int l7)] []) : ∀ (l5 : Int32) (l6 : Int32) (l7 : Int32) (l8 : Int32) (k0 : Int32) (k1 : Int32) (S : St), f_X4_lowestGift_J96 c0 a1 a2 a3 a4 kb72 l5 l6 l7 l8 k0 k1 S = some r → WA p l e rm_X4_lowestGift s m args below meth c 0 0 (MQ below (QWi g r) args s 0 0 (Ap g)) 10 g (Ap g) S 96 [(2, .int a2), (3, .int a3), (4, .int a4), (5, .int l5), (6, .int l6), (7, .int l7), (8, .int l8)] [.int k1, .int k0] := by
  intro l5 l6 l7 l8 k0 k1 S h
  rw [f_X4_lowestGift_J96] at h
  refine wa_isub cx dX4_lowestGift_96 ?_
  replace h := sq_eq h
  generalize (k0 - k1) = x1 at h ⊢
  refine wa_istore cx dX4_lowestGift_97 [(2, .int a2), (3, .int a3), (4, .int a4), (5, .int l5), (6, .int l6), (7, .int l7), (8, .int l8), (9, .int x1)] (Nat.le_of_ble_eq_true rfl) rfl (lvs_c rfl (lvs_c rfl (lvs_c rfl (lvs_c rfl (lvs_c rfl (lvs_c rfl (lvs_c rfl (lvs_c rfl (lvs_n))))))))) ?_
  refine wa_iload cx dX4_lowestGift_99 rfl ?_
  refine wa_iload cx dX4_lowestGift_101 rfl ?_
  refine wa_icmp_gt cx dX4_lowestGift_103 121 (by decide) (fun q2 => ?_) (fun q2 => ?_)
  · rw [if_pos q2] at h
    refine wa_iinc cx dX4_lowestGift_121 (l7 + (1 : Int32)) [(2, .int a2), (3, .int a3), (4, .int a4), (5, .int l5), (6, .int l6), (7, .int (l7 + (1 : Int32)))] rfl rfl (Nat.le_of_ble_eq_true rfl) rfl (lvs_c rfl (lvs_c rfl (lvs_c rfl (lvs_c rfl (lvs_c rfl (lvs_c rfl (lvs_n))))))) ?_
    refine wa_goto cx dX4_lowestGift_124 72 (by decide) ?_
    refine wa_sub (lv' := [(2, .int a2), (3, .int a3), (4, .int a4), (5, .int l5), (6, .int l6), (7, .int (l7 + (1 : Int32)))]) (lvs_c rfl (lvs_c rfl (lvs_c rfl (lvs_c rfl (lvs_c rfl (lvs_c rfl (lvs_n))))))) ?_
    exact hkb72 l5 l6 (l7 + (1 : Int32)) S  h
  · rw [if_neg q2] at h
    refine wa_iload cx dX4_lowestGift_106 rfl ?_
    refine wa_iload cx dX4_lowestGift_108 rfl ?_
    refine wa_mmin cx dX4_lowestGift_110 ml_X4_52 mmin_s m_i mmin_c ⟨Nat.le_of_ble_eq_true rfl, Nat.le_of_ble_eq_true rfl⟩ ⟨Nat.zero_le _, Nat.zero_le _⟩ ?_
    refine wa_iload cx dX4_lowestGift_113 rfl ?_
    refine wa_icmp_lt cx dX4_lowestGift_115 121 (by decide) (fun q3 => ?_) (fun q3 => ?_)
    · rw [if_pos q3] at h
      refine wa_iinc cx dX4_lowestGift_121 (l7 + (1 : Int32)) [(2, .int a2), (3, .int a3), (4, .int a4), (5, .int l5), (6, .int l6), (7, .int (l7 + (1 : Int32)))] rfl rfl (Nat.le_of_ble_eq_true rfl) rfl (lvs_c rfl (lvs_c rfl (lvs_c rfl (lvs_c rfl (lvs_c rfl (lvs_c rfl (lvs_n))))))) ?_
      refine wa_goto cx dX4_lowestGift_124 72 (by decide) ?_
      refine wa_sub (lv' := [(2, .int a2), (3, .int a3), (4, .int a4), (5, .int l5), (6, .int l6), (7, .int (l7 + (1 : Int32)))]) (lvs_c rfl (lvs_c rfl (lvs_c rfl (lvs_c rfl (lvs_c rfl (lvs_c rfl (lvs_n))))))) ?_
      exact hkb72 l5 l6 (l7 + (1 : Int32)) S  h
    · rw [if_neg q3] at h
      refine wa_iload cx dX4_lowestGift_118 rfl ?_
      exact wa_iret cx h dX4_lowestGift_120
def f_X4_lowestGift_L72 : Nat → Nat → Int32 → Int32 → Int32 → Int32 → Int32 → Int32 → Int32 → St → Option (Int32 × St)
  | 0, _, _, _, _, _, _, _, _, _ => none
  | n + 1, c0, a1, a2, a3, a4, l5, l6, l7, S => if a2 ≤ l7 then some (a2, S) else sq (a3 - l7) fun x5 => if l7 ≤ 0 then f_X4_lowestGift_J96 c0 a1 a2 a3 a4 (fun l5 l6 l7 S => f_X4_lowestGift_L72 n c0 a1 a2 a3 a4 l5 l6 l7 S) l5 l6 l7 x5 a4 (0 : Int32) S else f_X4_lowestGift_J96 c0 a1 a2 a3 a4 (fun l5 l6 l7 S => f_X4_lowestGift_L72 n c0 a1 a2 a3 a4 l5 l6 l7 S) l5 l6 l7 x5 a4 (1 : Int32) S
set_option maxHeartbeats 4000000 in
set_option maxRecDepth 100000 in
theorem w_X4_lowestGift_L72 {p : Program} {l : Launch} {e : Env} {s : State} {m : MethodId} {args : Array Value} {below : List Frame} {meth : Method} {c : Code} {g : Gl} {r : Int32 × St} {c0 : Nat} {a1 : Int32} {a2 : Int32} {a3 : Int32} {a4 : Int32} (cx : Cx p s m args meth c cX4_lowestGift 10 (some .int) RX4 g (Ap g)) (h_c0 : kd g c0 = 4) : ∀ n : Nat, ∀ (l5 : Int32) (l6 : Int32) (l7 : Int32) (S : St), f_X4_lowestGift_L72 n c0 a1 a2 a3 a4 l5 l6 l7 S = some r → WA p l e rm_X4_lowestGift s m args below meth c 0 0 (MQ below (QWi g r) args s 0 0 (Ap g)) 10 g (Ap g) S 72 [(2, .int a2), (3, .int a3), (4, .int a4), (5, .int l5), (6, .int l6), (7, .int l7)] [] := by
  intro n
  induction n with
  | zero => intro l5 l6 l7 S h; rw [f_X4_lowestGift_L72] at h; cases h
  | succ n ih =>
    intro l5 l6 l7 S h
    rw [f_X4_lowestGift_L72] at h
    refine wa_iload cx dX4_lowestGift_72 rfl ?_
    refine wa_iload_n cx (i := 2) dX4_lowestGift_74 rfl rfl ?_
    refine wa_icmp_ge cx dX4_lowestGift_75 127 (by decide) (fun q4 => ?_) (fun q4 => ?_)
    · rw [if_pos q4] at h
      refine wa_iload_n cx (i := 2) dX4_lowestGift_127 rfl rfl ?_
      exact wa_iret cx h dX4_lowestGift_128
    · rw [if_neg q4] at h
      refine wa_iload_n cx (i := 3) dX4_lowestGift_78 rfl rfl ?_
      refine wa_iload cx dX4_lowestGift_79 rfl ?_
      refine wa_isub cx dX4_lowestGift_81 ?_
      replace h := sq_eq h
      generalize (a3 - l7) = x5 at h ⊢
      refine wa_istore cx dX4_lowestGift_82 [(2, .int a2), (3, .int a3), (4, .int a4), (5, .int l5), (6, .int l6), (7, .int l7), (8, .int x5)] (Nat.le_of_ble_eq_true rfl) rfl (lvs_c rfl (lvs_c rfl (lvs_c rfl (lvs_c rfl (lvs_c rfl (lvs_c rfl (lvs_c rfl (lvs_n)))))))) ?_
      refine wa_iload cx dX4_lowestGift_84 rfl ?_
      refine wa_iload cx dX4_lowestGift_86 rfl ?_
      refine wa_if_le cx dX4_lowestGift_88 95 (by decide) (fun q6 => ?_) (fun q6 => ?_)
      · rw [if_pos q6] at h
        refine wa_iconst cx dX4_lowestGift_95 (0 : Int32) (by decide) ?_
        refine wa_sub (lv' := [(2, .int a2), (3, .int a3), (4, .int a4), (5, .int l5), (6, .int l6), (7, .int l7), (8, .int x5)]) (lvs_c rfl (lvs_c rfl (lvs_c rfl (lvs_c rfl (lvs_c rfl (lvs_c rfl (lvs_c rfl (lvs_n)))))))) ?_
        exact w_X4_lowestGift_J96 cx h_c0 ih  l5 l6 l7 x5 a4 (0 : Int32) S  h
      · rw [if_neg q6] at h
        refine wa_iconst cx dX4_lowestGift_91 (1 : Int32) (by decide) ?_
        refine wa_goto cx dX4_lowestGift_92 96 (by decide) ?_
        refine wa_sub (lv' := [(2, .int a2), (3, .int a3), (4, .int a4), (5, .int l5), (6, .int l6), (7, .int l7), (8, .int x5)]) (lvs_c rfl (lvs_c rfl (lvs_c rfl (lvs_c rfl (lvs_c rfl (lvs_c rfl (lvs_c rfl (lvs_n)))))))) ?_
        exact w_X4_lowestGift_J96 cx h_c0 ih  l5 l6 l7 x5 a4 (1 : Int32) S  h
def f_X4_lowestGift_L9 : Nat → Nat → Int32 → Int32 → Int32 → Int32 → Int32 → Int32 → Int32 → St → Option (Int32 × St)
  | 0, _, _, _, _, _, _, _, _, _ => none
  | n + 1, c0, a1, a2, a3, a4, l5, l6, l7, S => ck (kdE (S.2.2 c0 0) = 0) (if (S.1 (S.2.2 c0 0) 0) ≤ l7 then f_X4_lowestGift_L72 FU c0 a1 a2 a3 a4 l5 l6 (0 : Int32) S else ck (kdE (S.2.2 c0 0) = 0) (ob l7 8 (if a1 < (S.1 ((S.2.2 c0 0) + 1) (Int32.toNatClampNeg l7)) then ob l7 8 (sq (l5 + (S.1 (c0 + 12) (Int32.toNatClampNeg l7))) fun x13 => ob l7 8 (if (S.1 (c0 + 12) (Int32.toNatClampNeg l7)) ≤ 0 then f_X4_lowestGift_L9 n c0 a1 a2 a3 a4 x13 l6 (l7 + (1 : Int32)) S else f_X4_lowestGift_L9 n c0 a1 a2 a3 a4 x13 (l6 + (1 : Int32)) (l7 + (1 : Int32)) S)) else f_X4_lowestGift_L9 n c0 a1 a2 a3 a4 l5 l6 (l7 + (1 : Int32)) S)))
set_option maxHeartbeats 4000000 in
set_option maxRecDepth 100000 in
theorem w_X4_lowestGift_L9 {p : Program} {l : Launch} {e : Env} {s : State} {m : MethodId} {args : Array Value} {below : List Frame} {meth : Method} {c : Code} {g : Gl} {r : Int32 × St} {c0 : Nat} {a1 : Int32} {a2 : Int32} {a3 : Int32} {a4 : Int32} (cx : Cx p s m args meth c cX4_lowestGift 10 (some .int) RX4 g (Ap g)) (h_c0 : kd g c0 = 4) : ∀ n : Nat, ∀ (l5 : Int32) (l6 : Int32) (l7 : Int32) (S : St), f_X4_lowestGift_L9 n c0 a1 a2 a3 a4 l5 l6 l7 S = some r → WA p l e rm_X4_lowestGift s m args below meth c 0 0 (MQ below (QWi g r) args s 0 0 (Ap g)) 10 g (Ap g) S 9 [(0, .ref (ad g c0)), (1, .int a1), (2, .int a2), (3, .int a3), (4, .int a4), (5, .int l5), (6, .int l6), (7, .int l7)] [] := by
  intro n
  induction n with
  | zero => intro l5 l6 l7 S h; rw [f_X4_lowestGift_L9] at h; cases h
  | succ n ih =>
    intro l5 l6 l7 S h
    rw [f_X4_lowestGift_L9] at h
    refine wa_iload cx dX4_lowestGift_9 rfl ?_
    refine wa_aload_n cx (i := 0) dX4_lowestGift_11 rfl rfl ?_
    obtain ⟨b7, h⟩ := ck_some h
    refine gf_X4_12 cx h_c0 dX4_lowestGift_12 ?_
    refine gf_X4_43 cx (kd_of cx.2.2.2.2.2.2.1 b7 (by decide)) dX4_lowestGift_15 ?_
    refine wa_icmp_ge cx dX4_lowestGift_18 69 (by decide) (fun q8 => ?_) (fun q8 => ?_)
    · rw [if_pos q8] at h
      refine wa_iconst cx dX4_lowestGift_69 (0 : Int32) (by decide) ?_
      refine wa_istore cx dX4_lowestGift_70 [(2, .int a2), (3, .int a3), (4, .int a4), (5, .int l5), (6, .int l6), (7, .int (0 : Int32))] (Nat.le_of_ble_eq_true rfl) rfl (lvs_c rfl (lvs_c rfl (lvs_c rfl (lvs_c rfl (lvs_c rfl (lvs_c rfl (lvs_n))))))) ?_
      refine wa_sub (lv' := [(2, .int a2), (3, .int a3), (4, .int a4), (5, .int l5), (6, .int l6), (7, .int (0 : Int32))]) (lvs_c rfl (lvs_c rfl (lvs_c rfl (lvs_c rfl (lvs_c rfl (lvs_c rfl (lvs_n))))))) ?_
      exact w_X4_lowestGift_L72 cx h_c0  FU l5 l6 (0 : Int32) S  h
    · rw [if_neg q8] at h
      refine wa_aload_n cx (i := 0) dX4_lowestGift_21 rfl rfl ?_
      obtain ⟨b9, h⟩ := ck_some h
      refine gf_X4_12 cx h_c0 dX4_lowestGift_22 ?_
      refine gf_X4_79 cx (kd_of cx.2.2.2.2.2.2.1 b9 (by decide)) dX4_lowestGift_25 ?_
      refine wa_iload cx dX4_lowestGift_28 rfl ?_
      obtain ⟨b10, h⟩ := ob_some h
      refine wa_iald cx dX4_lowestGift_30 (kq0_1 cx.2.2.2.2.2.2.1 (kd_of cx.2.2.2.2.2.2.1 b9 (by decide))) b10 ?_
      refine wa_iload_n cx (i := 1) dX4_lowestGift_31 rfl rfl ?_
      refine wa_icmp_gt cx dX4_lowestGift_32 38 (by decide) (fun q11 => ?_) (fun q11 => ?_)
      · rw [if_pos q11] at h
        refine wa_iload cx dX4_lowestGift_38 rfl ?_
        refine wa_aload_n cx (i := 0) dX4_lowestGift_40 rfl rfl ?_
        refine gf_X4_20 cx h_c0 dX4_lowestGift_41 ?_
        refine wa_iload cx dX4_lowestGift_44 rfl ?_
        obtain ⟨b12, h⟩ := ob_some h
        refine wa_iald cx dX4_lowestGift_46 (kq4_4 cx.2.2.2.2.2.2.1 h_c0) b12 ?_
        refine wa_iadd cx dX4_lowestGift_47 ?_
        replace h := sq_eq h
        generalize (l5 + (S.1 (c0 + 12) (Int32.toNatClampNeg l7))) = x13 at h ⊢
        refine wa_istore cx dX4_lowestGift_48 [(0, .ref (ad g c0)), (1, .int a1), (2, .int a2), (3, .int a3), (4, .int a4), (5, .int x13), (6, .int l6), (7, .int l7)] (Nat.le_of_ble_eq_true rfl) rfl (lvs_c rfl (lvs_c rfl (lvs_c rfl (lvs_c rfl (lvs_c rfl (lvs_c rfl (lvs_c rfl (lvs_c rfl (lvs_n))))))))) ?_
        refine wa_aload_n cx (i := 0) dX4_lowestGift_50 rfl rfl ?_
        refine gf_X4_20 cx h_c0 dX4_lowestGift_51 ?_
        refine wa_iload cx dX4_lowestGift_54 rfl ?_
        obtain ⟨b14, h⟩ := ob_some h
        refine wa_iald cx dX4_lowestGift_56 (kq4_4 cx.2.2.2.2.2.2.1 h_c0) b14 ?_
        refine wa_if_le cx dX4_lowestGift_57 63 (by decide) (fun q15 => ?_) (fun q15 => ?_)
        · rw [if_pos q15] at h
          refine wa_iinc cx dX4_lowestGift_63 (l7 + (1 : Int32)) [(0, .ref (ad g c0)), (1, .int a1), (2, .int a2), (3, .int a3), (4, .int a4), (5, .int x13), (6, .int l6), (7, .int (l7 + (1 : Int32)))] rfl rfl (Nat.le_of_ble_eq_true rfl) rfl (lvs_c rfl (lvs_c rfl (lvs_c rfl (lvs_c rfl (lvs_c rfl (lvs_c rfl (lvs_c rfl (lvs_c rfl (lvs_n))))))))) ?_
          refine wa_goto cx dX4_lowestGift_66 9 (by decide) ?_
          refine wa_sub (lv' := [(0, .ref (ad g c0)), (1, .int a1), (2, .int a2), (3, .int a3), (4, .int a4), (5, .int x13), (6, .int l6), (7, .int (l7 + (1 : Int32)))]) (lvs_c rfl (lvs_c rfl (lvs_c rfl (lvs_c rfl (lvs_c rfl (lvs_c rfl (lvs_c rfl (lvs_c rfl (lvs_n))))))))) ?_
          exact ih x13 l6 (l7 + (1 : Int32)) S  h
        · rw [if_neg q15] at h
          refine wa_iinc cx dX4_lowestGift_60 (l6 + (1 : Int32)) [(0, .ref (ad g c0)), (1, .int a1), (2, .int a2), (3, .int a3), (4, .int a4), (5, .int x13), (6, .int (l6 + (1 : Int32))), (7, .int l7)] rfl rfl (Nat.le_of_ble_eq_true rfl) rfl (lvs_c rfl (lvs_c rfl (lvs_c rfl (lvs_c rfl (lvs_c rfl (lvs_c rfl (lvs_c rfl (lvs_c rfl (lvs_n))))))))) ?_
          refine wa_iinc cx dX4_lowestGift_63 (l7 + (1 : Int32)) [(0, .ref (ad g c0)), (1, .int a1), (2, .int a2), (3, .int a3), (4, .int a4), (5, .int x13), (6, .int (l6 + (1 : Int32))), (7, .int (l7 + (1 : Int32)))] rfl rfl (Nat.le_of_ble_eq_true rfl) rfl (lvs_c rfl (lvs_c rfl (lvs_c rfl (lvs_c rfl (lvs_c rfl (lvs_c rfl (lvs_c rfl (lvs_c rfl (lvs_n))))))))) ?_
          refine wa_goto cx dX4_lowestGift_66 9 (by decide) ?_
          refine wa_sub (lv' := [(0, .ref (ad g c0)), (1, .int a1), (2, .int a2), (3, .int a3), (4, .int a4), (5, .int x13), (6, .int (l6 + (1 : Int32))), (7, .int (l7 + (1 : Int32)))]) (lvs_c rfl (lvs_c rfl (lvs_c rfl (lvs_c rfl (lvs_c rfl (lvs_c rfl (lvs_c rfl (lvs_c rfl (lvs_n))))))))) ?_
          exact ih x13 (l6 + (1 : Int32)) (l7 + (1 : Int32)) S  h
      · rw [if_neg q11] at h
        refine wa_goto cx dX4_lowestGift_35 63 (by decide) ?_
        refine wa_iinc cx dX4_lowestGift_63 (l7 + (1 : Int32)) [(0, .ref (ad g c0)), (1, .int a1), (2, .int a2), (3, .int a3), (4, .int a4), (5, .int l5), (6, .int l6), (7, .int (l7 + (1 : Int32)))] rfl rfl (Nat.le_of_ble_eq_true rfl) rfl (lvs_c rfl (lvs_c rfl (lvs_c rfl (lvs_c rfl (lvs_c rfl (lvs_c rfl (lvs_c rfl (lvs_c rfl (lvs_n))))))))) ?_
        refine wa_goto cx dX4_lowestGift_66 9 (by decide) ?_
        refine wa_sub (lv' := [(0, .ref (ad g c0)), (1, .int a1), (2, .int a2), (3, .int a3), (4, .int a4), (5, .int l5), (6, .int l6), (7, .int (l7 + (1 : Int32)))]) (lvs_c rfl (lvs_c rfl (lvs_c rfl (lvs_c rfl (lvs_c rfl (lvs_c rfl (lvs_c rfl (lvs_c rfl (lvs_n))))))))) ?_
        exact ih l5 l6 (l7 + (1 : Int32)) S  h
def f_X4_lowestGift (c0 : Nat) (a1 : Int32) (a2 : Int32) (a3 : Int32) (a4 : Int32) (S : St) : Option (Int32 × St) := f_X4_lowestGift_L9 FU c0 a1 a2 a3 a4 (0 : Int32) (0 : Int32) (0 : Int32) S
set_option maxHeartbeats 4000000 in
set_option maxRecDepth 100000 in
theorem m_X4_lowestGift (l : Launch) {g : Gl} (hg : GOK g) {c0 : Nat} {a1 : Int32} {a2 : Int32} {a3 : Int32} {a4 : Int32} {S : St} {r : Int32 × St} (h_c0 : kd g c0 = 4) (h : f_X4_lowestGift c0 a1 a2 a3 a4 S = some r) : MW l yX4_lowestGift cX4_lowestGift 10 (some .int) rm_X4_lowestGift g S [.ref (ad g c0), .int a1, .int a2, .int a3, .int a4] (QWi g r) := by
  refine startW [(0, .ref (ad g c0)), (1, .int a1), (2, .int a2), (3, .int a3), (4, .int a4)] (by decide +kernel) (Nat.le_of_ble_eq_true rfl) rfl hg (fun p e s m args below meth c cx => ?_)
  have cx : Cx p s m args meth c cX4_lowestGift 10 (some .int) RX4 g (Ap g) := cx
  rw [f_X4_lowestGift] at h
  refine wa_iconst cx dX4_lowestGift_0 (0 : Int32) (by decide) ?_
  refine wa_istore cx dX4_lowestGift_1 [(0, .ref (ad g c0)), (1, .int a1), (2, .int a2), (3, .int a3), (4, .int a4), (5, .int (0 : Int32))] (Nat.le_of_ble_eq_true rfl) rfl (lvs_c rfl (lvs_c rfl (lvs_c rfl (lvs_c rfl (lvs_c rfl (lvs_c rfl (lvs_n))))))) ?_
  refine wa_iconst cx dX4_lowestGift_3 (0 : Int32) (by decide) ?_
  refine wa_istore cx dX4_lowestGift_4 [(0, .ref (ad g c0)), (1, .int a1), (2, .int a2), (3, .int a3), (4, .int a4), (5, .int (0 : Int32)), (6, .int (0 : Int32))] (Nat.le_of_ble_eq_true rfl) rfl (lvs_c rfl (lvs_c rfl (lvs_c rfl (lvs_c rfl (lvs_c rfl (lvs_c rfl (lvs_c rfl (lvs_n)))))))) ?_
  refine wa_iconst cx dX4_lowestGift_6 (0 : Int32) (by decide) ?_
  refine wa_istore cx dX4_lowestGift_7 [(0, .ref (ad g c0)), (1, .int a1), (2, .int a2), (3, .int a3), (4, .int a4), (5, .int (0 : Int32)), (6, .int (0 : Int32)), (7, .int (0 : Int32))] (Nat.le_of_ble_eq_true rfl) rfl (lvs_c rfl (lvs_c rfl (lvs_c rfl (lvs_c rfl (lvs_c rfl (lvs_c rfl (lvs_c rfl (lvs_c rfl (lvs_n))))))))) ?_
  refine wa_sub (lv' := [(0, .ref (ad g c0)), (1, .int a1), (2, .int a2), (3, .int a3), (4, .int a4), (5, .int (0 : Int32)), (6, .int (0 : Int32)), (7, .int (0 : Int32))]) (lvs_c rfl (lvs_c rfl (lvs_c rfl (lvs_c rfl (lvs_c rfl (lvs_c rfl (lvs_c rfl (lvs_c rfl (lvs_n))))))))) ?_
  exact w_X4_lowestGift_L9 cx h_c0  FU (0 : Int32) (0 : Int32) (0 : Int32) S  h
def rm_X4_firstGift : Room := { frames := 2, cells := 0, slots := 0, locals := 50 }
def f_X4_firstGift_L13 : Nat → Nat → Int32 → Int32 → Int32 → Int32 → St → Option (Int32 × St)
  | 0, _, _, _, _, _, _ => none
  | n + 1, c0, a1, l2, l3, l4, S => if a1 < l4 then some ((0 : Int32), S) else if (8 : Int32) ≤ l4 then some ((0 : Int32), S) else ck (kdE (S.2.2 c0 0) = 0) (bd (f_X0_placeOf (S.2.2 c0 0) l4 S) fun x4 S5 => if x4 = (-4 : Int32) then f_X4_firstGift_L13 n c0 a1 l2 l3 (l4 + (1 : Int32)) S5 else ob x4 8 (bd (f_X4_lowestGift c0 l4 (S5.1 (c0 + 12) (Int32.toNatClampNeg x4)) l2 l3 S5) fun x9 S10 => if l4 = a1 then some (x9, S10) else sq (l2 - x9) fun x13 => if x9 ≤ 0 then f_X4_firstGift_L13 n c0 a1 x13 l3 (l4 + (1 : Int32)) S10 else f_X4_firstGift_L13 n c0 a1 x13 (l3 + (-1 : Int32)) (l4 + (1 : Int32)) S10))
set_option maxHeartbeats 4000000 in
set_option maxRecDepth 100000 in
theorem w_X4_firstGift_L13 {p : Program} {l : Launch} {e : Env} {s : State} {m : MethodId} {args : Array Value} {below : List Frame} {meth : Method} {c : Code} {g : Gl} {r : Int32 × St} {c0 : Nat} {a1 : Int32} (cx : Cx p s m args meth c cX4_firstGift 7 (some .int) RX4 g (Ap g)) (h_c0 : kd g c0 = 4) : ∀ n : Nat, ∀ (l2 : Int32) (l3 : Int32) (l4 : Int32) (S : St), f_X4_firstGift_L13 n c0 a1 l2 l3 l4 S = some r → WA p l e rm_X4_firstGift s m args below meth c 0 0 (MQ below (QWi g r) args s 0 0 (Ap g)) 7 g (Ap g) S 13 [(0, .ref (ad g c0)), (1, .int a1), (2, .int l2), (3, .int l3), (4, .int l4)] [] := by
  intro n
  induction n with
  | zero => intro l2 l3 l4 S h; rw [f_X4_firstGift_L13] at h; cases h
  | succ n ih =>
    intro l2 l3 l4 S h
    rw [f_X4_firstGift_L13] at h
    refine wa_iload cx dX4_firstGift_13 rfl ?_
    refine wa_iload_n cx (i := 1) dX4_firstGift_15 rfl rfl ?_
    refine wa_icmp_gt cx dX4_firstGift_16 92 (by decide) (fun q1 => ?_) (fun q1 => ?_)
    · rw [if_pos q1] at h
      refine wa_iconst cx dX4_firstGift_92 (0 : Int32) (by decide) ?_
      exact wa_iret cx h dX4_firstGift_93
    · rw [if_neg q1] at h
      refine wa_iload cx dX4_firstGift_19 rfl ?_
      refine wa_bipush cx dX4_firstGift_21 (8 : Int32) (by decide) ?_
      refine wa_icmp_ge cx dX4_firstGift_23 92 (by decide) (fun q2 => ?_) (fun q2 => ?_)
      · rw [if_pos q2] at h
        refine wa_iconst cx dX4_firstGift_92 (0 : Int32) (by decide) ?_
        exact wa_iret cx h dX4_firstGift_93
      · rw [if_neg q2] at h
        refine wa_aload_n cx (i := 0) dX4_firstGift_26 rfl rfl ?_
        obtain ⟨b3, h⟩ := ck_some h
        refine gf_X4_12 cx h_c0 dX4_firstGift_27 ?_
        refine wa_iload cx dX4_firstGift_30 rfl ?_
        obtain ⟨x4, S5, e6, h⟩ := bd_some h
        refine wa_callVi cx (m_X0_placeOf l cx.2.2.2.2.2.2.1 (kd_of cx.2.2.2.2.2.2.1 b3 (by decide)) e6) vl_X4_71 (kd_of cx.2.2.2.2.2.2.1 b3 (by decide)) (by decide) rfl rfl ⟨_, cell_eq0 (kd_lt (kd_of cx.2.2.2.2.2.2.1 b3 (by decide)) (by decide)).2⟩ ⟨Nat.le_of_ble_eq_true rfl, Nat.le_of_ble_eq_true rfl⟩ ⟨rfl, rfl⟩ ⟨Nat.zero_le _, Nat.zero_le _⟩ rfl (Nat.le_of_ble_eq_true rfl) dX4_firstGift_32 rfl ?_
        refine wa_istore cx dX4_firstGift_35 [(0, .ref (ad g c0)), (1, .int a1), (2, .int l2), (3, .int l3), (4, .int l4), (5, .int x4)] (Nat.le_of_ble_eq_true rfl) rfl (lvs_c rfl (lvs_c rfl (lvs_c rfl (lvs_c rfl (lvs_c rfl (lvs_c rfl (lvs_n))))))) ?_
        refine wa_iload cx dX4_firstGift_37 rfl ?_
        refine wa_bipush cx dX4_firstGift_39 (-4 : Int32) (by decide) ?_
        refine wa_icmp_ne cx dX4_firstGift_41 47 (by decide) (fun q7 => ?_) (fun q7 => ?_)
        · rw [if_neg q7] at h
          refine wa_aload_n cx (i := 0) dX4_firstGift_47 rfl rfl ?_
          refine wa_iload cx dX4_firstGift_48 rfl ?_
          refine wa_aload_n cx (i := 0) dX4_firstGift_50 rfl rfl ?_
          refine gf_X4_20 cx h_c0 dX4_firstGift_51 ?_
          refine wa_iload cx dX4_firstGift_54 rfl ?_
          obtain ⟨b8, h⟩ := ob_some h
          refine wa_iald cx dX4_firstGift_56 (kq4_4 cx.2.2.2.2.2.2.1 h_c0) b8 ?_
          refine wa_iload_n cx (i := 2) dX4_firstGift_57 rfl rfl ?_
          refine wa_iload_n cx (i := 3) dX4_firstGift_58 rfl rfl ?_
          obtain ⟨x9, S10, e11, h⟩ := bd_some h
          refine wa_callVi cx (m_X4_lowestGift l cx.2.2.2.2.2.2.1 h_c0 e11) vl_X4_75 h_c0 (by decide) rfl rfl ⟨_, cell_eq4 (kd_lt h_c0 (by decide)).2⟩ ⟨Nat.le_of_ble_eq_true rfl, Nat.le_of_ble_eq_true rfl⟩ ⟨rfl, rfl⟩ ⟨Nat.zero_le _, Nat.zero_le _⟩ rfl (Nat.le_of_ble_eq_true rfl) dX4_firstGift_59 rfl ?_
          refine wa_istore cx dX4_firstGift_62 [(0, .ref (ad g c0)), (1, .int a1), (2, .int l2), (3, .int l3), (4, .int l4), (6, .int x9)] (Nat.le_of_ble_eq_true rfl) rfl (lvs_c rfl (lvs_c rfl (lvs_c rfl (lvs_c rfl (lvs_c rfl (lvs_c rfl (lvs_n))))))) ?_
          refine wa_iload cx dX4_firstGift_64 rfl ?_
          refine wa_iload_n cx (i := 1) dX4_firstGift_66 rfl rfl ?_
          refine wa_icmp_ne cx dX4_firstGift_67 73 (by decide) (fun q12 => ?_) (fun q12 => ?_)
          · rw [if_neg q12] at h
            refine wa_iload_n cx (i := 2) dX4_firstGift_73 rfl rfl ?_
            refine wa_iload cx dX4_firstGift_74 rfl ?_
            refine wa_isub cx dX4_firstGift_76 ?_
            replace h := sq_eq h
            generalize (l2 - x9) = x13 at h ⊢
            refine wa_istore_n cx (i := 2) dX4_firstGift_77 [(0, .ref (ad g c0)), (1, .int a1), (2, .int x13), (3, .int l3), (4, .int l4), (6, .int x9)] rfl (Nat.le_of_ble_eq_true rfl) rfl (lvs_c rfl (lvs_c rfl (lvs_c rfl (lvs_c rfl (lvs_c rfl (lvs_c rfl (lvs_n))))))) ?_
            refine wa_iload cx dX4_firstGift_78 rfl ?_
            refine wa_if_le cx dX4_firstGift_80 86 (by decide) (fun q14 => ?_) (fun q14 => ?_)
            · rw [if_pos q14] at h
              refine wa_iinc cx dX4_firstGift_86 (l4 + (1 : Int32)) [(0, .ref (ad g c0)), (1, .int a1), (2, .int x13), (3, .int l3), (4, .int (l4 + (1 : Int32)))] rfl rfl (Nat.le_of_ble_eq_true rfl) rfl (lvs_c rfl (lvs_c rfl (lvs_c rfl (lvs_c rfl (lvs_c rfl (lvs_n)))))) ?_
              refine wa_goto cx dX4_firstGift_89 13 (by decide) ?_
              refine wa_sub (lv' := [(0, .ref (ad g c0)), (1, .int a1), (2, .int x13), (3, .int l3), (4, .int (l4 + (1 : Int32)))]) (lvs_c rfl (lvs_c rfl (lvs_c rfl (lvs_c rfl (lvs_c rfl (lvs_n)))))) ?_
              exact ih x13 l3 (l4 + (1 : Int32)) S10  h
            · rw [if_neg q14] at h
              refine wa_iinc cx dX4_firstGift_83 (l3 + (-1 : Int32)) [(0, .ref (ad g c0)), (1, .int a1), (2, .int x13), (3, .int (l3 + (-1 : Int32))), (4, .int l4)] rfl rfl (Nat.le_of_ble_eq_true rfl) rfl (lvs_c rfl (lvs_c rfl (lvs_c rfl (lvs_c rfl (lvs_c rfl (lvs_n)))))) ?_
              refine wa_iinc cx dX4_firstGift_86 (l4 + (1 : Int32)) [(0, .ref (ad g c0)), (1, .int a1), (2, .int x13), (3, .int (l3 + (-1 : Int32))), (4, .int (l4 + (1 : Int32)))] rfl rfl (Nat.le_of_ble_eq_true rfl) rfl (lvs_c rfl (lvs_c rfl (lvs_c rfl (lvs_c rfl (lvs_c rfl (lvs_n)))))) ?_
              refine wa_goto cx dX4_firstGift_89 13 (by decide) ?_
              refine wa_sub (lv' := [(0, .ref (ad g c0)), (1, .int a1), (2, .int x13), (3, .int (l3 + (-1 : Int32))), (4, .int (l4 + (1 : Int32)))]) (lvs_c rfl (lvs_c rfl (lvs_c rfl (lvs_c rfl (lvs_c rfl (lvs_n)))))) ?_
              exact ih x13 (l3 + (-1 : Int32)) (l4 + (1 : Int32)) S10  h
          · rw [if_pos q12] at h
            refine wa_iload cx dX4_firstGift_70 rfl ?_
            exact wa_iret cx h dX4_firstGift_72
        · rw [if_pos q7] at h
          refine wa_goto cx dX4_firstGift_44 86 (by decide) ?_
          refine wa_iinc cx dX4_firstGift_86 (l4 + (1 : Int32)) [(0, .ref (ad g c0)), (1, .int a1), (2, .int l2), (3, .int l3), (4, .int (l4 + (1 : Int32)))] rfl rfl (Nat.le_of_ble_eq_true rfl) rfl (lvs_c rfl (lvs_c rfl (lvs_c rfl (lvs_c rfl (lvs_c rfl (lvs_n)))))) ?_
          refine wa_goto cx dX4_firstGift_89 13 (by decide) ?_
          refine wa_sub (lv' := [(0, .ref (ad g c0)), (1, .int a1), (2, .int l2), (3, .int l3), (4, .int (l4 + (1 : Int32)))]) (lvs_c rfl (lvs_c rfl (lvs_c rfl (lvs_c rfl (lvs_c rfl (lvs_n)))))) ?_
          exact ih l2 l3 (l4 + (1 : Int32)) S5  h
def f_X4_firstGift (c0 : Nat) (a1 : Int32) (S : St) : Option (Int32 × St) := sq (S.1 c0 1) fun x15 => sq (S.1 c0 2) fun x16 => f_X4_firstGift_L13 FU c0 a1 x15 x16 (0 : Int32) S
set_option maxHeartbeats 4000000 in
set_option maxRecDepth 100000 in
theorem m_X4_firstGift (l : Launch) {g : Gl} (hg : GOK g) {c0 : Nat} {a1 : Int32} {S : St} {r : Int32 × St} (h_c0 : kd g c0 = 4) (h : f_X4_firstGift c0 a1 S = some r) : MW l yX4_firstGift cX4_firstGift 7 (some .int) rm_X4_firstGift g S [.ref (ad g c0), .int a1] (QWi g r) := by
  refine startW [(0, .ref (ad g c0)), (1, .int a1)] (by decide +kernel) (Nat.le_of_ble_eq_true rfl) rfl hg (fun p e s m args below meth c cx => ?_)
  have cx : Cx p s m args meth c cX4_firstGift 7 (some .int) RX4 g (Ap g) := cx
  rw [f_X4_firstGift] at h
  refine wa_aload_n cx (i := 0) dX4_firstGift_0 rfl rfl ?_
  refine gf_X4_34 cx h_c0 dX4_firstGift_1 ?_
  replace h := sq_eq h
  generalize (S.1 c0 1) = x15 at h ⊢
  refine wa_istore_n cx (i := 2) dX4_firstGift_4 [(0, .ref (ad g c0)), (1, .int a1), (2, .int x15)] rfl (Nat.le_of_ble_eq_true rfl) rfl (lvs_c rfl (lvs_c rfl (lvs_c rfl (lvs_n)))) ?_
  refine wa_aload_n cx (i := 0) dX4_firstGift_5 rfl rfl ?_
  refine gf_X4_38 cx h_c0 dX4_firstGift_6 ?_
  replace h := sq_eq h
  generalize (S.1 c0 2) = x16 at h ⊢
  refine wa_istore_n cx (i := 3) dX4_firstGift_9 [(0, .ref (ad g c0)), (1, .int a1), (2, .int x15), (3, .int x16)] rfl (Nat.le_of_ble_eq_true rfl) rfl (lvs_c rfl (lvs_c rfl (lvs_c rfl (lvs_c rfl (lvs_n))))) ?_
  refine wa_iconst cx dX4_firstGift_10 (0 : Int32) (by decide) ?_
  refine wa_istore cx dX4_firstGift_11 [(0, .ref (ad g c0)), (1, .int a1), (2, .int x15), (3, .int x16), (4, .int (0 : Int32))] (Nat.le_of_ble_eq_true rfl) rfl (lvs_c rfl (lvs_c rfl (lvs_c rfl (lvs_c rfl (lvs_c rfl (lvs_n)))))) ?_
  refine wa_sub (lv' := [(0, .ref (ad g c0)), (1, .int a1), (2, .int x15), (3, .int x16), (4, .int (0 : Int32))]) (lvs_c rfl (lvs_c rfl (lvs_c rfl (lvs_c rfl (lvs_c rfl (lvs_n)))))) ?_
  exact w_X4_firstGift_L13 cx h_c0  FU x15 x16 (0 : Int32) S  h
def rm_X4_lowestAtRest : Room := { frames := 1, cells := 0, slots := 0, locals := 21 }
def f_X4_lowestAtRest (c0 : Nat) (a1 : Int32) (a2 : Int32) (a3 : Int32) (S : St) : Option (Int32 × St) := if (S.1 c0 2) ≤ a3 then sq ((S.1 c0 1) - a2) fun x2 => ob a1 8 (sq (((S.1 (c0 + 12) (Int32.toNatClampNeg a1)) - x2) + (1 : Int32)) fun x4 => ck (kdE (S.2.2 c0 0) = 0) (ob a1 8 (sq (((S.1 ((S.2.2 c0 0) + 6) (Int32.toNatClampNeg a1)) - x2) - (S.1 c0 3)) fun x7 => some ((imax (1 : Int32) (imin x4 x7)), S)))) else some ((1 : Int32), S)
set_option maxHeartbeats 4000000 in
set_option maxRecDepth 100000 in
theorem m_X4_lowestAtRest (l : Launch) {g : Gl} (hg : GOK g) {c0 : Nat} {a1 : Int32} {a2 : Int32} {a3 : Int32} {S : St} {r : Int32 × St} (h_c0 : kd g c0 = 4) (h : f_X4_lowestAtRest c0 a1 a2 a3 S = some r) : MW l yX4_lowestAtRest cX4_lowestAtRest 7 (some .int) rm_X4_lowestAtRest g S [.ref (ad g c0), .int a1, .int a2, .int a3] (QWi g r) := by
  refine startW [(0, .ref (ad g c0)), (1, .int a1), (2, .int a2), (3, .int a3)] (by decide +kernel) (Nat.le_of_ble_eq_true rfl) rfl hg (fun p e s m args below meth c cx => ?_)
  have cx : Cx p s m args meth c cX4_lowestAtRest 7 (some .int) RX4 g (Ap g) := cx
  rw [f_X4_lowestAtRest] at h
  refine wa_iload_n cx (i := 3) dX4_lowestAtRest_0 rfl rfl ?_
  refine wa_aload_n cx (i := 0) dX4_lowestAtRest_1 rfl rfl ?_
  refine gf_X4_38 cx h_c0 dX4_lowestAtRest_2 ?_
  refine wa_icmp_ge cx dX4_lowestAtRest_5 10 (by decide) (fun q1 => ?_) (fun q1 => ?_)
  · rw [if_pos q1] at h
    refine wa_aload_n cx (i := 0) dX4_lowestAtRest_10 rfl rfl ?_
    refine gf_X4_34 cx h_c0 dX4_lowestAtRest_11 ?_
    refine wa_iload_n cx (i := 2) dX4_lowestAtRest_14 rfl rfl ?_
    refine wa_isub cx dX4_lowestAtRest_15 ?_
    replace h := sq_eq h
    generalize ((S.1 c0 1) - a2) = x2 at h ⊢
    refine wa_istore cx dX4_lowestAtRest_16 [(0, .ref (ad g c0)), (1, .int a1), (4, .int x2)] (Nat.le_of_ble_eq_true rfl) rfl (lvs_c rfl (lvs_c rfl (lvs_c rfl (lvs_n)))) ?_
    refine wa_aload_n cx (i := 0) dX4_lowestAtRest_18 rfl rfl ?_
    refine gf_X4_20 cx h_c0 dX4_lowestAtRest_19 ?_
    refine wa_iload_n cx (i := 1) dX4_lowestAtRest_22 rfl rfl ?_
    obtain ⟨b3, h⟩ := ob_some h
    refine wa_iald cx dX4_lowestAtRest_23 (kq4_4 cx.2.2.2.2.2.2.1 h_c0) b3 ?_
    refine wa_iload cx dX4_lowestAtRest_24 rfl ?_
    refine wa_isub cx dX4_lowestAtRest_26 ?_
    refine wa_iconst cx dX4_lowestAtRest_27 (1 : Int32) (by decide) ?_
    refine wa_iadd cx dX4_lowestAtRest_28 ?_
    replace h := sq_eq h
    generalize (((S.1 (c0 + 12) (Int32.toNatClampNeg a1)) - x2) + (1 : Int32)) = x4 at h ⊢
    refine wa_istore cx dX4_lowestAtRest_29 [(0, .ref (ad g c0)), (1, .int a1), (4, .int x2), (5, .int x4)] (Nat.le_of_ble_eq_true rfl) rfl (lvs_c rfl (lvs_c rfl (lvs_c rfl (lvs_c rfl (lvs_n))))) ?_
    refine wa_aload_n cx (i := 0) dX4_lowestAtRest_31 rfl rfl ?_
    obtain ⟨b5, h⟩ := ck_some h
    refine gf_X4_12 cx h_c0 dX4_lowestAtRest_32 ?_
    refine gf_X4_46 cx (kd_of cx.2.2.2.2.2.2.1 b5 (by decide)) dX4_lowestAtRest_35 ?_
    refine wa_iload_n cx (i := 1) dX4_lowestAtRest_38 rfl rfl ?_
    obtain ⟨b6, h⟩ := ob_some h
    refine wa_iald cx dX4_lowestAtRest_39 (kq0_6 cx.2.2.2.2.2.2.1 (kd_of cx.2.2.2.2.2.2.1 b5 (by decide))) b6 ?_
    refine wa_iload cx dX4_lowestAtRest_40 rfl ?_
    refine wa_isub cx dX4_lowestAtRest_42 ?_
    refine wa_aload_n cx (i := 0) dX4_lowestAtRest_43 rfl rfl ?_
    refine gf_X4_42 cx h_c0 dX4_lowestAtRest_44 ?_
    refine wa_isub cx dX4_lowestAtRest_47 ?_
    replace h := sq_eq h
    generalize (((S.1 ((S.2.2 c0 0) + 6) (Int32.toNatClampNeg a1)) - x2) - (S.1 c0 3)) = x7 at h ⊢
    refine wa_istore cx dX4_lowestAtRest_48 [(5, .int x4), (6, .int x7)] (Nat.le_of_ble_eq_true rfl) rfl (lvs_c rfl (lvs_c rfl (lvs_n))) ?_
    refine wa_iconst cx dX4_lowestAtRest_50 (1 : Int32) (by decide) ?_
    refine wa_iload cx dX4_lowestAtRest_51 rfl ?_
    refine wa_iload cx dX4_lowestAtRest_53 rfl ?_
    refine wa_mmin cx dX4_lowestAtRest_55 ml_X4_52 mmin_s m_i mmin_c ⟨Nat.le_of_ble_eq_true rfl, Nat.le_of_ble_eq_true rfl⟩ ⟨Nat.zero_le _, Nat.zero_le _⟩ ?_
    refine wa_mmax cx dX4_lowestAtRest_58 ml_X4_94 mmax_s m_i mmax_c ⟨Nat.le_of_ble_eq_true rfl, Nat.le_of_ble_eq_true rfl⟩ ⟨Nat.zero_le _, Nat.zero_le _⟩ ?_
    exact wa_iret cx h dX4_lowestAtRest_61
  · rw [if_neg q1] at h
    refine wa_iconst cx dX4_lowestAtRest_8 (1 : Int32) (by decide) ?_
    exact wa_iret cx h dX4_lowestAtRest_9
def rm_X4_isNoneAtRest : Room := { frames := 1, cells := 0, slots := 0, locals := 21 }
def f_X4_isNoneAtRest_J96 (c0 : Nat) (a1 : Int32) (a2 : Int32) (a3 : Int32) (k0 : Int32) (S : St) : Option (Int32 × St) := if (S.1 c0 3) = 0 then some ((1 : Int32), S) else if (1 : Int32) ≤ k0 then some ((0 : Int32), S) else some ((1 : Int32), S)
set_option maxHeartbeats 4000000 in
set_option maxRecDepth 100000 in
theorem w_X4_isNoneAtRest_J96 {p : Program} {l : Launch} {e : Env} {s : State} {m : MethodId} {args : Array Value} {below : List Frame} {meth : Method} {c : Code} {g : Gl} {r : Int32 × St} {c0 : Nat} {a1 : Int32} {a2 : Int32} {a3 : Int32} (cx : Cx p s m args meth c cX4_isNoneAtRest 8 (some .boolean) RX4 g (Ap g)) (h_c0 : kd g c0 = 4) : ∀ (k0 : Int32) (S : St), f_X4_isNoneAtRest_J96 c0 a1 a2 a3 k0 S = some r → WA p l e rm_X4_isNoneAtRest s m args below meth c 0 0 (MQ below (QWi g r) args s 0 0 (Ap g)) 8 g (Ap g) S 96 [(0, .ref (ad g c0))] [.int k0] := by
  intro k0 S h
  rw [f_X4_isNoneAtRest_J96] at h
  refine wa_istore cx dX4_isNoneAtRest_96 [(0, .ref (ad g c0)), (7, .int k0)] (Nat.le_of_ble_eq_true rfl) rfl (lvs_c rfl (lvs_c rfl (lvs_n))) ?_
  refine wa_aload_n cx (i := 0) dX4_isNoneAtRest_98 rfl rfl ?_
  refine gf_X4_42 cx h_c0 dX4_isNoneAtRest_99 ?_
  refine wa_if_eq cx dX4_isNoneAtRest_102 111 (by decide) (fun q1 => ?_) (fun q1 => ?_)
  · rw [if_pos q1] at h
    refine wa_iconst cx dX4_isNoneAtRest_111 (1 : Int32) (by decide) ?_
    refine wa_goto cx dX4_isNoneAtRest_112 116 (by decide) ?_
    exact wa_zret cx (by decide) h dX4_isNoneAtRest_116
  · rw [if_neg q1] at h
    refine wa_iload cx dX4_isNoneAtRest_105 rfl ?_
    refine wa_iconst cx dX4_isNoneAtRest_107 (1 : Int32) (by decide) ?_
    refine wa_icmp_ge cx dX4_isNoneAtRest_108 115 (by decide) (fun q2 => ?_) (fun q2 => ?_)
    · rw [if_pos q2] at h
      refine wa_iconst cx dX4_isNoneAtRest_115 (0 : Int32) (by decide) ?_
      exact wa_zret cx (by decide) h dX4_isNoneAtRest_116
    · rw [if_neg q2] at h
      refine wa_iconst cx dX4_isNoneAtRest_111 (1 : Int32) (by decide) ?_
      refine wa_goto cx dX4_isNoneAtRest_112 116 (by decide) ?_
      exact wa_zret cx (by decide) h dX4_isNoneAtRest_116
def f_X4_isNoneAtRest_J69 (c0 : Nat) (a1 : Int32) (a2 : Int32) (a3 : Int32) (l4 : Int32) (l5 : Int32) (S : St) : Option (Int32 × St) := if l5 = 0 then ob a1 8 (f_X4_isNoneAtRest_J96 c0 a1 a2 a3 (S.1 (c0 + 12) (Int32.toNatClampNeg a1)) S) else ob a1 8 (f_X4_isNoneAtRest_J96 c0 a1 a2 a3 (imin (S.1 (c0 + 12) (Int32.toNatClampNeg a1)) (l4 - (1 : Int32))) S)
set_option maxHeartbeats 4000000 in
set_option maxRecDepth 100000 in
theorem w_X4_isNoneAtRest_J69 {p : Program} {l : Launch} {e : Env} {s : State} {m : MethodId} {args : Array Value} {below : List Frame} {meth : Method} {c : Code} {g : Gl} {r : Int32 × St} {c0 : Nat} {a1 : Int32} {a2 : Int32} {a3 : Int32} (cx : Cx p s m args meth c cX4_isNoneAtRest 8 (some .boolean) RX4 g (Ap g)) (h_c0 : kd g c0 = 4) : ∀ (l4 : Int32) (l5 : Int32) (S : St), f_X4_isNoneAtRest_J69 c0 a1 a2 a3 l4 l5 S = some r → WA p l e rm_X4_isNoneAtRest s m args below meth c 0 0 (MQ below (QWi g r) args s 0 0 (Ap g)) 8 g (Ap g) S 69 [(0, .ref (ad g c0)), (1, .int a1), (4, .int l4), (5, .int l5)] [] := by
  intro l4 l5 S h
  rw [f_X4_isNoneAtRest_J69] at h
  refine wa_iload cx dX4_isNoneAtRest_69 rfl ?_
  refine wa_if_eq cx dX4_isNoneAtRest_71 90 (by decide) (fun q3 => ?_) (fun q3 => ?_)
  · rw [if_pos q3] at h
    refine wa_aload_n cx (i := 0) dX4_isNoneAtRest_90 rfl rfl ?_
    refine gf_X4_20 cx h_c0 dX4_isNoneAtRest_91 ?_
    refine wa_iload_n cx (i := 1) dX4_isNoneAtRest_94 rfl rfl ?_
    obtain ⟨b4, h⟩ := ob_some h
    refine wa_iald cx dX4_isNoneAtRest_95 (kq4_4 cx.2.2.2.2.2.2.1 h_c0) b4 ?_
    refine wa_sub (lv' := [(0, .ref (ad g c0))]) (lvs_c rfl (lvs_n)) ?_
    exact w_X4_isNoneAtRest_J96 cx h_c0   (S.1 (c0 + 12) (Int32.toNatClampNeg a1)) S  h
  · rw [if_neg q3] at h
    refine wa_aload_n cx (i := 0) dX4_isNoneAtRest_74 rfl rfl ?_
    refine gf_X4_20 cx h_c0 dX4_isNoneAtRest_75 ?_
    refine wa_iload_n cx (i := 1) dX4_isNoneAtRest_78 rfl rfl ?_
    obtain ⟨b5, h⟩ := ob_some h
    refine wa_iald cx dX4_isNoneAtRest_79 (kq4_4 cx.2.2.2.2.2.2.1 h_c0) b5 ?_
    refine wa_iload cx dX4_isNoneAtRest_80 rfl ?_
    refine wa_iconst cx dX4_isNoneAtRest_82 (1 : Int32) (by decide) ?_
    refine wa_isub cx dX4_isNoneAtRest_83 ?_
    refine wa_mmin cx dX4_isNoneAtRest_84 ml_X4_52 mmin_s m_i mmin_c ⟨Nat.le_of_ble_eq_true rfl, Nat.le_of_ble_eq_true rfl⟩ ⟨Nat.zero_le _, Nat.zero_le _⟩ ?_
    refine wa_goto cx dX4_isNoneAtRest_87 96 (by decide) ?_
    refine wa_sub (lv' := [(0, .ref (ad g c0))]) (lvs_c rfl (lvs_n)) ?_
    exact w_X4_isNoneAtRest_J96 cx h_c0   (imin (S.1 (c0 + 12) (Int32.toNatClampNeg a1)) (l4 - (1 : Int32))) S  h
def f_X4_isNoneAtRest_J46 (c0 : Nat) (a1 : Int32) (a2 : Int32) (a3 : Int32) (l4 : Int32) (l5 : Int32) (k0 : Int32) (S : St) : Option (Int32 × St) := if k0 = 0 then f_X4_isNoneAtRest_J69 c0 a1 a2 a3 l4 l5 S else ck (kdE (S.2.2 c0 0) = 0) (ob a1 8 (if (S.1 ((S.2.2 c0 0) + 6) (Int32.toNatClampNeg a1)) ≤ l4 then f_X4_isNoneAtRest_J69 c0 a1 a2 a3 l4 l5 S else some ((0 : Int32), S)))
set_option maxHeartbeats 4000000 in
set_option maxRecDepth 100000 in
theorem w_X4_isNoneAtRest_J46 {p : Program} {l : Launch} {e : Env} {s : State} {m : MethodId} {args : Array Value} {below : List Frame} {meth : Method} {c : Code} {g : Gl} {r : Int32 × St} {c0 : Nat} {a1 : Int32} {a2 : Int32} {a3 : Int32} (cx : Cx p s m args meth c cX4_isNoneAtRest 8 (some .boolean) RX4 g (Ap g)) (h_c0 : kd g c0 = 4) : ∀ (l4 : Int32) (l5 : Int32) (k0 : Int32) (S : St), f_X4_isNoneAtRest_J46 c0 a1 a2 a3 l4 l5 k0 S = some r → WA p l e rm_X4_isNoneAtRest s m args below meth c 0 0 (MQ below (QWi g r) args s 0 0 (Ap g)) 8 g (Ap g) S 46 [(0, .ref (ad g c0)), (1, .int a1), (4, .int l4), (5, .int l5)] [.int k0] := by
  intro l4 l5 k0 S h
  rw [f_X4_isNoneAtRest_J46] at h
  refine wa_istore cx dX4_isNoneAtRest_46 [(0, .ref (ad g c0)), (1, .int a1), (4, .int l4), (5, .int l5), (6, .int k0)] (Nat.le_of_ble_eq_true rfl) rfl (lvs_c rfl (lvs_c rfl (lvs_c rfl (lvs_c rfl (lvs_c rfl (lvs_n)))))) ?_
  refine wa_iload cx dX4_isNoneAtRest_48 rfl ?_
  refine wa_if_eq cx dX4_isNoneAtRest_50 69 (by decide) (fun q6 => ?_) (fun q6 => ?_)
  · rw [if_pos q6] at h
    refine wa_sub (lv' := [(0, .ref (ad g c0)), (1, .int a1), (4, .int l4), (5, .int l5)]) (lvs_c rfl (lvs_c rfl (lvs_c rfl (lvs_c rfl (lvs_n))))) ?_
    exact w_X4_isNoneAtRest_J69 cx h_c0   l4 l5 S  h
  · rw [if_neg q6] at h
    refine wa_aload_n cx (i := 0) dX4_isNoneAtRest_53 rfl rfl ?_
    obtain ⟨b7, h⟩ := ck_some h
    refine gf_X4_12 cx h_c0 dX4_isNoneAtRest_54 ?_
    refine gf_X4_46 cx (kd_of cx.2.2.2.2.2.2.1 b7 (by decide)) dX4_isNoneAtRest_57 ?_
    refine wa_iload_n cx (i := 1) dX4_isNoneAtRest_60 rfl rfl ?_
    obtain ⟨b8, h⟩ := ob_some h
    refine wa_iald cx dX4_isNoneAtRest_61 (kq0_6 cx.2.2.2.2.2.2.1 (kd_of cx.2.2.2.2.2.2.1 b7 (by decide))) b8 ?_
    refine wa_iload cx dX4_isNoneAtRest_62 rfl ?_
    refine wa_icmp_le cx dX4_isNoneAtRest_64 69 (by decide) (fun q9 => ?_) (fun q9 => ?_)
    · rw [if_pos q9] at h
      refine wa_sub (lv' := [(0, .ref (ad g c0)), (1, .int a1), (4, .int l4), (5, .int l5)]) (lvs_c rfl (lvs_c rfl (lvs_c rfl (lvs_c rfl (lvs_n))))) ?_
      exact w_X4_isNoneAtRest_J69 cx h_c0   l4 l5 S  h
    · rw [if_neg q9] at h
      refine wa_iconst cx dX4_isNoneAtRest_67 (0 : Int32) (by decide) ?_
      exact wa_zret cx (by decide) h dX4_isNoneAtRest_68
def f_X4_isNoneAtRest_J45 (c0 : Nat) (a1 : Int32) (a2 : Int32) (a3 : Int32) (l4 : Int32) (l5 : Int32) (S : St) : Option (Int32 × St) := f_X4_isNoneAtRest_J46 c0 a1 a2 a3 l4 l5 (0 : Int32) S
set_option maxHeartbeats 4000000 in
set_option maxRecDepth 100000 in
theorem w_X4_isNoneAtRest_J45 {p : Program} {l : Launch} {e : Env} {s : State} {m : MethodId} {args : Array Value} {below : List Frame} {meth : Method} {c : Code} {g : Gl} {r : Int32 × St} {c0 : Nat} {a1 : Int32} {a2 : Int32} {a3 : Int32} (cx : Cx p s m args meth c cX4_isNoneAtRest 8 (some .boolean) RX4 g (Ap g)) (h_c0 : kd g c0 = 4) : ∀ (l4 : Int32) (l5 : Int32) (S : St), f_X4_isNoneAtRest_J45 c0 a1 a2 a3 l4 l5 S = some r → WA p l e rm_X4_isNoneAtRest s m args below meth c 0 0 (MQ below (QWi g r) args s 0 0 (Ap g)) 8 g (Ap g) S 45 [(0, .ref (ad g c0)), (1, .int a1), (4, .int l4), (5, .int l5)] [] := by
  intro l4 l5 S h
  rw [f_X4_isNoneAtRest_J45] at h
  refine wa_iconst cx dX4_isNoneAtRest_45 (0 : Int32) (by decide) ?_
  refine wa_sub (lv' := [(0, .ref (ad g c0)), (1, .int a1), (4, .int l4), (5, .int l5)]) (lvs_c rfl (lvs_c rfl (lvs_c rfl (lvs_c rfl (lvs_n))))) ?_
  exact w_X4_isNoneAtRest_J46 cx h_c0   l4 l5 (0 : Int32) S  h
def f_X4_isNoneAtRest_J23 (c0 : Nat) (a1 : Int32) (a2 : Int32) (a3 : Int32) (l4 : Int32) (k0 : Int32) (S : St) : Option (Int32 × St) := if k0 = 0 then f_X4_isNoneAtRest_J45 c0 a1 a2 a3 l4 k0 S else ob a1 8 (if (S.1 (c0 + 12) (Int32.toNatClampNeg a1)) < l4 then f_X4_isNoneAtRest_J45 c0 a1 a2 a3 l4 k0 S else f_X4_isNoneAtRest_J46 c0 a1 a2 a3 l4 k0 (1 : Int32) S)
set_option maxHeartbeats 4000000 in
set_option maxRecDepth 100000 in
theorem w_X4_isNoneAtRest_J23 {p : Program} {l : Launch} {e : Env} {s : State} {m : MethodId} {args : Array Value} {below : List Frame} {meth : Method} {c : Code} {g : Gl} {r : Int32 × St} {c0 : Nat} {a1 : Int32} {a2 : Int32} {a3 : Int32} (cx : Cx p s m args meth c cX4_isNoneAtRest 8 (some .boolean) RX4 g (Ap g)) (h_c0 : kd g c0 = 4) : ∀ (l4 : Int32) (k0 : Int32) (S : St), f_X4_isNoneAtRest_J23 c0 a1 a2 a3 l4 k0 S = some r → WA p l e rm_X4_isNoneAtRest s m args below meth c 0 0 (MQ below (QWi g r) args s 0 0 (Ap g)) 8 g (Ap g) S 23 [(0, .ref (ad g c0)), (1, .int a1), (4, .int l4)] [.int k0] := by
  intro l4 k0 S h
  rw [f_X4_isNoneAtRest_J23] at h
  refine wa_istore cx dX4_isNoneAtRest_23 [(0, .ref (ad g c0)), (1, .int a1), (4, .int l4), (5, .int k0)] (Nat.le_of_ble_eq_true rfl) rfl (lvs_c rfl (lvs_c rfl (lvs_c rfl (lvs_c rfl (lvs_n))))) ?_
  refine wa_iload cx dX4_isNoneAtRest_25 rfl ?_
  refine wa_if_eq cx dX4_isNoneAtRest_27 45 (by decide) (fun q10 => ?_) (fun q10 => ?_)
  · rw [if_pos q10] at h
    refine wa_sub (lv' := [(0, .ref (ad g c0)), (1, .int a1), (4, .int l4), (5, .int k0)]) (lvs_c rfl (lvs_c rfl (lvs_c rfl (lvs_c rfl (lvs_n))))) ?_
    exact w_X4_isNoneAtRest_J45 cx h_c0   l4 k0 S  h
  · rw [if_neg q10] at h
    refine wa_iload cx dX4_isNoneAtRest_30 rfl ?_
    refine wa_aload_n cx (i := 0) dX4_isNoneAtRest_32 rfl rfl ?_
    refine gf_X4_20 cx h_c0 dX4_isNoneAtRest_33 ?_
    refine wa_iload_n cx (i := 1) dX4_isNoneAtRest_36 rfl rfl ?_
    obtain ⟨b11, h⟩ := ob_some h
    refine wa_iald cx dX4_isNoneAtRest_37 (kq4_4 cx.2.2.2.2.2.2.1 h_c0) b11 ?_
    refine wa_icmp_gt cx dX4_isNoneAtRest_38 45 (by decide) (fun q12 => ?_) (fun q12 => ?_)
    · rw [if_pos q12] at h
      refine wa_sub (lv' := [(0, .ref (ad g c0)), (1, .int a1), (4, .int l4), (5, .int k0)]) (lvs_c rfl (lvs_c rfl (lvs_c rfl (lvs_c rfl (lvs_n))))) ?_
      exact w_X4_isNoneAtRest_J45 cx h_c0   l4 k0 S  h
    · rw [if_neg q12] at h
      refine wa_iconst cx dX4_isNoneAtRest_41 (1 : Int32) (by decide) ?_
      refine wa_goto cx dX4_isNoneAtRest_42 46 (by decide) ?_
      refine wa_sub (lv' := [(0, .ref (ad g c0)), (1, .int a1), (4, .int l4), (5, .int k0)]) (lvs_c rfl (lvs_c rfl (lvs_c rfl (lvs_c rfl (lvs_n))))) ?_
      exact w_X4_isNoneAtRest_J46 cx h_c0   l4 k0 (1 : Int32) S  h
def f_X4_isNoneAtRest (c0 : Nat) (a1 : Int32) (a2 : Int32) (a3 : Int32) (S : St) : Option (Int32 × St) := sq ((S.1 c0 1) - a2) fun x13 => if (a3 + (1 : Int32)) < (S.1 c0 2) then f_X4_isNoneAtRest_J23 c0 a1 a2 a3 x13 (0 : Int32) S else f_X4_isNoneAtRest_J23 c0 a1 a2 a3 x13 (1 : Int32) S
set_option maxHeartbeats 4000000 in
set_option maxRecDepth 100000 in
theorem m_X4_isNoneAtRest (l : Launch) {g : Gl} (hg : GOK g) {c0 : Nat} {a1 : Int32} {a2 : Int32} {a3 : Int32} {S : St} {r : Int32 × St} (h_c0 : kd g c0 = 4) (h : f_X4_isNoneAtRest c0 a1 a2 a3 S = some r) : MW l yX4_isNoneAtRest cX4_isNoneAtRest 8 (some .boolean) rm_X4_isNoneAtRest g S [.ref (ad g c0), .int a1, .int a2, .int a3] (QWi g r) := by
  refine startW [(0, .ref (ad g c0)), (1, .int a1), (2, .int a2), (3, .int a3)] (by decide +kernel) (Nat.le_of_ble_eq_true rfl) rfl hg (fun p e s m args below meth c cx => ?_)
  have cx : Cx p s m args meth c cX4_isNoneAtRest 8 (some .boolean) RX4 g (Ap g) := cx
  rw [f_X4_isNoneAtRest] at h
  refine wa_aload_n cx (i := 0) dX4_isNoneAtRest_0 rfl rfl ?_
  refine gf_X4_34 cx h_c0 dX4_isNoneAtRest_1 ?_
  refine wa_iload_n cx (i := 2) dX4_isNoneAtRest_4 rfl rfl ?_
  refine wa_isub cx dX4_isNoneAtRest_5 ?_
  replace h := sq_eq h
  generalize ((S.1 c0 1) - a2) = x13 at h ⊢
  refine wa_istore cx dX4_isNoneAtRest_6 [(0, .ref (ad g c0)), (1, .int a1), (3, .int a3), (4, .int x13)] (Nat.le_of_ble_eq_true rfl) rfl (lvs_c rfl (lvs_c rfl (lvs_c rfl (lvs_c rfl (lvs_n))))) ?_
  refine wa_iload_n cx (i := 3) dX4_isNoneAtRest_8 rfl rfl ?_
  refine wa_iconst cx dX4_isNoneAtRest_9 (1 : Int32) (by decide) ?_
  refine wa_iadd cx dX4_isNoneAtRest_10 ?_
  refine wa_aload_n cx (i := 0) dX4_isNoneAtRest_11 rfl rfl ?_
  refine gf_X4_38 cx h_c0 dX4_isNoneAtRest_12 ?_
  refine wa_icmp_lt cx dX4_isNoneAtRest_15 22 (by decide) (fun q14 => ?_) (fun q14 => ?_)
  · rw [if_pos q14] at h
    refine wa_iconst cx dX4_isNoneAtRest_22 (0 : Int32) (by decide) ?_
    refine wa_sub (lv' := [(0, .ref (ad g c0)), (1, .int a1), (4, .int x13)]) (lvs_c rfl (lvs_c rfl (lvs_c rfl (lvs_n)))) ?_
    exact w_X4_isNoneAtRest_J23 cx h_c0   x13 (0 : Int32) S  h
  · rw [if_neg q14] at h
    refine wa_iconst cx dX4_isNoneAtRest_18 (1 : Int32) (by decide) ?_
    refine wa_goto cx dX4_isNoneAtRest_19 23 (by decide) ?_
    refine wa_sub (lv' := [(0, .ref (ad g c0)), (1, .int a1), (4, .int x13)]) (lvs_c rfl (lvs_c rfl (lvs_c rfl (lvs_n)))) ?_
    exact w_X4_isNoneAtRest_J23 cx h_c0   x13 (1 : Int32) S  h
def rm_X4_failingWays_ : Room := { frames := 2, cells := 0, slots := 0, locals := 48 }
def f_X4_failingWays__L6 : Nat → Nat → Int32 → Int32 → Int32 → St → Option (Int64 × St)
  | 0, _, _, _, _, _ => none
  | n + 1, c0, a1, a2, l3, S => ck (kdE (S.2.2 c0 0) = 0) (if (S.1 (S.2.2 c0 0) 0) ≤ l3 then ob ((a2 * (61 : Int32)) + a1) 549 (some ((S.2.1 (c0 + 13) (Int32.toNatClampNeg ((a2 * (61 : Int32)) + a1))), S)) else bd (f_X4_lowestAtRest c0 l3 a1 a2 S) fun x4 S5 => ob l3 8 (bd (f_X4_isNoneAtRest c0 l3 a1 a2 S5) fun x8 S9 => bd (f_X4_join c0 x4 (S5.1 (c0 + 12) (Int32.toNatClampNeg l3)) x8 a1 a2 S9) fun _ S11 => f_X4_failingWays__L6 n c0 a1 a2 (l3 + (1 : Int32)) S11))
set_option maxHeartbeats 4000000 in
set_option maxRecDepth 100000 in
theorem w_X4_failingWays__L6 {p : Program} {l : Launch} {e : Env} {s : State} {m : MethodId} {args : Array Value} {below : List Frame} {meth : Method} {c : Code} {g : Gl} {r : Int64 × St} {c0 : Nat} {a1 : Int32} {a2 : Int32} (cx : Cx p s m args meth c cX4_failingWays_ 4 (some .long) RX4 g (Ap g)) (h_c0 : kd g c0 = 4) : ∀ n : Nat, ∀ (l3 : Int32) (S : St), f_X4_failingWays__L6 n c0 a1 a2 l3 S = some r → WA p l e rm_X4_failingWays_ s m args below meth c 0 0 (MQ below (QWl g r) args s 0 0 (Ap g)) 4 g (Ap g) S 6 [(0, .ref (ad g c0)), (1, .int a1), (2, .int a2), (3, .int l3)] [] := by
  intro n
  induction n with
  | zero => intro l3 S h; rw [f_X4_failingWays__L6] at h; cases h
  | succ n ih =>
    intro l3 S h
    rw [f_X4_failingWays__L6] at h
    refine wa_iload_n cx (i := 3) dX4_failingWays__6 rfl rfl ?_
    refine wa_aload_n cx (i := 0) dX4_failingWays__7 rfl rfl ?_
    obtain ⟨b1, h⟩ := ck_some h
    refine gf_X4_12 cx h_c0 dX4_failingWays__8 ?_
    refine gf_X4_43 cx (kd_of cx.2.2.2.2.2.2.1 b1 (by decide)) dX4_failingWays__11 ?_
    refine wa_icmp_ge cx dX4_failingWays__14 49 (by decide) (fun q2 => ?_) (fun q2 => ?_)
    · rw [if_pos q2] at h
      refine wa_aload_n cx (i := 0) dX4_failingWays__49 rfl rfl ?_
      refine gf_X4_24 cx h_c0 dX4_failingWays__50 ?_
      refine wa_iload_n cx (i := 2) dX4_failingWays__53 rfl rfl ?_
      refine wa_bipush cx dX4_failingWays__54 (61 : Int32) (by decide) ?_
      refine wa_imul cx dX4_failingWays__56 ?_
      refine wa_iload_n cx (i := 1) dX4_failingWays__57 rfl rfl ?_
      refine wa_iadd cx dX4_failingWays__58 ?_
      obtain ⟨b3, h⟩ := ob_some h
      refine wa_lald cx dX4_failingWays__59 (kq4_5 cx.2.2.2.2.2.2.1 h_c0) b3 ?_
      exact wa_lret cx h dX4_failingWays__60
    · rw [if_neg q2] at h
      refine wa_aload_n cx (i := 0) dX4_failingWays__17 rfl rfl ?_
      refine wa_aload_n cx (i := 0) dX4_failingWays__18 rfl rfl ?_
      refine wa_iload_n cx (i := 3) dX4_failingWays__19 rfl rfl ?_
      refine wa_iload_n cx (i := 1) dX4_failingWays__20 rfl rfl ?_
      refine wa_iload_n cx (i := 2) dX4_failingWays__21 rfl rfl ?_
      obtain ⟨x4, S5, e6, h⟩ := bd_some h
      refine wa_callVi cx (m_X4_lowestAtRest l cx.2.2.2.2.2.2.1 h_c0 e6) vl_X4_86 h_c0 (by decide) rfl rfl ⟨_, cell_eq4 (kd_lt h_c0 (by decide)).2⟩ ⟨Nat.le_of_ble_eq_true rfl, Nat.le_of_ble_eq_true rfl⟩ ⟨rfl, rfl⟩ ⟨Nat.zero_le _, Nat.zero_le _⟩ rfl (Nat.le_of_ble_eq_true rfl) dX4_failingWays__22 rfl ?_
      refine wa_aload_n cx (i := 0) dX4_failingWays__25 rfl rfl ?_
      refine gf_X4_20 cx h_c0 dX4_failingWays__26 ?_
      refine wa_iload_n cx (i := 3) dX4_failingWays__29 rfl rfl ?_
      obtain ⟨b7, h⟩ := ob_some h
      refine wa_iald cx dX4_failingWays__30 (kq4_4 cx.2.2.2.2.2.2.1 h_c0) b7 ?_
      refine wa_aload_n cx (i := 0) dX4_failingWays__31 rfl rfl ?_
      refine wa_iload_n cx (i := 3) dX4_failingWays__32 rfl rfl ?_
      refine wa_iload_n cx (i := 1) dX4_failingWays__33 rfl rfl ?_
      refine wa_iload_n cx (i := 2) dX4_failingWays__34 rfl rfl ?_
      obtain ⟨x8, S9, e10, h⟩ := bd_some h
      refine wa_callVi cx (m_X4_isNoneAtRest l cx.2.2.2.2.2.2.1 h_c0 e10) vl_X4_90 h_c0 (by decide) rfl rfl ⟨_, cell_eq4 (kd_lt h_c0 (by decide)).2⟩ ⟨Nat.le_of_ble_eq_true rfl, Nat.le_of_ble_eq_true rfl⟩ ⟨rfl, rfl⟩ ⟨Nat.zero_le _, Nat.zero_le _⟩ rfl (Nat.le_of_ble_eq_true rfl) dX4_failingWays__35 rfl ?_
      refine wa_iload_n cx (i := 1) dX4_failingWays__38 rfl rfl ?_
      refine wa_iload_n cx (i := 2) dX4_failingWays__39 rfl rfl ?_
      obtain ⟨u13, S11, e12, h⟩ := bd_some h
      refine wa_callVv cx (m_X4_join l cx.2.2.2.2.2.2.1 h_c0 e12) vl_X4_67 h_c0 (by decide) rfl rfl ⟨_, cell_eq4 (kd_lt h_c0 (by decide)).2⟩ ⟨Nat.le_of_ble_eq_true rfl, Nat.le_of_ble_eq_true rfl⟩ ⟨rfl, rfl⟩ ⟨Nat.zero_le _, Nat.zero_le _⟩ rfl (Nat.le_of_ble_eq_true rfl) dX4_failingWays__40 rfl ?_
      refine wa_iinc cx dX4_failingWays__43 (l3 + (1 : Int32)) [(0, .ref (ad g c0)), (1, .int a1), (2, .int a2), (3, .int (l3 + (1 : Int32)))] rfl rfl (Nat.le_of_ble_eq_true rfl) rfl (lvs_c rfl (lvs_c rfl (lvs_c rfl (lvs_c rfl (lvs_n))))) ?_
      refine wa_goto cx dX4_failingWays__46 6 (by decide) ?_
      refine wa_sub (lv' := [(0, .ref (ad g c0)), (1, .int a1), (2, .int a2), (3, .int (l3 + (1 : Int32)))]) (lvs_c rfl (lvs_c rfl (lvs_c rfl (lvs_c rfl (lvs_n))))) ?_
      exact ih (l3 + (1 : Int32)) S11  h
def f_X4_failingWays_ (c0 : Nat) (a1 : Int32) (a2 : Int32) (S : St) : Option (Int64 × St) := bd (f_X4_clearTable c0 S) fun _ S14 => f_X4_failingWays__L6 FU c0 a1 a2 (0 : Int32) S14
set_option maxHeartbeats 4000000 in
set_option maxRecDepth 100000 in
theorem m_X4_failingWays_ (l : Launch) {g : Gl} (hg : GOK g) {c0 : Nat} {a1 : Int32} {a2 : Int32} {S : St} {r : Int64 × St} (h_c0 : kd g c0 = 4) (h : f_X4_failingWays_ c0 a1 a2 S = some r) : MW l yX4_failingWays_ cX4_failingWays_ 4 (some .long) rm_X4_failingWays_ g S [.ref (ad g c0), .int a1, .int a2] (QWl g r) := by
  refine startW [(0, .ref (ad g c0)), (1, .int a1), (2, .int a2)] (by decide +kernel) (Nat.le_of_ble_eq_true rfl) rfl hg (fun p e s m args below meth c cx => ?_)
  have cx : Cx p s m args meth c cX4_failingWays_ 4 (some .long) RX4 g (Ap g) := cx
  rw [f_X4_failingWays_] at h
  refine wa_aload_n cx (i := 0) dX4_failingWays__0 rfl rfl ?_
  obtain ⟨u16, S14, e15, h⟩ := bd_some h
  refine wa_callVv cx (m_X4_clearTable l cx.2.2.2.2.2.2.1 h_c0 e15) vl_X4_64 h_c0 (by decide) rfl rfl ⟨_, cell_eq4 (kd_lt h_c0 (by decide)).2⟩ ⟨Nat.le_of_ble_eq_true rfl, Nat.le_of_ble_eq_true rfl⟩ ⟨rfl, rfl⟩ ⟨Nat.zero_le _, Nat.zero_le _⟩ rfl (Nat.le_of_ble_eq_true rfl) dX4_failingWays__1 rfl ?_
  refine wa_iconst cx dX4_failingWays__4 (0 : Int32) (by decide) ?_
  refine wa_istore_n cx (i := 3) dX4_failingWays__5 [(0, .ref (ad g c0)), (1, .int a1), (2, .int a2), (3, .int (0 : Int32))] rfl (Nat.le_of_ble_eq_true rfl) rfl (lvs_c rfl (lvs_c rfl (lvs_c rfl (lvs_c rfl (lvs_n))))) ?_
  refine wa_sub (lv' := [(0, .ref (ad g c0)), (1, .int a1), (2, .int a2), (3, .int (0 : Int32))]) (lvs_c rfl (lvs_c rfl (lvs_c rfl (lvs_c rfl (lvs_n))))) ?_
  exact w_X4_failingWays__L6 cx h_c0  FU (0 : Int32) S14  h
