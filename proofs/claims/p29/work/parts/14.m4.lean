def rm_L_some : Room := { frames := 0, cells := 0, slots := 0, locals := 0 }
def f_L_some (a0 : Int32) (a1 : Int32) (S : St) : Option (Int32 × St) := ck (¬ a1 = 0) (some (((a0 &&& (2147483647 : Int32)) - (a0 &&& (2147483647 : Int32)) / a1 * a1), S))
set_option maxHeartbeats 4000000 in
set_option maxRecDepth 100000 in
theorem m_L_some (l : Launch) {g : Gl} (hg : GOK g) {a0 : Int32} {a1 : Int32} {S : St} {r : Int32 × St}  (h : f_L_some a0 a1 S = some r) : MW l yL_some cL_some 2 (some .int) rm_L_some g S [.int a0, .int a1] (QWi g r) := by
  refine startW [(0, .int a0), (1, .int a1)] (by decide +kernel) (Nat.le_of_ble_eq_true rfl) rfl hg (fun p e s m args below meth c cx => ?_)
  have cx : Cx p s m args meth c cL_some 2 (some .int) RL g (Ap g) := cx
  rw [f_L_some] at h
  refine wa_iload_n cx (i := 0) dL_some_0 rfl rfl ?_
  refine wa_ldc cx dL_some_1 (2147483647 : Int32) kc_L_8 ?_
  refine wa_iand cx dL_some_3 ?_
  refine wa_iload_n cx (i := 1) dL_some_4 rfl rfl ?_
  obtain ⟨b1, h⟩ := ck_some h
  refine wa_irem cx dL_some_5 b1 ?_
  exact wa_iret cx h dL_some_6
def rm_L_number : Room := { frames := 2, cells := 0, slots := 0, locals := 47 }
def f_L_number_J27 (a0 : Nat) (a1 : Int32) (a2 : Int32) (kb6 : Int32 → Int32 → St → Option (Int32 × St)) (l4 : Int32) (S : St) : Option (Int32 × St) := ck (¬ l4 = 0) (bd (f_X9_write a0 (1 : Int32) (Int32.toInt64 ((48 : Int32) + ((a1 / l4) - (a1 / l4) / (10 : Int32) * (10 : Int32)))) S) fun x2 S3 => if x2 ≤ 0 then sq (l4 / (10 : Int32)) fun x6 => kb6 (0 : Int32) x6 S3 else sq (l4 / (10 : Int32)) fun x7 => kb6 (1 : Int32) x7 S3)
set_option maxHeartbeats 4000000 in
set_option maxRecDepth 100000 in
theorem w_L_number_J27 {p : Program} {l : Launch} {e : Env} {s : State} {m : MethodId} {args : Array Value} {below : List Frame} {meth : Method} {c : Code} {g : Gl} {r : Int32 × St} {a0 : Nat} {a1 : Int32} {a2 : Int32} {kb6 : Int32 → Int32 → St → Option (Int32 × St)} (cx : Cx p s m args meth c cL_number 5 (some .boolean) RL g (Ap g)) (h_a0 : kd g a0 = 9) (hkb6 : ∀ (l3 : Int32) (l4 : Int32) (S : St), kb6 l3 l4 S = some r → WA p l e rm_L_number s m args below meth c 0 0 (MQ below (QWi g r) args s 0 0 (Ap g)) 5 g (Ap g) S 6 [(0, .ref (ad g a0)), (1, .int a1), (2, .int a2), (3, .int l3), (4, .int l4)] []) : ∀ (l4 : Int32) (S : St), f_L_number_J27 a0 a1 a2 kb6 l4 S = some r → WA p l e rm_L_number s m args below meth c 0 0 (MQ below (QWi g r) args s 0 0 (Ap g)) 5 g (Ap g) S 27 [(0, .ref (ad g a0)), (1, .int a1), (2, .int a2), (4, .int l4)] [] := by
  intro l4 S h
  rw [f_L_number_J27] at h
  refine wa_aload_n cx (i := 0) dL_number_27 rfl rfl ?_
  refine wa_iconst cx dL_number_28 (1 : Int32) (by decide) ?_
  refine wa_bipush cx dL_number_29 (48 : Int32) (by decide) ?_
  refine wa_iload_n cx (i := 1) dL_number_31 rfl rfl ?_
  refine wa_iload cx dL_number_32 rfl ?_
  obtain ⟨b1, h⟩ := ck_some h
  refine wa_idiv cx dL_number_34 b1 ?_
  refine wa_bipush cx dL_number_35 (10 : Int32) (by decide) ?_
  refine wa_irem cx dL_number_37 (by decide) ?_
  refine wa_iadd cx dL_number_38 ?_
  refine wa_i2l cx dL_number_39 ?_
  obtain ⟨x2, S3, e4, h⟩ := bd_some h
  refine wa_callVi cx (m_X9_write l cx.2.2.2.2.2.2.1 h_a0 e4) vl_L_9 h_a0 (by decide) rfl rfl ⟨_, cell_eq9 (kd_lt h_a0 (by decide)).2⟩ ⟨Nat.le_of_ble_eq_true rfl, Nat.le_of_ble_eq_true rfl⟩ ⟨rfl, rfl⟩ ⟨Nat.zero_le _, Nat.zero_le _⟩ rfl (Nat.le_of_ble_eq_true rfl) dL_number_40 rfl ?_
  refine wa_if_le cx dL_number_43 50 (by decide) (fun q5 => ?_) (fun q5 => ?_)
  · rw [if_pos q5] at h
    refine wa_iconst cx dL_number_50 (0 : Int32) (by decide) ?_
    refine wa_istore_n cx (i := 3) dL_number_51 [(0, .ref (ad g a0)), (1, .int a1), (2, .int a2), (3, .int (0 : Int32)), (4, .int l4)] rfl (Nat.le_of_ble_eq_true rfl) rfl (lvs_c rfl (lvs_c rfl (lvs_c rfl (lvs_c rfl (lvs_c rfl (lvs_n)))))) ?_
    refine wa_iload cx dL_number_52 rfl ?_
    refine wa_bipush cx dL_number_54 (10 : Int32) (by decide) ?_
    refine wa_idiv cx dL_number_56 (by decide) ?_
    replace h := sq_eq h
    generalize (l4 / (10 : Int32)) = x6 at h ⊢
    refine wa_istore cx dL_number_57 [(0, .ref (ad g a0)), (1, .int a1), (2, .int a2), (3, .int (0 : Int32)), (4, .int x6)] (Nat.le_of_ble_eq_true rfl) rfl (lvs_c rfl (lvs_c rfl (lvs_c rfl (lvs_c rfl (lvs_c rfl (lvs_n)))))) ?_
    refine wa_goto cx dL_number_59 6 (by decide) ?_
    refine wa_sub (lv' := [(0, .ref (ad g a0)), (1, .int a1), (2, .int a2), (3, .int (0 : Int32)), (4, .int x6)]) (lvs_c rfl (lvs_c rfl (lvs_c rfl (lvs_c rfl (lvs_c rfl (lvs_n)))))) ?_
    exact hkb6 (0 : Int32) x6 S3  h
  · rw [if_neg q5] at h
    refine wa_iconst cx dL_number_46 (1 : Int32) (by decide) ?_
    refine wa_goto cx dL_number_47 51 (by decide) ?_
    refine wa_istore_n cx (i := 3) dL_number_51 [(0, .ref (ad g a0)), (1, .int a1), (2, .int a2), (3, .int (1 : Int32)), (4, .int l4)] rfl (Nat.le_of_ble_eq_true rfl) rfl (lvs_c rfl (lvs_c rfl (lvs_c rfl (lvs_c rfl (lvs_c rfl (lvs_n)))))) ?_
    refine wa_iload cx dL_number_52 rfl ?_
    refine wa_bipush cx dL_number_54 (10 : Int32) (by decide) ?_
    refine wa_idiv cx dL_number_56 (by decide) ?_
    replace h := sq_eq h
    generalize (l4 / (10 : Int32)) = x7 at h ⊢
    refine wa_istore cx dL_number_57 [(0, .ref (ad g a0)), (1, .int a1), (2, .int a2), (3, .int (1 : Int32)), (4, .int x7)] (Nat.le_of_ble_eq_true rfl) rfl (lvs_c rfl (lvs_c rfl (lvs_c rfl (lvs_c rfl (lvs_c rfl (lvs_n)))))) ?_
    refine wa_goto cx dL_number_59 6 (by decide) ?_
    refine wa_sub (lv' := [(0, .ref (ad g a0)), (1, .int a1), (2, .int a2), (3, .int (1 : Int32)), (4, .int x7)]) (lvs_c rfl (lvs_c rfl (lvs_c rfl (lvs_c rfl (lvs_c rfl (lvs_n)))))) ?_
    exact hkb6 (1 : Int32) x7 S3  h
def f_L_number_L6 : Nat → Nat → Int32 → Int32 → Int32 → Int32 → St → Option (Int32 × St)
  | 0, _, _, _, _, _, _ => none
  | n + 1, a0, a1, a2, l3, l4, S => if l4 ≤ 0 then if l3 = 0 then some ((0 : Int32), S) else bd (f_X9_write a0 (1 : Int32) (Int32.toInt64 a2) S) fun x10 S11 => if x10 ≤ 0 then some ((0 : Int32), S11) else some ((1 : Int32), S11) else if l3 = 0 then sq (l4 / (10 : Int32)) fun x15 => f_L_number_L6 n a0 a1 a2 (0 : Int32) x15 S else if l4 ≤ a1 then f_L_number_J27 a0 a1 a2 (fun l3 l4 S => f_L_number_L6 n a0 a1 a2 l3 l4 S) l4 S else if (1 : Int32) < l4 then sq (l4 / (10 : Int32)) fun x18 => f_L_number_L6 n a0 a1 a2 (1 : Int32) x18 S else f_L_number_J27 a0 a1 a2 (fun l3 l4 S => f_L_number_L6 n a0 a1 a2 l3 l4 S) l4 S
set_option maxHeartbeats 4000000 in
set_option maxRecDepth 100000 in
theorem w_L_number_L6 {p : Program} {l : Launch} {e : Env} {s : State} {m : MethodId} {args : Array Value} {below : List Frame} {meth : Method} {c : Code} {g : Gl} {r : Int32 × St} {a0 : Nat} {a1 : Int32} {a2 : Int32} (cx : Cx p s m args meth c cL_number 5 (some .boolean) RL g (Ap g)) (h_a0 : kd g a0 = 9) : ∀ n : Nat, ∀ (l3 : Int32) (l4 : Int32) (S : St), f_L_number_L6 n a0 a1 a2 l3 l4 S = some r → WA p l e rm_L_number s m args below meth c 0 0 (MQ below (QWi g r) args s 0 0 (Ap g)) 5 g (Ap g) S 6 [(0, .ref (ad g a0)), (1, .int a1), (2, .int a2), (3, .int l3), (4, .int l4)] [] := by
  intro n
  induction n with
  | zero => intro l3 l4 S h; rw [f_L_number_L6] at h; cases h
  | succ n ih =>
    intro l3 l4 S h
    rw [f_L_number_L6] at h
    refine wa_iload cx dL_number_6 rfl ?_
    refine wa_if_le cx dL_number_8 62 (by decide) (fun q8 => ?_) (fun q8 => ?_)
    · rw [if_pos q8] at h
      refine wa_iload_n cx (i := 3) dL_number_62 rfl rfl ?_
      refine wa_if_eq cx dL_number_63 80 (by decide) (fun q9 => ?_) (fun q9 => ?_)
      · rw [if_pos q9] at h
        refine wa_iconst cx dL_number_80 (0 : Int32) (by decide) ?_
        exact wa_zret cx (by decide) h dL_number_81
      · rw [if_neg q9] at h
        refine wa_aload_n cx (i := 0) dL_number_66 rfl rfl ?_
        refine wa_iconst cx dL_number_67 (1 : Int32) (by decide) ?_
        refine wa_iload_n cx (i := 2) dL_number_68 rfl rfl ?_
        refine wa_i2l cx dL_number_69 ?_
        obtain ⟨x10, S11, e12, h⟩ := bd_some h
        refine wa_callVi cx (m_X9_write l cx.2.2.2.2.2.2.1 h_a0 e12) vl_L_9 h_a0 (by decide) rfl rfl ⟨_, cell_eq9 (kd_lt h_a0 (by decide)).2⟩ ⟨Nat.le_of_ble_eq_true rfl, Nat.le_of_ble_eq_true rfl⟩ ⟨rfl, rfl⟩ ⟨Nat.zero_le _, Nat.zero_le _⟩ rfl (Nat.le_of_ble_eq_true rfl) dL_number_70 rfl ?_
        refine wa_if_le cx dL_number_73 80 (by decide) (fun q13 => ?_) (fun q13 => ?_)
        · rw [if_pos q13] at h
          refine wa_iconst cx dL_number_80 (0 : Int32) (by decide) ?_
          exact wa_zret cx (by decide) h dL_number_81
        · rw [if_neg q13] at h
          refine wa_iconst cx dL_number_76 (1 : Int32) (by decide) ?_
          refine wa_goto cx dL_number_77 81 (by decide) ?_
          exact wa_zret cx (by decide) h dL_number_81
    · rw [if_neg q8] at h
      refine wa_iload_n cx (i := 3) dL_number_11 rfl rfl ?_
      refine wa_if_eq cx dL_number_12 50 (by decide) (fun q14 => ?_) (fun q14 => ?_)
      · rw [if_pos q14] at h
        refine wa_iconst cx dL_number_50 (0 : Int32) (by decide) ?_
        refine wa_istore_n cx (i := 3) dL_number_51 [(0, .ref (ad g a0)), (1, .int a1), (2, .int a2), (3, .int (0 : Int32)), (4, .int l4)] rfl (Nat.le_of_ble_eq_true rfl) rfl (lvs_c rfl (lvs_c rfl (lvs_c rfl (lvs_c rfl (lvs_c rfl (lvs_n)))))) ?_
        refine wa_iload cx dL_number_52 rfl ?_
        refine wa_bipush cx dL_number_54 (10 : Int32) (by decide) ?_
        refine wa_idiv cx dL_number_56 (by decide) ?_
        replace h := sq_eq h
        generalize (l4 / (10 : Int32)) = x15 at h ⊢
        refine wa_istore cx dL_number_57 [(0, .ref (ad g a0)), (1, .int a1), (2, .int a2), (3, .int (0 : Int32)), (4, .int x15)] (Nat.le_of_ble_eq_true rfl) rfl (lvs_c rfl (lvs_c rfl (lvs_c rfl (lvs_c rfl (lvs_c rfl (lvs_n)))))) ?_
        refine wa_goto cx dL_number_59 6 (by decide) ?_
        refine wa_sub (lv' := [(0, .ref (ad g a0)), (1, .int a1), (2, .int a2), (3, .int (0 : Int32)), (4, .int x15)]) (lvs_c rfl (lvs_c rfl (lvs_c rfl (lvs_c rfl (lvs_c rfl (lvs_n)))))) ?_
        exact ih (0 : Int32) x15 S  h
      · rw [if_neg q14] at h
        refine wa_iload_n cx (i := 1) dL_number_15 rfl rfl ?_
        refine wa_iload cx dL_number_16 rfl ?_
        refine wa_icmp_ge cx dL_number_18 27 (by decide) (fun q16 => ?_) (fun q16 => ?_)
        · rw [if_pos q16] at h
          refine wa_sub (lv' := [(0, .ref (ad g a0)), (1, .int a1), (2, .int a2), (4, .int l4)]) (lvs_c rfl (lvs_c rfl (lvs_c rfl (lvs_c rfl (lvs_n))))) ?_
          exact w_L_number_J27 cx h_a0 ih  l4 S  h
        · rw [if_neg q16] at h
          refine wa_iload cx dL_number_21 rfl ?_
          refine wa_iconst cx dL_number_23 (1 : Int32) (by decide) ?_
          refine wa_icmp_gt cx dL_number_24 46 (by decide) (fun q17 => ?_) (fun q17 => ?_)
          · rw [if_pos q17] at h
            refine wa_iconst cx dL_number_46 (1 : Int32) (by decide) ?_
            refine wa_goto cx dL_number_47 51 (by decide) ?_
            refine wa_istore_n cx (i := 3) dL_number_51 [(0, .ref (ad g a0)), (1, .int a1), (2, .int a2), (3, .int (1 : Int32)), (4, .int l4)] rfl (Nat.le_of_ble_eq_true rfl) rfl (lvs_c rfl (lvs_c rfl (lvs_c rfl (lvs_c rfl (lvs_c rfl (lvs_n)))))) ?_
            refine wa_iload cx dL_number_52 rfl ?_
            refine wa_bipush cx dL_number_54 (10 : Int32) (by decide) ?_
            refine wa_idiv cx dL_number_56 (by decide) ?_
            replace h := sq_eq h
            generalize (l4 / (10 : Int32)) = x18 at h ⊢
            refine wa_istore cx dL_number_57 [(0, .ref (ad g a0)), (1, .int a1), (2, .int a2), (3, .int (1 : Int32)), (4, .int x18)] (Nat.le_of_ble_eq_true rfl) rfl (lvs_c rfl (lvs_c rfl (lvs_c rfl (lvs_c rfl (lvs_c rfl (lvs_n)))))) ?_
            refine wa_goto cx dL_number_59 6 (by decide) ?_
            refine wa_sub (lv' := [(0, .ref (ad g a0)), (1, .int a1), (2, .int a2), (3, .int (1 : Int32)), (4, .int x18)]) (lvs_c rfl (lvs_c rfl (lvs_c rfl (lvs_c rfl (lvs_c rfl (lvs_n)))))) ?_
            exact ih (1 : Int32) x18 S  h
          · rw [if_neg q17] at h
            refine wa_sub (lv' := [(0, .ref (ad g a0)), (1, .int a1), (2, .int a2), (4, .int l4)]) (lvs_c rfl (lvs_c rfl (lvs_c rfl (lvs_c rfl (lvs_n))))) ?_
            exact w_L_number_J27 cx h_a0 ih  l4 S  h
def f_L_number (a0 : Nat) (a1 : Int32) (a2 : Int32) (S : St) : Option (Int32 × St) := f_L_number_L6 FU a0 a1 a2 (1 : Int32) (100 : Int32) S
set_option maxHeartbeats 4000000 in
set_option maxRecDepth 100000 in
theorem m_L_number (l : Launch) {g : Gl} (hg : GOK g) {a0 : Nat} {a1 : Int32} {a2 : Int32} {S : St} {r : Int32 × St} (h_a0 : kd g a0 = 9) (h : f_L_number a0 a1 a2 S = some r) : MW l yL_number cL_number 5 (some .boolean) rm_L_number g S [.ref (ad g a0), .int a1, .int a2] (QWi g r) := by
  refine startW [(0, .ref (ad g a0)), (1, .int a1), (2, .int a2)] (by decide +kernel) (Nat.le_of_ble_eq_true rfl) rfl hg (fun p e s m args below meth c cx => ?_)
  have cx : Cx p s m args meth c cL_number 5 (some .boolean) RL g (Ap g) := cx
  rw [f_L_number] at h
  refine wa_iconst cx dL_number_0 (1 : Int32) (by decide) ?_
  refine wa_istore_n cx (i := 3) dL_number_1 [(0, .ref (ad g a0)), (1, .int a1), (2, .int a2), (3, .int (1 : Int32))] rfl (Nat.le_of_ble_eq_true rfl) rfl (lvs_c rfl (lvs_c rfl (lvs_c rfl (lvs_c rfl (lvs_n))))) ?_
  refine wa_bipush cx dL_number_2 (100 : Int32) (by decide) ?_
  refine wa_istore cx dL_number_4 [(0, .ref (ad g a0)), (1, .int a1), (2, .int a2), (3, .int (1 : Int32)), (4, .int (100 : Int32))] (Nat.le_of_ble_eq_true rfl) rfl (lvs_c rfl (lvs_c rfl (lvs_c rfl (lvs_c rfl (lvs_c rfl (lvs_n)))))) ?_
  refine wa_sub (lv' := [(0, .ref (ad g a0)), (1, .int a1), (2, .int a2), (3, .int (1 : Int32)), (4, .int (100 : Int32))]) (lvs_c rfl (lvs_c rfl (lvs_c rfl (lvs_c rfl (lvs_c rfl (lvs_n)))))) ?_
  exact w_L_number_L6 cx h_a0  FU (1 : Int32) (100 : Int32) S  h
def rm_L_item : Room := { frames := 3, cells := 0, slots := 0, locals := 71 }
def f_L_item_J91 (a0 : Nat) (a1 : Int32) (a2 : Int32) (a3 : Int32) (a4 : Int32) (a5 : Int32) (a6 : Int32) (a7 : Int32) (kb20 : Int32 → Int32 → St → Option (Int32 × St)) (l9 : Int32) (k0 : Nat) (k1 : Int32) (k2 : Int32) (S : St) : Option (Int32 × St) := bd (f_L_number k0 k1 k2 S) fun x1 S2 => if x1 = 0 then kb20 (0 : Int32) (l9 + (1 : Int32)) S2 else kb20 (1 : Int32) (l9 + (1 : Int32)) S2
set_option maxHeartbeats 4000000 in
set_option maxRecDepth 100000 in
theorem w_L_item_J91 {p : Program} {l : Launch} {e : Env} {s : State} {m : MethodId} {args : Array Value} {below : List Frame} {meth : Method} {c : Code} {g : Gl} {r : Int32 × St} {a0 : Nat} {a1 : Int32} {a2 : Int32} {a3 : Int32} {a4 : Int32} {a5 : Int32} {a6 : Int32} {a7 : Int32} {kb20 : Int32 → Int32 → St → Option (Int32 × St)} (cx : Cx p s m args meth c cL_item 10 (some .boolean) RL g (Ap g)) (h_a0 : kd g a0 = 9) (hkb20 : ∀ (l8 : Int32) (l9 : Int32) (S : St), kb20 l8 l9 S = some r → WA p l e rm_L_item s m args below meth c 0 0 (MQ below (QWi g r) args s 0 0 (Ap g)) 10 g (Ap g) S 20 [(0, .ref (ad g a0)), (2, .int a2), (3, .int a3), (4, .int a4), (5, .int a5), (6, .int a6), (7, .int a7), (8, .int l8), (9, .int l9)] []) : ∀ (l9 : Int32) (k0 : Nat) (k1 : Int32) (k2 : Int32) (S : St), kd g k0 = 9 → f_L_item_J91 a0 a1 a2 a3 a4 a5 a6 a7 kb20 l9 k0 k1 k2 S = some r → WA p l e rm_L_item s m args below meth c 0 0 (MQ below (QWi g r) args s 0 0 (Ap g)) 10 g (Ap g) S 91 [(0, .ref (ad g a0)), (2, .int a2), (3, .int a3), (4, .int a4), (5, .int a5), (6, .int a6), (7, .int a7), (9, .int l9)] [.int k2, .int k1, .ref (ad g k0)] := by
  intro l9 k0 k1 k2 S h_k0 h
  rw [f_L_item_J91] at h
  obtain ⟨x1, S2, e3, h⟩ := bd_some h
  refine wa_callSi cx (m_L_number l cx.2.2.2.2.2.2.1 h_k0 e3) vl_L_15 ⟨Nat.le_of_ble_eq_true rfl, Nat.le_of_ble_eq_true rfl⟩ ⟨rfl, rfl⟩ ⟨Nat.zero_le _, Nat.zero_le _⟩ rfl (Nat.le_of_ble_eq_true rfl) dL_item_91 rfl ?_
  refine wa_if_eq cx dL_item_94 101 (by decide) (fun q4 => ?_) (fun q4 => ?_)
  · rw [if_pos q4] at h
    refine wa_iconst cx dL_item_101 (0 : Int32) (by decide) ?_
    refine wa_istore cx dL_item_102 [(0, .ref (ad g a0)), (2, .int a2), (3, .int a3), (4, .int a4), (5, .int a5), (6, .int a6), (7, .int a7), (8, .int (0 : Int32)), (9, .int l9)] (Nat.le_of_ble_eq_true rfl) rfl (lvs_c rfl (lvs_c rfl (lvs_c rfl (lvs_c rfl (lvs_c rfl (lvs_c rfl (lvs_c rfl (lvs_c rfl (lvs_c rfl (lvs_n)))))))))) ?_
    refine wa_iinc cx dL_item_104 (l9 + (1 : Int32)) [(0, .ref (ad g a0)), (2, .int a2), (3, .int a3), (4, .int a4), (5, .int a5), (6, .int a6), (7, .int a7), (8, .int (0 : Int32)), (9, .int (l9 + (1 : Int32)))] rfl rfl (Nat.le_of_ble_eq_true rfl) rfl (lvs_c rfl (lvs_c rfl (lvs_c rfl (lvs_c rfl (lvs_c rfl (lvs_c rfl (lvs_c rfl (lvs_c rfl (lvs_c rfl (lvs_n)))))))))) ?_
    refine wa_goto cx dL_item_107 20 (by decide) ?_
    refine wa_sub (lv' := [(0, .ref (ad g a0)), (2, .int a2), (3, .int a3), (4, .int a4), (5, .int a5), (6, .int a6), (7, .int a7), (8, .int (0 : Int32)), (9, .int (l9 + (1 : Int32)))]) (lvs_c rfl (lvs_c rfl (lvs_c rfl (lvs_c rfl (lvs_c rfl (lvs_c rfl (lvs_c rfl (lvs_c rfl (lvs_c rfl (lvs_n)))))))))) ?_
    exact hkb20 (0 : Int32) (l9 + (1 : Int32)) S2  h
  · rw [if_neg q4] at h
    refine wa_iconst cx dL_item_97 (1 : Int32) (by decide) ?_
    refine wa_goto cx dL_item_98 102 (by decide) ?_
    refine wa_istore cx dL_item_102 [(0, .ref (ad g a0)), (2, .int a2), (3, .int a3), (4, .int a4), (5, .int a5), (6, .int a6), (7, .int a7), (8, .int (1 : Int32)), (9, .int l9)] (Nat.le_of_ble_eq_true rfl) rfl (lvs_c rfl (lvs_c rfl (lvs_c rfl (lvs_c rfl (lvs_c rfl (lvs_c rfl (lvs_c rfl (lvs_c rfl (lvs_c rfl (lvs_n)))))))))) ?_
    refine wa_iinc cx dL_item_104 (l9 + (1 : Int32)) [(0, .ref (ad g a0)), (2, .int a2), (3, .int a3), (4, .int a4), (5, .int a5), (6, .int a6), (7, .int a7), (8, .int (1 : Int32)), (9, .int (l9 + (1 : Int32)))] rfl rfl (Nat.le_of_ble_eq_true rfl) rfl (lvs_c rfl (lvs_c rfl (lvs_c rfl (lvs_c rfl (lvs_c rfl (lvs_c rfl (lvs_c rfl (lvs_c rfl (lvs_c rfl (lvs_n)))))))))) ?_
    refine wa_goto cx dL_item_107 20 (by decide) ?_
    refine wa_sub (lv' := [(0, .ref (ad g a0)), (2, .int a2), (3, .int a3), (4, .int a4), (5, .int a5), (6, .int a6), (7, .int a7), (8, .int (1 : Int32)), (9, .int (l9 + (1 : Int32)))]) (lvs_c rfl (lvs_c rfl (lvs_c rfl (lvs_c rfl (lvs_c rfl (lvs_c rfl (lvs_c rfl (lvs_c rfl (lvs_c rfl (lvs_n)))))))))) ?_
    exact hkb20 (1 : Int32) (l9 + (1 : Int32)) S2  h
def f_L_item_J76 (a0 : Nat) (a1 : Int32) (a2 : Int32) (a3 : Int32) (a4 : Int32) (a5 : Int32) (a6 : Int32) (a7 : Int32) (kb20 : Int32 → Int32 → St → Option (Int32 × St)) (l9 : Int32) (k0 : Nat) (k1 : Int32) (S : St) : Option (Int32 × St) := if (a2 - (1 : Int32)) ≤ l9 then f_L_item_J91 a0 a1 a2 a3 a4 a5 a6 a7 kb20 l9 k0 k1 (59 : Int32) S else f_L_item_J91 a0 a1 a2 a3 a4 a5 a6 a7 kb20 l9 k0 k1 (44 : Int32) S
set_option maxHeartbeats 4000000 in
set_option maxRecDepth 100000 in
theorem w_L_item_J76 {p : Program} {l : Launch} {e : Env} {s : State} {m : MethodId} {args : Array Value} {below : List Frame} {meth : Method} {c : Code} {g : Gl} {r : Int32 × St} {a0 : Nat} {a1 : Int32} {a2 : Int32} {a3 : Int32} {a4 : Int32} {a5 : Int32} {a6 : Int32} {a7 : Int32} {kb20 : Int32 → Int32 → St → Option (Int32 × St)} (cx : Cx p s m args meth c cL_item 10 (some .boolean) RL g (Ap g)) (h_a0 : kd g a0 = 9) (hkb20 : ∀ (l8 : Int32) (l9 : Int32) (S : St), kb20 l8 l9 S = some r → WA p l e rm_L_item s m args below meth c 0 0 (MQ below (QWi g r) args s 0 0 (Ap g)) 10 g (Ap g) S 20 [(0, .ref (ad g a0)), (2, .int a2), (3, .int a3), (4, .int a4), (5, .int a5), (6, .int a6), (7, .int a7), (8, .int l8), (9, .int l9)] []) : ∀ (l9 : Int32) (k0 : Nat) (k1 : Int32) (S : St), kd g k0 = 9 → f_L_item_J76 a0 a1 a2 a3 a4 a5 a6 a7 kb20 l9 k0 k1 S = some r → WA p l e rm_L_item s m args below meth c 0 0 (MQ below (QWi g r) args s 0 0 (Ap g)) 10 g (Ap g) S 76 [(0, .ref (ad g a0)), (2, .int a2), (3, .int a3), (4, .int a4), (5, .int a5), (6, .int a6), (7, .int a7), (9, .int l9)] [.int k1, .ref (ad g k0)] := by
  intro l9 k0 k1 S h_k0 h
  rw [f_L_item_J76] at h
  refine wa_iload cx dL_item_76 rfl ?_
  refine wa_iload_n cx (i := 2) dL_item_78 rfl rfl ?_
  refine wa_iconst cx dL_item_79 (1 : Int32) (by decide) ?_
  refine wa_isub cx dL_item_80 ?_
  refine wa_icmp_ge cx dL_item_81 89 (by decide) (fun q5 => ?_) (fun q5 => ?_)
  · rw [if_pos q5] at h
    refine wa_bipush cx dL_item_89 (59 : Int32) (by decide) ?_
    refine wa_sub (lv' := [(0, .ref (ad g a0)), (2, .int a2), (3, .int a3), (4, .int a4), (5, .int a5), (6, .int a6), (7, .int a7), (9, .int l9)]) (lvs_c rfl (lvs_c rfl (lvs_c rfl (lvs_c rfl (lvs_c rfl (lvs_c rfl (lvs_c rfl (lvs_c rfl (lvs_n))))))))) ?_
    exact w_L_item_J91 cx h_a0 hkb20  l9 k0 k1 (59 : Int32) S h_k0 h
  · rw [if_neg q5] at h
    refine wa_bipush cx dL_item_84 (44 : Int32) (by decide) ?_
    refine wa_goto cx dL_item_86 91 (by decide) ?_
    refine wa_sub (lv' := [(0, .ref (ad g a0)), (2, .int a2), (3, .int a3), (4, .int a4), (5, .int a5), (6, .int a6), (7, .int a7), (9, .int l9)]) (lvs_c rfl (lvs_c rfl (lvs_c rfl (lvs_c rfl (lvs_c rfl (lvs_c rfl (lvs_c rfl (lvs_c rfl (lvs_n))))))))) ?_
    exact w_L_item_J91 cx h_a0 hkb20  l9 k0 k1 (44 : Int32) S h_k0 h
def f_L_item_L20 : Nat → Nat → Int32 → Int32 → Int32 → Int32 → Int32 → Int32 → Int32 → Int32 → Int32 → St → Option (Int32 × St)
  | 0, _, _, _, _, _, _, _, _, _, _, _ => none
  | n + 1, a0, a1, a2, a3, a4, a5, a6, a7, l8, l9, S => if a2 ≤ l9 then ck (l8 = 0 ∨ l8 = 1) (some (l8, S)) else if l8 = 0 then f_L_item_L20 n a0 a1 a2 a3 a4 a5 a6 a7 (0 : Int32) (l9 + (1 : Int32)) S else if l9 = 0 then f_L_item_J76 a0 a1 a2 a3 a4 a5 a6 a7 (fun l8 l9 S => f_L_item_L20 n a0 a1 a2 a3 a4 a5 a6 a7 l8 l9 S) l9 a0 a3 S else if l9 = (1 : Int32) then f_L_item_J76 a0 a1 a2 a3 a4 a5 a6 a7 (fun l8 l9 S => f_L_item_L20 n a0 a1 a2 a3 a4 a5 a6 a7 l8 l9 S) l9 a0 a4 S else if l9 = (2 : Int32) then f_L_item_J76 a0 a1 a2 a3 a4 a5 a6 a7 (fun l8 l9 S => f_L_item_L20 n a0 a1 a2 a3 a4 a5 a6 a7 l8 l9 S) l9 a0 a5 S else if l9 = (3 : Int32) then f_L_item_J76 a0 a1 a2 a3 a4 a5 a6 a7 (fun l8 l9 S => f_L_item_L20 n a0 a1 a2 a3 a4 a5 a6 a7 l8 l9 S) l9 a0 a6 S else f_L_item_J76 a0 a1 a2 a3 a4 a5 a6 a7 (fun l8 l9 S => f_L_item_L20 n a0 a1 a2 a3 a4 a5 a6 a7 l8 l9 S) l9 a0 a7 S
set_option maxHeartbeats 4000000 in
set_option maxRecDepth 100000 in
theorem w_L_item_L20 {p : Program} {l : Launch} {e : Env} {s : State} {m : MethodId} {args : Array Value} {below : List Frame} {meth : Method} {c : Code} {g : Gl} {r : Int32 × St} {a0 : Nat} {a1 : Int32} {a2 : Int32} {a3 : Int32} {a4 : Int32} {a5 : Int32} {a6 : Int32} {a7 : Int32} (cx : Cx p s m args meth c cL_item 10 (some .boolean) RL g (Ap g)) (h_a0 : kd g a0 = 9) : ∀ n : Nat, ∀ (l8 : Int32) (l9 : Int32) (S : St), f_L_item_L20 n a0 a1 a2 a3 a4 a5 a6 a7 l8 l9 S = some r → WA p l e rm_L_item s m args below meth c 0 0 (MQ below (QWi g r) args s 0 0 (Ap g)) 10 g (Ap g) S 20 [(0, .ref (ad g a0)), (2, .int a2), (3, .int a3), (4, .int a4), (5, .int a5), (6, .int a6), (7, .int a7), (8, .int l8), (9, .int l9)] [] := by
  intro n
  induction n with
  | zero => intro l8 l9 S h; rw [f_L_item_L20] at h; cases h
  | succ n ih =>
    intro l8 l9 S h
    rw [f_L_item_L20] at h
    refine wa_iload cx dL_item_20 rfl ?_
    refine wa_iload_n cx (i := 2) dL_item_22 rfl rfl ?_
    refine wa_icmp_ge cx dL_item_23 110 (by decide) (fun q6 => ?_) (fun q6 => ?_)
    · rw [if_pos q6] at h
      refine wa_iload cx dL_item_110 rfl ?_
      obtain ⟨b7, h⟩ := ck_some h
      exact wa_zret cx b7 h dL_item_112
    · rw [if_neg q6] at h
      refine wa_iload cx dL_item_26 rfl ?_
      refine wa_if_eq cx dL_item_28 101 (by decide) (fun q8 => ?_) (fun q8 => ?_)
      · rw [if_pos q8] at h
        refine wa_iconst cx dL_item_101 (0 : Int32) (by decide) ?_
        refine wa_istore cx dL_item_102 [(0, .ref (ad g a0)), (2, .int a2), (3, .int a3), (4, .int a4), (5, .int a5), (6, .int a6), (7, .int a7), (8, .int (0 : Int32)), (9, .int l9)] (Nat.le_of_ble_eq_true rfl) rfl (lvs_c rfl (lvs_c rfl (lvs_c rfl (lvs_c rfl (lvs_c rfl (lvs_c rfl (lvs_c rfl (lvs_c rfl (lvs_c rfl (lvs_n)))))))))) ?_
        refine wa_iinc cx dL_item_104 (l9 + (1 : Int32)) [(0, .ref (ad g a0)), (2, .int a2), (3, .int a3), (4, .int a4), (5, .int a5), (6, .int a6), (7, .int a7), (8, .int (0 : Int32)), (9, .int (l9 + (1 : Int32)))] rfl rfl (Nat.le_of_ble_eq_true rfl) rfl (lvs_c rfl (lvs_c rfl (lvs_c rfl (lvs_c rfl (lvs_c rfl (lvs_c rfl (lvs_c rfl (lvs_c rfl (lvs_c rfl (lvs_n)))))))))) ?_
        refine wa_goto cx dL_item_107 20 (by decide) ?_
        refine wa_sub (lv' := [(0, .ref (ad g a0)), (2, .int a2), (3, .int a3), (4, .int a4), (5, .int a5), (6, .int a6), (7, .int a7), (8, .int (0 : Int32)), (9, .int (l9 + (1 : Int32)))]) (lvs_c rfl (lvs_c rfl (lvs_c rfl (lvs_c rfl (lvs_c rfl (lvs_c rfl (lvs_c rfl (lvs_c rfl (lvs_c rfl (lvs_n)))))))))) ?_
        exact ih (0 : Int32) (l9 + (1 : Int32)) S  h
      · rw [if_neg q8] at h
        refine wa_aload_n cx (i := 0) dL_item_31 rfl rfl ?_
        refine wa_iload cx dL_item_32 rfl ?_
        refine wa_if_ne cx dL_item_34 41 (by decide) (fun q9 => ?_) (fun q9 => ?_)
        · rw [if_neg q9] at h
          refine wa_iload cx dL_item_41 rfl ?_
          refine wa_iconst cx dL_item_43 (1 : Int32) (by decide) ?_
          refine wa_icmp_ne cx dL_item_44 52 (by decide) (fun q10 => ?_) (fun q10 => ?_)
          · rw [if_neg q10] at h
            refine wa_iload cx dL_item_52 rfl ?_
            refine wa_iconst cx dL_item_54 (2 : Int32) (by decide) ?_
            refine wa_icmp_ne cx dL_item_55 63 (by decide) (fun q11 => ?_) (fun q11 => ?_)
            · rw [if_neg q11] at h
              refine wa_iload cx dL_item_63 rfl ?_
              refine wa_iconst cx dL_item_65 (3 : Int32) (by decide) ?_
              refine wa_icmp_ne cx dL_item_66 74 (by decide) (fun q12 => ?_) (fun q12 => ?_)
              · rw [if_neg q12] at h
                refine wa_iload cx dL_item_74 rfl ?_
                refine wa_sub (lv' := [(0, .ref (ad g a0)), (2, .int a2), (3, .int a3), (4, .int a4), (5, .int a5), (6, .int a6), (7, .int a7), (9, .int l9)]) (lvs_c rfl (lvs_c rfl (lvs_c rfl (lvs_c rfl (lvs_c rfl (lvs_c rfl (lvs_c rfl (lvs_c rfl (lvs_n))))))))) ?_
                exact w_L_item_J76 cx h_a0 ih  l9 a0 a7 S h_a0 h
              · rw [if_pos q12] at h
                refine wa_iload cx dL_item_69 rfl ?_
                refine wa_goto cx dL_item_71 76 (by decide) ?_
                refine wa_sub (lv' := [(0, .ref (ad g a0)), (2, .int a2), (3, .int a3), (4, .int a4), (5, .int a5), (6, .int a6), (7, .int a7), (9, .int l9)]) (lvs_c rfl (lvs_c rfl (lvs_c rfl (lvs_c rfl (lvs_c rfl (lvs_c rfl (lvs_c rfl (lvs_c rfl (lvs_n))))))))) ?_
                exact w_L_item_J76 cx h_a0 ih  l9 a0 a6 S h_a0 h
            · rw [if_pos q11] at h
              refine wa_iload cx dL_item_58 rfl ?_
              refine wa_goto cx dL_item_60 76 (by decide) ?_
              refine wa_sub (lv' := [(0, .ref (ad g a0)), (2, .int a2), (3, .int a3), (4, .int a4), (5, .int a5), (6, .int a6), (7, .int a7), (9, .int l9)]) (lvs_c rfl (lvs_c rfl (lvs_c rfl (lvs_c rfl (lvs_c rfl (lvs_c rfl (lvs_c rfl (lvs_c rfl (lvs_n))))))))) ?_
              exact w_L_item_J76 cx h_a0 ih  l9 a0 a5 S h_a0 h
          · rw [if_pos q10] at h
            refine wa_iload cx dL_item_47 rfl ?_
            refine wa_goto cx dL_item_49 76 (by decide) ?_
            refine wa_sub (lv' := [(0, .ref (ad g a0)), (2, .int a2), (3, .int a3), (4, .int a4), (5, .int a5), (6, .int a6), (7, .int a7), (9, .int l9)]) (lvs_c rfl (lvs_c rfl (lvs_c rfl (lvs_c rfl (lvs_c rfl (lvs_c rfl (lvs_c rfl (lvs_c rfl (lvs_n))))))))) ?_
            exact w_L_item_J76 cx h_a0 ih  l9 a0 a4 S h_a0 h
        · rw [if_pos q9] at h
          refine wa_iload_n cx (i := 3) dL_item_37 rfl rfl ?_
          refine wa_goto cx dL_item_38 76 (by decide) ?_
          refine wa_sub (lv' := [(0, .ref (ad g a0)), (2, .int a2), (3, .int a3), (4, .int a4), (5, .int a5), (6, .int a6), (7, .int a7), (9, .int l9)]) (lvs_c rfl (lvs_c rfl (lvs_c rfl (lvs_c rfl (lvs_c rfl (lvs_c rfl (lvs_c rfl (lvs_c rfl (lvs_n))))))))) ?_
          exact w_L_item_J76 cx h_a0 ih  l9 a0 a3 S h_a0 h
def f_L_item (a0 : Nat) (a1 : Int32) (a2 : Int32) (a3 : Int32) (a4 : Int32) (a5 : Int32) (a6 : Int32) (a7 : Int32) (S : St) : Option (Int32 × St) := bd (f_X9_write a0 (1 : Int32) (Int32.toInt64 a1) S) fun x13 S14 => if x13 ≤ 0 then f_L_item_L20 FU a0 a1 a2 a3 a4 a5 a6 a7 (0 : Int32) (0 : Int32) S14 else f_L_item_L20 FU a0 a1 a2 a3 a4 a5 a6 a7 (1 : Int32) (0 : Int32) S14
set_option maxHeartbeats 4000000 in
set_option maxRecDepth 100000 in
theorem m_L_item (l : Launch) {g : Gl} (hg : GOK g) {a0 : Nat} {a1 : Int32} {a2 : Int32} {a3 : Int32} {a4 : Int32} {a5 : Int32} {a6 : Int32} {a7 : Int32} {S : St} {r : Int32 × St} (h_a0 : kd g a0 = 9) (h : f_L_item a0 a1 a2 a3 a4 a5 a6 a7 S = some r) : MW l yL_item cL_item 10 (some .boolean) rm_L_item g S [.ref (ad g a0), .int a1, .int a2, .int a3, .int a4, .int a5, .int a6, .int a7] (QWi g r) := by
  refine startW [(0, .ref (ad g a0)), (1, .int a1), (2, .int a2), (3, .int a3), (4, .int a4), (5, .int a5), (6, .int a6), (7, .int a7)] (by decide +kernel) (Nat.le_of_ble_eq_true rfl) rfl hg (fun p e s m args below meth c cx => ?_)
  have cx : Cx p s m args meth c cL_item 10 (some .boolean) RL g (Ap g) := cx
  rw [f_L_item] at h
  refine wa_aload_n cx (i := 0) dL_item_0 rfl rfl ?_
  refine wa_iconst cx dL_item_1 (1 : Int32) (by decide) ?_
  refine wa_iload_n cx (i := 1) dL_item_2 rfl rfl ?_
  refine wa_i2l cx dL_item_3 ?_
  obtain ⟨x13, S14, e15, h⟩ := bd_some h
  refine wa_callVi cx (m_X9_write l cx.2.2.2.2.2.2.1 h_a0 e15) vl_L_9 h_a0 (by decide) rfl rfl ⟨_, cell_eq9 (kd_lt h_a0 (by decide)).2⟩ ⟨Nat.le_of_ble_eq_true rfl, Nat.le_of_ble_eq_true rfl⟩ ⟨rfl, rfl⟩ ⟨Nat.zero_le _, Nat.zero_le _⟩ rfl (Nat.le_of_ble_eq_true rfl) dL_item_4 rfl ?_
  refine wa_if_le cx dL_item_7 14 (by decide) (fun q16 => ?_) (fun q16 => ?_)
  · rw [if_pos q16] at h
    refine wa_iconst cx dL_item_14 (0 : Int32) (by decide) ?_
    refine wa_istore cx dL_item_15 [(0, .ref (ad g a0)), (2, .int a2), (3, .int a3), (4, .int a4), (5, .int a5), (6, .int a6), (7, .int a7), (8, .int (0 : Int32))] (Nat.le_of_ble_eq_true rfl) rfl (lvs_c rfl (lvs_c rfl (lvs_c rfl (lvs_c rfl (lvs_c rfl (lvs_c rfl (lvs_c rfl (lvs_c rfl (lvs_n))))))))) ?_
    refine wa_iconst cx dL_item_17 (0 : Int32) (by decide) ?_
    refine wa_istore cx dL_item_18 [(0, .ref (ad g a0)), (2, .int a2), (3, .int a3), (4, .int a4), (5, .int a5), (6, .int a6), (7, .int a7), (8, .int (0 : Int32)), (9, .int (0 : Int32))] (Nat.le_of_ble_eq_true rfl) rfl (lvs_c rfl (lvs_c rfl (lvs_c rfl (lvs_c rfl (lvs_c rfl (lvs_c rfl (lvs_c rfl (lvs_c rfl (lvs_c rfl (lvs_n)))))))))) ?_
    refine wa_sub (lv' := [(0, .ref (ad g a0)), (2, .int a2), (3, .int a3), (4, .int a4), (5, .int a5), (6, .int a6), (7, .int a7), (8, .int (0 : Int32)), (9, .int (0 : Int32))]) (lvs_c rfl (lvs_c rfl (lvs_c rfl (lvs_c rfl (lvs_c rfl (lvs_c rfl (lvs_c rfl (lvs_c rfl (lvs_c rfl (lvs_n)))))))))) ?_
    exact w_L_item_L20 cx h_a0  FU (0 : Int32) (0 : Int32) S14  h
  · rw [if_neg q16] at h
    refine wa_iconst cx dL_item_10 (1 : Int32) (by decide) ?_
    refine wa_goto cx dL_item_11 15 (by decide) ?_
    refine wa_istore cx dL_item_15 [(0, .ref (ad g a0)), (2, .int a2), (3, .int a3), (4, .int a4), (5, .int a5), (6, .int a6), (7, .int a7), (8, .int (1 : Int32))] (Nat.le_of_ble_eq_true rfl) rfl (lvs_c rfl (lvs_c rfl (lvs_c rfl (lvs_c rfl (lvs_c rfl (lvs_c rfl (lvs_c rfl (lvs_c rfl (lvs_n))))))))) ?_
    refine wa_iconst cx dL_item_17 (0 : Int32) (by decide) ?_
    refine wa_istore cx dL_item_18 [(0, .ref (ad g a0)), (2, .int a2), (3, .int a3), (4, .int a4), (5, .int a5), (6, .int a6), (7, .int a7), (8, .int (1 : Int32)), (9, .int (0 : Int32))] (Nat.le_of_ble_eq_true rfl) rfl (lvs_c rfl (lvs_c rfl (lvs_c rfl (lvs_c rfl (lvs_c rfl (lvs_c rfl (lvs_c rfl (lvs_c rfl (lvs_c rfl (lvs_n)))))))))) ?_
    refine wa_sub (lv' := [(0, .ref (ad g a0)), (2, .int a2), (3, .int a3), (4, .int a4), (5, .int a5), (6, .int a6), (7, .int a7), (8, .int (1 : Int32)), (9, .int (0 : Int32))]) (lvs_c rfl (lvs_c rfl (lvs_c rfl (lvs_c rfl (lvs_c rfl (lvs_c rfl (lvs_c rfl (lvs_c rfl (lvs_c rfl (lvs_n)))))))))) ?_
    exact w_L_item_L20 cx h_a0  FU (1 : Int32) (0 : Int32) S14  h
def rm_L_act : Room := { frames := 7, cells := 0, slots := 0, locals := 172 }
def f_L_act (a0 : Nat) (a1 : Int32) (a2 : Int32) (a3 : Int32) (a4 : Int32) (S : St) : Option (Int64 × St) := bd (f_L_some a2 a3 S) fun x1 S2 => if (a1 &&& (15 : Int32)) = (0 : Int32) then bd (f_L_some a2 (3 : Int32) S2) fun x5 S6 => bd (f_X9_show a0 x5 S6) fun x8 S9 => some ((Int32.toInt64 x8), S9) else if (a1 &&& (15 : Int32)) = (1 : Int32) then bd (f_L_some a2 (3 : Int32) S2) fun x12 S13 => bd (f_X9_odds a0 x12 S13) fun x15 S16 => some (x15, S16) else if (a1 &&& (15 : Int32)) = (2 : Int32) then bd (f_X9_mean a0 x1 ((a1 >>> ((4 : Int32) &&& 31)) &&& (1 : Int32)) S2) fun x19 S20 => some (x19, S20) else if (a1 &&& (15 : Int32)) = (3 : Int32) then bd (f_X9_wrong a0 (a2 &&& (1 : Int32)) S2) fun x23 S24 => some (x23, S24) else if (a1 &&& (15 : Int32)) = (4 : Int32) then bd (f_L_some (a1 >>> ((4 : Int32) &&& 31)) (31 : Int32) S2) fun x27 S28 => bd (f_X9_row a0 x1 x27 S28) fun x30 S31 => some ((Int32.toInt64 x30), S31) else if (a1 &&& (15 : Int32)) = (5 : Int32) then bd (f_L_some (a1 >>> ((4 : Int32) &&& 31)) (31 : Int32) S2) fun x34 S35 => bd (f_X9_row a0 x1 x34 S35) fun x37 S38 => some ((Int32.toInt64 x37), S38) else if (a1 &&& (15 : Int32)) = (6 : Int32) then bd (f_X9_judge a0 S2) fun x41 S42 => bd (f_X9_made a0 (a2 &&& (1 : Int32)) S42) fun x44 S45 => some ((((Int32.toInt64 x41) * (1000 : Int64)) + (Int32.toInt64 x44)), S45) else if (a1 &&& (15 : Int32)) = (7 : Int32) then bd (f_L_some a2 (a3 + (1 : Int32)) S2) fun x48 S49 => bd (f_X9_just a0 (x48 - (1 : Int32)) S49) fun x51 S52 => some (x51, S52) else if (a1 &&& (15 : Int32)) = (8 : Int32) then if (a1 &&& (48 : Int32)) = 0 then bd (f_X9_fails a0 S2) fun x59 S60 => some (x59, S60) else bd (f_X9_made a0 (1 : Int32) S2) fun x56 S57 => some ((Int32.toInt64 x56), S57) else if (a1 &&& (15 : Int32)) = (9 : Int32) then if (a1 &&& (48 : Int32)) = 0 then bd (f_X9_bestBar a0 (a2 &&& (1 : Int32)) S2) fun x67 S68 => some (x67, S68) else bd (f_X9_bestShow a0 S2) fun x64 S65 => some ((Int32.toInt64 x64), S65) else if (a1 &&& (15 : Int32)) = (10 : Int32) then if (a1 &&& (48 : Int32)) = 0 then bd (f_X9_bestDay a0 S2) fun x78 S79 => some ((Int32.toInt64 x78), S79) else bd (f_L_some a2 (11 : Int32) S2) fun x72 S73 => bd (f_X9_extra a0 x72 S73) fun x75 S76 => some ((Int32.toInt64 x75), S76) else if (a1 &&& (15 : Int32)) = (11 : Int32) then bd (f_L_some (a1 >>> ((4 : Int32) &&& 31)) (100 : Int32) S2) fun x82 S83 => bd (f_L_some a2 (a4 + (1 : Int32)) S83) fun x85 S86 => bd (f_X9_rich a0 x82 x85 S86) fun x88 S89 => if (a1 &&& (2048 : Int32)) = 0 then bd (f_L_some a2 (100 : Int32) S89) fun x92 S93 => bd (f_X9_richDay a0 x92 S93) fun x95 S96 => some (((x88 * (50 : Int64)) + (Int32.toInt64 x95)), S96) else some (((x88 * (50 : Int64)) + (Int32.toInt64 (0 : Int32))), S89) else if (a1 &&& (15 : Int32)) = (12 : Int32) then bd (f_L_some a2 (3 : Int32) S2) fun x99 S100 => bd (f_X9_two a0 x99 S100) fun x102 S103 => some (x102, S103) else if (a1 &&& (15 : Int32)) = (13 : Int32) then bd (f_L_some (a1 >>> ((4 : Int32) &&& 31)) (10000 : Int32) S2) fun x106 S107 => bd (f_X9_evening a0 x106 x1 ((a2 >>> ((4 : Int32) &&& 31)) &&& (1 : Int32)) S107) fun x109 S110 => some ((Int32.toInt64 x109), S110) else if (a1 &&& (15 : Int32)) = (14 : Int32) then bd (f_L_some (a1 >>> ((4 : Int32) &&& 31)) (10000 : Int32) S2) fun x113 S114 => bd (f_X9_whole a0 x113 (a2 &&& (1 : Int32)) S114) fun x116 S117 => some ((Int32.toInt64 x116), S117) else if (a1 &&& (16 : Int32)) = 0 then bd (f_X9_back a0 S2) fun x120 S121 => some ((Int32.toInt64 x120), S121) else bd (f_X9_keep a0 S2) fun x123 S124 => some ((Int32.toInt64 x123), S124)
set_option maxHeartbeats 4000000 in
set_option maxRecDepth 100000 in
theorem m_L_act (l : Launch) {g : Gl} (hg : GOK g) {a0 : Nat} {a1 : Int32} {a2 : Int32} {a3 : Int32} {a4 : Int32} {S : St} {r : Int64 × St} (h_a0 : kd g a0 = 9) (h : f_L_act a0 a1 a2 a3 a4 S = some r) : MW l yL_act cL_act 6 (some .long) rm_L_act g S [.ref (ad g a0), .int a1, .int a2, .int a3, .int a4] (QWl g r) := by
  refine startW [(0, .ref (ad g a0)), (1, .int a1), (2, .int a2), (3, .int a3), (4, .int a4)] (by decide +kernel) (Nat.le_of_ble_eq_true rfl) rfl hg (fun p e s m args below meth c cx => ?_)
  have cx : Cx p s m args meth c cL_act 6 (some .long) RL g (Ap g) := cx
  rw [f_L_act] at h
  refine wa_iload_n cx (i := 2) dL_act_0 rfl rfl ?_
  refine wa_iload_n cx (i := 3) dL_act_1 rfl rfl ?_
  obtain ⟨x1, S2, e3, h⟩ := bd_some h
  refine wa_callSi cx (m_L_some l cx.2.2.2.2.2.2.1  e3) vl_L_26 ⟨Nat.le_of_ble_eq_true rfl, Nat.le_of_ble_eq_true rfl⟩ ⟨rfl, rfl⟩ ⟨Nat.zero_le _, Nat.zero_le _⟩ rfl (Nat.le_of_ble_eq_true rfl) dL_act_2 rfl ?_
  refine wa_istore cx dL_act_5 [(0, .ref (ad g a0)), (1, .int a1), (2, .int a2), (3, .int a3), (4, .int a4), (5, .int x1)] (Nat.le_of_ble_eq_true rfl) rfl (lvs_c rfl (lvs_c rfl (lvs_c rfl (lvs_c rfl (lvs_c rfl (lvs_c rfl (lvs_n))))))) ?_
  refine wa_iload_n cx (i := 1) dL_act_7 rfl rfl ?_
  refine wa_bipush cx dL_act_8 (15 : Int32) (by decide) ?_
  refine wa_iand cx dL_act_10 ?_
  by_cases q4 : (a1 &&& (15 : Int32)) = (0 : Int32)
  · rw [if_pos q4] at h
    refine wa_tabIn cx dL_act_11 84 (by rw [q4]; decide) (by rw [q4]; decide) (by rw [q4] <;> rfl) (by decide) ?_
    refine wa_aload_n cx (i := 0) dL_act_84 rfl rfl ?_
    refine wa_iload_n cx (i := 2) dL_act_85 rfl rfl ?_
    refine wa_iconst cx dL_act_86 (3 : Int32) (by decide) ?_
    obtain ⟨x5, S6, e7, h⟩ := bd_some h
    refine wa_callSi cx (m_L_some l cx.2.2.2.2.2.2.1  e7) vl_L_26 ⟨Nat.le_of_ble_eq_true rfl, Nat.le_of_ble_eq_true rfl⟩ ⟨rfl, rfl⟩ ⟨Nat.zero_le _, Nat.zero_le _⟩ rfl (Nat.le_of_ble_eq_true rfl) dL_act_87 rfl ?_
    obtain ⟨x8, S9, e10, h⟩ := bd_some h
    refine wa_callVi cx (m_X9_show l cx.2.2.2.2.2.2.1 h_a0 e10) vl_L_68 h_a0 (by decide) rfl rfl ⟨_, cell_eq9 (kd_lt h_a0 (by decide)).2⟩ ⟨Nat.le_of_ble_eq_true rfl, Nat.le_of_ble_eq_true rfl⟩ ⟨rfl, rfl⟩ ⟨Nat.zero_le _, Nat.zero_le _⟩ rfl (Nat.le_of_ble_eq_true rfl) dL_act_90 rfl ?_
    refine wa_i2l cx dL_act_93 ?_
    exact wa_lret cx h dL_act_94
  rw [if_neg q4] at h
  by_cases q11 : (a1 &&& (15 : Int32)) = (1 : Int32)
  · rw [if_pos q11] at h
    refine wa_tabIn cx dL_act_11 95 (by rw [q11]; decide) (by rw [q11]; decide) (by rw [q11] <;> rfl) (by decide) ?_
    refine wa_aload_n cx (i := 0) dL_act_95 rfl rfl ?_
    refine wa_iload_n cx (i := 2) dL_act_96 rfl rfl ?_
    refine wa_iconst cx dL_act_97 (3 : Int32) (by decide) ?_
    obtain ⟨x12, S13, e14, h⟩ := bd_some h
    refine wa_callSi cx (m_L_some l cx.2.2.2.2.2.2.1  e14) vl_L_26 ⟨Nat.le_of_ble_eq_true rfl, Nat.le_of_ble_eq_true rfl⟩ ⟨rfl, rfl⟩ ⟨Nat.zero_le _, Nat.zero_le _⟩ rfl (Nat.le_of_ble_eq_true rfl) dL_act_98 rfl ?_
    obtain ⟨x15, S16, e17, h⟩ := bd_some h
    refine wa_callVl cx (m_X9_odds l cx.2.2.2.2.2.2.1 h_a0 e17) vl_L_72 h_a0 (by decide) rfl rfl ⟨_, cell_eq9 (kd_lt h_a0 (by decide)).2⟩ ⟨Nat.le_of_ble_eq_true rfl, Nat.le_of_ble_eq_true rfl⟩ ⟨rfl, rfl⟩ ⟨Nat.zero_le _, Nat.zero_le _⟩ rfl (Nat.le_of_ble_eq_true rfl) dL_act_101 rfl ?_
    exact wa_lret cx h dL_act_104
  rw [if_neg q11] at h
  by_cases q18 : (a1 &&& (15 : Int32)) = (2 : Int32)
  · rw [if_pos q18] at h
    refine wa_tabIn cx dL_act_11 105 (by rw [q18]; decide) (by rw [q18]; decide) (by rw [q18] <;> rfl) (by decide) ?_
    refine wa_aload_n cx (i := 0) dL_act_105 rfl rfl ?_
    refine wa_iload cx dL_act_106 rfl ?_
    refine wa_iload_n cx (i := 1) dL_act_108 rfl rfl ?_
    refine wa_iconst cx dL_act_109 (4 : Int32) (by decide) ?_
    refine wa_ishr cx dL_act_110 ?_
    refine wa_iconst cx dL_act_111 (1 : Int32) (by decide) ?_
    refine wa_iand cx dL_act_112 ?_
    obtain ⟨x19, S20, e21, h⟩ := bd_some h
    refine wa_callVl cx (m_X9_mean l cx.2.2.2.2.2.2.1 h_a0 e21) vl_L_76 h_a0 (by decide) rfl rfl ⟨_, cell_eq9 (kd_lt h_a0 (by decide)).2⟩ ⟨Nat.le_of_ble_eq_true rfl, Nat.le_of_ble_eq_true rfl⟩ ⟨rfl, rfl⟩ ⟨Nat.zero_le _, Nat.zero_le _⟩ rfl (Nat.le_of_ble_eq_true rfl) dL_act_113 rfl ?_
    exact wa_lret cx h dL_act_116
  rw [if_neg q18] at h
  by_cases q22 : (a1 &&& (15 : Int32)) = (3 : Int32)
  · rw [if_pos q22] at h
    refine wa_tabIn cx dL_act_11 117 (by rw [q22]; decide) (by rw [q22]; decide) (by rw [q22] <;> rfl) (by decide) ?_
    refine wa_aload_n cx (i := 0) dL_act_117 rfl rfl ?_
    refine wa_iload_n cx (i := 2) dL_act_118 rfl rfl ?_
    refine wa_iconst cx dL_act_119 (1 : Int32) (by decide) ?_
    refine wa_iand cx dL_act_120 ?_
    obtain ⟨x23, S24, e25, h⟩ := bd_some h
    refine wa_callVl cx (m_X9_wrong l cx.2.2.2.2.2.2.1 h_a0 e25) vl_L_80 h_a0 (by decide) rfl rfl ⟨_, cell_eq9 (kd_lt h_a0 (by decide)).2⟩ ⟨Nat.le_of_ble_eq_true rfl, Nat.le_of_ble_eq_true rfl⟩ ⟨rfl, rfl⟩ ⟨Nat.zero_le _, Nat.zero_le _⟩ rfl (Nat.le_of_ble_eq_true rfl) dL_act_121 rfl ?_
    exact wa_lret cx h dL_act_124
  rw [if_neg q22] at h
  by_cases q26 : (a1 &&& (15 : Int32)) = (4 : Int32)
  · rw [if_pos q26] at h
    refine wa_tabIn cx dL_act_11 125 (by rw [q26]; decide) (by rw [q26]; decide) (by rw [q26] <;> rfl) (by decide) ?_
    refine wa_aload_n cx (i := 0) dL_act_125 rfl rfl ?_
    refine wa_iload cx dL_act_126 rfl ?_
    refine wa_iload_n cx (i := 1) dL_act_128 rfl rfl ?_
    refine wa_iconst cx dL_act_129 (4 : Int32) (by decide) ?_
    refine wa_ishr cx dL_act_130 ?_
    refine wa_bipush cx dL_act_131 (31 : Int32) (by decide) ?_
    obtain ⟨x27, S28, e29, h⟩ := bd_some h
    refine wa_callSi cx (m_L_some l cx.2.2.2.2.2.2.1  e29) vl_L_26 ⟨Nat.le_of_ble_eq_true rfl, Nat.le_of_ble_eq_true rfl⟩ ⟨rfl, rfl⟩ ⟨Nat.zero_le _, Nat.zero_le _⟩ rfl (Nat.le_of_ble_eq_true rfl) dL_act_133 rfl ?_
    obtain ⟨x30, S31, e32, h⟩ := bd_some h
    refine wa_callVi cx (m_X9_row l cx.2.2.2.2.2.2.1 h_a0 e32) vl_L_83 h_a0 (by decide) rfl rfl ⟨_, cell_eq9 (kd_lt h_a0 (by decide)).2⟩ ⟨Nat.le_of_ble_eq_true rfl, Nat.le_of_ble_eq_true rfl⟩ ⟨rfl, rfl⟩ ⟨Nat.zero_le _, Nat.zero_le _⟩ rfl (Nat.le_of_ble_eq_true rfl) dL_act_136 rfl ?_
    refine wa_i2l cx dL_act_139 ?_
    exact wa_lret cx h dL_act_140
  rw [if_neg q26] at h
  by_cases q33 : (a1 &&& (15 : Int32)) = (5 : Int32)
  · rw [if_pos q33] at h
    refine wa_tabIn cx dL_act_11 125 (by rw [q33]; decide) (by rw [q33]; decide) (by rw [q33] <;> rfl) (by decide) ?_
    refine wa_aload_n cx (i := 0) dL_act_125 rfl rfl ?_
    refine wa_iload cx dL_act_126 rfl ?_
    refine wa_iload_n cx (i := 1) dL_act_128 rfl rfl ?_
    refine wa_iconst cx dL_act_129 (4 : Int32) (by decide) ?_
    refine wa_ishr cx dL_act_130 ?_
    refine wa_bipush cx dL_act_131 (31 : Int32) (by decide) ?_
    obtain ⟨x34, S35, e36, h⟩ := bd_some h
    refine wa_callSi cx (m_L_some l cx.2.2.2.2.2.2.1  e36) vl_L_26 ⟨Nat.le_of_ble_eq_true rfl, Nat.le_of_ble_eq_true rfl⟩ ⟨rfl, rfl⟩ ⟨Nat.zero_le _, Nat.zero_le _⟩ rfl (Nat.le_of_ble_eq_true rfl) dL_act_133 rfl ?_
    obtain ⟨x37, S38, e39, h⟩ := bd_some h
    refine wa_callVi cx (m_X9_row l cx.2.2.2.2.2.2.1 h_a0 e39) vl_L_83 h_a0 (by decide) rfl rfl ⟨_, cell_eq9 (kd_lt h_a0 (by decide)).2⟩ ⟨Nat.le_of_ble_eq_true rfl, Nat.le_of_ble_eq_true rfl⟩ ⟨rfl, rfl⟩ ⟨Nat.zero_le _, Nat.zero_le _⟩ rfl (Nat.le_of_ble_eq_true rfl) dL_act_136 rfl ?_
    refine wa_i2l cx dL_act_139 ?_
    exact wa_lret cx h dL_act_140
  rw [if_neg q33] at h
  by_cases q40 : (a1 &&& (15 : Int32)) = (6 : Int32)
  · rw [if_pos q40] at h
    refine wa_tabIn cx dL_act_11 141 (by rw [q40]; decide) (by rw [q40]; decide) (by rw [q40] <;> rfl) (by decide) ?_
    refine wa_aload_n cx (i := 0) dL_act_141 rfl rfl ?_
    obtain ⟨x41, S42, e43, h⟩ := bd_some h
    refine wa_callVi cx (m_X9_judge l cx.2.2.2.2.2.2.1 h_a0 e43) vl_L_86 h_a0 (by decide) rfl rfl ⟨_, cell_eq9 (kd_lt h_a0 (by decide)).2⟩ ⟨Nat.le_of_ble_eq_true rfl, Nat.le_of_ble_eq_true rfl⟩ ⟨rfl, rfl⟩ ⟨Nat.zero_le _, Nat.zero_le _⟩ rfl (Nat.le_of_ble_eq_true rfl) dL_act_142 rfl ?_
    refine wa_i2l cx dL_act_145 ?_
    refine wa_ldc2 cx dL_act_146 (1000 : Int64) kc_L_89 ?_
    refine wa_lmul cx dL_act_149 ?_
    refine wa_aload_n cx (i := 0) dL_act_150 rfl rfl ?_
    refine wa_iload_n cx (i := 2) dL_act_151 rfl rfl ?_
    refine wa_iconst cx dL_act_152 (1 : Int32) (by decide) ?_
    refine wa_iand cx dL_act_153 ?_
    obtain ⟨x44, S45, e46, h⟩ := bd_some h
    refine wa_callVi cx (m_X9_made l cx.2.2.2.2.2.2.1 h_a0 e46) vl_L_91 h_a0 (by decide) rfl rfl ⟨_, cell_eq9 (kd_lt h_a0 (by decide)).2⟩ ⟨Nat.le_of_ble_eq_true rfl, Nat.le_of_ble_eq_true rfl⟩ ⟨rfl, rfl⟩ ⟨Nat.zero_le _, Nat.zero_le _⟩ rfl (Nat.le_of_ble_eq_true rfl) dL_act_154 rfl ?_
    refine wa_i2l cx dL_act_157 ?_
    refine wa_ladd cx dL_act_158 ?_
    exact wa_lret cx h dL_act_159
  rw [if_neg q40] at h
  by_cases q47 : (a1 &&& (15 : Int32)) = (7 : Int32)
  · rw [if_pos q47] at h
    refine wa_tabIn cx dL_act_11 160 (by rw [q47]; decide) (by rw [q47]; decide) (by rw [q47] <;> rfl) (by decide) ?_
    refine wa_aload_n cx (i := 0) dL_act_160 rfl rfl ?_
    refine wa_iload_n cx (i := 2) dL_act_161 rfl rfl ?_
    refine wa_iload_n cx (i := 3) dL_act_162 rfl rfl ?_
    refine wa_iconst cx dL_act_163 (1 : Int32) (by decide) ?_
    refine wa_iadd cx dL_act_164 ?_
    obtain ⟨x48, S49, e50, h⟩ := bd_some h
    refine wa_callSi cx (m_L_some l cx.2.2.2.2.2.2.1  e50) vl_L_26 ⟨Nat.le_of_ble_eq_true rfl, Nat.le_of_ble_eq_true rfl⟩ ⟨rfl, rfl⟩ ⟨Nat.zero_le _, Nat.zero_le _⟩ rfl (Nat.le_of_ble_eq_true rfl) dL_act_165 rfl ?_
    refine wa_iconst cx dL_act_168 (1 : Int32) (by decide) ?_
    refine wa_isub cx dL_act_169 ?_
    obtain ⟨x51, S52, e53, h⟩ := bd_some h
    refine wa_callVl cx (m_X9_just l cx.2.2.2.2.2.2.1 h_a0 e53) vl_L_94 h_a0 (by decide) rfl rfl ⟨_, cell_eq9 (kd_lt h_a0 (by decide)).2⟩ ⟨Nat.le_of_ble_eq_true rfl, Nat.le_of_ble_eq_true rfl⟩ ⟨rfl, rfl⟩ ⟨Nat.zero_le _, Nat.zero_le _⟩ rfl (Nat.le_of_ble_eq_true rfl) dL_act_170 rfl ?_
    exact wa_lret cx h dL_act_173
  rw [if_neg q47] at h
  by_cases q54 : (a1 &&& (15 : Int32)) = (8 : Int32)
  · rw [if_pos q54] at h
    refine wa_tabIn cx dL_act_11 174 (by rw [q54]; decide) (by rw [q54]; decide) (by rw [q54] <;> rfl) (by decide) ?_
    refine wa_iload_n cx (i := 1) dL_act_174 rfl rfl ?_
    refine wa_bipush cx dL_act_175 (48 : Int32) (by decide) ?_
    refine wa_iand cx dL_act_177 ?_
    refine wa_if_ne cx dL_act_178 188 (by decide) (fun q55 => ?_) (fun q55 => ?_)
    · rw [if_neg q55] at h
      refine wa_aload_n cx (i := 0) dL_act_188 rfl rfl ?_
      refine wa_iconst cx dL_act_189 (1 : Int32) (by decide) ?_
      obtain ⟨x56, S57, e58, h⟩ := bd_some h
      refine wa_callVi cx (m_X9_made l cx.2.2.2.2.2.2.1 h_a0 e58) vl_L_91 h_a0 (by decide) rfl rfl ⟨_, cell_eq9 (kd_lt h_a0 (by decide)).2⟩ ⟨Nat.le_of_ble_eq_true rfl, Nat.le_of_ble_eq_true rfl⟩ ⟨rfl, rfl⟩ ⟨Nat.zero_le _, Nat.zero_le _⟩ rfl (Nat.le_of_ble_eq_true rfl) dL_act_190 rfl ?_
      refine wa_i2l cx dL_act_193 ?_
      exact wa_lret cx h dL_act_194
    · rw [if_pos q55] at h
      refine wa_aload_n cx (i := 0) dL_act_181 rfl rfl ?_
      obtain ⟨x59, S60, e61, h⟩ := bd_some h
      refine wa_callVl cx (m_X9_fails l cx.2.2.2.2.2.2.1 h_a0 e61) vl_L_97 h_a0 (by decide) rfl rfl ⟨_, cell_eq9 (kd_lt h_a0 (by decide)).2⟩ ⟨Nat.le_of_ble_eq_true rfl, Nat.le_of_ble_eq_true rfl⟩ ⟨rfl, rfl⟩ ⟨Nat.zero_le _, Nat.zero_le _⟩ rfl (Nat.le_of_ble_eq_true rfl) dL_act_182 rfl ?_
      refine wa_goto cx dL_act_185 194 (by decide) ?_
      exact wa_lret cx h dL_act_194
  rw [if_neg q54] at h
  by_cases q62 : (a1 &&& (15 : Int32)) = (9 : Int32)
  · rw [if_pos q62] at h
    refine wa_tabIn cx dL_act_11 195 (by rw [q62]; decide) (by rw [q62]; decide) (by rw [q62] <;> rfl) (by decide) ?_
    refine wa_iload_n cx (i := 1) dL_act_195 rfl rfl ?_
    refine wa_bipush cx dL_act_196 (48 : Int32) (by decide) ?_
    refine wa_iand cx dL_act_198 ?_
    refine wa_if_ne cx dL_act_199 212 (by decide) (fun q63 => ?_) (fun q63 => ?_)
    · rw [if_neg q63] at h
      refine wa_aload_n cx (i := 0) dL_act_212 rfl rfl ?_
      obtain ⟨x64, S65, e66, h⟩ := bd_some h
      refine wa_callVi cx (m_X9_bestShow l cx.2.2.2.2.2.2.1 h_a0 e66) vl_L_104 h_a0 (by decide) rfl rfl ⟨_, cell_eq9 (kd_lt h_a0 (by decide)).2⟩ ⟨Nat.le_of_ble_eq_true rfl, Nat.le_of_ble_eq_true rfl⟩ ⟨rfl, rfl⟩ ⟨Nat.zero_le _, Nat.zero_le _⟩ rfl (Nat.le_of_ble_eq_true rfl) dL_act_213 rfl ?_
      refine wa_i2l cx dL_act_216 ?_
      exact wa_lret cx h dL_act_217
    · rw [if_pos q63] at h
      refine wa_aload_n cx (i := 0) dL_act_202 rfl rfl ?_
      refine wa_iload_n cx (i := 2) dL_act_203 rfl rfl ?_
      refine wa_iconst cx dL_act_204 (1 : Int32) (by decide) ?_
      refine wa_iand cx dL_act_205 ?_
      obtain ⟨x67, S68, e69, h⟩ := bd_some h
      refine wa_callVl cx (m_X9_bestBar l cx.2.2.2.2.2.2.1 h_a0 e69) vl_L_101 h_a0 (by decide) rfl rfl ⟨_, cell_eq9 (kd_lt h_a0 (by decide)).2⟩ ⟨Nat.le_of_ble_eq_true rfl, Nat.le_of_ble_eq_true rfl⟩ ⟨rfl, rfl⟩ ⟨Nat.zero_le _, Nat.zero_le _⟩ rfl (Nat.le_of_ble_eq_true rfl) dL_act_206 rfl ?_
      refine wa_goto cx dL_act_209 217 (by decide) ?_
      exact wa_lret cx h dL_act_217
  rw [if_neg q62] at h
  by_cases q70 : (a1 &&& (15 : Int32)) = (10 : Int32)
  · rw [if_pos q70] at h
    refine wa_tabIn cx dL_act_11 218 (by rw [q70]; decide) (by rw [q70]; decide) (by rw [q70] <;> rfl) (by decide) ?_
    refine wa_iload_n cx (i := 1) dL_act_218 rfl rfl ?_
    refine wa_bipush cx dL_act_219 (48 : Int32) (by decide) ?_
    refine wa_iand cx dL_act_221 ?_
    refine wa_if_ne cx dL_act_222 233 (by decide) (fun q71 => ?_) (fun q71 => ?_)
    · rw [if_neg q71] at h
      refine wa_aload_n cx (i := 0) dL_act_233 rfl rfl ?_
      refine wa_iload_n cx (i := 2) dL_act_234 rfl rfl ?_
      refine wa_bipush cx dL_act_235 (11 : Int32) (by decide) ?_
      obtain ⟨x72, S73, e74, h⟩ := bd_some h
      refine wa_callSi cx (m_L_some l cx.2.2.2.2.2.2.1  e74) vl_L_26 ⟨Nat.le_of_ble_eq_true rfl, Nat.le_of_ble_eq_true rfl⟩ ⟨rfl, rfl⟩ ⟨Nat.zero_le _, Nat.zero_le _⟩ rfl (Nat.le_of_ble_eq_true rfl) dL_act_237 rfl ?_
      obtain ⟨x75, S76, e77, h⟩ := bd_some h
      refine wa_callVi cx (m_X9_extra l cx.2.2.2.2.2.2.1 h_a0 e77) vl_L_110 h_a0 (by decide) rfl rfl ⟨_, cell_eq9 (kd_lt h_a0 (by decide)).2⟩ ⟨Nat.le_of_ble_eq_true rfl, Nat.le_of_ble_eq_true rfl⟩ ⟨rfl, rfl⟩ ⟨Nat.zero_le _, Nat.zero_le _⟩ rfl (Nat.le_of_ble_eq_true rfl) dL_act_240 rfl ?_
      refine wa_i2l cx dL_act_243 ?_
      exact wa_lret cx h dL_act_244
    · rw [if_pos q71] at h
      refine wa_aload_n cx (i := 0) dL_act_225 rfl rfl ?_
      obtain ⟨x78, S79, e80, h⟩ := bd_some h
      refine wa_callVi cx (m_X9_bestDay l cx.2.2.2.2.2.2.1 h_a0 e80) vl_L_107 h_a0 (by decide) rfl rfl ⟨_, cell_eq9 (kd_lt h_a0 (by decide)).2⟩ ⟨Nat.le_of_ble_eq_true rfl, Nat.le_of_ble_eq_true rfl⟩ ⟨rfl, rfl⟩ ⟨Nat.zero_le _, Nat.zero_le _⟩ rfl (Nat.le_of_ble_eq_true rfl) dL_act_226 rfl ?_
      refine wa_i2l cx dL_act_229 ?_
      refine wa_goto cx dL_act_230 244 (by decide) ?_
      exact wa_lret cx h dL_act_244
  rw [if_neg q70] at h
  by_cases q81 : (a1 &&& (15 : Int32)) = (11 : Int32)
  · rw [if_pos q81] at h
    refine wa_tabIn cx dL_act_11 245 (by rw [q81]; decide) (by rw [q81]; decide) (by rw [q81] <;> rfl) (by decide) ?_
    refine wa_aload_n cx (i := 0) dL_act_245 rfl rfl ?_
    refine wa_iload_n cx (i := 1) dL_act_246 rfl rfl ?_
    refine wa_iconst cx dL_act_247 (4 : Int32) (by decide) ?_
    refine wa_ishr cx dL_act_248 ?_
    refine wa_bipush cx dL_act_249 (100 : Int32) (by decide) ?_
    obtain ⟨x82, S83, e84, h⟩ := bd_some h
    refine wa_callSi cx (m_L_some l cx.2.2.2.2.2.2.1  e84) vl_L_26 ⟨Nat.le_of_ble_eq_true rfl, Nat.le_of_ble_eq_true rfl⟩ ⟨rfl, rfl⟩ ⟨Nat.zero_le _, Nat.zero_le _⟩ rfl (Nat.le_of_ble_eq_true rfl) dL_act_251 rfl ?_
    refine wa_iload_n cx (i := 2) dL_act_254 rfl rfl ?_
    refine wa_iload cx dL_act_255 rfl ?_
    refine wa_iconst cx dL_act_257 (1 : Int32) (by decide) ?_
    refine wa_iadd cx dL_act_258 ?_
    obtain ⟨x85, S86, e87, h⟩ := bd_some h
    refine wa_callSi cx (m_L_some l cx.2.2.2.2.2.2.1  e87) vl_L_26 ⟨Nat.le_of_ble_eq_true rfl, Nat.le_of_ble_eq_true rfl⟩ ⟨rfl, rfl⟩ ⟨Nat.zero_le _, Nat.zero_le _⟩ rfl (Nat.le_of_ble_eq_true rfl) dL_act_259 rfl ?_
    obtain ⟨x88, S89, e90, h⟩ := bd_some h
    refine wa_callVl cx (m_X9_rich l cx.2.2.2.2.2.2.1 h_a0 e90) vl_L_113 h_a0 (by decide) rfl rfl ⟨_, cell_eq9 (kd_lt h_a0 (by decide)).2⟩ ⟨Nat.le_of_ble_eq_true rfl, Nat.le_of_ble_eq_true rfl⟩ ⟨rfl, rfl⟩ ⟨Nat.zero_le _, Nat.zero_le _⟩ rfl (Nat.le_of_ble_eq_true rfl) dL_act_262 rfl ?_
    refine wa_ldc2 cx dL_act_265 (50 : Int64) kc_L_116 ?_
    refine wa_lmul cx dL_act_268 ?_
    refine wa_iload_n cx (i := 1) dL_act_269 rfl rfl ?_
    refine wa_sipush cx dL_act_270 (2048 : Int32) (by decide) ?_
    refine wa_iand cx dL_act_273 ?_
    refine wa_if_ne cx dL_act_274 290 (by decide) (fun q91 => ?_) (fun q91 => ?_)
    · rw [if_neg q91] at h
      refine wa_iconst cx dL_act_290 (0 : Int32) (by decide) ?_
      refine wa_i2l cx dL_act_291 ?_
      refine wa_ladd cx dL_act_292 ?_
      exact wa_lret cx h dL_act_293
    · rw [if_pos q91] at h
      refine wa_aload_n cx (i := 0) dL_act_277 rfl rfl ?_
      refine wa_iload_n cx (i := 2) dL_act_278 rfl rfl ?_
      refine wa_bipush cx dL_act_279 (100 : Int32) (by decide) ?_
      obtain ⟨x92, S93, e94, h⟩ := bd_some h
      refine wa_callSi cx (m_L_some l cx.2.2.2.2.2.2.1  e94) vl_L_26 ⟨Nat.le_of_ble_eq_true rfl, Nat.le_of_ble_eq_true rfl⟩ ⟨rfl, rfl⟩ ⟨Nat.zero_le _, Nat.zero_le _⟩ rfl (Nat.le_of_ble_eq_true rfl) dL_act_281 rfl ?_
      obtain ⟨x95, S96, e97, h⟩ := bd_some h
      refine wa_callVi cx (m_X9_richDay l cx.2.2.2.2.2.2.1 h_a0 e97) vl_L_118 h_a0 (by decide) rfl rfl ⟨_, cell_eq9 (kd_lt h_a0 (by decide)).2⟩ ⟨Nat.le_of_ble_eq_true rfl, Nat.le_of_ble_eq_true rfl⟩ ⟨rfl, rfl⟩ ⟨Nat.zero_le _, Nat.zero_le _⟩ rfl (Nat.le_of_ble_eq_true rfl) dL_act_284 rfl ?_
      refine wa_goto cx dL_act_287 291 (by decide) ?_
      refine wa_i2l cx dL_act_291 ?_
      refine wa_ladd cx dL_act_292 ?_
      exact wa_lret cx h dL_act_293
  rw [if_neg q81] at h
  by_cases q98 : (a1 &&& (15 : Int32)) = (12 : Int32)
  · rw [if_pos q98] at h
    refine wa_tabIn cx dL_act_11 294 (by rw [q98]; decide) (by rw [q98]; decide) (by rw [q98] <;> rfl) (by decide) ?_
    refine wa_aload_n cx (i := 0) dL_act_294 rfl rfl ?_
    refine wa_iload_n cx (i := 2) dL_act_295 rfl rfl ?_
    refine wa_iconst cx dL_act_296 (3 : Int32) (by decide) ?_
    obtain ⟨x99, S100, e101, h⟩ := bd_some h
    refine wa_callSi cx (m_L_some l cx.2.2.2.2.2.2.1  e101) vl_L_26 ⟨Nat.le_of_ble_eq_true rfl, Nat.le_of_ble_eq_true rfl⟩ ⟨rfl, rfl⟩ ⟨Nat.zero_le _, Nat.zero_le _⟩ rfl (Nat.le_of_ble_eq_true rfl) dL_act_297 rfl ?_
    obtain ⟨x102, S103, e104, h⟩ := bd_some h
    refine wa_callVl cx (m_X9_two l cx.2.2.2.2.2.2.1 h_a0 e104) vl_L_121 h_a0 (by decide) rfl rfl ⟨_, cell_eq9 (kd_lt h_a0 (by decide)).2⟩ ⟨Nat.le_of_ble_eq_true rfl, Nat.le_of_ble_eq_true rfl⟩ ⟨rfl, rfl⟩ ⟨Nat.zero_le _, Nat.zero_le _⟩ rfl (Nat.le_of_ble_eq_true rfl) dL_act_300 rfl ?_
    exact wa_lret cx h dL_act_303
  rw [if_neg q98] at h
  by_cases q105 : (a1 &&& (15 : Int32)) = (13 : Int32)
  · rw [if_pos q105] at h
    refine wa_tabIn cx dL_act_11 304 (by rw [q105]; decide) (by rw [q105]; decide) (by rw [q105] <;> rfl) (by decide) ?_
    refine wa_aload_n cx (i := 0) dL_act_304 rfl rfl ?_
    refine wa_iload_n cx (i := 1) dL_act_305 rfl rfl ?_
    refine wa_iconst cx dL_act_306 (4 : Int32) (by decide) ?_
    refine wa_ishr cx dL_act_307 ?_
    refine wa_sipush cx dL_act_308 (10000 : Int32) (by decide) ?_
    obtain ⟨x106, S107, e108, h⟩ := bd_some h
    refine wa_callSi cx (m_L_some l cx.2.2.2.2.2.2.1  e108) vl_L_26 ⟨Nat.le_of_ble_eq_true rfl, Nat.le_of_ble_eq_true rfl⟩ ⟨rfl, rfl⟩ ⟨Nat.zero_le _, Nat.zero_le _⟩ rfl (Nat.le_of_ble_eq_true rfl) dL_act_311 rfl ?_
    refine wa_iload cx dL_act_314 rfl ?_
    refine wa_iload_n cx (i := 2) dL_act_316 rfl rfl ?_
    refine wa_iconst cx dL_act_317 (4 : Int32) (by decide) ?_
    refine wa_ishr cx dL_act_318 ?_
    refine wa_iconst cx dL_act_319 (1 : Int32) (by decide) ?_
    refine wa_iand cx dL_act_320 ?_
    obtain ⟨x109, S110, e111, h⟩ := bd_some h
    refine wa_callVi cx (m_X9_evening l cx.2.2.2.2.2.2.1 h_a0 e111) vl_L_124 h_a0 (by decide) rfl rfl ⟨_, cell_eq9 (kd_lt h_a0 (by decide)).2⟩ ⟨Nat.le_of_ble_eq_true rfl, Nat.le_of_ble_eq_true rfl⟩ ⟨rfl, rfl⟩ ⟨Nat.zero_le _, Nat.zero_le _⟩ rfl (Nat.le_of_ble_eq_true rfl) dL_act_321 rfl ?_
    refine wa_i2l cx dL_act_324 ?_
    exact wa_lret cx h dL_act_325
  rw [if_neg q105] at h
  by_cases q112 : (a1 &&& (15 : Int32)) = (14 : Int32)
  · rw [if_pos q112] at h
    refine wa_tabIn cx dL_act_11 326 (by rw [q112]; decide) (by rw [q112]; decide) (by rw [q112] <;> rfl) (by decide) ?_
    refine wa_aload_n cx (i := 0) dL_act_326 rfl rfl ?_
    refine wa_iload_n cx (i := 1) dL_act_327 rfl rfl ?_
    refine wa_iconst cx dL_act_328 (4 : Int32) (by decide) ?_
    refine wa_ishr cx dL_act_329 ?_
    refine wa_sipush cx dL_act_330 (10000 : Int32) (by decide) ?_
    obtain ⟨x113, S114, e115, h⟩ := bd_some h
    refine wa_callSi cx (m_L_some l cx.2.2.2.2.2.2.1  e115) vl_L_26 ⟨Nat.le_of_ble_eq_true rfl, Nat.le_of_ble_eq_true rfl⟩ ⟨rfl, rfl⟩ ⟨Nat.zero_le _, Nat.zero_le _⟩ rfl (Nat.le_of_ble_eq_true rfl) dL_act_333 rfl ?_
    refine wa_iload_n cx (i := 2) dL_act_336 rfl rfl ?_
    refine wa_iconst cx dL_act_337 (1 : Int32) (by decide) ?_
    refine wa_iand cx dL_act_338 ?_
    obtain ⟨x116, S117, e118, h⟩ := bd_some h
    refine wa_callVi cx (m_X9_whole l cx.2.2.2.2.2.2.1 h_a0 e118) vl_L_127 h_a0 (by decide) rfl rfl ⟨_, cell_eq9 (kd_lt h_a0 (by decide)).2⟩ ⟨Nat.le_of_ble_eq_true rfl, Nat.le_of_ble_eq_true rfl⟩ ⟨rfl, rfl⟩ ⟨Nat.zero_le _, Nat.zero_le _⟩ rfl (Nat.le_of_ble_eq_true rfl) dL_act_339 rfl ?_
    refine wa_i2l cx dL_act_342 ?_
    exact wa_lret cx h dL_act_343
  rw [if_neg q112] at h
  refine wa_tabDef cx dL_act_11 344 [0, 1, 2, 3, 4, 5, 6, 7, 8, 9, 10, 11, 12, 13, 14] (by decide) (by decide) (show allne _ _ from ⟨ne_toInt q4, ne_toInt q11, ne_toInt q18, ne_toInt q22, ne_toInt q26, ne_toInt q33, ne_toInt q40, ne_toInt q47, ne_toInt q54, ne_toInt q62, ne_toInt q70, ne_toInt q81, ne_toInt q98, ne_toInt q105, ne_toInt q112, trivial⟩) (by decide) ?_
  refine wa_iload_n cx (i := 1) dL_act_344 rfl rfl ?_
  refine wa_bipush cx dL_act_345 (16 : Int32) (by decide) ?_
  refine wa_iand cx dL_act_347 ?_
  refine wa_if_eq cx dL_act_348 359 (by decide) (fun q119 => ?_) (fun q119 => ?_)
  · rw [if_pos q119] at h
    refine wa_aload_n cx (i := 0) dL_act_359 rfl rfl ?_
    obtain ⟨x120, S121, e122, h⟩ := bd_some h
    refine wa_callVi cx (m_X9_back l cx.2.2.2.2.2.2.1 h_a0 e122) vl_L_133 h_a0 (by decide) rfl rfl ⟨_, cell_eq9 (kd_lt h_a0 (by decide)).2⟩ ⟨Nat.le_of_ble_eq_true rfl, Nat.le_of_ble_eq_true rfl⟩ ⟨rfl, rfl⟩ ⟨Nat.zero_le _, Nat.zero_le _⟩ rfl (Nat.le_of_ble_eq_true rfl) dL_act_360 rfl ?_
    refine wa_i2l cx dL_act_363 ?_
    exact wa_lret cx h dL_act_364
  · rw [if_neg q119] at h
    refine wa_aload_n cx (i := 0) dL_act_351 rfl rfl ?_
    obtain ⟨x123, S124, e125, h⟩ := bd_some h
    refine wa_callVi cx (m_X9_keep l cx.2.2.2.2.2.2.1 h_a0 e125) vl_L_130 h_a0 (by decide) rfl rfl ⟨_, cell_eq9 (kd_lt h_a0 (by decide)).2⟩ ⟨Nat.le_of_ble_eq_true rfl, Nat.le_of_ble_eq_true rfl⟩ ⟨rfl, rfl⟩ ⟨Nat.zero_le _, Nat.zero_le _⟩ rfl (Nat.le_of_ble_eq_true rfl) dL_act_352 rfl ?_
    refine wa_i2l cx dL_act_355 ?_
    refine wa_goto cx dL_act_356 364 (by decide) ?_
    exact wa_lret cx h dL_act_364
