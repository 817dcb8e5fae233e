theorem oi_i : Cond.instanceMethod Lib.objectInit ∈ lw_g := (lwm 46 (by decide +kernel) rfl)
theorem oi_c : Cond.code Lib.objectInit ⟨#[0xb1]⟩ 1 none ∈ lw_g := (lwm 47 (by decide +kernel) rfl)
theorem ar_I : Cond.arrayClass .int ∈ lw_g := (lwm 63 (by decide +kernel) rfl)
theorem ar_J : Cond.arrayClass .long ∈ lw_g := (lwm 341 (by decide +kernel) rfl)
theorem ins_0 : Cond.instantiable RX0 11 ∈ lw_g := (lwm 190 (by decide +kernel) rfl)
theorem ini_0 : Cond.initialized RX0 ∈ lw_g := (lwm 32 (by decide +kernel) rfl)
abbrev nul0 : List Value := [.int 0, .null, .null, .null, .null, .null, .null, .null, .null, .null, .null]
theorem nulv0 : ∀ j, j < 11 → defaultValue (tyX0 j) = vp_V nul0 j := by
  intro j hj
  match j, hj with
  | 0, _ => rfl
  | 1, _ => rfl
  | 2, _ => rfl
  | 3, _ => rfl
  | 4, _ => rfl
  | 5, _ => rfl
  | 6, _ => rfl
  | 7, _ => rfl
  | 8, _ => rfl
  | 9, _ => rfl
  | 10, _ => rfl
  | k + 11, hk => exact absurd hk (by omega)
theorem ins_1 : Cond.instantiable RX1 11 ∈ lw_g := (lwm 247 (by decide +kernel) rfl)
theorem ini_1 : Cond.initialized RX1 ∈ lw_g := (lwm 33 (by decide +kernel) rfl)
abbrev nul1 : List Value := [.null, .null, .int 0, .int 0, .int 0, .int 0, .int 0, .null, .null, .null, .null]
theorem nulv1 : ∀ j, j < 11 → defaultValue (tyX1 j) = vp_V nul1 j := by
  intro j hj
  match j, hj with
  | 0, _ => rfl
  | 1, _ => rfl
  | 2, _ => rfl
  | 3, _ => rfl
  | 4, _ => rfl
  | 5, _ => rfl
  | 6, _ => rfl
  | 7, _ => rfl
  | 8, _ => rfl
  | 9, _ => rfl
  | 10, _ => rfl
  | k + 11, hk => exact absurd hk (by omega)
theorem ins_2 : Cond.instantiable RX2 11 ∈ lw_g := (lwm 78 (by decide +kernel) rfl)
theorem ini_2 : Cond.initialized RX2 ∈ lw_g := (lwm 30 (by decide +kernel) rfl)
abbrev nul2 : List Value := [.int 0, .int 0, .int 0, .int 0, .int 0, .int 0, .int 0, .int 0, .int 0, .int 0, .null]
theorem nulv2 : ∀ j, j < 11 → defaultValue (tyX2 j) = vp_V nul2 j := by
  intro j hj
  match j, hj with
  | 0, _ => rfl
  | 1, _ => rfl
  | 2, _ => rfl
  | 3, _ => rfl
  | 4, _ => rfl
  | 5, _ => rfl
  | 6, _ => rfl
  | 7, _ => rfl
  | 8, _ => rfl
  | 9, _ => rfl
  | 10, _ => rfl
  | k + 11, hk => exact absurd hk (by omega)
theorem ins_3 : Cond.instantiable RX3 2 ∈ lw_g := (lwm 65 (by decide +kernel) rfl)
theorem ini_3 : Cond.initialized RX3 ∈ lw_g := (lwm 29 (by decide +kernel) rfl)
abbrev nul3 : List Value := [.null, .int 0]
theorem nulv3 : ∀ j, j < 2 → defaultValue (tyX3 j) = vp_V nul3 j := by
  intro j hj
  match j, hj with
  | 0, _ => rfl
  | 1, _ => rfl
  | k + 2, hk => exact absurd hk (by omega)
theorem ins_4 : Cond.instantiable RX4 6 ∈ lw_g := (lwm 343 (by decide +kernel) rfl)
theorem ini_4 : Cond.initialized RX4 ∈ lw_g := (lwm 35 (by decide +kernel) rfl)
abbrev nul4 : List Value := [.null, .int 0, .int 0, .int 0, .null, .null]
theorem nulv4 : ∀ j, j < 6 → defaultValue (tyX4 j) = vp_V nul4 j := by
  intro j hj
  match j, hj with
  | 0, _ => rfl
  | 1, _ => rfl
  | 2, _ => rfl
  | 3, _ => rfl
  | 4, _ => rfl
  | 5, _ => rfl
  | k + 6, hk => exact absurd hk (by omega)
theorem ins_5 : Cond.instantiable RX5 3 ∈ lw_g := (lwm 370 (by decide +kernel) rfl)
theorem ini_5 : Cond.initialized RX5 ∈ lw_g := (lwm 36 (by decide +kernel) rfl)
abbrev nul5 : List Value := [.int 0, .null, .null]
theorem nulv5 : ∀ j, j < 3 → defaultValue (tyX5 j) = vp_V nul5 j := by
  intro j hj
  match j, hj with
  | 0, _ => rfl
  | 1, _ => rfl
  | 2, _ => rfl
  | k + 3, hk => exact absurd hk (by omega)
theorem ins_6 : Cond.instantiable RX6 10 ∈ lw_g := (lwm 84 (by decide +kernel) rfl)
theorem ini_6 : Cond.initialized RX6 ∈ lw_g := (lwm 31 (by decide +kernel) rfl)
abbrev nul6 : List Value := [.int 0, .int 0, .null, .null, .null, .null, .null, .null, .null, .null]
theorem nulv6 : ∀ j, j < 10 → defaultValue (tyX6 j) = vp_V nul6 j := by
  intro j hj
  match j, hj with
  | 0, _ => rfl
  | 1, _ => rfl
  | 2, _ => rfl
  | 3, _ => rfl
  | 4, _ => rfl
  | 5, _ => rfl
  | 6, _ => rfl
  | 7, _ => rfl
  | 8, _ => rfl
  | 9, _ => rfl
  | k + 10, hk => exact absurd hk (by omega)
theorem ins_7 : Cond.instantiable RX7 2 ∈ lw_g := (lwm 49 (by decide +kernel) rfl)
theorem ini_7 : Cond.initialized RX7 ∈ lw_g := (lwm 28 (by decide +kernel) rfl)
abbrev nul7 : List Value := [.null, .int 0]
theorem nulv7 : ∀ j, j < 2 → defaultValue (tyX7 j) = vp_V nul7 j := by
  intro j hj
  match j, hj with
  | 0, _ => rfl
  | 1, _ => rfl
  | k + 2, hk => exact absurd hk (by omega)
theorem ins_8 : Cond.instantiable RX8 10 ∈ lw_g := (lwm 298 (by decide +kernel) rfl)
theorem ini_8 : Cond.initialized RX8 ∈ lw_g := (lwm 34 (by decide +kernel) rfl)
abbrev nul8 : List Value := [.long 0, .long 0, .long 0, .long 0, .long 0, .null, .null, .null, .null, .null]
theorem nulv8 : ∀ j, j < 10 → defaultValue (tyX8 j) = vp_V nul8 j := by
  intro j hj
  match j, hj with
  | 0, _ => rfl
  | 1, _ => rfl
  | 2, _ => rfl
  | 3, _ => rfl
  | 4, _ => rfl
  | 5, _ => rfl
  | 6, _ => rfl
  | 7, _ => rfl
  | 8, _ => rfl
  | 9, _ => rfl
  | k + 10, hk => exact absurd hk (by omega)
theorem ins_9 : Cond.instantiable RX9 19 ∈ lw_g := (lwm 41 (by decide +kernel) rfl)
theorem ini_9 : Cond.initialized RX9 ∈ lw_g := (lwm 27 (by decide +kernel) rfl)
abbrev nul9 : List Value := [.null, .null, .null, .null, .null, .null, .null, .null, .null, .null, .null, .int 0, .null, .int 0, .int 0, .int 0, .int 0, .long 0, .long 0]
theorem nulv9 : ∀ j, j < 19 → defaultValue (tyX9 j) = vp_V nul9 j := by
  intro j hj
  match j, hj with
  | 0, _ => rfl
  | 1, _ => rfl
  | 2, _ => rfl
  | 3, _ => rfl
  | 4, _ => rfl
  | 5, _ => rfl
  | 6, _ => rfl
  | 7, _ => rfl
  | 8, _ => rfl
  | 9, _ => rfl
  | 10, _ => rfl
  | 11, _ => rfl
  | 12, _ => rfl
  | 13, _ => rfl
  | 14, _ => rfl
  | 15, _ => rfl
  | 16, _ => rfl
  | 17, _ => rfl
  | 18, _ => rfl
  | k + 19, hk => exact absurd hk (by omega)
theorem app_c {α : Type} (pre : List α) (x : α) (tl ys : List α) : (pre ++ x :: tl) ++ ys = pre ++ x :: (tl ++ ys) := List.append_assoc _ _ _
theorem wl_re {p : Program} {l : Launch} {e : Env} {R : Room} {s : State} {m : MethodId} {args : Array Value} {below : List Frame} {meth : Method} {c : Code} {cells slots : Nat} {Q : State → Prop} {nL : Nat} {D : va_G} {A : Nat → Prop} {ws ws2 : va_W} {pc : Nat} {lv : List (Nat × Value)} {st : List Value} (h : ws = ws2) (k : WL p l e R s m args below meth c cells slots Q nL D A ws2 pc lv st) : WL p l e R s m args below meth c cells slots Q nL D A ws pc lv st := h ▸ k
def blk7 (cy : ClassId × ClassId) (q : Nat → Nat) : va_W := ([(q 0, .inr (7, [.ref (q 1), .int 0]))]) ++ ([(q 1, .inl (cy.1, 300, .inl (fun _ => 0)))])
def rmC_7 : Room := { frames := 1, cells := 1, slots := 300, locals := 20 }
set_option maxHeartbeats 4000000 in
set_option maxRecDepth 100000 in
theorem c_X7 (l : Launch) (D : va_G) (cy : ClassId × ClassId) (h0 sz : Nat) : MC l yX7_init cX7_init 1 rmC_7 D cy [(h0, .inr (7, nul7))] h0 sz (blk7 cy) 1 300 := by
  refine startC (by decide +kernel) (by decide) rfl (fun p e s m args below meth c hsz hnam cx => ?_)
  have cx : CxL p s m args meth c cX7_init 1 none RX7 D cy (va_A [(h0, .inr (7, nul7))] sz) := cx
  refine wl_re (ws2 := ([] : va_W) ++ (h0, .inr (7, nul7)) :: []) rfl ?_
  refine wl_aload_n cx (i := 0) dX7_init_0 rfl rfl ?_
  refine wl_oinit cx dX7_init_1 (show Cond.methodLink RX7 1 Lib.objectInit ∈ lw_g from (lwm 53 (by decide +kernel) rfl)) oi_i oi_c ⟨Nat.le_of_ble_eq_true rfl, Nat.le_of_ble_eq_true rfl⟩ ?_
  refine wl_aload_n cx (i := 0) dX7_init_4 rfl rfl ?_
  refine wl_sipush cx dX7_init_5 (300 : Int32) (by decide) ?_
  refine wl_newI cx dX7_init_8 300 1 300 ar_I (by decide) (by decide) (by decide) ⟨rfl, rfl⟩ ⟨Nat.le_of_ble_eq_true rfl, Nat.le_of_ble_eq_true rfl⟩ (fun qq1 => ?_)
  refine wl_re (app_c _ _ _ _) ?_
  refine wl_putF (k := 0) (ty := .array .int) (pre := ([] : va_W)) cx dX7_init_10 [.ref qq1, .int 0] tyX7 rfl inW7 tyX7_ok nmX7 (by decide) gl_X7_9 rfl hnam rfl (by decide +kernel) rfl rfl (Nat.le_of_ble_eq_true rfl) rfl ?_
  exact wl_vret cx dX7_init_13 (fun i => if i < 1 then h0 else qq1) rfl rfl
def blk3 (cy : ClassId × ClassId) (q : Nat → Nat) : va_W := ([(q 0, .inr (3, [.ref (q 1), .int 0]))]) ++ ([(q 1, .inl (cy.1, 5, .inl (fun _ => 0)))])
def rmC_3 : Room := { frames := 1, cells := 1, slots := 5, locals := 20 }
set_option maxHeartbeats 4000000 in
set_option maxRecDepth 100000 in
theorem c_X3 (l : Launch) (D : va_G) (cy : ClassId × ClassId) (h0 sz : Nat) : MC l yX3_init cX3_init 1 rmC_3 D cy [(h0, .inr (3, nul3))] h0 sz (blk3 cy) 1 5 := by
  refine startC (by decide +kernel) (by decide) rfl (fun p e s m args below meth c hsz hnam cx => ?_)
  have cx : CxL p s m args meth c cX3_init 1 none RX3 D cy (va_A [(h0, .inr (3, nul3))] sz) := cx
  refine wl_re (ws2 := ([] : va_W) ++ (h0, .inr (3, nul3)) :: []) rfl ?_
  refine wl_aload_n cx (i := 0) dX3_init_0 rfl rfl ?_
  refine wl_oinit cx dX3_init_1 (show Cond.methodLink RX3 3 Lib.objectInit ∈ lw_g from (lwm 69 (by decide +kernel) rfl)) oi_i oi_c ⟨Nat.le_of_ble_eq_true rfl, Nat.le_of_ble_eq_true rfl⟩ ?_
  refine wl_aload_n cx (i := 0) dX3_init_4 rfl rfl ?_
  refine wl_iconst cx dX3_init_5 (5 : Int32) (by decide) ?_
  refine wl_newI cx dX3_init_6 5 1 5 ar_I (by decide) (by decide) (by decide) ⟨rfl, rfl⟩ ⟨Nat.le_of_ble_eq_true rfl, Nat.le_of_ble_eq_true rfl⟩ (fun qq1 => ?_)
  refine wl_re (app_c _ _ _ _) ?_
  refine wl_putF (k := 0) (ty := .array .int) (pre := ([] : va_W)) cx dX3_init_8 [.ref qq1, .int 0] tyX3 rfl inW3 tyX3_ok nmX3 (by decide) gl_X3_11 rfl hnam rfl (by decide +kernel) rfl rfl (Nat.le_of_ble_eq_true rfl) rfl ?_
  exact wl_vret cx dX3_init_11 (fun i => if i < 1 then h0 else qq1) rfl rfl
def blk6 (cy : ClassId × ClassId) (q : Nat → Nat) : va_W := ([(q 0, .inr (6, [.int 0, .int 0, .ref (q 1), .ref (q 2), .ref (q 3), .ref (q 4), .ref (q 5), .ref (q 6), .ref (q 7), .ref (q 8)]))]) ++ ([(q 1, .inl (cy.1, 6, .inl (fun _ => 0)))]) ++ ([(q 2, .inl (cy.1, 6, .inl (fun _ => 0)))]) ++ ([(q 3, .inl (cy.1, 6, .inl (fun _ => 0)))]) ++ ([(q 4, .inl (cy.1, 6, .inl (fun _ => 0)))]) ++ ([(q 5, .inl (cy.1, 18, .inl (fun _ => 0)))]) ++ ([(q 6, .inl (cy.1, 18, .inl (fun _ => 0)))]) ++ ([(q 7, .inl (cy.1, 8, .inl (fun _ => 0)))]) ++ ([(q 8, .inl (cy.1, 8, .inl (fun _ => 0)))])
def rmC_6 : Room := { frames := 1, cells := 8, slots := 76, locals := 20 }
set_option maxHeartbeats 4000000 in
set_option maxRecDepth 100000 in
theorem c_X6 (l : Launch) (D : va_G) (cy : ClassId × ClassId) (h0 sz : Nat) : MC l yX6_init cX6_init 1 rmC_6 D cy [(h0, .inr (6, nul6))] h0 sz (blk6 cy) 8 76 := by
  refine startC (by decide +kernel) (by decide) rfl (fun p e s m args below meth c hsz hnam cx => ?_)
  have cx : CxL p s m args meth c cX6_init 1 none RX6 D cy (va_A [(h0, .inr (6, nul6))] sz) := cx
  refine wl_re (ws2 := ([] : va_W) ++ (h0, .inr (6, nul6)) :: []) rfl ?_
  refine wl_aload_n cx (i := 0) dX6_init_0 rfl rfl ?_
  refine wl_oinit cx dX6_init_1 (show Cond.methodLink RX6 1 Lib.objectInit ∈ lw_g from (lwm 88 (by decide +kernel) rfl)) oi_i oi_c ⟨Nat.le_of_ble_eq_true rfl, Nat.le_of_ble_eq_true rfl⟩ ?_
  refine wl_aload_n cx (i := 0) dX6_init_4 rfl rfl ?_
  refine wl_bipush cx dX6_init_5 (6 : Int32) (by decide) ?_
  refine wl_newI cx dX6_init_7 6 1 6 ar_I (by decide) (by decide) (by decide) ⟨rfl, rfl⟩ ⟨Nat.le_of_ble_eq_true rfl, Nat.le_of_ble_eq_true rfl⟩ (fun qq1 => ?_)
  refine wl_re (app_c _ _ _ _) ?_
  refine wl_putF (k := 2) (ty := .array .int) (pre := ([] : va_W)) cx dX6_init_9 [.int 0, .int 0, .ref qq1, .null, .null, .null, .null, .null, .null, .null] tyX6 rfl inW6 tyX6_ok nmX6 (by decide) gl_X6_9 rfl hnam rfl (by decide +kernel) rfl rfl (Nat.le_of_ble_eq_true rfl) rfl ?_
  refine wl_aload_n cx (i := 0) dX6_init_12 rfl rfl ?_
  refine wl_bipush cx dX6_init_13 (6 : Int32) (by decide) ?_
  refine wl_newI cx dX6_init_15 6 2 12 ar_I (by decide) (by decide) (by decide) ⟨rfl, rfl⟩ ⟨Nat.le_of_ble_eq_true rfl, Nat.le_of_ble_eq_true rfl⟩ (fun qq2 => ?_)
  refine wl_re (app_c _ _ _ _) ?_
  refine wl_putF (k := 3) (ty := .array .int) (pre := ([] : va_W)) cx dX6_init_17 [.int 0, .int 0, .ref qq1, .ref qq2, .null, .null, .null, .null, .null, .null] tyX6 rfl inW6 tyX6_ok nmX6 (by decide) gl_X6_13 rfl hnam rfl (by decide +kernel) rfl rfl (Nat.le_of_ble_eq_true rfl) rfl ?_
  refine wl_aload_n cx (i := 0) dX6_init_20 rfl rfl ?_
  refine wl_bipush cx dX6_init_21 (6 : Int32) (by decide) ?_
  refine wl_newI cx dX6_init_23 6 3 18 ar_I (by decide) (by decide) (by decide) ⟨rfl, rfl⟩ ⟨Nat.le_of_ble_eq_true rfl, Nat.le_of_ble_eq_true rfl⟩ (fun qq3 => ?_)
  refine wl_re (app_c _ _ _ _) ?_
  refine wl_putF (k := 4) (ty := .array .int) (pre := ([] : va_W)) cx dX6_init_25 [.int 0, .int 0, .ref qq1, .ref qq2, .ref qq3, .null, .null, .null, .null, .null] tyX6 rfl inW6 tyX6_ok nmX6 (by decide) gl_X6_16 rfl hnam rfl (by decide +kernel) rfl rfl (Nat.le_of_ble_eq_true rfl) rfl ?_
  refine wl_aload_n cx (i := 0) dX6_init_28 rfl rfl ?_
  refine wl_bipush cx dX6_init_29 (6 : Int32) (by decide) ?_
  refine wl_newI cx dX6_init_31 6 4 24 ar_I (by decide) (by decide) (by decide) ⟨rfl, rfl⟩ ⟨Nat.le_of_ble_eq_true rfl, Nat.le_of_ble_eq_true rfl⟩ (fun qq4 => ?_)
  refine wl_re (app_c _ _ _ _) ?_
  refine wl_putF (k := 5) (ty := .array .int) (pre := ([] : va_W)) cx dX6_init_33 [.int 0, .int 0, .ref qq1, .ref qq2, .ref qq3, .ref qq4, .null, .null, .null, .null] tyX6 rfl inW6 tyX6_ok nmX6 (by decide) gl_X6_19 rfl hnam rfl (by decide +kernel) rfl rfl (Nat.le_of_ble_eq_true rfl) rfl ?_
  refine wl_aload_n cx (i := 0) dX6_init_36 rfl rfl ?_
  refine wl_bipush cx dX6_init_37 (18 : Int32) (by decide) ?_
  refine wl_newI cx dX6_init_39 18 5 42 ar_I (by decide) (by decide) (by decide) ⟨rfl, rfl⟩ ⟨Nat.le_of_ble_eq_true rfl, Nat.le_of_ble_eq_true rfl⟩ (fun qq5 => ?_)
  refine wl_re (app_c _ _ _ _) ?_
  refine wl_putF (k := 6) (ty := .array .int) (pre := ([] : va_W)) cx dX6_init_41 [.int 0, .int 0, .ref qq1, .ref qq2, .ref qq3, .ref qq4, .ref qq5, .null, .null, .null] tyX6 rfl inW6 tyX6_ok nmX6 (by decide) gl_X6_22 rfl hnam rfl (by decide +kernel) rfl rfl (Nat.le_of_ble_eq_true rfl) rfl ?_
  refine wl_aload_n cx (i := 0) dX6_init_44 rfl rfl ?_
  refine wl_bipush cx dX6_init_45 (18 : Int32) (by decide) ?_
  refine wl_newI cx dX6_init_47 18 6 60 ar_I (by decide) (by decide) (by decide) ⟨rfl, rfl⟩ ⟨Nat.le_of_ble_eq_true rfl, Nat.le_of_ble_eq_true rfl⟩ (fun qq6 => ?_)
  refine wl_re (app_c _ _ _ _) ?_
  refine wl_putF (k := 7) (ty := .array .int) (pre := ([] : va_W)) cx dX6_init_49 [.int 0, .int 0, .ref qq1, .ref qq2, .ref qq3, .ref qq4, .ref qq5, .ref qq6, .null, .null] tyX6 rfl inW6 tyX6_ok nmX6 (by decide) gl_X6_25 rfl hnam rfl (by decide +kernel) rfl rfl (Nat.le_of_ble_eq_true rfl) rfl ?_
  refine wl_aload_n cx (i := 0) dX6_init_52 rfl rfl ?_
  refine wl_bipush cx dX6_init_53 (8 : Int32) (by decide) ?_
  refine wl_newI cx dX6_init_55 8 7 68 ar_I (by decide) (by decide) (by decide) ⟨rfl, rfl⟩ ⟨Nat.le_of_ble_eq_true rfl, Nat.le_of_ble_eq_true rfl⟩ (fun qq7 => ?_)
  refine wl_re (app_c _ _ _ _) ?_
  refine wl_putF (k := 8) (ty := .array .int) (pre := ([] : va_W)) cx dX6_init_57 [.int 0, .int 0, .ref qq1, .ref qq2, .ref qq3, .ref qq4, .ref qq5, .ref qq6, .ref qq7, .null] tyX6 rfl inW6 tyX6_ok nmX6 (by decide) gl_X6_28 rfl hnam rfl (by decide +kernel) rfl rfl (Nat.le_of_ble_eq_true rfl) rfl ?_
  refine wl_aload_n cx (i := 0) dX6_init_60 rfl rfl ?_
  refine wl_bipush cx dX6_init_61 (8 : Int32) (by decide) ?_
  refine wl_newI cx dX6_init_63 8 8 76 ar_I (by decide) (by decide) (by decide) ⟨rfl, rfl⟩ ⟨Nat.le_of_ble_eq_true rfl, Nat.le_of_ble_eq_true rfl⟩ (fun qq8 => ?_)
  refine wl_re (app_c _ _ _ _) ?_
  refine wl_putF (k := 9) (ty := .array .int) (pre := ([] : va_W)) cx dX6_init_65 [.int 0, .int 0, .ref qq1, .ref qq2, .ref qq3, .ref qq4, .ref qq5, .ref qq6, .ref qq7, .ref qq8] tyX6 rfl inW6 tyX6_ok nmX6 (by decide) gl_X6_31 rfl hnam rfl (by decide +kernel) rfl rfl (Nat.le_of_ble_eq_true rfl) rfl ?_
  exact wl_vret cx dX6_init_68 (fun i => if i < 1 then h0 else if i < 2 then qq1 else if i < 3 then qq2 else if i < 4 then qq3 else if i < 5 then qq4 else if i < 6 then qq5 else if i < 7 then qq6 else if i < 8 then qq7 else qq8) rfl rfl
def blk2 (cy : ClassId × ClassId) (q : Nat → Nat) : va_W := ([(q 0, .inr (2, [.int 0, .int 0, .int 0, .int 0, .int 0, .int 0, .int 0, .int 0, .int 0, .int 0, .ref (q 1)]))]) ++ (blk6 cy (fun i => q (i + 1)))
def rmC_2 : Room := { frames := 2, cells := 9, slots := 86, locals := 40 }
set_option maxHeartbeats 4000000 in
set_option maxRecDepth 100000 in
theorem c_X2 (l : Launch) (D : va_G) (cy : ClassId × ClassId) (h0 sz : Nat) : MC l yX2_init cX2_init 1 rmC_2 D cy [(h0, .inr (2, nul2))] h0 sz (blk2 cy) 9 86 := by
  refine startC (by decide +kernel) (by decide) rfl (fun p e s m args below meth c hsz hnam cx => ?_)
  have cx : CxL p s m args meth c cX2_init 1 none RX2 D cy (va_A [(h0, .inr (2, nul2))] sz) := cx
  refine wl_re (ws2 := ([] : va_W) ++ (h0, .inr (2, nul2)) :: []) rfl ?_
  refine wl_aload_n cx (i := 0) dX2_init_0 rfl rfl ?_
  refine wl_oinit cx dX2_init_1 (show Cond.methodLink RX2 1 Lib.objectInit ∈ lw_g from (lwm 82 (by decide +kernel) rfl)) oi_i oi_c ⟨Nat.le_of_ble_eq_true rfl, Nat.le_of_ble_eq_true rfl⟩ ?_
  refine wl_aload_n cx (i := 0) dX2_init_4 rfl rfl ?_
  refine wl_new (ci := 6) cx dX2_init_5 1 10 nul6 tyX6 tyX6_ok inW6 (show Cond.classLink RX2 7 RX6 ∈ lw_g from (lwm 83 (by decide +kernel) rfl)) ins_6 ini_6 rfl nulv6 ⟨rfl, rfl⟩ ⟨Nat.le_of_ble_eq_true rfl, Nat.le_of_ble_eq_true rfl⟩ (fun qq1 => ?_)
  refine wl_dup cx dX2_init_8 rfl ?_
  refine wl_callN cx dX2_init_9 9 86 (fun sz => c_X6 l D cy qq1 sz) (show INL RX2 RX9 9 yX6_init cX6_init 1 from ⟨⟨List.mem_of_getElem? (i := 85) (by decide +kernel), (lwm 86 (by decide +kernel) rfl), (lwm 31 (by decide +kernel) rfl), (lwm 87 (by decide +kernel) rfl)⟩, by decide, by decide, by decide +kernel⟩) rfl ⟨Nat.le_of_ble_eq_true rfl, Nat.le_of_ble_eq_true rfl⟩ ⟨rfl, rfl⟩ ⟨rfl, rfl⟩ ⟨Nat.le_of_ble_eq_true rfl, Nat.le_of_ble_eq_true rfl⟩ (Nat.le_of_ble_eq_true rfl) (fun uu2 huu2 => ?_)
  subst huu2
  refine wl_re (app_c _ _ _ _) ?_
  refine wl_putF (k := 10) (ty := .object "EnoughGive$Sorts") (pre := ([] : va_W)) cx dX2_init_12 [.int 0, .int 0, .int 0, .int 0, .int 0, .int 0, .int 0, .int 0, .int 0, .int 0, .ref (uu2 0)] tyX2 rfl inW2 tyX2_ok nmX2 (by decide) gl_X2_10 rfl hnam rfl (by decide +kernel) rfl rfl (Nat.le_of_ble_eq_true rfl) rfl ?_
  exact wl_vret cx dX2_init_15 (fun i => if i < 1 then h0 else uu2 (i - 1)) rfl rfl
def blk0 (cy : ClassId × ClassId) (q : Nat → Nat) : va_W := ([(q 0, .inr (0, [.int 0, .ref (q 1), .ref (q 2), .ref (q 3), .ref (q 4), .ref (q 5), .ref (q 6), .ref (q 7), .ref (q 8), .ref (q 9), .ref (q 10)]))]) ++ ([(q 1, .inl (cy.1, 8, .inl (fun _ => 0)))]) ++ ([(q 2, .inl (cy.1, 8, .inl (fun _ => 0)))]) ++ ([(q 3, .inl (cy.1, 8, .inl (fun _ => 0)))]) ++ ([(q 4, .inl (cy.1, 8, .inl (fun _ => 0)))]) ++ ([(q 5, .inl (cy.1, 8, .inl (fun _ => 0)))]) ++ ([(q 6, .inl (cy.1, 8, .inl (fun _ => 0)))]) ++ ([(q 7, .inl (cy.1, 8, .inl (fun _ => 0)))]) ++ ([(q 8, .inl (cy.1, 24, .inl (fun _ => 0)))]) ++ ([(q 9, .inl (cy.1, 24, .inl (fun _ => 0)))]) ++ ([(q 10, .inl (cy.1, 8, .inl (fun _ => 0)))])
def rmC_0 : Room := { frames := 1, cells := 10, slots := 112, locals := 20 }
set_option maxHeartbeats 4000000 in
set_option maxRecDepth 100000 in
theorem c_X0 (l : Launch) (D : va_G) (cy : ClassId × ClassId) (h0 sz : Nat) : MC l yX0_init cX0_init 1 rmC_0 D cy [(h0, .inr (0, nul0))] h0 sz (blk0 cy) 10 112 := by
  refine startC (by decide +kernel) (by decide) rfl (fun p e s m args below meth c hsz hnam cx => ?_)
  have cx : CxL p s m args meth c cX0_init 1 none RX0 D cy (va_A [(h0, .inr (0, nul0))] sz) := cx
  refine wl_re (ws2 := ([] : va_W) ++ (h0, .inr (0, nul0)) :: []) rfl ?_
  refine wl_aload_n cx (i := 0) dX0_init_0 rfl rfl ?_
  refine wl_oinit cx dX0_init_1 (show Cond.methodLink RX0 3 Lib.objectInit ∈ lw_g from (lwm 194 (by decide +kernel) rfl)) oi_i oi_c ⟨Nat.le_of_ble_eq_true rfl, Nat.le_of_ble_eq_true rfl⟩ ?_
  refine wl_aload_n cx (i := 0) dX0_init_4 rfl rfl ?_
  refine wl_bipush cx dX0_init_5 (8 : Int32) (by decide) ?_
  refine wl_newI cx dX0_init_7 8 1 8 ar_I (by decide) (by decide) (by decide) ⟨rfl, rfl⟩ ⟨Nat.le_of_ble_eq_true rfl, Nat.le_of_ble_eq_true rfl⟩ (fun qq1 => ?_)
  refine wl_re (app_c _ _ _ _) ?_
  refine wl_putF (k := 1) (ty := .array .int) (pre := ([] : va_W)) cx dX0_init_9 [.int 0, .ref qq1, .null, .null, .null, .null, .null, .null, .null, .null, .null] tyX0 rfl inW0 tyX0_ok nmX0 (by decide) gl_X0_11 rfl hnam rfl (by decide +kernel) rfl rfl (Nat.le_of_ble_eq_true rfl) rfl ?_
  refine wl_aload_n cx (i := 0) dX0_init_12 rfl rfl ?_
  refine wl_bipush cx dX0_init_13 (8 : Int32) (by decide) ?_
  refine wl_newI cx dX0_init_15 8 2 16 ar_I (by decide) (by decide) (by decide) ⟨rfl, rfl⟩ ⟨Nat.le_of_ble_eq_true rfl, Nat.le_of_ble_eq_true rfl⟩ (fun qq2 => ?_)
  refine wl_re (app_c _ _ _ _) ?_
  refine wl_putF (k := 2) (ty := .array .int) (pre := ([] : va_W)) cx dX0_init_17 [.int 0, .ref qq1, .ref qq2, .null, .null, .null, .null, .null, .null, .null, .null] tyX0 rfl inW0 tyX0_ok nmX0 (by decide) gl_X0_17 rfl hnam rfl (by decide +kernel) rfl rfl (Nat.le_of_ble_eq_true rfl) rfl ?_
  refine wl_aload_n cx (i := 0) dX0_init_20 rfl rfl ?_
  refine wl_bipush cx dX0_init_21 (8 : Int32) (by decide) ?_
  refine wl_newI cx dX0_init_23 8 3 24 ar_I (by decide) (by decide) (by decide) ⟨rfl, rfl⟩ ⟨Nat.le_of_ble_eq_true rfl, Nat.le_of_ble_eq_true rfl⟩ (fun qq3 => ?_)
  refine wl_re (app_c _ _ _ _) ?_
  refine wl_putF (k := 3) (ty := .array .int) (pre := ([] : va_W)) cx dX0_init_25 [.int 0, .ref qq1, .ref qq2, .ref qq3, .null, .null, .null, .null, .null, .null, .null] tyX0 rfl inW0 tyX0_ok nmX0 (by decide) gl_X0_20 rfl hnam rfl (by decide +kernel) rfl rfl (Nat.le_of_ble_eq_true rfl) rfl ?_
  refine wl_aload_n cx (i := 0) dX0_init_28 rfl rfl ?_
  refine wl_bipush cx dX0_init_29 (8 : Int32) (by decide) ?_
  refine wl_newI cx dX0_init_31 8 4 32 ar_I (by decide) (by decide) (by decide) ⟨rfl, rfl⟩ ⟨Nat.le_of_ble_eq_true rfl, Nat.le_of_ble_eq_true rfl⟩ (fun qq4 => ?_)
  refine wl_re (app_c _ _ _ _) ?_
  refine wl_putF (k := 4) (ty := .array .int) (pre := ([] : va_W)) cx dX0_init_33 [.int 0, .ref qq1, .ref qq2, .ref qq3, .ref qq4, .null, .null, .null, .null, .null, .null] tyX0 rfl inW0 tyX0_ok nmX0 (by decide) gl_X0_23 rfl hnam rfl (by decide +kernel) rfl rfl (Nat.le_of_ble_eq_true rfl) rfl ?_
  refine wl_aload_n cx (i := 0) dX0_init_36 rfl rfl ?_
  refine wl_bipush cx dX0_init_37 (8 : Int32) (by decide) ?_
  refine wl_newI cx dX0_init_39 8 5 40 ar_I (by decide) (by decide) (by decide) ⟨rfl, rfl⟩ ⟨Nat.le_of_ble_eq_true rfl, Nat.le_of_ble_eq_true rfl⟩ (fun qq5 => ?_)
  refine wl_re (app_c _ _ _ _) ?_
  refine wl_putF (k := 5) (ty := .array .int) (pre := ([] : va_W)) cx dX0_init_41 [.int 0, .ref qq1, .ref qq2, .ref qq3, .ref qq4, .ref qq5, .null, .null, .null, .null, .null] tyX0 rfl inW0 tyX0_ok nmX0 (by decide) gl_X0_26 rfl hnam rfl (by decide +kernel) rfl rfl (Nat.le_of_ble_eq_true rfl) rfl ?_
  refine wl_aload_n cx (i := 0) dX0_init_44 rfl rfl ?_
  refine wl_bipush cx dX0_init_45 (8 : Int32) (by decide) ?_
  refine wl_newI cx dX0_init_47 8 6 48 ar_I (by decide) (by decide) (by decide) ⟨rfl, rfl⟩ ⟨Nat.le_of_ble_eq_true rfl, Nat.le_of_ble_eq_true rfl⟩ (fun qq6 => ?_)
  refine wl_re (app_c _ _ _ _) ?_
  refine wl_putF (k := 6) (ty := .array .int) (pre := ([] : va_W)) cx dX0_init_49 [.int 0, .ref qq1, .ref qq2, .ref qq3, .ref qq4, .ref qq5, .ref qq6, .null, .null, .null, .null] tyX0 rfl inW0 tyX0_ok nmX0 (by decide) gl_X0_29 rfl hnam rfl (by decide +kernel) rfl rfl (Nat.le_of_ble_eq_true rfl) rfl ?_
  refine wl_aload_n cx (i := 0) dX0_init_52 rfl rfl ?_
  refine wl_bipush cx dX0_init_53 (8 : Int32) (by decide) ?_
  refine wl_newI cx dX0_init_55 8 7 56 ar_I (by decide) (by decide) (by decide) ⟨rfl, rfl⟩ ⟨Nat.le_of_ble_eq_true rfl, Nat.le_of_ble_eq_true rfl⟩ (fun qq7 => ?_)
  refine wl_re (app_c _ _ _ _) ?_
  refine wl_putF (k := 7) (ty := .array .int) (pre := ([] : va_W)) cx dX0_init_57 [.int 0, .ref qq1, .ref qq2, .ref qq3, .ref qq4, .ref qq5, .ref qq6, .ref qq7, .null, .null, .null] tyX0 rfl inW0 tyX0_ok nmX0 (by decide) gl_X0_32 rfl hnam rfl (by decide +kernel) rfl rfl (Nat.le_of_ble_eq_true rfl) rfl ?_
  refine wl_aload_n cx (i := 0) dX0_init_60 rfl rfl ?_
  refine wl_bipush cx dX0_init_61 (24 : Int32) (by decide) ?_
  refine wl_newI cx dX0_init_63 24 8 80 ar_I (by decide) (by decide) (by decide) ⟨rfl, rfl⟩ ⟨Nat.le_of_ble_eq_true rfl, Nat.le_of_ble_eq_true rfl⟩ (fun qq8 => ?_)
  refine wl_re (app_c _ _ _ _) ?_
  refine wl_putF (k := 8) (ty := .array .int) (pre := ([] : va_W)) cx dX0_init_65 [.int 0, .ref qq1, .ref qq2, .ref qq3, .ref qq4, .ref qq5, .ref qq6, .ref qq7, .ref qq8, .null, .null] tyX0 rfl inW0 tyX0_ok nmX0 (by decide) gl_X0_35 rfl hnam rfl (by decide +kernel) rfl rfl (Nat.le_of_ble_eq_true rfl) rfl ?_
  refine wl_aload_n cx (i := 0) dX0_init_68 rfl rfl ?_
  refine wl_bipush cx dX0_init_69 (24 : Int32) (by decide) ?_
  refine wl_newI cx dX0_init_71 24 9 104 ar_I (by decide) (by decide) (by decide) ⟨rfl, rfl⟩ ⟨Nat.le_of_ble_eq_true rfl, Nat.le_of_ble_eq_true rfl⟩ (fun qq9 => ?_)
  refine wl_re (app_c _ _ _ _) ?_
  refine wl_putF (k := 9) (ty := .array .int) (pre := ([] : va_W)) cx dX0_init_73 [.int 0, .ref qq1, .ref qq2, .ref qq3, .ref qq4, .ref qq5, .ref qq6, .ref qq7, .ref qq8, .ref qq9, .null] tyX0 rfl inW0 tyX0_ok nmX0 (by decide) gl_X0_38 rfl hnam rfl (by decide +kernel) rfl rfl (Nat.le_of_ble_eq_true rfl) rfl ?_
  refine wl_aload_n cx (i := 0) dX0_init_76 rfl rfl ?_
  refine wl_bipush cx dX0_init_77 (8 : Int32) (by decide) ?_
  refine wl_newI cx dX0_init_79 8 10 112 ar_I (by decide) (by decide) (by decide) ⟨rfl, rfl⟩ ⟨Nat.le_of_ble_eq_true rfl, Nat.le_of_ble_eq_true rfl⟩ (fun qq10 => ?_)
  refine wl_re (app_c _ _ _ _) ?_
  refine wl_putF (k := 10) (ty := .array .int) (pre := ([] : va_W)) cx dX0_init_81 [.int 0, .ref qq1, .ref qq2, .ref qq3, .ref qq4, .ref qq5, .ref qq6, .ref qq7, .ref qq8, .ref qq9, .ref qq10] tyX0 rfl inW0 tyX0_ok nmX0 (by decide) gl_X0_41 rfl hnam rfl (by decide +kernel) rfl rfl (Nat.le_of_ble_eq_true rfl) rfl ?_
  exact wl_vret cx dX0_init_84 (fun i => if i < 1 then h0 else if i < 2 then qq1 else if i < 3 then qq2 else if i < 4 then qq3 else if i < 5 then qq4 else if i < 6 then qq5 else if i < 7 then qq6 else if i < 8 then qq7 else if i < 9 then qq8 else if i < 10 then qq9 else qq10) rfl rfl
def blk1 (cy : ClassId × ClassId) (q : Nat → Nat) : va_W := ([(q 0, .inr (1, [.ref (q 1), .ref (q 11), .int 0, .int 0, .int 0, .int 0, .int 0, .ref (q 22), .ref (q 23), .ref (q 24), .ref (q 25)]))]) ++ (blk2 cy (fun i => q (i + 1))) ++ (blk0 cy (fun i => q (i + 11))) ++ ([(q 22, .inl (cy.1, 8, .inl (fun _ => 0)))]) ++ ([(q 23, .inl (cy.1, 9, .inl (fun _ => 0)))]) ++ ([(q 24, .inl (cy.1, 9, .inl (fun _ => 0)))]) ++ ([(q 25, .inl (cy.1, 9, .inl (fun _ => 0)))])
def rmC_1 : Room := { frames := 3, cells := 25, slots := 255, locals := 60 }
set_option maxHeartbeats 4000000 in
set_option maxRecDepth 100000 in
theorem c_X1 (l : Launch) (D : va_G) (cy : ClassId × ClassId) (h0 sz : Nat) : MC l yX1_init cX1_init 1 rmC_1 D cy [(h0, .inr (1, nul1))] h0 sz (blk1 cy) 25 255 := by
  refine startC (by decide +kernel) (by decide) rfl (fun p e s m args below meth c hsz hnam cx => ?_)
  have cx : CxL p s m args meth c cX1_init 1 none RX1 D cy (va_A [(h0, .inr (1, nul1))] sz) := cx
  refine wl_re (ws2 := ([] : va_W) ++ (h0, .inr (1, nul1)) :: []) rfl ?_
  refine wl_aload_n cx (i := 0) dX1_init_0 rfl rfl ?_
  refine wl_oinit cx dX1_init_1 (show Cond.methodLink RX1 1 Lib.objectInit ∈ lw_g from (lwm 251 (by decide +kernel) rfl)) oi_i oi_c ⟨Nat.le_of_ble_eq_true rfl, Nat.le_of_ble_eq_true rfl⟩ ?_
  refine wl_aload_n cx (i := 0) dX1_init_4 rfl rfl ?_
  refine wl_new (ci := 2) cx dX1_init_5 1 11 nul2 tyX2 tyX2_ok inW2 (show Cond.classLink RX1 7 RX2 ∈ lw_g from (lwm 252 (by decide +kernel) rfl)) ins_2 ini_2 rfl nulv2 ⟨rfl, rfl⟩ ⟨Nat.le_of_ble_eq_true rfl, Nat.le_of_ble_eq_true rfl⟩ (fun qq1 => ?_)
  refine wl_dup cx dX1_init_8 rfl ?_
  refine wl_callN cx dX1_init_9 10 97 (fun sz => c_X2 l D cy qq1 sz) (show INL RX1 RX9 9 yX2_init cX2_init 1 from ⟨⟨List.mem_of_getElem? (i := 253) (by decide +kernel), (lwm 80 (by decide +kernel) rfl), (lwm 30 (by decide +kernel) rfl), (lwm 81 (by decide +kernel) rfl)⟩, by decide, by decide, by decide +kernel⟩) rfl ⟨Nat.le_of_ble_eq_true rfl, Nat.le_of_ble_eq_true rfl⟩ ⟨rfl, rfl⟩ ⟨rfl, rfl⟩ ⟨Nat.le_of_ble_eq_true rfl, Nat.le_of_ble_eq_true rfl⟩ (Nat.le_of_ble_eq_true rfl) (fun uu2 huu2 => ?_)
  subst huu2
  refine wl_re (app_c _ _ _ _) ?_
  refine wl_put (k := 0) (ty := .object "EnoughGive$Plan") (pre := ([] : va_W)) cx dX1_init_12 [.ref (uu2 0), .null, .int 0, .int 0, .int 0, .int 0, .int 0, .null, .null, .null, .null] tyX1 rfl inW1 tyX1_ok nmX1 (by decide) gl_X1_10 rfl (by decide +kernel) rfl rfl (Nat.le_of_ble_eq_true rfl) rfl ?_
  refine wl_aload_n cx (i := 0) dX1_init_15 rfl rfl ?_
  refine wl_new (ci := 0) cx dX1_init_16 11 108 nul0 tyX0 tyX0_ok inW0 (show Cond.classLink RX1 16 RX0 ∈ lw_g from (lwm 254 (by decide +kernel) rfl)) ins_0 ini_0 rfl nulv0 ⟨rfl, rfl⟩ ⟨Nat.le_of_ble_eq_true rfl, Nat.le_of_ble_eq_true rfl⟩ (fun qq3 => ?_)
  refine wl_dup cx dX1_init_19 rfl ?_
  refine wl_callN cx dX1_init_20 21 220 (fun sz => c_X0 l D cy qq3 sz) (show INL RX1 RX9 18 yX0_init cX0_init 1 from ⟨⟨List.mem_of_getElem? (i := 255) (by decide +kernel), (lwm 192 (by decide +kernel) rfl), (lwm 32 (by decide +kernel) rfl), (lwm 193 (by decide +kernel) rfl)⟩, by decide, by decide, by decide +kernel⟩) rfl ⟨Nat.le_of_ble_eq_true rfl, Nat.le_of_ble_eq_true rfl⟩ ⟨rfl, rfl⟩ ⟨rfl, rfl⟩ ⟨Nat.le_of_ble_eq_true rfl, Nat.le_of_ble_eq_true rfl⟩ (Nat.le_of_ble_eq_true rfl) (fun uu4 huu4 => ?_)
  subst huu4
  refine wl_re (app_c _ _ _ _) ?_
  refine wl_put (k := 1) (ty := .object "EnoughGive$Coming") (pre := ([] : va_W)) cx dX1_init_23 [.ref (uu2 0), .ref (uu4 0), .int 0, .int 0, .int 0, .int 0, .int 0, .null, .null, .null, .null] tyX1 rfl inW1 tyX1_ok nmX1 (by decide) gl_X1_19 rfl (by decide +kernel) rfl rfl (Nat.le_of_ble_eq_true rfl) rfl ?_
  refine wl_aload_n cx (i := 0) dX1_init_26 rfl rfl ?_
  refine wl_bipush cx dX1_init_27 (8 : Int32) (by decide) ?_
  refine wl_newI cx dX1_init_29 8 22 228 ar_I (by decide) (by decide) (by decide) ⟨rfl, rfl⟩ ⟨Nat.le_of_ble_eq_true rfl, Nat.le_of_ble_eq_true rfl⟩ (fun qq5 => ?_)
  refine wl_re (app_c _ _ _ _) ?_
  refine wl_putF (k := 7) (ty := .array .int) (pre := ([] : va_W)) cx dX1_init_31 [.ref (uu2 0), .ref (uu4 0), .int 0, .int 0, .int 0, .int 0, .int 0, .ref qq5, .null, .null, .null] tyX1 rfl inW1 tyX1_ok nmX1 (by decide) gl_X1_25 rfl hnam rfl (by decide +kernel) rfl rfl (Nat.le_of_ble_eq_true rfl) rfl ?_
  refine wl_aload_n cx (i := 0) dX1_init_34 rfl rfl ?_
  refine wl_bipush cx dX1_init_35 (9 : Int32) (by decide) ?_
  refine wl_newI cx dX1_init_37 9 23 237 ar_I (by decide) (by decide) (by decide) ⟨rfl, rfl⟩ ⟨Nat.le_of_ble_eq_true rfl, Nat.le_of_ble_eq_true rfl⟩ (fun qq6 => ?_)
  refine wl_re (app_c _ _ _ _) ?_
  refine wl_putF (k := 8) (ty := .array .int) (pre := ([] : va_W)) cx dX1_init_39 [.ref (uu2 0), .ref (uu4 0), .int 0, .int 0, .int 0, .int 0, .int 0, .ref qq5, .ref qq6, .null, .null] tyX1 rfl inW1 tyX1_ok nmX1 (by decide) gl_X1_29 rfl hnam rfl (by decide +kernel) rfl rfl (Nat.le_of_ble_eq_true rfl) rfl ?_
  refine wl_aload_n cx (i := 0) dX1_init_42 rfl rfl ?_
  refine wl_bipush cx dX1_init_43 (9 : Int32) (by decide) ?_
  refine wl_newI cx dX1_init_45 9 24 246 ar_I (by decide) (by decide) (by decide) ⟨rfl, rfl⟩ ⟨Nat.le_of_ble_eq_true rfl, Nat.le_of_ble_eq_true rfl⟩ (fun qq7 => ?_)
  refine wl_re (app_c _ _ _ _) ?_
  refine wl_putF (k := 9) (ty := .array .int) (pre := ([] : va_W)) cx dX1_init_47 [.ref (uu2 0), .ref (uu4 0), .int 0, .int 0, .int 0, .int 0, .int 0, .ref qq5, .ref qq6, .ref qq7, .null] tyX1 rfl inW1 tyX1_ok nmX1 (by decide) gl_X1_32 rfl hnam rfl (by decide +kernel) rfl rfl (Nat.le_of_ble_eq_true rfl) rfl ?_
  refine wl_aload_n cx (i := 0) dX1_init_50 rfl rfl ?_
  refine wl_bipush cx dX1_init_51 (9 : Int32) (by decide) ?_
  refine wl_newI cx dX1_init_53 9 25 255 ar_I (by decide) (by decide) (by decide) ⟨rfl, rfl⟩ ⟨Nat.le_of_ble_eq_true rfl, Nat.le_of_ble_eq_true rfl⟩ (fun qq8 => ?_)
  refine wl_re (app_c _ _ _ _) ?_
  refine wl_putF (k := 10) (ty := .array .int) (pre := ([] : va_W)) cx dX1_init_55 [.ref (uu2 0), .ref (uu4 0), .int 0, .int 0, .int 0, .int 0, .int 0, .ref qq5, .ref qq6, .ref qq7, .ref qq8] tyX1 rfl inW1 tyX1_ok nmX1 (by decide) gl_X1_35 rfl hnam rfl (by decide +kernel) rfl rfl (Nat.le_of_ble_eq_true rfl) rfl ?_
  exact wl_vret cx dX1_init_58 (fun i => if i < 1 then h0 else if i < 11 then uu2 (i - 1) else if i < 22 then uu4 (i - 11) else if i < 23 then qq5 else if i < 24 then qq6 else if i < 25 then qq7 else qq8) rfl rfl
def blk8 (cy : ClassId × ClassId) (q : Nat → Nat) : va_W := ([(q 0, .inr (8, [.long 0, .long 0, .long 0, .long 0, .long 0, .ref (q 1), .ref (q 2), .ref (q 3), .ref (q 4), .ref (q 5)]))]) ++ ([(q 1, .inl (cy.2, 8, .inr (.inl (fun _ => 0))))]) ++ ([(q 2, .inl (cy.2, 8, .inr (.inl (fun _ => 0))))]) ++ ([(q 3, .inl (cy.1, 8, .inl (fun _ => 0)))]) ++ ([(q 4, .inl (cy.2, 9, .inr (.inl (fun _ => 0))))]) ++ ([(q 5, .inl (cy.1, 9, .inl (fun _ => 0)))])
def rmC_8 : Room := { frames := 1, cells := 5, slots := 42, locals := 20 }
set_option maxHeartbeats 4000000 in
set_option maxRecDepth 100000 in
theorem c_X8 (l : Launch) (D : va_G) (cy : ClassId × ClassId) (h0 sz : Nat) : MC l yX8_init cX8_init 1 rmC_8 D cy [(h0, .inr (8, nul8))] h0 sz (blk8 cy) 5 42 := by
  refine startC (by decide +kernel) (by decide) rfl (fun p e s m args below meth c hsz hnam cx => ?_)
  have cx : CxL p s m args meth c cX8_init 1 none RX8 D cy (va_A [(h0, .inr (8, nul8))] sz) := cx
  refine wl_re (ws2 := ([] : va_W) ++ (h0, .inr (8, nul8)) :: []) rfl ?_
  refine wl_aload_n cx (i := 0) dX8_init_0 rfl rfl ?_
  refine wl_oinit cx dX8_init_1 (show Cond.methodLink RX8 1 Lib.objectInit ∈ lw_g from (lwm 302 (by decide +kernel) rfl)) oi_i oi_c ⟨Nat.le_of_ble_eq_true rfl, Nat.le_of_ble_eq_true rfl⟩ ?_
  refine wl_aload_n cx (i := 0) dX8_init_4 rfl rfl ?_
  refine wl_bipush cx dX8_init_5 (8 : Int32) (by decide) ?_
  refine wl_newJ cx dX8_init_7 8 1 8 ar_J (by decide) (by decide) (by decide) ⟨rfl, rfl⟩ ⟨Nat.le_of_ble_eq_true rfl, Nat.le_of_ble_eq_true rfl⟩ (fun qq1 => ?_)
  refine wl_re (app_c _ _ _ _) ?_
  refine wl_putF (k := 5) (ty := .array .long) (pre := ([] : va_W)) cx dX8_init_9 [.long 0, .long 0, .long 0, .long 0, .long 0, .ref qq1, .null, .null, .null, .null] tyX8 rfl inW8 tyX8_ok nmX8 (by decide) gl_X8_9 rfl hnam rfl (by decide +kernel) rfl rfl (Nat.le_of_ble_eq_true rfl) rfl ?_
  refine wl_aload_n cx (i := 0) dX8_init_12 rfl rfl ?_
  refine wl_bipush cx dX8_init_13 (8 : Int32) (by decide) ?_
  refine wl_newJ cx dX8_init_15 8 2 16 ar_J (by decide) (by decide) (by decide) ⟨rfl, rfl⟩ ⟨Nat.le_of_ble_eq_true rfl, Nat.le_of_ble_eq_true rfl⟩ (fun qq2 => ?_)
  refine wl_re (app_c _ _ _ _) ?_
  refine wl_putF (k := 6) (ty := .array .long) (pre := ([] : va_W)) cx dX8_init_17 [.long 0, .long 0, .long 0, .long 0, .long 0, .ref qq1, .ref qq2, .null, .null, .null] tyX8 rfl inW8 tyX8_ok nmX8 (by decide) gl_X8_15 rfl hnam rfl (by decide +kernel) rfl rfl (Nat.le_of_ble_eq_true rfl) rfl ?_
  refine wl_aload_n cx (i := 0) dX8_init_20 rfl rfl ?_
  refine wl_bipush cx dX8_init_21 (8 : Int32) (by decide) ?_
  refine wl_newI cx dX8_init_23 8 3 24 ar_I (by decide) (by decide) (by decide) ⟨rfl, rfl⟩ ⟨Nat.le_of_ble_eq_true rfl, Nat.le_of_ble_eq_true rfl⟩ (fun qq3 => ?_)
  refine wl_re (app_c _ _ _ _) ?_
  refine wl_putF (k := 7) (ty := .array .int) (pre := ([] : va_W)) cx dX8_init_25 [.long 0, .long 0, .long 0, .long 0, .long 0, .ref qq1, .ref qq2, .ref qq3, .null, .null] tyX8 rfl inW8 tyX8_ok nmX8 (by decide) gl_X8_18 rfl hnam rfl (by decide +kernel) rfl rfl (Nat.le_of_ble_eq_true rfl) rfl ?_
  refine wl_aload_n cx (i := 0) dX8_init_28 rfl rfl ?_
  refine wl_bipush cx dX8_init_29 (9 : Int32) (by decide) ?_
  refine wl_newJ cx dX8_init_31 9 4 33 ar_J (by decide) (by decide) (by decide) ⟨rfl, rfl⟩ ⟨Nat.le_of_ble_eq_true rfl, Nat.le_of_ble_eq_true rfl⟩ (fun qq4 => ?_)
  refine wl_re (app_c _ _ _ _) ?_
  refine wl_putF (k := 8) (ty := .array .long) (pre := ([] : va_W)) cx dX8_init_33 [.long 0, .long 0, .long 0, .long 0, .long 0, .ref qq1, .ref qq2, .ref qq3, .ref qq4, .null] tyX8 rfl inW8 tyX8_ok nmX8 (by decide) gl_X8_22 rfl hnam rfl (by decide +kernel) rfl rfl (Nat.le_of_ble_eq_true rfl) rfl ?_
  refine wl_aload_n cx (i := 0) dX8_init_36 rfl rfl ?_
  refine wl_bipush cx dX8_init_37 (9 : Int32) (by decide) ?_
  refine wl_newI cx dX8_init_39 9 5 42 ar_I (by decide) (by decide) (by decide) ⟨rfl, rfl⟩ ⟨Nat.le_of_ble_eq_true rfl, Nat.le_of_ble_eq_true rfl⟩ (fun qq5 => ?_)
  refine wl_re (app_c _ _ _ _) ?_
  refine wl_putF (k := 9) (ty := .array .int) (pre := ([] : va_W)) cx dX8_init_41 [.long 0, .long 0, .long 0, .long 0, .long 0, .ref qq1, .ref qq2, .ref qq3, .ref qq4, .ref qq5] tyX8 rfl inW8 tyX8_ok nmX8 (by decide) gl_X8_25 rfl hnam rfl (by decide +kernel) rfl rfl (Nat.le_of_ble_eq_true rfl) rfl ?_
  exact wl_vret cx dX8_init_44 (fun i => if i < 1 then h0 else if i < 2 then qq1 else if i < 3 then qq2 else if i < 4 then qq3 else if i < 5 then qq4 else qq5) rfl rfl
def blk4 (cy : ClassId × ClassId) (q : Nat → Nat) : va_W := ([(q 0, .inr (4, [.ref (q 1), .int 0, .int 0, .int 0, .ref (q 12), .ref (q 13)]))]) ++ (blk0 cy (fun i => q (i + 1))) ++ ([(q 12, .inl (cy.1, 8, .inl (fun _ => 0)))]) ++ ([(q 13, .inl (cy.2, 549, .inr (.inl (fun _ => 0))))])
def rmC_4 : Room := { frames := 2, cells := 13, slots := 680, locals := 40 }
set_option maxHeartbeats 4000000 in
set_option maxRecDepth 100000 in
theorem c_X4 (l : Launch) (D : va_G) (cy : ClassId × ClassId) (h0 sz : Nat) : MC l yX4_init cX4_init 1 rmC_4 D cy [(h0, .inr (4, nul4))] h0 sz (blk4 cy) 13 680 := by
  refine startC (by decide +kernel) (by decide) rfl (fun p e s m args below meth c hsz hnam cx => ?_)
  have cx : CxL p s m args meth c cX4_init 1 none RX4 D cy (va_A [(h0, .inr (4, nul4))] sz) := cx
  refine wl_re (ws2 := ([] : va_W) ++ (h0, .inr (4, nul4)) :: []) rfl ?_
  refine wl_aload_n cx (i := 0) dX4_init_0 rfl rfl ?_
  refine wl_oinit cx dX4_init_1 (show Cond.methodLink RX4 3 Lib.objectInit ∈ lw_g from (lwm 347 (by decide +kernel) rfl)) oi_i oi_c ⟨Nat.le_of_ble_eq_true rfl, Nat.le_of_ble_eq_true rfl⟩ ?_
  refine wl_aload_n cx (i := 0) dX4_init_4 rfl rfl ?_
  refine wl_new (ci := 0) cx dX4_init_5 1 11 nul0 tyX0 tyX0_ok inW0 (show Cond.classLink RX4 9 RX0 ∈ lw_g from (lwm 348 (by decide +kernel) rfl)) ins_0 ini_0 rfl nulv0 ⟨rfl, rfl⟩ ⟨Nat.le_of_ble_eq_true rfl, Nat.le_of_ble_eq_true rfl⟩ (fun qq1 => ?_)
  refine wl_dup cx dX4_init_8 rfl ?_
  refine wl_callN cx dX4_init_9 11 123 (fun sz => c_X0 l D cy qq1 sz) (show INL RX4 RX9 11 yX0_init cX0_init 1 from ⟨⟨List.mem_of_getElem? (i := 349) (by decide +kernel), (lwm 192 (by decide +kernel) rfl), (lwm 32 (by decide +kernel) rfl), (lwm 193 (by decide +kernel) rfl)⟩, by decide, by decide, by decide +kernel⟩) rfl ⟨Nat.le_of_ble_eq_true rfl, Nat.le_of_ble_eq_true rfl⟩ ⟨rfl, rfl⟩ ⟨rfl, rfl⟩ ⟨Nat.le_of_ble_eq_true rfl, Nat.le_of_ble_eq_true rfl⟩ (Nat.le_of_ble_eq_true rfl) (fun uu2 huu2 => ?_)
  subst huu2
  refine wl_re (app_c _ _ _ _) ?_
  refine wl_put (k := 0) (ty := .object "EnoughGive$Coming") (pre := ([] : va_W)) cx dX4_init_12 [.ref (uu2 0), .int 0, .int 0, .int 0, .null, .null] tyX4 rfl inW4 tyX4_ok nmX4 (by decide) gl_X4_12 rfl (by decide +kernel) rfl rfl (Nat.le_of_ble_eq_true rfl) rfl ?_
  refine wl_aload_n cx (i := 0) dX4_init_15 rfl rfl ?_
  refine wl_bipush cx dX4_init_16 (8 : Int32) (by decide) ?_
  refine wl_newI cx dX4_init_18 8 12 131 ar_I (by decide) (by decide) (by decide) ⟨rfl, rfl⟩ ⟨Nat.le_of_ble_eq_true rfl, Nat.le_of_ble_eq_true rfl⟩ (fun qq3 => ?_)
  refine wl_re (app_c _ _ _ _) ?_
  refine wl_putF (k := 4) (ty := .array .int) (pre := ([] : va_W)) cx dX4_init_20 [.ref (uu2 0), .int 0, .int 0, .int 0, .ref qq3, .null] tyX4 rfl inW4 tyX4_ok nmX4 (by decide) gl_X4_20 rfl hnam rfl (by decide +kernel) rfl rfl (Nat.le_of_ble_eq_true rfl) rfl ?_
  refine wl_aload_n cx (i := 0) dX4_init_23 rfl rfl ?_
  refine wl_sipush cx dX4_init_24 (549 : Int32) (by decide) ?_
  refine wl_newJ cx dX4_init_27 549 13 680 ar_J (by decide) (by decide) (by decide) ⟨rfl, rfl⟩ ⟨Nat.le_of_ble_eq_true rfl, Nat.le_of_ble_eq_true rfl⟩ (fun qq4 => ?_)
  refine wl_re (app_c _ _ _ _) ?_
  refine wl_putF (k := 5) (ty := .array .long) (pre := ([] : va_W)) cx dX4_init_29 [.ref (uu2 0), .int 0, .int 0, .int 0, .ref qq3, .ref qq4] tyX4 rfl inW4 tyX4_ok nmX4 (by decide) gl_X4_24 rfl hnam rfl (by decide +kernel) rfl rfl (Nat.le_of_ble_eq_true rfl) rfl ?_
  exact wl_vret cx dX4_init_32 (fun i => if i < 1 then h0 else if i < 12 then uu2 (i - 1) else if i < 13 then qq3 else qq4) rfl rfl
def blk5 (cy : ClassId × ClassId) (q : Nat → Nat) : va_W := ([(q 0, .inr (5, [.int 0, .ref (q 1), .ref (q 2)]))]) ++ ([(q 1, .inl (cy.1, 16, .inl (fun _ => 0)))]) ++ ([(q 2, .inl (cy.1, 2, .inl (fun _ => 0)))])
def rmC_5 : Room := { frames := 1, cells := 2, slots := 18, locals := 20 }
set_option maxHeartbeats 4000000 in
set_option maxRecDepth 100000 in
theorem c_X5 (l : Launch) (D : va_G) (cy : ClassId × ClassId) (h0 sz : Nat) : MC l yX5_init cX5_init 1 rmC_5 D cy [(h0, .inr (5, nul5))] h0 sz (blk5 cy) 2 18 := by
  refine startC (by decide +kernel) (by decide) rfl (fun p e s m args below meth c hsz hnam cx => ?_)
  have cx : CxL p s m args meth c cX5_init 1 none RX5 D cy (va_A [(h0, .inr (5, nul5))] sz) := cx
  refine wl_re (ws2 := ([] : va_W) ++ (h0, .inr (5, nul5)) :: []) rfl ?_
  refine wl_aload_n cx (i := 0) dX5_init_0 rfl rfl ?_
  refine wl_oinit cx dX5_init_1 (show Cond.methodLink RX5 1 Lib.objectInit ∈ lw_g from (lwm 374 (by decide +kernel) rfl)) oi_i oi_c ⟨Nat.le_of_ble_eq_true rfl, Nat.le_of_ble_eq_true rfl⟩ ?_
  refine wl_aload_n cx (i := 0) dX5_init_4 rfl rfl ?_
  refine wl_bipush cx dX5_init_5 (16 : Int32) (by decide) ?_
  refine wl_newI cx dX5_init_7 16 1 16 ar_I (by decide) (by decide) (by decide) ⟨rfl, rfl⟩ ⟨Nat.le_of_ble_eq_true rfl, Nat.le_of_ble_eq_true rfl⟩ (fun qq1 => ?_)
  refine wl_re (app_c _ _ _ _) ?_
  refine wl_putF (k := 1) (ty := .array .int) (pre := ([] : va_W)) cx dX5_init_9 [.int 0, .ref qq1, .null] tyX5 rfl inW5 tyX5_ok nmX5 (by decide) gl_X5_11 rfl hnam rfl (by decide +kernel) rfl rfl (Nat.le_of_ble_eq_true rfl) rfl ?_
  refine wl_aload_n cx (i := 0) dX5_init_12 rfl rfl ?_
  refine wl_iconst cx dX5_init_13 (2 : Int32) (by decide) ?_
  refine wl_newI cx dX5_init_14 2 2 18 ar_I (by decide) (by decide) (by decide) ⟨rfl, rfl⟩ ⟨Nat.le_of_ble_eq_true rfl, Nat.le_of_ble_eq_true rfl⟩ (fun qq2 => ?_)
  refine wl_re (app_c _ _ _ _) ?_
  refine wl_putF (k := 2) (ty := .array .int) (pre := ([] : va_W)) cx dX5_init_16 [.int 0, .ref qq1, .ref qq2] tyX5 rfl inW5 tyX5_ok nmX5 (by decide) gl_X5_15 rfl hnam rfl (by decide +kernel) rfl rfl (Nat.le_of_ble_eq_true rfl) rfl ?_
  exact wl_vret cx dX5_init_19 (fun i => if i < 1 then h0 else if i < 2 then qq1 else qq2) rfl rfl
