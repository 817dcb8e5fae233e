def R0 : Nat → Nat → Nat := fun c k => if c = 0 then (if k = 2 then 5 else 15) else if c = 47 then (if k = 0 then 48 else 58) else if c = 85 then (86) else 0
def S0 : St := (fun _ _ => 0, fun _ _ => 0, R0)
def mrg (I : Nat → Nat → Int32) (J : Nat → Nat → Int64) : St := (fun a => if a < 103 then I a else fun _ => 0, fun a => if a < 103 then J a else fun _ => 0, R0)
def qcat (qA q : Nat → Nat) : Nat → Nat := fun i => if i < 103 then qA i else q (i - 103)
theorem wa_vretC {p : Program} {l : Launch} {e : Env} {R : Room} {s : State} {m : MethodId} {args : Array Value} {below : List Frame} {meth : Method} {c : Code} {cc : ByteArray} {nL : Nat} {own : String} {g : Gl} {S S1 : St} {ws0 : va_W} {sz h0 cells slots pc : Nat} {lv : List (Nat × Value)} {D : va_G} {blk : (Nat → Nat) → va_W} (cx : Cx p s m args meth c cc nL none own g (va_A ws0 sz)) (q : Nat → Nat) (hq : q 0 = h0) (hD : D = g.1) (hblk : blk q = pool g S1) (h : some ((), S) = some ((), S1)) (hdg : decode cc pc = .ok (.return_, 1)) : WA p l e R s m args below meth c cells slots (MQ below (QcC D ws0 sz h0 blk) args s cells slots (va_A ws0 sz)) nL g (va_A ws0 sz) S pc lv [] := fun H locs ls hP hS hl => by
  cases h
  subst hD
  exact W.vret cx.1 cx.2.1 cx.2.2.2.2.2.2.2.2.1 (fun t ht hW => ⟨⟨q, rfl, hq, by show va_P _ _ (blk q) t.heap; rw [hblk, ht]; exact hP, by rw [hblk]; exact pool_D cx.2.2.2.2.2.2.1 cx.2.2.2.2.2.2.2.1⟩, hS.F ht⟩) hS.2.2 hdg cx.2.2.2.2.2.2.2.2.2.1
def f_X9_initB (c0 : Nat) (S : St) : Option (Unit × St) := ck (kdE (S.2.2 c0 2) = 2) (bd (f_X2_clear (S.2.2 c0 2) S) fun _ S2 => ck (kdE (S2.2.2 c0 2) = 2) (bd (f_X6_add ((S2.2.2 c0 2) + 1) (1 : Int32) (1 : Int32) (20 : Int32) (0 : Int32) (0 : Int32) S2) fun x6 S7 => ck (kdE (S7.2.2 c0 2) = 2) (bd (f_X6_addWorth ((S7.2.2 c0 2) + 1) (0 : Int32) (20 : Int32) (10 : Int32) S7) fun x10 S11 => ck (kdE (S11.2.2 c0 2) = 2) (ck (kdE (S11.2.2 c0 2) = 2) (bd (f_X0_arrange (c0 + 25) (S11.2.2 c0 2) (S11.1 (S11.2.2 c0 2) 2) S11) fun x15 S16 => some ((), S16))))))
def rmC_9 : Room := { frames := 4, cells := 102, slots := 1834, locals := 80 }
set_option maxHeartbeats 40000000 in
set_option maxRecDepth 1000000 in
theorem c_X9 (l : Launch) {S1 : St} (D : va_G) (cy : ClassId × ClassId) (h : f_X9_initB 0 S0 = some ((), S1)) (h0 sz : Nat) : MC l yX9_init cX9_init 1 rmC_9 D cy [(h0, .inr (9, nul9))] h0 sz (fun q => pool (D, cy, q, 103) S1) 102 1834 := by
  refine startC (by decide +kernel) (by decide) rfl (fun p e s m args below meth c hsz hnam cx => ?_)
  have cx : CxL p s m args meth c cX9_init 1 none RX9 D cy (va_A [(h0, .inr (9, nul9))] sz) := cx
  refine wl_re (ws2 := ([] : va_W) ++ (h0, .inr (9, nul9)) :: []) rfl ?_
  refine wl_aload_n cx (i := 0) dX9_init_0 rfl rfl ?_
  refine wl_oinit cx dX9_init_1 (show Cond.methodLink RX9 1 Lib.objectInit ∈ lw_g from (lwm 82 (by decide +kernel) rfl)) oi_i oi_c ⟨Nat.le_of_ble_eq_true rfl, Nat.le_of_ble_eq_true rfl⟩ ?_
  refine wl_aload_n cx (i := 0) dX9_init_4 rfl rfl ?_
  refine wl_new (ci := 7) cx dX9_init_5 1 2 nul7 tyX7 tyX7_ok inW7 (show Cond.classLink RX9 7 RX7 ∈ lw_g from (lwm 85 (by decide +kernel) rfl)) ins_7 ini_7 rfl nulv7 ⟨rfl, rfl⟩ ⟨Nat.le_of_ble_eq_true rfl, Nat.le_of_ble_eq_true rfl⟩ (fun qq1 => ?_)
  refine wl_dup cx dX9_init_8 rfl ?_
  refine wl_callN cx dX9_init_9 2 302 (fun sz => c_X7 l D cy qq1 sz) (show INL RX9 RX9 9 yX7_init cX7_init 1 from ⟨⟨List.mem_of_getElem? (i := 87) (by decide +kernel), (lwm 88 (by decide +kernel) rfl), (lwm 64 (by decide +kernel) rfl), (lwm 89 (by decide +kernel) rfl)⟩, by decide, by decide, by decide +kernel⟩) rfl ⟨Nat.le_of_ble_eq_true rfl, Nat.le_of_ble_eq_true rfl⟩ ⟨rfl, rfl⟩ ⟨rfl, rfl⟩ ⟨Nat.le_of_ble_eq_true rfl, Nat.le_of_ble_eq_true rfl⟩ (Nat.le_of_ble_eq_true rfl) (fun uu2 huu2 => ?_)
  subst huu2
  refine wl_re (app_c _ _ _ _) ?_
  refine wl_putF (k := 0) (ty := .object "EnoughGive$Text") (pre := ([] : va_W)) cx dX9_init_12 [.ref (uu2 0), .null, .null, .null, .null, .null, .null, .null, .null, .null, .null, .int 0, .null, .int 0, .int 0, .int 0, .int 0, .long 0, .long 0] tyX9 rfl inW9 tyX9_ok nmX9 (by decide) gl_X9_10 rfl hnam rfl (by decide +kernel) rfl rfl (Nat.le_of_ble_eq_true rfl) rfl ?_
  refine wl_aload_n cx (i := 0) dX9_init_15 rfl rfl ?_
  refine wl_new (ci := 3) cx dX9_init_16 3 304 nul3 tyX3 tyX3_ok inW3 (show Cond.classLink RX9 16 RX3 ∈ lw_g from (lwm 101 (by decide +kernel) rfl)) ins_3 ini_3 rfl nulv3 ⟨rfl, rfl⟩ ⟨Nat.le_of_ble_eq_true rfl, Nat.le_of_ble_eq_true rfl⟩ (fun qq3 => ?_)
  refine wl_dup cx dX9_init_19 rfl ?_
  refine wl_callN cx dX9_init_20 4 309 (fun sz => c_X3 l D cy qq3 sz) (show INL RX9 RX9 18 yX3_init cX3_init 1 from ⟨⟨List.mem_of_getElem? (i := 103) (by decide +kernel), (lwm 104 (by decide +kernel) rfl), (lwm 65 (by decide +kernel) rfl), (lwm 105 (by decide +kernel) rfl)⟩, by decide, by decide, by decide +kernel⟩) rfl ⟨Nat.le_of_ble_eq_true rfl, Nat.le_of_ble_eq_true rfl⟩ ⟨rfl, rfl⟩ ⟨rfl, rfl⟩ ⟨Nat.le_of_ble_eq_true rfl, Nat.le_of_ble_eq_true rfl⟩ (Nat.le_of_ble_eq_true rfl) (fun uu4 huu4 => ?_)
  subst huu4
  refine wl_re (app_c _ _ _ _) ?_
  refine wl_putF (k := 1) (ty := .object "EnoughGive$Reader") (pre := ([] : va_W)) cx dX9_init_23 [.ref (uu2 0), .ref (uu4 0), .null, .null, .null, .null, .null, .null, .null, .null, .null, .int 0, .null, .int 0, .int 0, .int 0, .int 0, .long 0, .long 0] tyX9 rfl inW9 tyX9_ok nmX9 (by decide) gl_X9_19 rfl hnam rfl (by decide +kernel) rfl rfl (Nat.le_of_ble_eq_true rfl) rfl ?_
  refine wl_aload_n cx (i := 0) dX9_init_26 rfl rfl ?_
  refine wl_new (ci := 2) cx dX9_init_27 5 320 nul2 tyX2 tyX2_ok inW2 (show Cond.classLink RX9 23 RX2 ∈ lw_g from (lwm 114 (by decide +kernel) rfl)) ins_2 ini_2 rfl nulv2 ⟨rfl, rfl⟩ ⟨Nat.le_of_ble_eq_true rfl, Nat.le_of_ble_eq_true rfl⟩ (fun qq5 => ?_)
  refine wl_dup cx dX9_init_30 rfl ?_
  refine wl_callN cx dX9_init_31 14 406 (fun sz => c_X2 l D cy qq5 sz) (show INL RX9 RX9 25 yX2_init cX2_init 1 from ⟨⟨List.mem_of_getElem? (i := 116) (by decide +kernel), (lwm 117 (by decide +kernel) rfl), (lwm 66 (by decide +kernel) rfl), (lwm 118 (by decide +kernel) rfl)⟩, by decide, by decide, by decide +kernel⟩) rfl ⟨Nat.le_of_ble_eq_true rfl, Nat.le_of_ble_eq_true rfl⟩ ⟨rfl, rfl⟩ ⟨rfl, rfl⟩ ⟨Nat.le_of_ble_eq_true rfl, Nat.le_of_ble_eq_true rfl⟩ (Nat.le_of_ble_eq_true rfl) (fun uu6 huu6 => ?_)
  subst huu6
  refine wl_re (app_c _ _ _ _) ?_
  refine wl_put (k := 2) (ty := .object "EnoughGive$Plan") (pre := ([] : va_W)) cx dX9_init_34 [.ref (uu2 0), .ref (uu4 0), .ref (uu6 0), .null, .null, .null, .null, .null, .null, .null, .null, .int 0, .null, .int 0, .int 0, .int 0, .int 0, .long 0, .long 0] tyX9 rfl inW9 tyX9_ok nmX9 (by decide) gl_X9_26 rfl (by decide +kernel) rfl rfl (Nat.le_of_ble_eq_true rfl) rfl ?_
  refine wl_aload_n cx (i := 0) dX9_init_37 rfl rfl ?_
  refine wl_new (ci := 2) cx dX9_init_38 15 417 nul2 tyX2 tyX2_ok inW2 (show Cond.classLink RX9 23 RX2 ∈ lw_g from (lwm 114 (by decide +kernel) rfl)) ins_2 ini_2 rfl nulv2 ⟨rfl, rfl⟩ ⟨Nat.le_of_ble_eq_true rfl, Nat.le_of_ble_eq_true rfl⟩ (fun qq7 => ?_)
  refine wl_dup cx dX9_init_41 rfl ?_
  refine wl_callN cx dX9_init_42 24 503 (fun sz => c_X2 l D cy qq7 sz) (show INL RX9 RX9 25 yX2_init cX2_init 1 from ⟨⟨List.mem_of_getElem? (i := 116) (by decide +kernel), (lwm 117 (by decide +kernel) rfl), (lwm 66 (by decide +kernel) rfl), (lwm 118 (by decide +kernel) rfl)⟩, by decide, by decide, by decide +kernel⟩) rfl ⟨Nat.le_of_ble_eq_true rfl, Nat.le_of_ble_eq_true rfl⟩ ⟨rfl, rfl⟩ ⟨rfl, rfl⟩ ⟨Nat.le_of_ble_eq_true rfl, Nat.le_of_ble_eq_true rfl⟩ (Nat.le_of_ble_eq_true rfl) (fun uu8 huu8 => ?_)
  subst huu8
  refine wl_re (app_c _ _ _ _) ?_
  refine wl_put (k := 3) (ty := .object "EnoughGive$Plan") (pre := ([] : va_W)) cx dX9_init_45 [.ref (uu2 0), .ref (uu4 0), .ref (uu6 0), .ref (uu8 0), .null, .null, .null, .null, .null, .null, .null, .int 0, .null, .int 0, .int 0, .int 0, .int 0, .long 0, .long 0] tyX9 rfl inW9 tyX9_ok nmX9 (by decide) gl_X9_30 rfl (by decide +kernel) rfl rfl (Nat.le_of_ble_eq_true rfl) rfl ?_
  refine wl_aload_n cx (i := 0) dX9_init_48 rfl rfl ?_
  refine wl_new (ci := 0) cx dX9_init_49 25 514 nul0 tyX0 tyX0_ok inW0 (show Cond.classLink RX9 33 RX0 ∈ lw_g from (lwm 226 (by decide +kernel) rfl)) ins_0 ini_0 rfl nulv0 ⟨rfl, rfl⟩ ⟨Nat.le_of_ble_eq_true rfl, Nat.le_of_ble_eq_true rfl⟩ (fun qq9 => ?_)
  refine wl_dup cx dX9_init_52 rfl ?_
  refine wl_callN cx dX9_init_53 35 626 (fun sz => c_X0 l D cy qq9 sz) (show INL RX9 RX9 35 yX0_init cX0_init 1 from ⟨⟨List.mem_of_getElem? (i := 228) (by decide +kernel), (lwm 229 (by decide +kernel) rfl), (lwm 68 (by decide +kernel) rfl), (lwm 230 (by decide +kernel) rfl)⟩, by decide, by decide, by decide +kernel⟩) rfl ⟨Nat.le_of_ble_eq_true rfl, Nat.le_of_ble_eq_true rfl⟩ ⟨rfl, rfl⟩ ⟨rfl, rfl⟩ ⟨Nat.le_of_ble_eq_true rfl, Nat.le_of_ble_eq_true rfl⟩ (Nat.le_of_ble_eq_true rfl) (fun uu10 huu10 => ?_)
  subst huu10
  refine wl_re (app_c _ _ _ _) ?_
  refine wl_putF (k := 4) (ty := .object "EnoughGive$Coming") (pre := ([] : va_W)) cx dX9_init_56 [.ref (uu2 0), .ref (uu4 0), .ref (uu6 0), .ref (uu8 0), .ref (uu10 0), .null, .null, .null, .null, .null, .null, .int 0, .null, .int 0, .int 0, .int 0, .int 0, .long 0, .long 0] tyX9 rfl inW9 tyX9_ok nmX9 (by decide) gl_X9_36 rfl hnam rfl (by decide +kernel) rfl rfl (Nat.le_of_ble_eq_true rfl) rfl ?_
  refine wl_aload_n cx (i := 0) dX9_init_59 rfl rfl ?_
  refine wl_new (ci := 0) cx dX9_init_60 36 637 nul0 tyX0 tyX0_ok inW0 (show Cond.classLink RX9 33 RX0 ∈ lw_g from (lwm 226 (by decide +kernel) rfl)) ins_0 ini_0 rfl nulv0 ⟨rfl, rfl⟩ ⟨Nat.le_of_ble_eq_true rfl, Nat.le_of_ble_eq_true rfl⟩ (fun qq11 => ?_)
  refine wl_dup cx dX9_init_63 rfl ?_
  refine wl_callN cx dX9_init_64 46 749 (fun sz => c_X0 l D cy qq11 sz) (show INL RX9 RX9 35 yX0_init cX0_init 1 from ⟨⟨List.mem_of_getElem? (i := 228) (by decide +kernel), (lwm 229 (by decide +kernel) rfl), (lwm 68 (by decide +kernel) rfl), (lwm 230 (by decide +kernel) rfl)⟩, by decide, by decide, by decide +kernel⟩) rfl ⟨Nat.le_of_ble_eq_true rfl, Nat.le_of_ble_eq_true rfl⟩ ⟨rfl, rfl⟩ ⟨rfl, rfl⟩ ⟨Nat.le_of_ble_eq_true rfl, Nat.le_of_ble_eq_true rfl⟩ (Nat.le_of_ble_eq_true rfl) (fun uu12 huu12 => ?_)
  subst huu12
  refine wl_re (app_c _ _ _ _) ?_
  refine wl_putF (k := 5) (ty := .object "EnoughGive$Coming") (pre := ([] : va_W)) cx dX9_init_67 [.ref (uu2 0), .ref (uu4 0), .ref (uu6 0), .ref (uu8 0), .ref (uu10 0), .ref (uu12 0), .null, .null, .null, .null, .null, .int 0, .null, .int 0, .int 0, .int 0, .int 0, .long 0, .long 0] tyX9 rfl inW9 tyX9_ok nmX9 (by decide) gl_X9_40 rfl hnam rfl (by decide +kernel) rfl rfl (Nat.le_of_ble_eq_true rfl) rfl ?_
  refine wl_aload_n cx (i := 0) dX9_init_70 rfl rfl ?_
  refine wl_new (ci := 1) cx dX9_init_71 47 760 nul1 tyX1 tyX1_ok inW1 (show Cond.classLink RX9 43 RX1 ∈ lw_g from (lwm 283 (by decide +kernel) rfl)) ins_1 ini_1 rfl nulv1 ⟨rfl, rfl⟩ ⟨Nat.le_of_ble_eq_true rfl, Nat.le_of_ble_eq_true rfl⟩ (fun qq13 => ?_)
  refine wl_dup cx dX9_init_74 rfl ?_
  refine wl_callN cx dX9_init_75 72 1015 (fun sz => c_X1 l D cy qq13 sz) (show INL RX9 RX9 45 yX1_init cX1_init 1 from ⟨⟨List.mem_of_getElem? (i := 285) (by decide +kernel), (lwm 286 (by decide +kernel) rfl), (lwm 69 (by decide +kernel) rfl), (lwm 287 (by decide +kernel) rfl)⟩, by decide, by decide, by decide +kernel⟩) rfl ⟨Nat.le_of_ble_eq_true rfl, Nat.le_of_ble_eq_true rfl⟩ ⟨rfl, rfl⟩ ⟨rfl, rfl⟩ ⟨Nat.le_of_ble_eq_true rfl, Nat.le_of_ble_eq_true rfl⟩ (Nat.le_of_ble_eq_true rfl) (fun uu14 huu14 => ?_)
  subst huu14
  refine wl_re (app_c _ _ _ _) ?_
  refine wl_putF (k := 6) (ty := .object "EnoughGive$Game") (pre := ([] : va_W)) cx dX9_init_78 [.ref (uu2 0), .ref (uu4 0), .ref (uu6 0), .ref (uu8 0), .ref (uu10 0), .ref (uu12 0), .ref (uu14 0), .null, .null, .null, .null, .int 0, .null, .int 0, .int 0, .int 0, .int 0, .long 0, .long 0] tyX9 rfl inW9 tyX9_ok nmX9 (by decide) gl_X9_46 rfl hnam rfl (by decide +kernel) rfl rfl (Nat.le_of_ble_eq_true rfl) rfl ?_
  refine wl_aload_n cx (i := 0) dX9_init_81 rfl rfl ?_
  refine wl_new (ci := 8) cx dX9_init_82 73 1025 nul8 tyX8 tyX8_ok inW8 (show Cond.classLink RX9 50 RX8 ∈ lw_g from (lwm 334 (by decide +kernel) rfl)) ins_8 ini_8 rfl nulv8 ⟨rfl, rfl⟩ ⟨Nat.le_of_ble_eq_true rfl, Nat.le_of_ble_eq_true rfl⟩ (fun qq15 => ?_)
  refine wl_dup cx dX9_init_85 rfl ?_
  refine wl_callN cx dX9_init_86 78 1067 (fun sz => c_X8 l D cy qq15 sz) (show INL RX9 RX9 52 yX8_init cX8_init 1 from ⟨⟨List.mem_of_getElem? (i := 336) (by decide +kernel), (lwm 337 (by decide +kernel) rfl), (lwm 70 (by decide +kernel) rfl), (lwm 338 (by decide +kernel) rfl)⟩, by decide, by decide, by decide +kernel⟩) rfl ⟨Nat.le_of_ble_eq_true rfl, Nat.le_of_ble_eq_true rfl⟩ ⟨rfl, rfl⟩ ⟨rfl, rfl⟩ ⟨Nat.le_of_ble_eq_true rfl, Nat.le_of_ble_eq_true rfl⟩ (Nat.le_of_ble_eq_true rfl) (fun uu16 huu16 => ?_)
  subst huu16
  refine wl_re (app_c _ _ _ _) ?_
  refine wl_putF (k := 7) (ty := .object "EnoughGive$Ways") (pre := ([] : va_W)) cx dX9_init_89 [.ref (uu2 0), .ref (uu4 0), .ref (uu6 0), .ref (uu8 0), .ref (uu10 0), .ref (uu12 0), .ref (uu14 0), .ref (uu16 0), .null, .null, .null, .int 0, .null, .int 0, .int 0, .int 0, .int 0, .long 0, .long 0] tyX9 rfl inW9 tyX9_ok nmX9 (by decide) gl_X9_53 rfl hnam rfl (by decide +kernel) rfl rfl (Nat.le_of_ble_eq_true rfl) rfl ?_
  refine wl_aload_n cx (i := 0) dX9_init_92 rfl rfl ?_
  refine wl_new (ci := 8) cx dX9_init_93 79 1077 nul8 tyX8 tyX8_ok inW8 (show Cond.classLink RX9 50 RX8 ∈ lw_g from (lwm 334 (by decide +kernel) rfl)) ins_8 ini_8 rfl nulv8 ⟨rfl, rfl⟩ ⟨Nat.le_of_ble_eq_true rfl, Nat.le_of_ble_eq_true rfl⟩ (fun qq17 => ?_)
  refine wl_dup cx dX9_init_96 rfl ?_
  refine wl_callN cx dX9_init_97 84 1119 (fun sz => c_X8 l D cy qq17 sz) (show INL RX9 RX9 52 yX8_init cX8_init 1 from ⟨⟨List.mem_of_getElem? (i := 336) (by decide +kernel), (lwm 337 (by decide +kernel) rfl), (lwm 70 (by decide +kernel) rfl), (lwm 338 (by decide +kernel) rfl)⟩, by decide, by decide, by decide +kernel⟩) rfl ⟨Nat.le_of_ble_eq_true rfl, Nat.le_of_ble_eq_true rfl⟩ ⟨rfl, rfl⟩ ⟨rfl, rfl⟩ ⟨Nat.le_of_ble_eq_true rfl, Nat.le_of_ble_eq_true rfl⟩ (Nat.le_of_ble_eq_true rfl) (fun uu18 huu18 => ?_)
  subst huu18
  refine wl_re (app_c _ _ _ _) ?_
  refine wl_putF (k := 8) (ty := .object "EnoughGive$Ways") (pre := ([] : va_W)) cx dX9_init_100 [.ref (uu2 0), .ref (uu4 0), .ref (uu6 0), .ref (uu8 0), .ref (uu10 0), .ref (uu12 0), .ref (uu14 0), .ref (uu16 0), .ref (uu18 0), .null, .null, .int 0, .null, .int 0, .int 0, .int 0, .int 0, .long 0, .long 0] tyX9 rfl inW9 tyX9_ok nmX9 (by decide) gl_X9_57 rfl hnam rfl (by decide +kernel) rfl rfl (Nat.le_of_ble_eq_true rfl) rfl ?_
  refine wl_aload_n cx (i := 0) dX9_init_103 rfl rfl ?_
  refine wl_new (ci := 4) cx dX9_init_104 85 1125 nul4 tyX4 tyX4_ok inW4 (show Cond.classLink RX9 60 RX4 ∈ lw_g from (lwm 379 (by decide +kernel) rfl)) ins_4 ini_4 rfl nulv4 ⟨rfl, rfl⟩ ⟨Nat.le_of_ble_eq_true rfl, Nat.le_of_ble_eq_true rfl⟩ (fun qq19 => ?_)
  refine wl_dup cx dX9_init_107 rfl ?_
  refine wl_callN cx dX9_init_108 98 1805 (fun sz => c_X4 l D cy qq19 sz) (show INL RX9 RX9 62 yX4_init cX4_init 1 from ⟨⟨List.mem_of_getElem? (i := 381) (by decide +kernel), (lwm 382 (by decide +kernel) rfl), (lwm 71 (by decide +kernel) rfl), (lwm 383 (by decide +kernel) rfl)⟩, by decide, by decide, by decide +kernel⟩) rfl ⟨Nat.le_of_ble_eq_true rfl, Nat.le_of_ble_eq_true rfl⟩ ⟨rfl, rfl⟩ ⟨rfl, rfl⟩ ⟨Nat.le_of_ble_eq_true rfl, Nat.le_of_ble_eq_true rfl⟩ (Nat.le_of_ble_eq_true rfl) (fun uu20 huu20 => ?_)
  subst huu20
  refine wl_re (app_c _ _ _ _) ?_
  refine wl_putF (k := 9) (ty := .object "EnoughGive$Rest") (pre := ([] : va_W)) cx dX9_init_111 [.ref (uu2 0), .ref (uu4 0), .ref (uu6 0), .ref (uu8 0), .ref (uu10 0), .ref (uu12 0), .ref (uu14 0), .ref (uu16 0), .ref (uu18 0), .ref (uu20 0), .null, .int 0, .null, .int 0, .int 0, .int 0, .int 0, .long 0, .long 0] tyX9 rfl inW9 tyX9_ok nmX9 (by decide) gl_X9_63 rfl hnam rfl (by decide +kernel) rfl rfl (Nat.le_of_ble_eq_true rfl) rfl ?_
  refine wl_aload_n cx (i := 0) dX9_init_114 rfl rfl ?_
  refine wl_bipush cx dX9_init_115 (8 : Int32) (by decide) ?_
  refine wl_newI cx dX9_init_117 8 99 1813 ar_I (by decide) (by decide) (by decide) ⟨rfl, rfl⟩ ⟨Nat.le_of_ble_eq_true rfl, Nat.le_of_ble_eq_true rfl⟩ (fun qq21 => ?_)
  refine wl_re (app_c _ _ _ _) ?_
  refine wl_putF (k := 10) (ty := .array .int) (pre := ([] : va_W)) cx dX9_init_119 [.ref (uu2 0), .ref (uu4 0), .ref (uu6 0), .ref (uu8 0), .ref (uu10 0), .ref (uu12 0), .ref (uu14 0), .ref (uu16 0), .ref (uu18 0), .ref (uu20 0), .ref qq21, .int 0, .null, .int 0, .int 0, .int 0, .int 0, .long 0, .long 0] tyX9 rfl inW9 tyX9_ok nmX9 (by decide) gl_X9_69 rfl hnam rfl (by decide +kernel) rfl rfl (Nat.le_of_ble_eq_true rfl) rfl ?_
  refine wl_aload_n cx (i := 0) dX9_init_122 rfl rfl ?_
  refine wl_new (ci := 5) cx dX9_init_123 100 1816 nul5 tyX5 tyX5_ok inW5 (show Cond.classLink RX9 73 RX5 ∈ lw_g from (lwm 406 (by decide +kernel) rfl)) ins_5 ini_5 rfl nulv5 ⟨rfl, rfl⟩ ⟨Nat.le_of_ble_eq_true rfl, Nat.le_of_ble_eq_true rfl⟩ (fun qq22 => ?_)
  refine wl_dup cx dX9_init_126 rfl ?_
  refine wl_callN cx dX9_init_127 102 1834 (fun sz => c_X5 l D cy qq22 sz) (show INL RX9 RX9 75 yX5_init cX5_init 1 from ⟨⟨List.mem_of_getElem? (i := 408) (by decide +kernel), (lwm 409 (by decide +kernel) rfl), (lwm 72 (by decide +kernel) rfl), (lwm 410 (by decide +kernel) rfl)⟩, by decide, by decide, by decide +kernel⟩) rfl ⟨Nat.le_of_ble_eq_true rfl, Nat.le_of_ble_eq_true rfl⟩ ⟨rfl, rfl⟩ ⟨rfl, rfl⟩ ⟨Nat.le_of_ble_eq_true rfl, Nat.le_of_ble_eq_true rfl⟩ (Nat.le_of_ble_eq_true rfl) (fun uu23 huu23 => ?_)
  subst huu23
  refine wl_re (app_c _ _ _ _) ?_
  refine wl_putF (k := 12) (ty := .object "EnoughGive$Shelf") (pre := ([] : va_W)) cx dX9_init_130 [.ref (uu2 0), .ref (uu4 0), .ref (uu6 0), .ref (uu8 0), .ref (uu10 0), .ref (uu12 0), .ref (uu14 0), .ref (uu16 0), .ref (uu18 0), .ref (uu20 0), .ref qq21, .int 0, .ref (uu23 0), .int 0, .int 0, .int 0, .int 0, .long 0, .long 0] tyX9 rfl inW9 tyX9_ok nmX9 (by decide) gl_X9_76 rfl hnam rfl (by decide +kernel) rfl rfl (Nat.le_of_ble_eq_true rfl) rfl ?_
  refine wl_wa (g := (D, cy, (fun i => if i < 1 then h0 else if i < 3 then uu2 (i - 1) else if i < 5 then uu4 (i - 3) else if i < 15 then uu6 (i - 5) else if i < 25 then uu8 (i - 15) else if i < 36 then uu10 (i - 25) else if i < 47 then uu12 (i - 36) else if i < 73 then uu14 (i - 47) else if i < 79 then uu16 (i - 73) else if i < 85 then uu18 (i - 79) else if i < 99 then uu20 (i - 85) else if i < 100 then qq21 else uu23 (i - 100)), 103)) (S := S0) cx (Or.inl rfl) ?_ (fun cx => ?_)
  · rw [pool_eqA _ _ rfl]
    simp (config := { decide := true }) only [blk7, blk3, blk6, blk2, blk0, blk1, blk8, blk4, blk5, fs0, fs1, fs2, fs3, fs4, fs5, fs6, fs7, fs8, fs9, fs10, ad, S0, R0, qcat, mrg, List.append_assoc, List.cons_append, List.nil_append, Nat.reduceLT, Nat.reduceSub, Nat.reduceAdd, Nat.reduceEqDiff, if_true, if_false, reduceIte]
  have h_c0 : kd ((D, cy, (fun i => if i < 1 then h0 else if i < 3 then uu2 (i - 1) else if i < 5 then uu4 (i - 3) else if i < 15 then uu6 (i - 5) else if i < 25 then uu8 (i - 15) else if i < 36 then uu10 (i - 25) else if i < 47 then uu12 (i - 36) else if i < 73 then uu14 (i - 47) else if i < 79 then uu16 (i - 73) else if i < 85 then uu18 (i - 79) else if i < 99 then uu20 (i - 85) else if i < 100 then qq21 else uu23 (i - 100)), 103) : Gl) 0 = 9 := rfl
  refine wa_sub (lv' := [(0, .ref (ad (D, cy, (fun i => if i < 1 then h0 else if i < 3 then uu2 (i - 1) else if i < 5 then uu4 (i - 3) else if i < 15 then uu6 (i - 5) else if i < 25 then uu8 (i - 15) else if i < 36 then uu10 (i - 25) else if i < 47 then uu12 (i - 36) else if i < 73 then uu14 (i - 47) else if i < 79 then uu16 (i - 73) else if i < 85 then uu18 (i - 79) else if i < 99 then uu20 (i - 85) else if i < 100 then qq21 else uu23 (i - 100)), 103) 0))]) (lvs_c rfl lvs_n) ?_
  generalize hg : ((D, cy, (fun i => if i < 1 then h0 else if i < 3 then uu2 (i - 1) else if i < 5 then uu4 (i - 3) else if i < 15 then uu6 (i - 5) else if i < 25 then uu8 (i - 15) else if i < 36 then uu10 (i - 25) else if i < 47 then uu12 (i - 36) else if i < 73 then uu14 (i - 47) else if i < 79 then uu16 (i - 73) else if i < 85 then uu18 (i - 79) else if i < 99 then uu20 (i - 85) else if i < 100 then qq21 else uu23 (i - 100)), 103) : Gl) = g at cx h_c0 ⊢
  rw [f_X9_initB] at h
  refine wa_aload_n cx (i := 0) dX9_init_133 rfl rfl ?_
  obtain ⟨b1, h⟩ := ck_some h
  refine gf_X9_26 cx h_c0 dX9_init_134 ?_
  obtain ⟨u4, S2, e3, h⟩ := bd_some h
  refine wa_callVv cx (m_X2_clear l cx.2.2.2.2.2.2.1 (kd_of cx.2.2.2.2.2.2.1 b1 (by decide)) e3) vl_X9_80 (kd_of cx.2.2.2.2.2.2.1 b1 (by decide)) (by decide) rfl rfl ⟨_, cell_eq2 (kd_lt (kd_of cx.2.2.2.2.2.2.1 b1 (by decide)) (by decide)).2⟩ ⟨Nat.le_of_ble_eq_true rfl, Nat.le_of_ble_eq_true rfl⟩ ⟨rfl, rfl⟩ ⟨Nat.le_of_ble_eq_true rfl, Nat.le_of_ble_eq_true rfl⟩ rfl (Nat.le_of_ble_eq_true rfl) dX9_init_137 rfl ?_
  refine wa_aload_n cx (i := 0) dX9_init_140 rfl rfl ?_
  obtain ⟨b5, h⟩ := ck_some h
  refine gf_X9_26 cx h_c0 dX9_init_141 ?_
  refine gf_X9_83 cx (kd_of cx.2.2.2.2.2.2.1 b5 (by decide)) dX9_init_144 ?_
  refine wa_iconst cx dX9_init_147 (1 : Int32) (by decide) ?_
  refine wa_iconst cx dX9_init_148 (1 : Int32) (by decide) ?_
  refine wa_bipush cx dX9_init_149 (20 : Int32) (by decide) ?_
  refine wa_iconst cx dX9_init_151 (0 : Int32) (by decide) ?_
  refine wa_iconst cx dX9_init_152 (0 : Int32) (by decide) ?_
  obtain ⟨x6, S7, e8, h⟩ := bd_some h
  refine wa_callVi cx (m_X6_add l cx.2.2.2.2.2.2.1 (kq2_10 cx.2.2.2.2.2.2.1 (kd_of cx.2.2.2.2.2.2.1 b5 (by decide))) e8) vl_X9_87 (kq2_10 cx.2.2.2.2.2.2.1 (kd_of cx.2.2.2.2.2.2.1 b5 (by decide))) (by decide) rfl rfl ⟨_, cell_eq6 (kd_lt (kq2_10 cx.2.2.2.2.2.2.1 (kd_of cx.2.2.2.2.2.2.1 b5 (by decide))) (by decide)).2⟩ ⟨Nat.le_of_ble_eq_true rfl, Nat.le_of_ble_eq_true rfl⟩ ⟨rfl, rfl⟩ ⟨Nat.le_of_ble_eq_true rfl, Nat.le_of_ble_eq_true rfl⟩ rfl (Nat.le_of_ble_eq_true rfl) dX9_init_153 rfl ?_
  refine wa_pop cx dX9_init_156 rfl ?_
  refine wa_aload_n cx (i := 0) dX9_init_157 rfl rfl ?_
  obtain ⟨b9, h⟩ := ck_some h
  refine gf_X9_26 cx h_c0 dX9_init_158 ?_
  refine gf_X9_83 cx (kd_of cx.2.2.2.2.2.2.1 b9 (by decide)) dX9_init_161 ?_
  refine wa_iconst cx dX9_init_164 (0 : Int32) (by decide) ?_
  refine wa_bipush cx dX9_init_165 (20 : Int32) (by decide) ?_
  refine wa_bipush cx dX9_init_167 (10 : Int32) (by decide) ?_
  obtain ⟨x10, S11, e12, h⟩ := bd_some h
  refine wa_callVi cx (m_X6_addWorth l cx.2.2.2.2.2.2.1 (kq2_10 cx.2.2.2.2.2.2.1 (kd_of cx.2.2.2.2.2.2.1 b9 (by decide))) e12) vl_X9_91 (kq2_10 cx.2.2.2.2.2.2.1 (kd_of cx.2.2.2.2.2.2.1 b9 (by decide))) (by decide) rfl rfl ⟨_, cell_eq6 (kd_lt (kq2_10 cx.2.2.2.2.2.2.1 (kd_of cx.2.2.2.2.2.2.1 b9 (by decide))) (by decide)).2⟩ ⟨Nat.le_of_ble_eq_true rfl, Nat.le_of_ble_eq_true rfl⟩ ⟨rfl, rfl⟩ ⟨Nat.le_of_ble_eq_true rfl, Nat.le_of_ble_eq_true rfl⟩ rfl (Nat.le_of_ble_eq_true rfl) dX9_init_169 rfl ?_
  refine wa_pop cx dX9_init_172 rfl ?_
  refine wa_aload_n cx (i := 0) dX9_init_173 rfl rfl ?_
  refine gf_X9_36 cx h_c0 dX9_init_174 ?_
  refine wa_aload_n cx (i := 0) dX9_init_177 rfl rfl ?_
  obtain ⟨b13, h⟩ := ck_some h
  refine gf_X9_26 cx h_c0 dX9_init_178 ?_
  refine wa_aload_n cx (i := 0) dX9_init_181 rfl rfl ?_
  obtain ⟨b14, h⟩ := ck_some h
  refine gf_X9_26 cx h_c0 dX9_init_182 ?_
  refine gf_X9_95 cx (kd_of cx.2.2.2.2.2.2.1 b14 (by decide)) dX9_init_185 ?_
  obtain ⟨x15, S16, e17, h⟩ := bd_some h
  refine wa_callVi cx (m_X0_arrange l cx.2.2.2.2.2.2.1 (kq9_4 cx.2.2.2.2.2.2.1 h_c0) (kd_of cx.2.2.2.2.2.2.1 b13 (by decide)) e17) vl_X9_99 (kq9_4 cx.2.2.2.2.2.2.1 h_c0) (by decide) rfl rfl ⟨_, cell_eq0 (kd_lt (kq9_4 cx.2.2.2.2.2.2.1 h_c0) (by decide)).2⟩ ⟨Nat.le_of_ble_eq_true rfl, Nat.le_of_ble_eq_true rfl⟩ ⟨rfl, rfl⟩ ⟨Nat.le_of_ble_eq_true rfl, Nat.le_of_ble_eq_true rfl⟩ rfl (Nat.le_of_ble_eq_true rfl) dX9_init_188 rfl ?_
  refine wa_pop cx dX9_init_191 rfl ?_
  exact wa_vretC cx (fun i => if i < 1 then h0 else if i < 3 then uu2 (i - 1) else if i < 5 then uu4 (i - 3) else if i < 15 then uu6 (i - 5) else if i < 25 then uu8 (i - 15) else if i < 36 then uu10 (i - 25) else if i < 47 then uu12 (i - 36) else if i < 73 then uu14 (i - 47) else if i < 79 then uu16 (i - 73) else if i < 85 then uu18 (i - 79) else if i < 99 then uu20 (i - 85) else if i < 100 then qq21 else uu23 (i - 100)) rfl (by rw [← hg]) (by rw [← hg]) h dX9_init_192
def f_X10_initB (c0 : Nat) (S : St) : Option (Unit × St) := bd (f_X10_noBoard c0 (0 : Int32) S) fun _ S1 => sq (pI S1 (c0 + 3) (Int32.toNatClampNeg (0 : Int32)) (1 : Int32)) fun S4 => sq (pI S4 (c0 + 4) (Int32.toNatClampNeg (0 : Int32)) (1 : Int32)) fun S5 => sq (pI S5 (c0 + 5) (Int32.toNatClampNeg (0 : Int32)) (1 : Int32)) fun S6 => sq (pI S6 (c0 + 6) (Int32.toNatClampNeg (0 : Int32)) (20 : Int32)) fun S7 => sq (pI S7 (c0 + 10) (Int32.toNatClampNeg (0 : Int32)) (1 : Int32)) fun S8 => sq (pI S8 (c0 + 11) (Int32.toNatClampNeg (0 : Int32)) (20 : Int32)) fun S9 => sq (pI S9 (c0 + 12) (Int32.toNatClampNeg (0 : Int32)) (10 : Int32)) fun S10 => bd (f_X10_layGivers c0 S10) fun _ S11 => some ((), S11)
def rmC_10 : Room := { frames := 2, cells := 25, slots := 10466, locals := 42 }
set_option maxHeartbeats 40000000 in
set_option maxRecDepth 1000000 in
theorem c_X10 (l : Launch) {S1 : St} (D : va_G) (cy : ClassId × ClassId) (qA : Nat → Nat) {I : Nat → Nat → Int32} {J : Nat → Nat → Int64} (h : f_X10_initB 103 (mrg I J) = some ((), S1)) (h0 sz : Nat) : MC l yX10_init cX10_init 1 rmC_10 D cy (pool (D, cy, qA, 103) (I, J, R0) ++ [(h0, .inr (10, nul10))]) h0 sz (fun q => pool (D, cy, qcat qA q, 129) S1) 25 10466 := by
  refine startC (by decide +kernel) (by decide) rfl (fun p e s m args below meth c hsz hnam cx => ?_)
  have cx : CxL p s m args meth c cX10_init 1 none RX10 D cy (va_A (pool (D, cy, qA, 103) (I, J, R0) ++ [(h0, .inr (10, nul10))]) sz) := cx
  skip
  refine wl_aload_n cx (i := 0) dX10_init_0 rfl rfl ?_
  refine wl_oinit cx dX10_init_1 (show Cond.methodLink RX10 1 Lib.objectInit ∈ lw_g from (lwm 889 (by decide +kernel) rfl)) oi_i oi_c ⟨Nat.le_of_ble_eq_true rfl, Nat.le_of_ble_eq_true rfl⟩ ?_
  refine wl_aload_n cx (i := 0) dX10_init_4 rfl rfl ?_
  refine wl_sipush cx dX10_init_5 (300 : Int32) (by decide) ?_
  refine wl_newI cx dX10_init_8 300 1 300 ar_I (by decide) (by decide) (by decide) ⟨rfl, rfl⟩ ⟨Nat.le_of_ble_eq_true rfl, Nat.le_of_ble_eq_true rfl⟩ (fun qq1 => ?_)
  refine wl_re (app_c _ _ _ _) ?_
  refine wl_putF (k := 1) (ty := .array .int) (pre := pool (D, cy, qA, 103) (I, J, R0)) cx dX10_init_10 [.int 0, .ref qq1, .null, .null, .null, .null, .null, .null, .null, .null, .null, .null, .null, .int 0, .null, .null, .null, .null, .int 0, .int 0, .int 0, .int 0, .int 0, .int 0, .int 0, .int 0, .null, .int 0, .null, .null, .null, .null, .int 0, .int 0, .int 0, .null, .null, .null, .null] tyX10 rfl inW10 tyX10_ok nmX10 (by decide) gl_X10_7 rfl hnam rfl (by decide +kernel) rfl rfl (Nat.le_of_ble_eq_true rfl) rfl ?_
  refine wl_aload_n cx (i := 0) dX10_init_13 rfl rfl ?_
  refine wl_bipush cx dX10_init_14 (20 : Int32) (by decide) ?_
  refine wl_newI cx dX10_init_16 20 2 320 ar_I (by decide) (by decide) (by decide) ⟨rfl, rfl⟩ ⟨Nat.le_of_ble_eq_true rfl, Nat.le_of_ble_eq_true rfl⟩ (fun qq2 => ?_)
  refine wl_re (app_c _ _ _ _) ?_
  refine wl_putF (k := 2) (ty := .array .int) (pre := pool (D, cy, qA, 103) (I, J, R0)) cx dX10_init_18 [.int 0, .ref qq1, .ref qq2, .null, .null, .null, .null, .null, .null, .null, .null, .null, .null, .int 0, .null, .null, .null, .null, .int 0, .int 0, .int 0, .int 0, .int 0, .int 0, .int 0, .int 0, .null, .int 0, .null, .null, .null, .null, .int 0, .int 0, .int 0, .null, .null, .null, .null] tyX10 rfl inW10 tyX10_ok nmX10 (by decide) gl_X10_13 rfl hnam rfl (by decide +kernel) rfl rfl (Nat.le_of_ble_eq_true rfl) rfl ?_
  refine wl_aload_n cx (i := 0) dX10_init_21 rfl rfl ?_
  refine wl_iconst cx dX10_init_22 (2 : Int32) (by decide) ?_
  refine wl_newI cx dX10_init_23 2 3 322 ar_I (by decide) (by decide) (by decide) ⟨rfl, rfl⟩ ⟨Nat.le_of_ble_eq_true rfl, Nat.le_of_ble_eq_true rfl⟩ (fun qq3 => ?_)
  refine wl_re (app_c _ _ _ _) ?_
  refine wl_putF (k := 3) (ty := .array .int) (pre := pool (D, cy, qA, 103) (I, J, R0)) cx dX10_init_25 [.int 0, .ref qq1, .ref qq2, .ref qq3, .null, .null, .null, .null, .null, .null, .null, .null, .null, .int 0, .null, .null, .null, .null, .int 0, .int 0, .int 0, .int 0, .int 0, .int 0, .int 0, .int 0, .null, .int 0, .null, .null, .null, .null, .int 0, .int 0, .int 0, .null, .null, .null, .null] tyX10 rfl inW10 tyX10_ok nmX10 (by decide) gl_X10_16 rfl hnam rfl (by decide +kernel) rfl rfl (Nat.le_of_ble_eq_true rfl) rfl ?_
  refine wl_aload_n cx (i := 0) dX10_init_28 rfl rfl ?_
  refine wl_bipush cx dX10_init_29 (12 : Int32) (by decide) ?_
  refine wl_newI cx dX10_init_31 12 4 334 ar_I (by decide) (by decide) (by decide) ⟨rfl, rfl⟩ ⟨Nat.le_of_ble_eq_true rfl, Nat.le_of_ble_eq_true rfl⟩ (fun qq4 => ?_)
  refine wl_re (app_c _ _ _ _) ?_
  refine wl_putF (k := 4) (ty := .array .int) (pre := pool (D, cy, qA, 103) (I, J, R0)) cx dX10_init_33 [.int 0, .ref qq1, .ref qq2, .ref qq3, .ref qq4, .null, .null, .null, .null, .null, .null, .null, .null, .int 0, .null, .null, .null, .null, .int 0, .int 0, .int 0, .int 0, .int 0, .int 0, .int 0, .int 0, .null, .int 0, .null, .null, .null, .null, .int 0, .int 0, .int 0, .null, .null, .null, .null] tyX10 rfl inW10 tyX10_ok nmX10 (by decide) gl_X10_19 rfl hnam rfl (by decide +kernel) rfl rfl (Nat.le_of_ble_eq_true rfl) rfl ?_
  refine wl_aload_n cx (i := 0) dX10_init_36 rfl rfl ?_
  refine wl_bipush cx dX10_init_37 (12 : Int32) (by decide) ?_
  refine wl_newI cx dX10_init_39 12 5 346 ar_I (by decide) (by decide) (by decide) ⟨rfl, rfl⟩ ⟨Nat.le_of_ble_eq_true rfl, Nat.le_of_ble_eq_true rfl⟩ (fun qq5 => ?_)
  refine wl_re (app_c _ _ _ _) ?_
  refine wl_putF (k := 5) (ty := .array .int) (pre := pool (D, cy, qA, 103) (I, J, R0)) cx dX10_init_41 [.int 0, .ref qq1, .ref qq2, .ref qq3, .ref qq4, .ref qq5, .null, .null, .null, .null, .null, .null, .null, .int 0, .null, .null, .null, .null, .int 0, .int 0, .int 0, .int 0, .int 0, .int 0, .int 0, .int 0, .null, .int 0, .null, .null, .null, .null, .int 0, .int 0, .int 0, .null, .null, .null, .null] tyX10 rfl inW10 tyX10_ok nmX10 (by decide) gl_X10_22 rfl hnam rfl (by decide +kernel) rfl rfl (Nat.le_of_ble_eq_true rfl) rfl ?_
  refine wl_aload_n cx (i := 0) dX10_init_44 rfl rfl ?_
  refine wl_bipush cx dX10_init_45 (12 : Int32) (by decide) ?_
  refine wl_newI cx dX10_init_47 12 6 358 ar_I (by decide) (by decide) (by decide) ⟨rfl, rfl⟩ ⟨Nat.le_of_ble_eq_true rfl, Nat.le_of_ble_eq_true rfl⟩ (fun qq6 => ?_)
  refine wl_re (app_c _ _ _ _) ?_
  refine wl_putF (k := 6) (ty := .array .int) (pre := pool (D, cy, qA, 103) (I, J, R0)) cx dX10_init_49 [.int 0, .ref qq1, .ref qq2, .ref qq3, .ref qq4, .ref qq5, .ref qq6, .null, .null, .null, .null, .null, .null, .int 0, .null, .null, .null, .null, .int 0, .int 0, .int 0, .int 0, .int 0, .int 0, .int 0, .int 0, .null, .int 0, .null, .null, .null, .null, .int 0, .int 0, .int 0, .null, .null, .null, .null] tyX10 rfl inW10 tyX10_ok nmX10 (by decide) gl_X10_25 rfl hnam rfl (by decide +kernel) rfl rfl (Nat.le_of_ble_eq_true rfl) rfl ?_
  refine wl_aload_n cx (i := 0) dX10_init_52 rfl rfl ?_
  refine wl_bipush cx dX10_init_53 (12 : Int32) (by decide) ?_
  refine wl_newI cx dX10_init_55 12 7 370 ar_I (by decide) (by decide) (by decide) ⟨rfl, rfl⟩ ⟨Nat.le_of_ble_eq_true rfl, Nat.le_of_ble_eq_true rfl⟩ (fun qq7 => ?_)
  refine wl_re (app_c _ _ _ _) ?_
  refine wl_putF (k := 7) (ty := .array .int) (pre := pool (D, cy, qA, 103) (I, J, R0)) cx dX10_init_57 [.int 0, .ref qq1, .ref qq2, .ref qq3, .ref qq4, .ref qq5, .ref qq6, .ref qq7, .null, .null, .null, .null, .null, .int 0, .null, .null, .null, .null, .int 0, .int 0, .int 0, .int 0, .int 0, .int 0, .int 0, .int 0, .null, .int 0, .null, .null, .null, .null, .int 0, .int 0, .int 0, .null, .null, .null, .null] tyX10 rfl inW10 tyX10_ok nmX10 (by decide) gl_X10_28 rfl hnam rfl (by decide +kernel) rfl rfl (Nat.le_of_ble_eq_true rfl) rfl ?_
  refine wl_aload_n cx (i := 0) dX10_init_60 rfl rfl ?_
  refine wl_bipush cx dX10_init_61 (12 : Int32) (by decide) ?_
  refine wl_newI cx dX10_init_63 12 8 382 ar_I (by decide) (by decide) (by decide) ⟨rfl, rfl⟩ ⟨Nat.le_of_ble_eq_true rfl, Nat.le_of_ble_eq_true rfl⟩ (fun qq8 => ?_)
  refine wl_re (app_c _ _ _ _) ?_
  refine wl_putF (k := 8) (ty := .array .int) (pre := pool (D, cy, qA, 103) (I, J, R0)) cx dX10_init_65 [.int 0, .ref qq1, .ref qq2, .ref qq3, .ref qq4, .ref qq5, .ref qq6, .ref qq7, .ref qq8, .null, .null, .null, .null, .int 0, .null, .null, .null, .null, .int 0, .int 0, .int 0, .int 0, .int 0, .int 0, .int 0, .int 0, .null, .int 0, .null, .null, .null, .null, .int 0, .int 0, .int 0, .null, .null, .null, .null] tyX10 rfl inW10 tyX10_ok nmX10 (by decide) gl_X10_31 rfl hnam rfl (by decide +kernel) rfl rfl (Nat.le_of_ble_eq_true rfl) rfl ?_
  refine wl_aload_n cx (i := 0) dX10_init_68 rfl rfl ?_
  refine wl_bipush cx dX10_init_69 (12 : Int32) (by decide) ?_
  refine wl_newI cx dX10_init_71 12 9 394 ar_I (by decide) (by decide) (by decide) ⟨rfl, rfl⟩ ⟨Nat.le_of_ble_eq_true rfl, Nat.le_of_ble_eq_true rfl⟩ (fun qq9 => ?_)
  refine wl_re (app_c _ _ _ _) ?_
  refine wl_putF (k := 9) (ty := .array .int) (pre := pool (D, cy, qA, 103) (I, J, R0)) cx dX10_init_73 [.int 0, .ref qq1, .ref qq2, .ref qq3, .ref qq4, .ref qq5, .ref qq6, .ref qq7, .ref qq8, .ref qq9, .null, .null, .null, .int 0, .null, .null, .null, .null, .int 0, .int 0, .int 0, .int 0, .int 0, .int 0, .int 0, .int 0, .null, .int 0, .null, .null, .null, .null, .int 0, .int 0, .int 0, .null, .null, .null, .null] tyX10 rfl inW10 tyX10_ok nmX10 (by decide) gl_X10_34 rfl hnam rfl (by decide +kernel) rfl rfl (Nat.le_of_ble_eq_true rfl) rfl ?_
  refine wl_aload_n cx (i := 0) dX10_init_76 rfl rfl ?_
  refine wl_bipush cx dX10_init_77 (12 : Int32) (by decide) ?_
  refine wl_newI cx dX10_init_79 12 10 406 ar_I (by decide) (by decide) (by decide) ⟨rfl, rfl⟩ ⟨Nat.le_of_ble_eq_true rfl, Nat.le_of_ble_eq_true rfl⟩ (fun qq10 => ?_)
  refine wl_re (app_c _ _ _ _) ?_
  refine wl_putF (k := 10) (ty := .array .int) (pre := pool (D, cy, qA, 103) (I, J, R0)) cx dX10_init_81 [.int 0, .ref qq1, .ref qq2, .ref qq3, .ref qq4, .ref qq5, .ref qq6, .ref qq7, .ref qq8, .ref qq9, .ref qq10, .null, .null, .int 0, .null, .null, .null, .null, .int 0, .int 0, .int 0, .int 0, .int 0, .int 0, .int 0, .int 0, .null, .int 0, .null, .null, .null, .null, .int 0, .int 0, .int 0, .null, .null, .null, .null] tyX10 rfl inW10 tyX10_ok nmX10 (by decide) gl_X10_37 rfl hnam rfl (by decide +kernel) rfl rfl (Nat.le_of_ble_eq_true rfl) rfl ?_
  refine wl_aload_n cx (i := 0) dX10_init_84 rfl rfl ?_
  refine wl_bipush cx dX10_init_85 (36 : Int32) (by decide) ?_
  refine wl_newI cx dX10_init_87 36 11 442 ar_I (by decide) (by decide) (by decide) ⟨rfl, rfl⟩ ⟨Nat.le_of_ble_eq_true rfl, Nat.le_of_ble_eq_true rfl⟩ (fun qq11 => ?_)
  refine wl_re (app_c _ _ _ _) ?_
  refine wl_putF (k := 11) (ty := .array .int) (pre := pool (D, cy, qA, 103) (I, J, R0)) cx dX10_init_89 [.int 0, .ref qq1, .ref qq2, .ref qq3, .ref qq4, .ref qq5, .ref qq6, .ref qq7, .ref qq8, .ref qq9, .ref qq10, .ref qq11, .null, .int 0, .null, .null, .null, .null, .int 0, .int 0, .int 0, .int 0, .int 0, .int 0, .int 0, .int 0, .null, .int 0, .null, .null, .null, .null, .int 0, .int 0, .int 0, .null, .null, .null, .null] tyX10 rfl inW10 tyX10_ok nmX10 (by decide) gl_X10_40 rfl hnam rfl (by decide +kernel) rfl rfl (Nat.le_of_ble_eq_true rfl) rfl ?_
  refine wl_aload_n cx (i := 0) dX10_init_92 rfl rfl ?_
  refine wl_bipush cx dX10_init_93 (36 : Int32) (by decide) ?_
  refine wl_newI cx dX10_init_95 36 12 478 ar_I (by decide) (by decide) (by decide) ⟨rfl, rfl⟩ ⟨Nat.le_of_ble_eq_true rfl, Nat.le_of_ble_eq_true rfl⟩ (fun qq12 => ?_)
  refine wl_re (app_c _ _ _ _) ?_
  refine wl_putF (k := 12) (ty := .array .int) (pre := pool (D, cy, qA, 103) (I, J, R0)) cx dX10_init_97 [.int 0, .ref qq1, .ref qq2, .ref qq3, .ref qq4, .ref qq5, .ref qq6, .ref qq7, .ref qq8, .ref qq9, .ref qq10, .ref qq11, .ref qq12, .int 0, .null, .null, .null, .null, .int 0, .int 0, .int 0, .int 0, .int 0, .int 0, .int 0, .int 0, .null, .int 0, .null, .null, .null, .null, .int 0, .int 0, .int 0, .null, .null, .null, .null] tyX10 rfl inW10 tyX10_ok nmX10 (by decide) gl_X10_43 rfl hnam rfl (by decide +kernel) rfl rfl (Nat.le_of_ble_eq_true rfl) rfl ?_
  refine wl_aload_n cx (i := 0) dX10_init_100 rfl rfl ?_
  refine wl_bipush cx dX10_init_101 (8 : Int32) (by decide) ?_
  refine wl_newI cx dX10_init_103 8 13 486 ar_I (by decide) (by decide) (by decide) ⟨rfl, rfl⟩ ⟨Nat.le_of_ble_eq_true rfl, Nat.le_of_ble_eq_true rfl⟩ (fun qq13 => ?_)
  refine wl_re (app_c _ _ _ _) ?_
  refine wl_putF (k := 14) (ty := .array .int) (pre := pool (D, cy, qA, 103) (I, J, R0)) cx dX10_init_105 [.int 0, .ref qq1, .ref qq2, .ref qq3, .ref qq4, .ref qq5, .ref qq6, .ref qq7, .ref qq8, .ref qq9, .ref qq10, .ref qq11, .ref qq12, .int 0, .ref qq13, .null, .null, .null, .int 0, .int 0, .int 0, .int 0, .int 0, .int 0, .int 0, .int 0, .null, .int 0, .null, .null, .null, .null, .int 0, .int 0, .int 0, .null, .null, .null, .null] tyX10 rfl inW10 tyX10_ok nmX10 (by decide) gl_X10_46 rfl hnam rfl (by decide +kernel) rfl rfl (Nat.le_of_ble_eq_true rfl) rfl ?_
  refine wl_aload_n cx (i := 0) dX10_init_108 rfl rfl ?_
  refine wl_bipush cx dX10_init_109 (8 : Int32) (by decide) ?_
  refine wl_newI cx dX10_init_111 8 14 494 ar_I (by decide) (by decide) (by decide) ⟨rfl, rfl⟩ ⟨Nat.le_of_ble_eq_true rfl, Nat.le_of_ble_eq_true rfl⟩ (fun qq14 => ?_)
  refine wl_re (app_c _ _ _ _) ?_
  refine wl_putF (k := 15) (ty := .array .int) (pre := pool (D, cy, qA, 103) (I, J, R0)) cx dX10_init_113 [.int 0, .ref qq1, .ref qq2, .ref qq3, .ref qq4, .ref qq5, .ref qq6, .ref qq7, .ref qq8, .ref qq9, .ref qq10, .ref qq11, .ref qq12, .int 0, .ref qq13, .ref qq14, .null, .null, .int 0, .int 0, .int 0, .int 0, .int 0, .int 0, .int 0, .int 0, .null, .int 0, .null, .null, .null, .null, .int 0, .int 0, .int 0, .null, .null, .null, .null] tyX10 rfl inW10 tyX10_ok nmX10 (by decide) gl_X10_49 rfl hnam rfl (by decide +kernel) rfl rfl (Nat.le_of_ble_eq_true rfl) rfl ?_
  refine wl_aload_n cx (i := 0) dX10_init_116 rfl rfl ?_
  refine wl_iconst cx dX10_init_117 (3 : Int32) (by decide) ?_
  refine wl_newI cx dX10_init_118 3 15 497 ar_I (by decide) (by decide) (by decide) ⟨rfl, rfl⟩ ⟨Nat.le_of_ble_eq_true rfl, Nat.le_of_ble_eq_true rfl⟩ (fun qq15 => ?_)
  refine wl_re (app_c _ _ _ _) ?_
  refine wl_putF (k := 16) (ty := .array .int) (pre := pool (D, cy, qA, 103) (I, J, R0)) cx dX10_init_120 [.int 0, .ref qq1, .ref qq2, .ref qq3, .ref qq4, .ref qq5, .ref qq6, .ref qq7, .ref qq8, .ref qq9, .ref qq10, .ref qq11, .ref qq12, .int 0, .ref qq13, .ref qq14, .ref qq15, .null, .int 0, .int 0, .int 0, .int 0, .int 0, .int 0, .int 0, .int 0, .null, .int 0, .null, .null, .null, .null, .int 0, .int 0, .int 0, .null, .null, .null, .null] tyX10 rfl inW10 tyX10_ok nmX10 (by decide) gl_X10_52 rfl hnam rfl (by decide +kernel) rfl rfl (Nat.le_of_ble_eq_true rfl) rfl ?_
  refine wl_aload_n cx (i := 0) dX10_init_123 rfl rfl ?_
  refine wl_bipush cx dX10_init_124 (24 : Int32) (by decide) ?_
  refine wl_newI cx dX10_init_126 24 16 521 ar_I (by decide) (by decide) (by decide) ⟨rfl, rfl⟩ ⟨Nat.le_of_ble_eq_true rfl, Nat.le_of_ble_eq_true rfl⟩ (fun qq16 => ?_)
  refine wl_re (app_c _ _ _ _) ?_
  refine wl_putF (k := 17) (ty := .array .int) (pre := pool (D, cy, qA, 103) (I, J, R0)) cx dX10_init_128 [.int 0, .ref qq1, .ref qq2, .ref qq3, .ref qq4, .ref qq5, .ref qq6, .ref qq7, .ref qq8, .ref qq9, .ref qq10, .ref qq11, .ref qq12, .int 0, .ref qq13, .ref qq14, .ref qq15, .ref qq16, .int 0, .int 0, .int 0, .int 0, .int 0, .int 0, .int 0, .int 0, .null, .int 0, .null, .null, .null, .null, .int 0, .int 0, .int 0, .null, .null, .null, .null] tyX10 rfl inW10 tyX10_ok nmX10 (by decide) gl_X10_55 rfl hnam rfl (by decide +kernel) rfl rfl (Nat.le_of_ble_eq_true rfl) rfl ?_
  refine wl_aload_n cx (i := 0) dX10_init_131 rfl rfl ?_
  refine wl_iconst cx dX10_init_132 (5 : Int32) (by decide) ?_
  refine wl_newI cx dX10_init_133 5 17 526 ar_I (by decide) (by decide) (by decide) ⟨rfl, rfl⟩ ⟨Nat.le_of_ble_eq_true rfl, Nat.le_of_ble_eq_true rfl⟩ (fun qq17 => ?_)
  refine wl_re (app_c _ _ _ _) ?_
  refine wl_putF (k := 26) (ty := .array .int) (pre := pool (D, cy, qA, 103) (I, J, R0)) cx dX10_init_135 [.int 0, .ref qq1, .ref qq2, .ref qq3, .ref qq4, .ref qq5, .ref qq6, .ref qq7, .ref qq8, .ref qq9, .ref qq10, .ref qq11, .ref qq12, .int 0, .ref qq13, .ref qq14, .ref qq15, .ref qq16, .int 0, .int 0, .int 0, .int 0, .int 0, .int 0, .int 0, .int 0, .ref qq17, .int 0, .null, .null, .null, .null, .int 0, .int 0, .int 0, .null, .null, .null, .null] tyX10 rfl inW10 tyX10_ok nmX10 (by decide) gl_X10_58 rfl hnam rfl (by decide +kernel) rfl rfl (Nat.le_of_ble_eq_true rfl) rfl ?_
  refine wl_aload_n cx (i := 0) dX10_init_138 rfl rfl ?_
  refine wl_bipush cx dX10_init_139 (8 : Int32) (by decide) ?_
  refine wl_newI cx dX10_init_141 8 18 534 ar_I (by decide) (by decide) (by decide) ⟨rfl, rfl⟩ ⟨Nat.le_of_ble_eq_true rfl, Nat.le_of_ble_eq_true rfl⟩ (fun qq18 => ?_)
  refine wl_re (app_c _ _ _ _) ?_
  refine wl_putF (k := 28) (ty := .array .int) (pre := pool (D, cy, qA, 103) (I, J, R0)) cx dX10_init_143 [.int 0, .ref qq1, .ref qq2, .ref qq3, .ref qq4, .ref qq5, .ref qq6, .ref qq7, .ref qq8, .ref qq9, .ref qq10, .ref qq11, .ref qq12, .int 0, .ref qq13, .ref qq14, .ref qq15, .ref qq16, .int 0, .int 0, .int 0, .int 0, .int 0, .int 0, .int 0, .int 0, .ref qq17, .int 0, .ref qq18, .null, .null, .null, .int 0, .int 0, .int 0, .null, .null, .null, .null] tyX10 rfl inW10 tyX10_ok nmX10 (by decide) gl_X10_61 rfl hnam rfl (by decide +kernel) rfl rfl (Nat.le_of_ble_eq_true rfl) rfl ?_
  refine wl_aload_n cx (i := 0) dX10_init_146 rfl rfl ?_
  refine wl_bipush cx dX10_init_147 (8 : Int32) (by decide) ?_
  refine wl_newI cx dX10_init_149 8 19 542 ar_I (by decide) (by decide) (by decide) ⟨rfl, rfl⟩ ⟨Nat.le_of_ble_eq_true rfl, Nat.le_of_ble_eq_true rfl⟩ (fun qq19 => ?_)
  refine wl_re (app_c _ _ _ _) ?_
  refine wl_putF (k := 29) (ty := .array .int) (pre := pool (D, cy, qA, 103) (I, J, R0)) cx dX10_init_151 [.int 0, .ref qq1, .ref qq2, .ref qq3, .ref qq4, .ref qq5, .ref qq6, .ref qq7, .ref qq8, .ref qq9, .ref qq10, .ref qq11, .ref qq12, .int 0, .ref qq13, .ref qq14, .ref qq15, .ref qq16, .int 0, .int 0, .int 0, .int 0, .int 0, .int 0, .int 0, .int 0, .ref qq17, .int 0, .ref qq18, .ref qq19, .null, .null, .int 0, .int 0, .int 0, .null, .null, .null, .null] tyX10 rfl inW10 tyX10_ok nmX10 (by decide) gl_X10_64 rfl hnam rfl (by decide +kernel) rfl rfl (Nat.le_of_ble_eq_true rfl) rfl ?_
  refine wl_aload_n cx (i := 0) dX10_init_154 rfl rfl ?_
  refine wl_bipush cx dX10_init_155 (8 : Int32) (by decide) ?_
  refine wl_newI cx dX10_init_157 8 20 550 ar_I (by decide) (by decide) (by decide) ⟨rfl, rfl⟩ ⟨Nat.le_of_ble_eq_true rfl, Nat.le_of_ble_eq_true rfl⟩ (fun qq20 => ?_)
  refine wl_re (app_c _ _ _ _) ?_
  refine wl_putF (k := 30) (ty := .array .int) (pre := pool (D, cy, qA, 103) (I, J, R0)) cx dX10_init_159 [.int 0, .ref qq1, .ref qq2, .ref qq3, .ref qq4, .ref qq5, .ref qq6, .ref qq7, .ref qq8, .ref qq9, .ref qq10, .ref qq11, .ref qq12, .int 0, .ref qq13, .ref qq14, .ref qq15, .ref qq16, .int 0, .int 0, .int 0, .int 0, .int 0, .int 0, .int 0, .int 0, .ref qq17, .int 0, .ref qq18, .ref qq19, .ref qq20, .null, .int 0, .int 0, .int 0, .null, .null, .null, .null] tyX10 rfl inW10 tyX10_ok nmX10 (by decide) gl_X10_67 rfl hnam rfl (by decide +kernel) rfl rfl (Nat.le_of_ble_eq_true rfl) rfl ?_
  refine wl_aload_n cx (i := 0) dX10_init_162 rfl rfl ?_
  refine wl_bipush cx dX10_init_163 (8 : Int32) (by decide) ?_
  refine wl_newI cx dX10_init_165 8 21 558 ar_I (by decide) (by decide) (by decide) ⟨rfl, rfl⟩ ⟨Nat.le_of_ble_eq_true rfl, Nat.le_of_ble_eq_true rfl⟩ (fun qq21 => ?_)
  refine wl_re (app_c _ _ _ _) ?_
  refine wl_putF (k := 31) (ty := .array .int) (pre := pool (D, cy, qA, 103) (I, J, R0)) cx dX10_init_167 [.int 0, .ref qq1, .ref qq2, .ref qq3, .ref qq4, .ref qq5, .ref qq6, .ref qq7, .ref qq8, .ref qq9, .ref qq10, .ref qq11, .ref qq12, .int 0, .ref qq13, .ref qq14, .ref qq15, .ref qq16, .int 0, .int 0, .int 0, .int 0, .int 0, .int 0, .int 0, .int 0, .ref qq17, .int 0, .ref qq18, .ref qq19, .ref qq20, .ref qq21, .int 0, .int 0, .int 0, .null, .null, .null, .null] tyX10 rfl inW10 tyX10_ok nmX10 (by decide) gl_X10_70 rfl hnam rfl (by decide +kernel) rfl rfl (Nat.le_of_ble_eq_true rfl) rfl ?_
  refine wl_aload_n cx (i := 0) dX10_init_170 rfl rfl ?_
  refine wl_bipush cx dX10_init_171 (8 : Int32) (by decide) ?_
  refine wl_newI cx dX10_init_173 8 22 566 ar_I (by decide) (by decide) (by decide) ⟨rfl, rfl⟩ ⟨Nat.le_of_ble_eq_true rfl, Nat.le_of_ble_eq_true rfl⟩ (fun qq22 => ?_)
  refine wl_re (app_c _ _ _ _) ?_
  refine wl_putF (k := 35) (ty := .array .int) (pre := pool (D, cy, qA, 103) (I, J, R0)) cx dX10_init_175 [.int 0, .ref qq1, .ref qq2, .ref qq3, .ref qq4, .ref qq5, .ref qq6, .ref qq7, .ref qq8, .ref qq9, .ref qq10, .ref qq11, .ref qq12, .int 0, .ref qq13, .ref qq14, .ref qq15, .ref qq16, .int 0, .int 0, .int 0, .int 0, .int 0, .int 0, .int 0, .int 0, .ref qq17, .int 0, .ref qq18, .ref qq19, .ref qq20, .ref qq21, .int 0, .int 0, .int 0, .ref qq22, .null, .null, .null] tyX10 rfl inW10 tyX10_ok nmX10 (by decide) gl_X10_73 rfl hnam rfl (by decide +kernel) rfl rfl (Nat.le_of_ble_eq_true rfl) rfl ?_
  refine wl_aload_n cx (i := 0) dX10_init_178 rfl rfl ?_
  refine wl_sipush cx dX10_init_179 (8100 : Int32) (by decide) ?_
  refine wl_newJ cx dX10_init_182 8100 23 8666 ar_J (by decide) (by decide) (by decide) ⟨rfl, rfl⟩ ⟨Nat.le_of_ble_eq_true rfl, Nat.le_of_ble_eq_true rfl⟩ (fun qq23 => ?_)
  refine wl_re (app_c _ _ _ _) ?_
  refine wl_putF (k := 36) (ty := .array .long) (pre := pool (D, cy, qA, 103) (I, J, R0)) cx dX10_init_184 [.int 0, .ref qq1, .ref qq2, .ref qq3, .ref qq4, .ref qq5, .ref qq6, .ref qq7, .ref qq8, .ref qq9, .ref qq10, .ref qq11, .ref qq12, .int 0, .ref qq13, .ref qq14, .ref qq15, .ref qq16, .int 0, .int 0, .int 0, .int 0, .int 0, .int 0, .int 0, .int 0, .ref qq17, .int 0, .ref qq18, .ref qq19, .ref qq20, .ref qq21, .int 0, .int 0, .int 0, .ref qq22, .ref qq23, .null, .null] tyX10 rfl inW10 tyX10_ok nmX10 (by decide) gl_X10_76 rfl hnam rfl (by decide +kernel) rfl rfl (Nat.le_of_ble_eq_true rfl) rfl ?_
  refine wl_aload_n cx (i := 0) dX10_init_187 rfl rfl ?_
  refine wl_sipush cx dX10_init_188 (900 : Int32) (by decide) ?_
  refine wl_newJ cx dX10_init_191 900 24 9566 ar_J (by decide) (by decide) (by decide) ⟨rfl, rfl⟩ ⟨Nat.le_of_ble_eq_true rfl, Nat.le_of_ble_eq_true rfl⟩ (fun qq24 => ?_)
  refine wl_re (app_c _ _ _ _) ?_
  refine wl_putF (k := 37) (ty := .array .long) (pre := pool (D, cy, qA, 103) (I, J, R0)) cx dX10_init_193 [.int 0, .ref qq1, .ref qq2, .ref qq3, .ref qq4, .ref qq5, .ref qq6, .ref qq7, .ref qq8, .ref qq9, .ref qq10, .ref qq11, .ref qq12, .int 0, .ref qq13, .ref qq14, .ref qq15, .ref qq16, .int 0, .int 0, .int 0, .int 0, .int 0, .int 0, .int 0, .int 0, .ref qq17, .int 0, .ref qq18, .ref qq19, .ref qq20, .ref qq21, .int 0, .int 0, .int 0, .ref qq22, .ref qq23, .ref qq24, .null] tyX10 rfl inW10 tyX10_ok nmX10 (by decide) gl_X10_80 rfl hnam rfl (by decide +kernel) rfl rfl (Nat.le_of_ble_eq_true rfl) rfl ?_
  refine wl_aload_n cx (i := 0) dX10_init_196 rfl rfl ?_
  refine wl_sipush cx dX10_init_197 (900 : Int32) (by decide) ?_
  refine wl_newJ cx dX10_init_200 900 25 10466 ar_J (by decide) (by decide) (by decide) ⟨rfl, rfl⟩ ⟨Nat.le_of_ble_eq_true rfl, Nat.le_of_ble_eq_true rfl⟩ (fun qq25 => ?_)
  refine wl_re (app_c _ _ _ _) ?_
  refine wl_putF (k := 38) (ty := .array .long) (pre := pool (D, cy, qA, 103) (I, J, R0)) cx dX10_init_202 [.int 0, .ref qq1, .ref qq2, .ref qq3, .ref qq4, .ref qq5, .ref qq6, .ref qq7, .ref qq8, .ref qq9, .ref qq10, .ref qq11, .ref qq12, .int 0, .ref qq13, .ref qq14, .ref qq15, .ref qq16, .int 0, .int 0, .int 0, .int 0, .int 0, .int 0, .int 0, .int 0, .ref qq17, .int 0, .ref qq18, .ref qq19, .ref qq20, .ref qq21, .int 0, .int 0, .int 0, .ref qq22, .ref qq23, .ref qq24, .ref qq25] tyX10 rfl inW10 tyX10_ok nmX10 (by decide) gl_X10_83 rfl hnam rfl (by decide +kernel) rfl rfl (Nat.le_of_ble_eq_true rfl) rfl ?_
  refine wl_wa (g := (D, cy, (qcat qA (fun i => if i < 1 then h0 else if i < 2 then qq1 else if i < 3 then qq2 else if i < 4 then qq3 else if i < 5 then qq4 else if i < 6 then qq5 else if i < 7 then qq6 else if i < 8 then qq7 else if i < 9 then qq8 else if i < 10 then qq9 else if i < 11 then qq10 else if i < 12 then qq11 else if i < 13 then qq12 else if i < 14 then qq13 else if i < 15 then qq14 else if i < 16 then qq15 else if i < 17 then qq16 else if i < 18 then qq17 else if i < 19 then qq18 else if i < 20 then qq19 else if i < 21 then qq20 else if i < 22 then qq21 else if i < 23 then qq22 else if i < 24 then qq23 else if i < 25 then qq24 else qq25)), 129)) (S := (mrg I J)) cx (Or.inr rfl) ?_ (fun cx => ?_)
  · rw [pool_eqA _ _ rfl, pool_eqB _ _ rfl]
    simp (config := { decide := true }) only [blk7, blk3, blk6, blk2, blk0, blk1, blk8, blk4, blk5, fs0, fs1, fs2, fs3, fs4, fs5, fs6, fs7, fs8, fs9, fs10, ad, S0, R0, qcat, mrg, List.append_assoc, List.cons_append, List.nil_append, Nat.reduceLT, Nat.reduceSub, Nat.reduceAdd, Nat.reduceEqDiff, if_true, if_false, reduceIte]
  have h_c0 : kd ((D, cy, (qcat qA (fun i => if i < 1 then h0 else if i < 2 then qq1 else if i < 3 then qq2 else if i < 4 then qq3 else if i < 5 then qq4 else if i < 6 then qq5 else if i < 7 then qq6 else if i < 8 then qq7 else if i < 9 then qq8 else if i < 10 then qq9 else if i < 11 then qq10 else if i < 12 then qq11 else if i < 13 then qq12 else if i < 14 then qq13 else if i < 15 then qq14 else if i < 16 then qq15 else if i < 17 then qq16 else if i < 18 then qq17 else if i < 19 then qq18 else if i < 20 then qq19 else if i < 21 then qq20 else if i < 22 then qq21 else if i < 23 then qq22 else if i < 24 then qq23 else if i < 25 then qq24 else qq25)), 129) : Gl) 103 = 10 := rfl
  refine wa_sub (lv' := [(0, .ref (ad (D, cy, (qcat qA (fun i => if i < 1 then h0 else if i < 2 then qq1 else if i < 3 then qq2 else if i < 4 then qq3 else if i < 5 then qq4 else if i < 6 then qq5 else if i < 7 then qq6 else if i < 8 then qq7 else if i < 9 then qq8 else if i < 10 then qq9 else if i < 11 then qq10 else if i < 12 then qq11 else if i < 13 then qq12 else if i < 14 then qq13 else if i < 15 then qq14 else if i < 16 then qq15 else if i < 17 then qq16 else if i < 18 then qq17 else if i < 19 then qq18 else if i < 20 then qq19 else if i < 21 then qq20 else if i < 22 then qq21 else if i < 23 then qq22 else if i < 24 then qq23 else if i < 25 then qq24 else qq25)), 129) 103))]) (lvs_c rfl lvs_n) ?_
  generalize hg : ((D, cy, (qcat qA (fun i => if i < 1 then h0 else if i < 2 then qq1 else if i < 3 then qq2 else if i < 4 then qq3 else if i < 5 then qq4 else if i < 6 then qq5 else if i < 7 then qq6 else if i < 8 then qq7 else if i < 9 then qq8 else if i < 10 then qq9 else if i < 11 then qq10 else if i < 12 then qq11 else if i < 13 then qq12 else if i < 14 then qq13 else if i < 15 then qq14 else if i < 16 then qq15 else if i < 17 then qq16 else if i < 18 then qq17 else if i < 19 then qq18 else if i < 20 then qq19 else if i < 21 then qq20 else if i < 22 then qq21 else if i < 23 then qq22 else if i < 24 then qq23 else if i < 25 then qq24 else qq25)), 129) : Gl) = g at cx h_c0 ⊢
  rw [f_X10_initB] at h
  refine wa_aload_n cx (i := 0) dX10_init_205 rfl rfl ?_
  refine wa_iconst cx dX10_init_206 (0 : Int32) (by decide) ?_
  obtain ⟨u3, S1, e2, h⟩ := bd_some h
  refine wa_callVv cx (m_X10_noBoard l cx.2.2.2.2.2.2.1 h_c0 e2) vl_X10_86 h_c0 (by decide) rfl rfl ⟨_, cell_eq10 (kd_lt h_c0 (by decide)).2⟩ ⟨Nat.le_of_ble_eq_true rfl, Nat.le_of_ble_eq_true rfl⟩ ⟨rfl, rfl⟩ ⟨Nat.le_of_ble_eq_true rfl, Nat.le_of_ble_eq_true rfl⟩ rfl (Nat.le_of_ble_eq_true rfl) dX10_init_207 rfl ?_
  refine wa_aload_n cx (i := 0) dX10_init_210 rfl rfl ?_
  refine gf_X10_16 cx h_c0 dX10_init_211 ?_
  refine wa_iconst cx dX10_init_214 (0 : Int32) (by decide) ?_
  refine wa_iconst cx dX10_init_215 (1 : Int32) (by decide) ?_
  refine wa_iast cx dX10_init_216 (kq10_3 cx.2.2.2.2.2.2.1 h_c0) (vinl (by decide)) ?_
  replace h := sq_eq h
  generalize (pI S1 (103 + 3) (Int32.toNatClampNeg (0 : Int32)) (1 : Int32)) = S4 at h ⊢
  refine wa_aload_n cx (i := 0) dX10_init_217 rfl rfl ?_
  refine gf_X10_19 cx h_c0 dX10_init_218 ?_
  refine wa_iconst cx dX10_init_221 (0 : Int32) (by decide) ?_
  refine wa_iconst cx dX10_init_222 (1 : Int32) (by decide) ?_
  refine wa_iast cx dX10_init_223 (kq10_4 cx.2.2.2.2.2.2.1 h_c0) (vinl (by decide)) ?_
  replace h := sq_eq h
  generalize (pI S4 (103 + 4) (Int32.toNatClampNeg (0 : Int32)) (1 : Int32)) = S5 at h ⊢
  refine wa_aload_n cx (i := 0) dX10_init_224 rfl rfl ?_
  refine gf_X10_22 cx h_c0 dX10_init_225 ?_
  refine wa_iconst cx dX10_init_228 (0 : Int32) (by decide) ?_
  refine wa_iconst cx dX10_init_229 (1 : Int32) (by decide) ?_
  refine wa_iast cx dX10_init_230 (kq10_5 cx.2.2.2.2.2.2.1 h_c0) (vinl (by decide)) ?_
  replace h := sq_eq h
  generalize (pI S5 (103 + 5) (Int32.toNatClampNeg (0 : Int32)) (1 : Int32)) = S6 at h ⊢
  refine wa_aload_n cx (i := 0) dX10_init_231 rfl rfl ?_
  refine gf_X10_25 cx h_c0 dX10_init_232 ?_
  refine wa_iconst cx dX10_init_235 (0 : Int32) (by decide) ?_
  refine wa_bipush cx dX10_init_236 (20 : Int32) (by decide) ?_
  refine wa_iast cx dX10_init_238 (kq10_6 cx.2.2.2.2.2.2.1 h_c0) (vinl (by decide)) ?_
  replace h := sq_eq h
  generalize (pI S6 (103 + 6) (Int32.toNatClampNeg (0 : Int32)) (20 : Int32)) = S7 at h ⊢
  refine wa_aload_n cx (i := 0) dX10_init_239 rfl rfl ?_
  refine gf_X10_37 cx h_c0 dX10_init_240 ?_
  refine wa_iconst cx dX10_init_243 (0 : Int32) (by decide) ?_
  refine wa_iconst cx dX10_init_244 (1 : Int32) (by decide) ?_
  refine wa_iast cx dX10_init_245 (kq10_10 cx.2.2.2.2.2.2.1 h_c0) (vinl (by decide)) ?_
  replace h := sq_eq h
  generalize (pI S7 (103 + 10) (Int32.toNatClampNeg (0 : Int32)) (1 : Int32)) = S8 at h ⊢
  refine wa_aload_n cx (i := 0) dX10_init_246 rfl rfl ?_
  refine gf_X10_40 cx h_c0 dX10_init_247 ?_
  refine wa_iconst cx dX10_init_250 (0 : Int32) (by decide) ?_
  refine wa_bipush cx dX10_init_251 (20 : Int32) (by decide) ?_
  refine wa_iast cx dX10_init_253 (kq10_11 cx.2.2.2.2.2.2.1 h_c0) (vinl (by decide)) ?_
  replace h := sq_eq h
  generalize (pI S8 (103 + 11) (Int32.toNatClampNeg (0 : Int32)) (20 : Int32)) = S9 at h ⊢
  refine wa_aload_n cx (i := 0) dX10_init_254 rfl rfl ?_
  refine gf_X10_43 cx h_c0 dX10_init_255 ?_
  refine wa_iconst cx dX10_init_258 (0 : Int32) (by decide) ?_
  refine wa_bipush cx dX10_init_259 (10 : Int32) (by decide) ?_
  refine wa_iast cx dX10_init_261 (kq10_12 cx.2.2.2.2.2.2.1 h_c0) (vinl (by decide)) ?_
  replace h := sq_eq h
  generalize (pI S9 (103 + 12) (Int32.toNatClampNeg (0 : Int32)) (10 : Int32)) = S10 at h ⊢
  refine wa_aload_n cx (i := 0) dX10_init_262 rfl rfl ?_
  obtain ⟨u13, S11, e12, h⟩ := bd_some h
  refine wa_callVv cx (m_X10_layGivers l cx.2.2.2.2.2.2.1 h_c0 e12) vl_X10_90 h_c0 (by decide) rfl rfl ⟨_, cell_eq10 (kd_lt h_c0 (by decide)).2⟩ ⟨Nat.le_of_ble_eq_true rfl, Nat.le_of_ble_eq_true rfl⟩ ⟨rfl, rfl⟩ ⟨Nat.le_of_ble_eq_true rfl, Nat.le_of_ble_eq_true rfl⟩ rfl (Nat.le_of_ble_eq_true rfl) dX10_init_263 rfl ?_
  exact wa_vretC cx (fun i => if i < 1 then h0 else if i < 2 then qq1 else if i < 3 then qq2 else if i < 4 then qq3 else if i < 5 then qq4 else if i < 6 then qq5 else if i < 7 then qq6 else if i < 8 then qq7 else if i < 9 then qq8 else if i < 10 then qq9 else if i < 11 then qq10 else if i < 12 then qq11 else if i < 13 then qq12 else if i < 14 then qq13 else if i < 15 then qq14 else if i < 16 then qq15 else if i < 17 then qq16 else if i < 18 then qq17 else if i < 19 then qq18 else if i < 20 then qq19 else if i < 21 then qq20 else if i < 22 then qq21 else if i < 23 then qq22 else if i < 24 then qq23 else if i < 25 then qq24 else qq25) rfl (by rw [← hg]) (by rw [← hg]) h dX10_init_266
