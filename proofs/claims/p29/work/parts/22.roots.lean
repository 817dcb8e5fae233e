def R0 : Nat → Nat → Nat := fun c k => if c = 0 then (if k = 2 then 5 else 15) else if c = 47 then (if k = 0 then 48 else 58) else if c = 85 then (86) else 0
def S0 : St := (fun _ _ => 0, fun _ _ => 0, R0)
def mrg (I : Nat → Nat → Int32) (J : Nat → Nat → Int64) : St := (fun a => if a < 103 then I a else fun _ => 0, fun a => if a < 103 then J a else fun _ => 0, R0)
def qcat (qA q : Nat → Nat) : Nat → Nat := fun i => if i < 103 then qA i else q (i - 103)
theorem wa_vretC {p : Program} {l : Launch} {e : Env} {R : Room} {s : State} {m : MethodId} {args : Array Value} {below : List Frame} {meth : Method} {c : Code} {cc : ByteArray} {nL : Nat} {own : String} {g : Gl} {S S1 : St} {ws0 : va_W} {sz h0 cells slots pc : Nat} {lv : List (Nat × Value)} {D : va_G} {blk : (Nat → Nat) → va_W} (cx : Cx p s m args meth c cc nL none own g (va_A ws0 sz)) (q : Nat → Nat) (hq : q 0 = h0) (hD : D = g.1) (hblk : blk q = pool g S1) (h : some ((), S) = some ((), S1)) (hdg : decode cc pc = .ok (.return_, 1)) : WA p l e R s m args below meth c cells slots (MQ below (QcC D ws0 sz h0 blk) args s cells slots (va_A ws0 sz)) nL g (va_A ws0 sz) S pc lv [] := fun H locs ls hP hS hl => by
  cases h
  subst hD
  exact W.vret cx.1 cx.2.1 cx.2.2.2.2.2.2.2.2.1 (fun t ht hW => ⟨⟨q, rfl, hq, by show va_P _ _ (blk q) t.heap; rw [hblk, ht]; exact hP, by rw [hblk]; exact pool_D cx.2.2.2.2.2.2.1 cx.2.2.2.2.2.2.2.1⟩, hS.F ht⟩) hS.2.2 hdg cx.2.2.2.2.2.2.2.2.2.1
def f_X9_initB (c0 : Nat) (S : St) : Option (Unit × St) := ck (kdE (S.2.2 c0 2) = 2) (bd (f_X2_clear (S.2.2 c0 2) S) fun _ S2 => ck (kdE (S2.2.2 c0 2) = 2) (bd (f_X6_add ((S2.2.2 c0 2) + 1) (1 : Int32) (1 : Int32) (20 : Int32) (0 : Int32) (0 : Int32) S2) fun x6 S7 => ck (kdE (S7.2.2 c0 2) = 2) (bd (f_X6_addWorth ((S7.2.2 c0 2) + 1) (0 : Int32) (20 : Int32) (10 : Int32) S7) fun x10 S11 => ck (kdE (S11.2.2 c0 2) = 2) (ck (kdE (S11.2.2 c0 2) = 2) (bd (f_X0_arrange (c0 + 25) (S11.2.2 c0 2) (S11.1 (S11.2.2 c0 2) 2) S11) fun x15 S16 => some ((), S16))))))
def rmC_9 : Room := { frames := 4, cells := 102, slots := 1834, locals := 80 }
set_option maxHeartbeats 40000000 in
set_option maxRecDepth 1000000 in
theorem c_X9 (l : Launch) {S1 : St} (D : va_G) (cy : ClassId × ClassId) (h : f_X9_initB 0 S0 = some ((), S1)) (h0 sz : Nat) : MC l yX9_init cX9_init 1 rmC_9 D cy [(h0, .inr (9, nul9))] h0 sz (fun q => pool (D, cy, q, 103) S1) 102 1834 := by
  refine startC (by decide +kernel) (by decide) rfl (fun p e s m args below meth c hsz hnam cx => ?_)
  have cx : CxL p s m args meth c cX9_init 1 none RX9 D cy (va_A [(h0, .inr (9, nul9))] sz) := cx
  refine wl_re (ws2 := ([] : va_W) ++ (h0, .inr (9, nul9)) :: []) rfl ?_
  refine wl_aload_n cx (i := 0) dX9_init_0 rfl rfl ?_
  refine wl_oinit cx dX9_init_1 (show Cond.methodLink RX9 1 Lib.objectInit ∈ lw_g from (lwm 45 (by decide +kernel) rfl)) oi_i oi_c ⟨Nat.le_of_ble_eq_true rfl, Nat.le_of_ble_eq_true rfl⟩ ?_
  refine wl_aload_n cx (i := 0) dX9_init_4 rfl rfl ?_
  refine wl_new (ci := 7) cx dX9_init_5 1 2 nul7 tyX7 tyX7_ok inW7 (show Cond.classLink RX9 7 RX7 ∈ lw_g from (lwm 48 (by decide +kernel) rfl)) ins_7 ini_7 rfl nulv7 ⟨rfl, rfl⟩ ⟨Nat.le_of_ble_eq_true rfl, Nat.le_of_ble_eq_true rfl⟩ (fun qq1 => ?_)
  refine wl_dup cx dX9_init_8 rfl ?_
  refine wl_callN cx dX9_init_9 2 302 (fun sz => c_X7 l D cy qq1 sz) (show INL RX9 RX9 9 yX7_init cX7_init 1 from ⟨⟨List.mem_of_getElem? (i := 50) (by decide +kernel), (lwm 51 (by decide +kernel) rfl), (lwm 28 (by decide +kernel) rfl), (lwm 52 (by decide +kernel) rfl)⟩, by decide, by decide, by decide +kernel⟩) rfl ⟨Nat.le_of_ble_eq_true rfl, Nat.le_of_ble_eq_true rfl⟩ ⟨rfl, rfl⟩ ⟨rfl, rfl⟩ ⟨Nat.le_of_ble_eq_true rfl, Nat.le_of_ble_eq_true rfl⟩ (Nat.le_of_ble_eq_true rfl) (fun uu2 huu2 => ?_)
  subst huu2
  refine wl_re (app_c _ _ _ _) ?_
  refine wl_putF (k := 0) (ty := .object "EnoughGive$Text") (pre := ([] : va_W)) cx dX9_init_12 [.ref (uu2 0), .null, .null, .null, .null, .null, .null, .null, .null, .null, .null, .int 0, .null, .int 0, .int 0, .int 0, .int 0, .long 0, .long 0] tyX9 rfl inW9 tyX9_ok nmX9 (by decide) gl_X9_10 rfl hnam rfl (by decide +kernel) rfl rfl (Nat.le_of_ble_eq_true rfl) rfl ?_
  refine wl_aload_n cx (i := 0) dX9_init_15 rfl rfl ?_
  refine wl_new (ci := 3) cx dX9_init_16 3 304 nul3 tyX3 tyX3_ok inW3 (show Cond.classLink RX9 16 RX3 ∈ lw_g from (lwm 64 (by decide +kernel) rfl)) ins_3 ini_3 rfl nulv3 ⟨rfl, rfl⟩ ⟨Nat.le_of_ble_eq_true rfl, Nat.le_of_ble_eq_true rfl⟩ (fun qq3 => ?_)
  refine wl_dup cx dX9_init_19 rfl ?_
  refine wl_callN cx dX9_init_20 4 309 (fun sz => c_X3 l D cy qq3 sz) (show INL RX9 RX9 18 yX3_init cX3_init 1 from ⟨⟨List.mem_of_getElem? (i := 66) (by decide +kernel), (lwm 67 (by decide +kernel) rfl), (lwm 29 (by decide +kernel) rfl), (lwm 68 (by decide +kernel) rfl)⟩, by decide, by decide, by decide +kernel⟩) rfl ⟨Nat.le_of_ble_eq_true rfl, Nat.le_of_ble_eq_true rfl⟩ ⟨rfl, rfl⟩ ⟨rfl, rfl⟩ ⟨Nat.le_of_ble_eq_true rfl, Nat.le_of_ble_eq_true rfl⟩ (Nat.le_of_ble_eq_true rfl) (fun uu4 huu4 => ?_)
  subst huu4
  refine wl_re (app_c _ _ _ _) ?_
  refine wl_putF (k := 1) (ty := .object "EnoughGive$Reader") (pre := ([] : va_W)) cx dX9_init_23 [.ref (uu2 0), .ref (uu4 0), .null, .null, .null, .null, .null, .null, .null, .null, .null, .int 0, .null, .int 0, .int 0, .int 0, .int 0, .long 0, .long 0] tyX9 rfl inW9 tyX9_ok nmX9 (by decide) gl_X9_19 rfl hnam rfl (by decide +kernel) rfl rfl (Nat.le_of_ble_eq_true rfl) rfl ?_
  refine wl_aload_n cx (i := 0) dX9_init_26 rfl rfl ?_
  refine wl_new (ci := 2) cx dX9_init_27 5 320 nul2 tyX2 tyX2_ok inW2 (show Cond.classLink RX9 23 RX2 ∈ lw_g from (lwm 77 (by decide +kernel) rfl)) ins_2 ini_2 rfl nulv2 ⟨rfl, rfl⟩ ⟨Nat.le_of_ble_eq_true rfl, Nat.le_of_ble_eq_true rfl⟩ (fun qq5 => ?_)
  refine wl_dup cx dX9_init_30 rfl ?_
  refine wl_callN cx dX9_init_31 14 406 (fun sz => c_X2 l D cy qq5 sz) (show INL RX9 RX9 25 yX2_init cX2_init 1 from ⟨⟨List.mem_of_getElem? (i := 79) (by decide +kernel), (lwm 80 (by decide +kernel) rfl), (lwm 30 (by decide +kernel) rfl), (lwm 81 (by decide +kernel) rfl)⟩, by decide, by decide, by decide +kernel⟩) rfl ⟨Nat.le_of_ble_eq_true rfl, Nat.le_of_ble_eq_true rfl⟩ ⟨rfl, rfl⟩ ⟨rfl, rfl⟩ ⟨Nat.le_of_ble_eq_true rfl, Nat.le_of_ble_eq_true rfl⟩ (Nat.le_of_ble_eq_true rfl) (fun uu6 huu6 => ?_)
  subst huu6
  refine wl_re (app_c _ _ _ _) ?_
  refine wl_put (k := 2) (ty := .object "EnoughGive$Plan") (pre := ([] : va_W)) cx dX9_init_34 [.ref (uu2 0), .ref (uu4 0), .ref (uu6 0), .null, .null, .null, .null, .null, .null, .null, .null, .int 0, .null, .int 0, .int 0, .int 0, .int 0, .long 0, .long 0] tyX9 rfl inW9 tyX9_ok nmX9 (by decide) gl_X9_26 rfl (by decide +kernel) rfl rfl (Nat.le_of_ble_eq_true rfl) rfl ?_
  refine wl_aload_n cx (i := 0) dX9_init_37 rfl rfl ?_
  refine wl_new (ci := 2) cx dX9_init_38 15 417 nul2 tyX2 tyX2_ok inW2 (show Cond.classLink RX9 23 RX2 ∈ lw_g from (lwm 77 (by decide +kernel) rfl)) ins_2 ini_2 rfl nulv2 ⟨rfl, rfl⟩ ⟨Nat.le_of_ble_eq_true rfl, Nat.le_of_ble_eq_true rfl⟩ (fun qq7 => ?_)
  refine wl_dup cx dX9_init_41 rfl ?_
  refine wl_callN cx dX9_init_42 24 503 (fun sz => c_X2 l D cy qq7 sz) (show INL RX9 RX9 25 yX2_init cX2_init 1 from ⟨⟨List.mem_of_getElem? (i := 79) (by decide +kernel), (lwm 80 (by decide +kernel) rfl), (lwm 30 (by decide +kernel) rfl), (lwm 81 (by decide +kernel) rfl)⟩, by decide, by decide, by decide +kernel⟩) rfl ⟨Nat.le_of_ble_eq_true rfl, Nat.le_of_ble_eq_true rfl⟩ ⟨rfl, rfl⟩ ⟨rfl, rfl⟩ ⟨Nat.le_of_ble_eq_true rfl, Nat.le_of_ble_eq_true rfl⟩ (Nat.le_of_ble_eq_true rfl) (fun uu8 huu8 => ?_)
  subst huu8
  refine wl_re (app_c _ _ _ _) ?_
  refine wl_put (k := 3) (ty := .object "EnoughGive$Plan") (pre := ([] : va_W)) cx dX9_init_45 [.ref (uu2 0), .ref (uu4 0), .ref (uu6 0), .ref (uu8 0), .null, .null, .null, .null, .null, .null, .null, .int 0, .null, .int 0, .int 0, .int 0, .int 0, .long 0, .long 0] tyX9 rfl inW9 tyX9_ok nmX9 (by decide) gl_X9_30 rfl (by decide +kernel) rfl rfl (Nat.le_of_ble_eq_true rfl) rfl ?_
  refine wl_aload_n cx (i := 0) dX9_init_48 rfl rfl ?_
  refine wl_new (ci := 0) cx dX9_init_49 25 514 nul0 tyX0 tyX0_ok inW0 (show Cond.classLink RX9 33 RX0 ∈ lw_g from (lwm 189 (by decide +kernel) rfl)) ins_0 ini_0 rfl nulv0 ⟨rfl, rfl⟩ ⟨Nat.le_of_ble_eq_true rfl, Nat.le_of_ble_eq_true rfl⟩ (fun qq9 => ?_)
  refine wl_dup cx dX9_init_52 rfl ?_
  refine wl_callN cx dX9_init_53 35 626 (fun sz => c_X0 l D cy qq9 sz) (show INL RX9 RX9 35 yX0_init cX0_init 1 from ⟨⟨List.mem_of_getElem? (i := 191) (by decide +kernel), (lwm 192 (by decide +kernel) rfl), (lwm 32 (by decide +kernel) rfl), (lwm 193 (by decide +kernel) rfl)⟩, by decide, by decide, by decide +kernel⟩) rfl ⟨Nat.le_of_ble_eq_true rfl, Nat.le_of_ble_eq_true rfl⟩ ⟨rfl, rfl⟩ ⟨rfl, rfl⟩ ⟨Nat.le_of_ble_eq_true rfl, Nat.le_of_ble_eq_true rfl⟩ (Nat.le_of_ble_eq_true rfl) (fun uu10 huu10 => ?_)
  subst huu10
  refine wl_re (app_c _ _ _ _) ?_
  refine wl_putF (k := 4) (ty := .object "EnoughGive$Coming") (pre := ([] : va_W)) cx dX9_init_56 [.ref (uu2 0), .ref (uu4 0), .ref (uu6 0), .ref (uu8 0), .ref (uu10 0), .null, .null, .null, .null, .null, .null, .int 0, .null, .int 0, .int 0, .int 0, .int 0, .long 0, .long 0] tyX9 rfl inW9 tyX9_ok nmX9 (by decide) gl_X9_36 rfl hnam rfl (by decide +kernel) rfl rfl (Nat.le_of_ble_eq_true rfl) rfl ?_
  refine wl_aload_n cx (i := 0) dX9_init_59 rfl rfl ?_
  refine wl_new (ci := 0) cx dX9_init_60 36 637 nul0 tyX0 tyX0_ok inW0 (show Cond.classLink RX9 33 RX0 ∈ lw_g from (lwm 189 (by decide +kernel) rfl)) ins_0 ini_0 rfl nulv0 ⟨rfl, rfl⟩ ⟨Nat.le_of_ble_eq_true rfl, Nat.le_of_ble_eq_true rfl⟩ (fun qq11 => ?_)
  refine wl_dup cx dX9_init_63 rfl ?_
  refine wl_callN cx dX9_init_64 46 749 (fun sz => c_X0 l D cy qq11 sz) (show INL RX9 RX9 35 yX0_init cX0_init 1 from ⟨⟨List.mem_of_getElem? (i := 191) (by decide +kernel), (lwm 192 (by decide +kernel) rfl), (lwm 32 (by decide +kernel) rfl), (lwm 193 (by decide +kernel) rfl)⟩, by decide, by decide, by decide +kernel⟩) rfl ⟨Nat.le_of_ble_eq_true rfl, Nat.le_of_ble_eq_true rfl⟩ ⟨rfl, rfl⟩ ⟨rfl, rfl⟩ ⟨Nat.le_of_ble_eq_true rfl, Nat.le_of_ble_eq_true rfl⟩ (Nat.le_of_ble_eq_true rfl) (fun uu12 huu12 => ?_)
  subst huu12
  refine wl_re (app_c _ _ _ _) ?_
  refine wl_putF (k := 5) (ty := .object "EnoughGive$Coming") (pre := ([] : va_W)) cx dX9_init_67 [.ref (uu2 0), .ref (uu4 0), .ref (uu6 0), .ref (uu8 0), .ref (uu10 0), .ref (uu12 0), .null, .null, .null, .null, .null, .int 0, .null, .int 0, .int 0, .int 0, .int 0, .long 0, .long 0] tyX9 rfl inW9 tyX9_ok nmX9 (by decide) gl_X9_40 rfl hnam rfl (by decide +kernel) rfl rfl (Nat.le_of_ble_eq_true rfl) rfl ?_
  refine wl_aload_n cx (i := 0) dX9_init_70 rfl rfl ?_
  refine wl_new (ci := 1) cx dX9_init_71 47 760 nul1 tyX1 tyX1_ok inW1 (show Cond.classLink RX9 43 RX1 ∈ lw_g from (lwm 246 (by decide +kernel) rfl)) ins_1 ini_1 rfl nulv1 ⟨rfl, rfl⟩ ⟨Nat.le_of_ble_eq_true rfl, Nat.le_of_ble_eq_true rfl⟩ (fun qq13 => ?_)
  refine wl_dup cx dX9_init_74 rfl ?_
  refine wl_callN cx dX9_init_75 72 1015 (fun sz => c_X1 l D cy qq13 sz) (show INL RX9 RX9 45 yX1_init cX1_init 1 from ⟨⟨List.mem_of_getElem? (i := 248) (by decide +kernel), (lwm 249 (by decide +kernel) rfl), (lwm 33 (by decide +kernel) rfl), (lwm 250 (by decide +kernel) rfl)⟩, by decide, by decide, by decide +kernel⟩) rfl ⟨Nat.le_of_ble_eq_true rfl, Nat.le_of_ble_eq_true rfl⟩ ⟨rfl, rfl⟩ ⟨rfl, rfl⟩ ⟨Nat.le_of_ble_eq_true rfl, Nat.le_of_ble_eq_true rfl⟩ (Nat.le_of_ble_eq_true rfl) (fun uu14 huu14 => ?_)
  subst huu14
  refine wl_re (app_c _ _ _ _) ?_
  refine wl_putF (k := 6) (ty := .object "EnoughGive$Game") (pre := ([] : va_W)) cx dX9_init_78 [.ref (uu2 0), .ref (uu4 0), .ref (uu6 0), .ref (uu8 0), .ref (uu10 0), .ref (uu12 0), .ref (uu14 0), .null, .null, .null, .null, .int 0, .null, .int 0, .int 0, .int 0, .int 0, .long 0, .long 0] tyX9 rfl inW9 tyX9_ok nmX9 (by decide) gl_X9_46 rfl hnam rfl (by decide +kernel) rfl rfl (Nat.le_of_ble_eq_true rfl) rfl ?_
  refine wl_aload_n cx (i := 0) dX9_init_81 rfl rfl ?_
  refine wl_new (ci := 8) cx dX9_init_82 73 1025 nul8 tyX8 tyX8_ok inW8 (show Cond.classLink RX9 50 RX8 ∈ lw_g from (lwm 297 (by decide +kernel) rfl)) ins_8 ini_8 rfl nulv8 ⟨rfl, rfl⟩ ⟨Nat.le_of_ble_eq_true rfl, Nat.le_of_ble_eq_true rfl⟩ (fun qq15 => ?_)
  refine wl_dup cx dX9_init_85 rfl ?_
  refine wl_callN cx dX9_init_86 78 1067 (fun sz => c_X8 l D cy qq15 sz) (show INL RX9 RX9 52 yX8_init cX8_init 1 from ⟨⟨List.mem_of_getElem? (i := 299) (by decide +kernel), (lwm 300 (by decide +kernel) rfl), (lwm 34 (by decide +kernel) rfl), (lwm 301 (by decide +kernel) rfl)⟩, by decide, by decide, by decide +kernel⟩) rfl ⟨Nat.le_of_ble_eq_true rfl, Nat.le_of_ble_eq_true rfl⟩ ⟨rfl, rfl⟩ ⟨rfl, rfl⟩ ⟨Nat.le_of_ble_eq_true rfl, Nat.le_of_ble_eq_true rfl⟩ (Nat.le_of_ble_eq_true rfl) (fun uu16 huu16 => ?_)
  subst huu16
  refine wl_re (app_c _ _ _ _) ?_
  refine wl_putF (k := 7) (ty := .object "EnoughGive$Ways") (pre := ([] : va_W)) cx dX9_init_89 [.ref (uu2 0), .ref (uu4 0), .ref (uu6 0), .ref (uu8 0), .ref (uu10 0), .ref (uu12 0), .ref (uu14 0), .ref (uu16 0), .null, .null, .null, .int 0, .null, .int 0, .int 0, .int 0, .int 0, .long 0, .long 0] tyX9 rfl inW9 tyX9_ok nmX9 (by decide) gl_X9_53 rfl hnam rfl (by decide +kernel) rfl rfl (Nat.le_of_ble_eq_true rfl) rfl ?_
  refine wl_aload_n cx (i := 0) dX9_init_92 rfl rfl ?_
  refine wl_new (ci := 8) cx dX9_init_93 79 1077 nul8 tyX8 tyX8_ok inW8 (show Cond.classLink RX9 50 RX8 ∈ lw_g from (lwm 297 (by decide +kernel) rfl)) ins_8 ini_8 rfl nulv8 ⟨rfl, rfl⟩ ⟨Nat.le_of_ble_eq_true rfl, Nat.le_of_ble_eq_true rfl⟩ (fun qq17 => ?_)
  refine wl_dup cx dX9_init_96 rfl ?_
  refine wl_callN cx dX9_init_97 84 1119 (fun sz => c_X8 l D cy qq17 sz) (show INL RX9 RX9 52 yX8_init cX8_init 1 from ⟨⟨List.mem_of_getElem? (i := 299) (by decide +kernel), (lwm 300 (by decide +kernel) rfl), (lwm 34 (by decide +kernel) rfl), (lwm 301 (by decide +kernel) rfl)⟩, by decide, by decide, by decide +kernel⟩) rfl ⟨Nat.le_of_ble_eq_true rfl, Nat.le_of_ble_eq_true rfl⟩ ⟨rfl, rfl⟩ ⟨rfl, rfl⟩ ⟨Nat.le_of_ble_eq_true rfl, Nat.le_of_ble_eq_true rfl⟩ (Nat.le_of_ble_eq_true rfl) (fun uu18 huu18 => ?_)
  subst huu18
  refine wl_re (app_c _ _ _ _) ?_
  refine wl_putF (k := 8) (ty := .object "EnoughGive$Ways") (pre := ([] : va_W)) cx dX9_init_100 [.ref (uu2 0), .ref (uu4 0), .ref (uu6 0), .ref (uu8 0), .ref (uu10 0), .ref (uu12 0), .ref (uu14 0), .ref (uu16 0), .ref (uu18 0), .null, .null, .int 0, .null, .int 0, .int 0, .int 0, .int 0, .long 0, .long 0] tyX9 rfl inW9 tyX9_ok nmX9 (by decide) gl_X9_57 rfl hnam rfl (by decide +kernel) rfl rfl (Nat.le_of_ble_eq_true rfl) rfl ?_
  refine wl_aload_n cx (i := 0) dX9_init_103 rfl rfl ?_
  refine wl_new (ci := 4) cx dX9_init_104 85 1125 nul4 tyX4 tyX4_ok inW4 (show Cond.classLink RX9 60 RX4 ∈ lw_g from (lwm 342 (by decide +kernel) rfl)) ins_4 ini_4 rfl nulv4 ⟨rfl, rfl⟩ ⟨Nat.le_of_ble_eq_true rfl, Nat.le_of_ble_eq_true rfl⟩ (fun qq19 => ?_)
  refine wl_dup cx dX9_init_107 rfl ?_
  refine wl_callN cx dX9_init_108 98 1805 (fun sz => c_X4 l D cy qq19 sz) (show INL RX9 RX9 62 yX4_init cX4_init 1 from ⟨⟨List.mem_of_getElem? (i := 344) (by decide +kernel), (lwm 345 (by decide +kernel) rfl), (lwm 35 (by decide +kernel) rfl), (lwm 346 (by decide +kernel) rfl)⟩, by decide, by decide, by decide +kernel⟩) rfl ⟨Nat.le_of_ble_eq_true rfl, Nat.le_of_ble_eq_true rfl⟩ ⟨rfl, rfl⟩ ⟨rfl, rfl⟩ ⟨Nat.le_of_ble_eq_true rfl, Nat.le_of_ble_eq_true rfl⟩ (Nat.le_of_ble_eq_true rfl) (fun uu20 huu20 => ?_)
  subst huu20
  refine wl_re (app_c _ _ _ _) ?_
  refine wl_putF (k := 9) (ty := .object "EnoughGive$Rest") (pre := ([] : va_W)) cx dX9_init_111 [.ref (uu2 0), .ref (uu4 0), .ref (uu6 0), .ref (uu8 0), .ref (uu10 0), .ref (uu12 0), .ref (uu14 0), .ref (uu16 0), .ref (uu18 0), .ref (uu20 0), .null, .int 0, .null, .int 0, .int 0, .int 0, .int 0, .long 0, .long 0] tyX9 rfl inW9 tyX9_ok nmX9 (by decide) gl_X9_63 rfl hnam rfl (by decide +kernel) rfl rfl (Nat.le_of_ble_eq_true rfl) rfl ?_
  refine wl_aload_n cx (i := 0) dX9_init_114 rfl rfl ?_
  refine wl_bipush cx dX9_init_115 (8 : Int32) (by decide) ?_
  refine wl_newI cx dX9_init_117 8 99 1813 ar_I (by decide) (by decide) (by decide) ⟨rfl, rfl⟩ ⟨Nat.le_of_ble_eq_true rfl, Nat.le_of_ble_eq_true rfl⟩ (fun qq21 => ?_)
  refine wl_re (app_c _ _ _ _) ?_
  refine wl_putF (k := 10) (ty := .array .int) (pre := ([] : va_W)) cx dX9_init_119 [.ref (uu2 0), .ref (uu4 0), .ref (uu6 0), .ref (uu8 0), .ref (uu10 0), .ref (uu12 0), .ref (uu14 0), .ref (uu16 0), .ref (uu18 0), .ref (uu20 0), .ref qq21, .int 0, .null, .int 0, .int 0, .int 0, .int 0, .long 0, .long 0] tyX9 rfl inW9 tyX9_ok nmX9 (by decide) gl_X9_69 rfl hnam rfl (by decide +kernel) rfl rfl (Nat.le_of_ble_eq_true rfl) rfl ?_
  refine wl_aload_n cx (i := 0) dX9_init_122 rfl rfl ?_
  refine wl_new (ci := 5) cx dX9_init_123 100 1816 nul5 tyX5 tyX5_ok inW5 (show Cond.classLink RX9 73 RX5 ∈ lw_g from (lwm 369 (by decide +kernel) rfl)) ins_5 ini_5 rfl nulv5 ⟨rfl, rfl⟩ ⟨Nat.le_of_ble_eq_true rfl, Nat.le_of_ble_eq_true rfl⟩ (fun qq22 => ?_)
  refine wl_dup cx dX9_init_126 rfl ?_
  refine wl_callN cx dX9_init_127 102 1834 (fun sz => c_X5 l D cy qq22 sz) (show INL RX9 RX9 75 yX5_init cX5_init 1 from ⟨⟨List.mem_of_getElem? (i := 371) (by decide +kernel), (lwm 372 (by decide +kernel) rfl), (lwm 36 (by decide +kernel) rfl), (lwm 373 (by decide +kernel) rfl)⟩, by decide, by decide, by decide +kernel⟩) rfl ⟨Nat.le_of_ble_eq_true rfl, Nat.le_of_ble_eq_true rfl⟩ ⟨rfl, rfl⟩ ⟨rfl, rfl⟩ ⟨Nat.le_of_ble_eq_true rfl, Nat.le_of_ble_eq_true rfl⟩ (Nat.le_of_ble_eq_true rfl) (fun uu23 huu23 => ?_)
  subst huu23
  refine wl_re (app_c _ _ _ _) ?_
  refine wl_putF (k := 12) (ty := .object "EnoughGive$Shelf") (pre := ([] : va_W)) cx dX9_init_130 [.ref (uu2 0), .ref (uu4 0), .ref (uu6 0), .ref (uu8 0), .ref (uu10 0), .ref (uu12 0), .ref (uu14 0), .ref (uu16 0), .ref (uu18 0), .ref (uu20 0), .ref qq21, .int 0, .ref (uu23 0), .int 0, .int 0, .int 0, .int 0, .long 0, .long 0] tyX9 rfl inW9 tyX9_ok nmX9 (by decide) gl_X9_76 rfl hnam rfl (by decide +kernel) rfl rfl (Nat.le_of_ble_eq_true rfl) rfl ?_
  refine wl_wa (g := (D, cy, (fun i => if i < 1 then h0 else if i < 3 then uu2 (i - 1) else if i < 5 then uu4 (i - 3) else if i < 15 then uu6 (i - 5) else if i < 25 then uu8 (i - 15) else if i < 36 then uu10 (i - 25) else if i < 47 then uu12 (i - 36) else if i < 73 then uu14 (i - 47) else if i < 79 then uu16 (i - 73) else if i < 85 then uu18 (i - 79) else if i < 99 then uu20 (i - 85) else if i < 100 then qq21 else uu23 (i - 100)), 103)) (S := S0) cx (Or.inl rfl) ?_ (fun cx => ?_)
  · rw [pool_eqA _ _ rfl]
    simp (config := { decide := true }) only [blk7, blk3, blk6, blk2, blk0, blk1, blk8, blk4, blk5, fs0, fs1, fs2, fs3, fs4, fs5, fs6, fs7, fs8, fs9, ad, S0, R0, qcat, mrg, List.append_assoc, List.cons_append, List.nil_append, Nat.reduceLT, Nat.reduceSub, Nat.reduceAdd, Nat.reduceEqDiff, if_true, if_false, reduceIte]
  have h_c0 : kd ((D, cy, (fun i => if i < 1 then h0 else if i < 3 then uu2 (i - 1) else if i < 5 then uu4 (i - 3) else if i < 15 then uu6 (i - 5) else if i < 25 then uu8 (i - 15) else if i < 36 then uu10 (i - 25) else if i < 47 then uu12 (i - 36) else if i < 73 then uu14 (i - 47) else if i < 79 then uu16 (i - 73) else if i < 85 then uu18 (i - 79) else if i < 99 then uu20 (i - 85) else if i < 100 then qq21 else uu23 (i - 100)), 103) : Gl) 0 = 9 := rfl
  refine wa_sub (lv' := [(0, .ref (ad (D, cy, (fun i => if i < 1 then h0 else if i < 3 then uu2 (i - 1) else if i < 5 then uu4 (i - 3) else if i < 15 then uu6 (i - 5) else if i < 25 then uu8 (i - 15) else if i < 36 then uu10 (i - 25) else if i < 47 then uu12 (i - 36) else if i < 73 then uu14 (i - 47) else if i < 79 then uu16 (i - 73) else if i < 85 then uu18 (i - 79) else if i < 99 then uu20 (i - 85) else if i < 100 then qq21 else uu23 (i - 100)), 103) 0))]) (lvs_c rfl lvs_n) ?_
  generalize hg : ((D, cy, (fun i => if i < 1 then h0 else if i < 3 then uu2 (i - 1) else if i < 5 then uu4 (i - 3) else if i < 15 then uu6 (i - 5) else if i < 25 then uu8 (i - 15) else if i < 36 then uu10 (i - 25) else if i < 47 then uu12 (i - 36) else if i < 73 then uu14 (i - 47) else if i < 79 then uu16 (i - 73) else if i < 85 then uu18 (i - 79) else if i < 99 then uu20 (i - 85) else if i < 100 then qq21 else uu23 (i - 100)), 103) : Gl) = g at cx h_c0 ⊢
  rw [f_X9_initB] at h
  refine wa_aload_n cx (i := 0) dX9_init_133 rfl rfl ?_
  obtain ⟨b1, h⟩ := ck_some h
  refine gf_X9_26 cx h_c0 dX9_init_134 ?_
  obtain ⟨u4, S2, e3, h⟩ := bd_some h
  refine wa_callVv cx (m_X2_clear l cx.2.2.2.2.2.2.1 (kd_of cx.2.2.2.2.2.2.1 b1 (by decide)) e3) vl_X9_80 (kd_of cx.2.2.2.2.2.2.1 b1 (by decide)) (by decide) rfl rfl ⟨_, cell_eq2 (kd_lt (kd_of cx.2.2.2.2.2.2.1 b1 (by decide)) (by decide)).2⟩ ⟨Nat.le_of_ble_eq_true rfl, Nat.le_of_ble_eq_true rfl⟩ ⟨rfl, rfl⟩ ⟨Nat.le_of_ble_eq_true rfl, Nat.le_of_ble_eq_true rfl⟩ rfl (Nat.le_of_ble_eq_true rfl) dX9_init_137 rfl ?_
  refine wa_aload_n cx (i := 0) dX9_init_140 rfl rfl ?_
  obtain ⟨b5, h⟩ := ck_some h
  refine gf_X9_26 cx h_c0 dX9_init_141 ?_
  refine gf_X9_83 cx (kd_of cx.2.2.2.2.2.2.1 b5 (by decide)) dX9_init_144 ?_
  refine wa_iconst cx dX9_init_147 (1 : Int32) (by decide) ?_
  refine wa_iconst cx dX9_init_148 (1 : Int32) (by decide) ?_
  refine wa_bipush cx dX9_init_149 (20 : Int32) (by decide) ?_
  refine wa_iconst cx dX9_init_151 (0 : Int32) (by decide) ?_
  refine wa_iconst cx dX9_init_152 (0 : Int32) (by decide) ?_
  obtain ⟨x6, S7, e8, h⟩ := bd_some h
  refine wa_callVi cx (m_X6_add l cx.2.2.2.2.2.2.1 (kq2_10 cx.2.2.2.2.2.2.1 (kd_of cx.2.2.2.2.2.2.1 b5 (by decide))) e8) vl_X9_87 (kq2_10 cx.2.2.2.2.2.2.1 (kd_of cx.2.2.2.2.2.2.1 b5 (by decide))) (by decide) rfl rfl ⟨_, cell_eq6 (kd_lt (kq2_10 cx.2.2.2.2.2.2.1 (kd_of cx.2.2.2.2.2.2.1 b5 (by decide))) (by decide)).2⟩ ⟨Nat.le_of_ble_eq_true rfl, Nat.le_of_ble_eq_true rfl⟩ ⟨rfl, rfl⟩ ⟨Nat.le_of_ble_eq_true rfl, Nat.le_of_ble_eq_true rfl⟩ rfl (Nat.le_of_ble_eq_true rfl) dX9_init_153 rfl ?_
  refine wa_pop cx dX9_init_156 rfl ?_
  refine wa_aload_n cx (i := 0) dX9_init_157 rfl rfl ?_
  obtain ⟨b9, h⟩ := ck_some h
  refine gf_X9_26 cx h_c0 dX9_init_158 ?_
  refine gf_X9_83 cx (kd_of cx.2.2.2.2.2.2.1 b9 (by decide)) dX9_init_161 ?_
  refine wa_iconst cx dX9_init_164 (0 : Int32) (by decide) ?_
  refine wa_bipush cx dX9_init_165 (20 : Int32) (by decide) ?_
  refine wa_bipush cx dX9_init_167 (10 : Int32) (by decide) ?_
  obtain ⟨x10, S11, e12, h⟩ := bd_some h
  refine wa_callVi cx (m_X6_addWorth l cx.2.2.2.2.2.2.1 (kq2_10 cx.2.2.2.2.2.2.1 (kd_of cx.2.2.2.2.2.2.1 b9 (by decide))) e12) vl_X9_91 (kq2_10 cx.2.2.2.2.2.2.1 (kd_of cx.2.2.2.2.2.2.1 b9 (by decide))) (by decide) rfl rfl ⟨_, cell_eq6 (kd_lt (kq2_10 cx.2.2.2.2.2.2.1 (kd_of cx.2.2.2.2.2.2.1 b9 (by decide))) (by decide)).2⟩ ⟨Nat.le_of_ble_eq_true rfl, Nat.le_of_ble_eq_true rfl⟩ ⟨rfl, rfl⟩ ⟨Nat.le_of_ble_eq_true rfl, Nat.le_of_ble_eq_true rfl⟩ rfl (Nat.le_of_ble_eq_true rfl) dX9_init_169 rfl ?_
  refine wa_pop cx dX9_init_172 rfl ?_
  refine wa_aload_n cx (i := 0) dX9_init_173 rfl rfl ?_
  refine gf_X9_36 cx h_c0 dX9_init_174 ?_
  refine wa_aload_n cx (i := 0) dX9_init_177 rfl rfl ?_
  obtain ⟨b13, h⟩ := ck_some h
  refine gf_X9_26 cx h_c0 dX9_init_178 ?_
  refine wa_aload_n cx (i := 0) dX9_init_181 rfl rfl ?_
  obtain ⟨b14, h⟩ := ck_some h
  refine gf_X9_26 cx h_c0 dX9_init_182 ?_
  refine gf_X9_95 cx (kd_of cx.2.2.2.2.2.2.1 b14 (by decide)) dX9_init_185 ?_
  obtain ⟨x15, S16, e17, h⟩ := bd_some h
  refine wa_callVi cx (m_X0_arrange l cx.2.2.2.2.2.2.1 (kq9_4 cx.2.2.2.2.2.2.1 h_c0) (kd_of cx.2.2.2.2.2.2.1 b13 (by decide)) e17) vl_X9_99 (kq9_4 cx.2.2.2.2.2.2.1 h_c0) (by decide) rfl rfl ⟨_, cell_eq0 (kd_lt (kq9_4 cx.2.2.2.2.2.2.1 h_c0) (by decide)).2⟩ ⟨Nat.le_of_ble_eq_true rfl, Nat.le_of_ble_eq_true rfl⟩ ⟨rfl, rfl⟩ ⟨Nat.le_of_ble_eq_true rfl, Nat.le_of_ble_eq_true rfl⟩ rfl (Nat.le_of_ble_eq_true rfl) dX9_init_188 rfl ?_
  refine wa_pop cx dX9_init_191 rfl ?_
  exact wa_vretC cx (fun i => if i < 1 then h0 else if i < 3 then uu2 (i - 1) else if i < 5 then uu4 (i - 3) else if i < 15 then uu6 (i - 5) else if i < 25 then uu8 (i - 15) else if i < 36 then uu10 (i - 25) else if i < 47 then uu12 (i - 36) else if i < 73 then uu14 (i - 47) else if i < 79 then uu16 (i - 73) else if i < 85 then uu18 (i - 79) else if i < 99 then uu20 (i - 85) else if i < 100 then qq21 else uu23 (i - 100)) rfl (by rw [← hg]) (by rw [← hg]) h dX9_init_192
