def rm_X9_bestDay : Room := { frames := 5, cells := 0, slots := 0, locals := 121 }
def f_X9_bestDay_J44 (c0 : Nat) (kb9 : Int32 → Int64 → Int32 → St → Option (Int32 × St)) (l1 : Int32) (l2 : Int64) (l4 : Int32) (S : St) : Option (Int32 × St) := ck (kdE (S.2.2 c0 2) = 2) (bd (f_X1_set (c0 + 47) (S.2.2 c0 2) (c0 + 36) (S.1 c0 11) S) fun _ S2 => bd (f_X8_goThrough (c0 + 79) (c0 + 47) (0 : Int32) S2) fun _ S5 => bd (f_X0_waysOfAbsent (c0 + 36) S5) fun x8 S9 => sq ((S5.2.1 (c0 + 79) 0) * x8) fun x11 => if x11 ≤ l2 then kb9 l1 l2 (l4 + (1 : Int32)) S9 else kb9 l4 x11 (l4 + (1 : Int32)) S9)
set_option maxHeartbeats 4000000 in
set_option maxRecDepth 100000 in
theorem w_X9_bestDay_J44 {p : Program} {l : Launch} {e : Env} {s : State} {m : MethodId} {args : Array Value} {below : List Frame} {meth : Method} {c : Code} {g : Gl} {r : Int32 × St} {c0 : Nat} {kb9 : Int32 → Int64 → Int32 → St → Option (Int32 × St)} (cx : Cx p s m args meth c cX9_bestDay 8 (some .int) RX9 g (Ap g)) (h_c0 : kd g c0 = 9) (hkb9 : ∀ (l1 : Int32) (l2 : Int64) (l4 : Int32) (S : St), kb9 l1 l2 l4 S = some r → WA p l e rm_X9_bestDay s m args below meth c 0 0 (MQ below (QWi g r) args s 0 0 (Ap g)) 8 g (Ap g) S 9 [(0, .ref (ad g c0)), (1, .int l1), (2, .long l2), (4, .int l4)] []) : ∀ (l1 : Int32) (l2 : Int64) (l4 : Int32) (S : St), f_X9_bestDay_J44 c0 kb9 l1 l2 l4 S = some r → WA p l e rm_X9_bestDay s m args below meth c 0 0 (MQ below (QWi g r) args s 0 0 (Ap g)) 8 g (Ap g) S 44 [(0, .ref (ad g c0)), (1, .int l1), (2, .long l2), (4, .int l4)] [] := by
  intro l1 l2 l4 S h
  rw [f_X9_bestDay_J44] at h
  refine wa_aload_n cx (i := 0) dX9_bestDay_44 rfl rfl ?_
  refine gf_X9_46 cx h_c0 dX9_bestDay_45 ?_
  refine wa_aload_n cx (i := 0) dX9_bestDay_48 rfl rfl ?_
  obtain ⟨b1, h⟩ := ck_some h
  refine gf_X9_26 cx h_c0 dX9_bestDay_49 ?_
  refine wa_aload_n cx (i := 0) dX9_bestDay_52 rfl rfl ?_
  refine gf_X9_40 cx h_c0 dX9_bestDay_53 ?_
  refine wa_aload_n cx (i := 0) dX9_bestDay_56 rfl rfl ?_
  refine gf_X9_125 cx h_c0 dX9_bestDay_57 ?_
  obtain ⟨u4, S2, e3, h⟩ := bd_some h
  refine wa_callVv cx (m_X1_set l cx.2.2.2.2.2.2.1 (kq9_6 cx.2.2.2.2.2.2.1 h_c0) (kd_of cx.2.2.2.2.2.2.1 b1 (by decide)) (kq9_5 cx.2.2.2.2.2.2.1 h_c0) e3) vl_X9_243 (kq9_6 cx.2.2.2.2.2.2.1 h_c0) (by decide) rfl rfl ⟨_, cell_eq1 (kd_lt (kq9_6 cx.2.2.2.2.2.2.1 h_c0) (by decide)).2⟩ ⟨Nat.le_of_ble_eq_true rfl, Nat.le_of_ble_eq_true rfl⟩ ⟨rfl, rfl⟩ ⟨Nat.zero_le _, Nat.zero_le _⟩ rfl (Nat.le_of_ble_eq_true rfl) dX9_bestDay_60 rfl ?_
  refine wa_aload_n cx (i := 0) dX9_bestDay_63 rfl rfl ?_
  refine gf_X9_57 cx h_c0 dX9_bestDay_64 ?_
  refine wa_aload_n cx (i := 0) dX9_bestDay_67 rfl rfl ?_
  refine gf_X9_46 cx h_c0 dX9_bestDay_68 ?_
  refine wa_iconst cx dX9_bestDay_71 (0 : Int32) (by decide) ?_
  obtain ⟨u7, S5, e6, h⟩ := bd_some h
  refine wa_callVv cx (m_X8_goThrough l cx.2.2.2.2.2.2.1 (kq9_8 cx.2.2.2.2.2.2.1 h_c0) (kq9_6 cx.2.2.2.2.2.2.1 h_c0) e6) vl_X9_247 (kq9_8 cx.2.2.2.2.2.2.1 h_c0) (by decide) rfl rfl ⟨_, cell_eq8 (kd_lt (kq9_8 cx.2.2.2.2.2.2.1 h_c0) (by decide)).2⟩ ⟨Nat.le_of_ble_eq_true rfl, Nat.le_of_ble_eq_true rfl⟩ ⟨rfl, rfl⟩ ⟨Nat.zero_le _, Nat.zero_le _⟩ rfl (Nat.le_of_ble_eq_true rfl) dX9_bestDay_72 rfl ?_
  refine wa_aload_n cx (i := 0) dX9_bestDay_75 rfl rfl ?_
  refine gf_X9_57 cx h_c0 dX9_bestDay_76 ?_
  refine gf_X9_164 cx (kq9_8 cx.2.2.2.2.2.2.1 h_c0) dX9_bestDay_79 ?_
  refine wa_aload_n cx (i := 0) dX9_bestDay_82 rfl rfl ?_
  refine gf_X9_40 cx h_c0 dX9_bestDay_83 ?_
  obtain ⟨x8, S9, e10, h⟩ := bd_some h
  refine wa_callVl cx (m_X0_waysOfAbsent l cx.2.2.2.2.2.2.1 (kq9_5 cx.2.2.2.2.2.2.1 h_c0) e10) vl_X9_251 (kq9_5 cx.2.2.2.2.2.2.1 h_c0) (by decide) rfl rfl ⟨_, cell_eq0 (kd_lt (kq9_5 cx.2.2.2.2.2.2.1 h_c0) (by decide)).2⟩ ⟨Nat.le_of_ble_eq_true rfl, Nat.le_of_ble_eq_true rfl⟩ ⟨rfl, rfl⟩ ⟨Nat.zero_le _, Nat.zero_le _⟩ rfl (Nat.le_of_ble_eq_true rfl) dX9_bestDay_86 rfl ?_
  refine wa_lmul cx dX9_bestDay_89 ?_
  replace h := sq_eq h
  generalize ((S5.2.1 (c0 + 79) 0) * x8) = x11 at h ⊢
  refine wa_lstore cx dX9_bestDay_90 [(0, .ref (ad g c0)), (1, .int l1), (2, .long l2), (4, .int l4), (6, .long x11)] (Nat.le_of_ble_eq_true rfl) rfl (lvs_c rfl (lvs_c rfl (lvs_c rfl (lvs_c rfl (lvs_c rfl (lvs_n)))))) ?_
  refine wa_lload cx dX9_bestDay_92 rfl ?_
  refine wa_lload_n cx (i := 2) dX9_bestDay_94 rfl rfl ?_
  refine wa_lcmp_le cx dX9_bestDay_95 dX9_bestDay_96 105 (by decide) (fun q12 => ?_) (fun q12 => ?_)
  · rw [if_pos q12] at h
    refine wa_iinc cx dX9_bestDay_105 (l4 + (1 : Int32)) [(0, .ref (ad g c0)), (1, .int l1), (2, .long l2), (4, .int (l4 + (1 : Int32)))] rfl rfl (Nat.le_of_ble_eq_true rfl) rfl (lvs_c rfl (lvs_c rfl (lvs_c rfl (lvs_c rfl (lvs_n))))) ?_
    refine wa_goto cx dX9_bestDay_108 9 (by decide) ?_
    refine wa_sub (lv' := [(0, .ref (ad g c0)), (1, .int l1), (2, .long l2), (4, .int (l4 + (1 : Int32)))]) (lvs_c rfl (lvs_c rfl (lvs_c rfl (lvs_c rfl (lvs_n))))) ?_
    exact hkb9 l1 l2 (l4 + (1 : Int32)) S9  h
  · rw [if_neg q12] at h
    refine wa_lload cx dX9_bestDay_99 rfl ?_
    refine wa_lstore_n cx (i := 2) dX9_bestDay_101 [(0, .ref (ad g c0)), (2, .long x11), (4, .int l4)] rfl (Nat.le_of_ble_eq_true rfl) rfl (lvs_c rfl (lvs_c rfl (lvs_c rfl (lvs_n)))) ?_
    refine wa_iload cx dX9_bestDay_102 rfl ?_
    refine wa_istore_n cx (i := 1) dX9_bestDay_104 [(0, .ref (ad g c0)), (1, .int l4), (2, .long x11), (4, .int l4)] rfl (Nat.le_of_ble_eq_true rfl) rfl (lvs_c rfl (lvs_c rfl (lvs_c rfl (lvs_c rfl (lvs_n))))) ?_
    refine wa_iinc cx dX9_bestDay_105 (l4 + (1 : Int32)) [(0, .ref (ad g c0)), (1, .int l4), (2, .long x11), (4, .int (l4 + (1 : Int32)))] rfl rfl (Nat.le_of_ble_eq_true rfl) rfl (lvs_c rfl (lvs_c rfl (lvs_c rfl (lvs_c rfl (lvs_n))))) ?_
    refine wa_goto cx dX9_bestDay_108 9 (by decide) ?_
    refine wa_sub (lv' := [(0, .ref (ad g c0)), (1, .int l4), (2, .long x11), (4, .int (l4 + (1 : Int32)))]) (lvs_c rfl (lvs_c rfl (lvs_c rfl (lvs_c rfl (lvs_n))))) ?_
    exact hkb9 l4 x11 (l4 + (1 : Int32)) S9  h
def f_X9_bestDay_L9 : Nat → Nat → Int32 → Int64 → Int32 → St → Option (Int32 × St)
  | 0, _, _, _, _, _ => none
  | n + 1, c0, l1, l2, l4, S => if (30 : Int32) < l4 then some (l1, S) else ck (kdE (S.2.2 c0 2) = 2) (bd (f_X0_arrange (c0 + 36) (S.2.2 c0 2) l4 S) fun x15 S16 => if l4 ≤ 0 then f_X9_bestDay_J44 c0 (fun l1 l2 l4 S => f_X9_bestDay_L9 n c0 l1 l2 l4 S) l1 l2 l4 S16 else if x15 = 0 then f_X9_bestDay_L9 n c0 l1 l2 (l4 + (1 : Int32)) S16 else f_X9_bestDay_J44 c0 (fun l1 l2 l4 S => f_X9_bestDay_L9 n c0 l1 l2 l4 S) l1 l2 l4 S16)
set_option maxHeartbeats 4000000 in
set_option maxRecDepth 100000 in
theorem w_X9_bestDay_L9 {p : Program} {l : Launch} {e : Env} {s : State} {m : MethodId} {args : Array Value} {below : List Frame} {meth : Method} {c : Code} {g : Gl} {r : Int32 × St} {c0 : Nat} (cx : Cx p s m args meth c cX9_bestDay 8 (some .int) RX9 g (Ap g)) (h_c0 : kd g c0 = 9) : ∀ n : Nat, ∀ (l1 : Int32) (l2 : Int64) (l4 : Int32) (S : St), f_X9_bestDay_L9 n c0 l1 l2 l4 S = some r → WA p l e rm_X9_bestDay s m args below meth c 0 0 (MQ below (QWi g r) args s 0 0 (Ap g)) 8 g (Ap g) S 9 [(0, .ref (ad g c0)), (1, .int l1), (2, .long l2), (4, .int l4)] [] := by
  intro n
  induction n with
  | zero => intro l1 l2 l4 S h; rw [f_X9_bestDay_L9] at h; cases h
  | succ n ih =>
    intro l1 l2 l4 S h
    rw [f_X9_bestDay_L9] at h
    refine wa_iload cx dX9_bestDay_9 rfl ?_
    refine wa_bipush cx dX9_bestDay_11 (30 : Int32) (by decide) ?_
    refine wa_icmp_gt cx dX9_bestDay_13 111 (by decide) (fun q13 => ?_) (fun q13 => ?_)
    · rw [if_pos q13] at h
      refine wa_iload_n cx (i := 1) dX9_bestDay_111 rfl rfl ?_
      exact wa_iret cx h dX9_bestDay_112
    · rw [if_neg q13] at h
      refine wa_aload_n cx (i := 0) dX9_bestDay_16 rfl rfl ?_
      refine gf_X9_40 cx h_c0 dX9_bestDay_17 ?_
      refine wa_aload_n cx (i := 0) dX9_bestDay_20 rfl rfl ?_
      obtain ⟨b14, h⟩ := ck_some h
      refine gf_X9_26 cx h_c0 dX9_bestDay_21 ?_
      refine wa_iload cx dX9_bestDay_24 rfl ?_
      obtain ⟨x15, S16, e17, h⟩ := bd_some h
      refine wa_callVi cx (m_X0_arrange l cx.2.2.2.2.2.2.1 (kq9_5 cx.2.2.2.2.2.2.1 h_c0) (kd_of cx.2.2.2.2.2.2.1 b14 (by decide)) e17) vl_X9_99 (kq9_5 cx.2.2.2.2.2.2.1 h_c0) (by decide) rfl rfl ⟨_, cell_eq0 (kd_lt (kq9_5 cx.2.2.2.2.2.2.1 h_c0) (by decide)).2⟩ ⟨Nat.le_of_ble_eq_true rfl, Nat.le_of_ble_eq_true rfl⟩ ⟨rfl, rfl⟩ ⟨Nat.zero_le _, Nat.zero_le _⟩ rfl (Nat.le_of_ble_eq_true rfl) dX9_bestDay_26 rfl ?_
      refine wa_istore cx dX9_bestDay_29 [(0, .ref (ad g c0)), (1, .int l1), (2, .long l2), (4, .int l4), (5, .int x15)] (Nat.le_of_ble_eq_true rfl) rfl (lvs_c rfl (lvs_c rfl (lvs_c rfl (lvs_c rfl (lvs_c rfl (lvs_n)))))) ?_
      refine wa_iload cx dX9_bestDay_31 rfl ?_
      refine wa_if_le cx dX9_bestDay_33 44 (by decide) (fun q18 => ?_) (fun q18 => ?_)
      · rw [if_pos q18] at h
        refine wa_sub (lv' := [(0, .ref (ad g c0)), (1, .int l1), (2, .long l2), (4, .int l4)]) (lvs_c rfl (lvs_c rfl (lvs_c rfl (lvs_c rfl (lvs_n))))) ?_
        exact w_X9_bestDay_J44 cx h_c0 ih  l1 l2 l4 S16  h
      · rw [if_neg q18] at h
        refine wa_iload cx dX9_bestDay_36 rfl ?_
        refine wa_if_ne cx dX9_bestDay_38 44 (by decide) (fun q19 => ?_) (fun q19 => ?_)
        · rw [if_neg q19] at h
          refine wa_sub (lv' := [(0, .ref (ad g c0)), (1, .int l1), (2, .long l2), (4, .int l4)]) (lvs_c rfl (lvs_c rfl (lvs_c rfl (lvs_c rfl (lvs_n))))) ?_
          exact w_X9_bestDay_J44 cx h_c0 ih  l1 l2 l4 S16  h
        · rw [if_pos q19] at h
          refine wa_goto cx dX9_bestDay_41 105 (by decide) ?_
          refine wa_iinc cx dX9_bestDay_105 (l4 + (1 : Int32)) [(0, .ref (ad g c0)), (1, .int l1), (2, .long l2), (4, .int (l4 + (1 : Int32)))] rfl rfl (Nat.le_of_ble_eq_true rfl) rfl (lvs_c rfl (lvs_c rfl (lvs_c rfl (lvs_c rfl (lvs_n))))) ?_
          refine wa_goto cx dX9_bestDay_108 9 (by decide) ?_
          refine wa_sub (lv' := [(0, .ref (ad g c0)), (1, .int l1), (2, .long l2), (4, .int (l4 + (1 : Int32)))]) (lvs_c rfl (lvs_c rfl (lvs_c rfl (lvs_c rfl (lvs_n))))) ?_
          exact ih l1 l2 (l4 + (1 : Int32)) S16  h
def f_X9_bestDay (c0 : Nat) (S : St) : Option (Int32 × St) := f_X9_bestDay_L9 FU c0 (0 : Int32) (-1 : Int64) (0 : Int32) S
set_option maxHeartbeats 4000000 in
set_option maxRecDepth 100000 in
theorem m_X9_bestDay (l : Launch) {g : Gl} (hg : GOK g) {c0 : Nat} {S : St} {r : Int32 × St} (h_c0 : kd g c0 = 9) (h : f_X9_bestDay c0 S = some r) : MW l yX9_bestDay cX9_bestDay 8 (some .int) rm_X9_bestDay g S [.ref (ad g c0)] (QWi g r) := by
  refine startW [(0, .ref (ad g c0))] (by decide +kernel) (Nat.le_of_ble_eq_true rfl) rfl hg (fun p e s m args below meth c cx => ?_)
  have cx : Cx p s m args meth c cX9_bestDay 8 (some .int) RX9 g (Ap g) := cx
  rw [f_X9_bestDay] at h
  refine wa_iconst cx dX9_bestDay_0 (0 : Int32) (by decide) ?_
  refine wa_istore_n cx (i := 1) dX9_bestDay_1 [(0, .ref (ad g c0)), (1, .int (0 : Int32))] rfl (Nat.le_of_ble_eq_true rfl) rfl (lvs_c rfl (lvs_c rfl (lvs_n))) ?_
  refine wa_ldc2 cx dX9_bestDay_2 (-1 : Int64) kc_X9_158 ?_
  refine wa_lstore_n cx (i := 2) dX9_bestDay_5 [(0, .ref (ad g c0)), (1, .int (0 : Int32)), (2, .long (-1 : Int64))] rfl (Nat.le_of_ble_eq_true rfl) rfl (lvs_c rfl (lvs_c rfl (lvs_c rfl (lvs_n)))) ?_
  refine wa_iconst cx dX9_bestDay_6 (0 : Int32) (by decide) ?_
  refine wa_istore cx dX9_bestDay_7 [(0, .ref (ad g c0)), (1, .int (0 : Int32)), (2, .long (-1 : Int64)), (4, .int (0 : Int32))] (Nat.le_of_ble_eq_true rfl) rfl (lvs_c rfl (lvs_c rfl (lvs_c rfl (lvs_c rfl (lvs_n))))) ?_
  refine wa_sub (lv' := [(0, .ref (ad g c0)), (1, .int (0 : Int32)), (2, .long (-1 : Int64)), (4, .int (0 : Int32))]) (lvs_c rfl (lvs_c rfl (lvs_c rfl (lvs_c rfl (lvs_n))))) ?_
  exact w_X9_bestDay_L9 cx h_c0  FU (0 : Int32) (-1 : Int64) (0 : Int32) S  h
def rm_X9_extra : Room := { frames := 5, cells := 0, slots := 0, locals := 121 }
def f_X9_extra_L14 : Nat → Nat → Int32 → Int32 → St → Option (Int32 × St)
  | 0, _, _, _, _ => none
  | n + 1, c0, a1, l2, S => if (9 : Int32) < l2 then some ((-4 : Int32), S) else bd (f_X9_setGame c0 S) fun _ S2 => sq (pI S2 (c0 + 47) 4 l2) fun S5 => bd (f_X8_goThrough (c0 + 79) (c0 + 47) (0 : Int32) S5) fun _ S6 => bd (f_X0_allWays (c0 + 25) S6) fun x9 S10 => if ((S6.2.1 (c0 + 79) 0) * (10 : Int64)) < ((Int32.toInt64 a1) * x9) then f_X9_extra_L14 n c0 a1 (l2 + (1 : Int32)) S10 else some (l2, S10)
set_option maxHeartbeats 4000000 in
set_option maxRecDepth 100000 in
theorem w_X9_extra_L14 {p : Program} {l : Launch} {e : Env} {s : State} {m : MethodId} {args : Array Value} {below : List Frame} {meth : Method} {c : Code} {g : Gl} {r : Int32 × St} {c0 : Nat} {a1 : Int32} (cx : Cx p s m args meth c cX9_extra 3 (some .int) RX9 g (Ap g)) (h_c0 : kd g c0 = 9) : ∀ n : Nat, ∀ (l2 : Int32) (S : St), f_X9_extra_L14 n c0 a1 l2 S = some r → WA p l e rm_X9_extra s m args below meth c 0 0 (MQ below (QWi g r) args s 0 0 (Ap g)) 3 g (Ap g) S 14 [(0, .ref (ad g c0)), (1, .int a1), (2, .int l2)] [] := by
  intro n
  induction n with
  | zero => intro l2 S h; rw [f_X9_extra_L14] at h; cases h
  | succ n ih =>
    intro l2 S h
    rw [f_X9_extra_L14] at h
    refine wa_iload_n cx (i := 2) dX9_extra_14 rfl rfl ?_
    refine wa_bipush cx dX9_extra_15 (9 : Int32) (by decide) ?_
    refine wa_icmp_gt cx dX9_extra_17 77 (by decide) (fun q1 => ?_) (fun q1 => ?_)
    · rw [if_pos q1] at h
      refine wa_bipush cx dX9_extra_77 (-4 : Int32) (by decide) ?_
      exact wa_iret cx h dX9_extra_79
    · rw [if_neg q1] at h
      refine wa_aload_n cx (i := 0) dX9_extra_20 rfl rfl ?_
      obtain ⟨u4, S2, e3, h⟩ := bd_some h
      refine wa_callVv cx (m_X9_setGame l cx.2.2.2.2.2.2.1 h_c0 e3) vl_X9_195 h_c0 (by decide) rfl rfl ⟨_, cell_eq9 (kd_lt h_c0 (by decide)).2⟩ ⟨Nat.le_of_ble_eq_true rfl, Nat.le_of_ble_eq_true rfl⟩ ⟨rfl, rfl⟩ ⟨Nat.zero_le _, Nat.zero_le _⟩ rfl (Nat.le_of_ble_eq_true rfl) dX9_extra_21 rfl ?_
      refine wa_aload_n cx (i := 0) dX9_extra_24 rfl rfl ?_
      refine gf_X9_46 cx h_c0 dX9_extra_25 ?_
      refine wa_iload_n cx (i := 2) dX9_extra_28 rfl rfl ?_
      refine pf_X9_254 cx (kq9_6 cx.2.2.2.2.2.2.1 h_c0) dX9_extra_29 ?_
      replace h := sq_eq h
      generalize (pI S2 (c0 + 47) 4 l2) = S5 at h ⊢
      refine wa_aload_n cx (i := 0) dX9_extra_32 rfl rfl ?_
      refine gf_X9_57 cx h_c0 dX9_extra_33 ?_
      refine wa_aload_n cx (i := 0) dX9_extra_36 rfl rfl ?_
      refine gf_X9_46 cx h_c0 dX9_extra_37 ?_
      refine wa_iconst cx dX9_extra_40 (0 : Int32) (by decide) ?_
      obtain ⟨u8, S6, e7, h⟩ := bd_some h
      refine wa_callVv cx (m_X8_goThrough l cx.2.2.2.2.2.2.1 (kq9_8 cx.2.2.2.2.2.2.1 h_c0) (kq9_6 cx.2.2.2.2.2.2.1 h_c0) e7) vl_X9_247 (kq9_8 cx.2.2.2.2.2.2.1 h_c0) (by decide) rfl rfl ⟨_, cell_eq8 (kd_lt (kq9_8 cx.2.2.2.2.2.2.1 h_c0) (by decide)).2⟩ ⟨Nat.le_of_ble_eq_true rfl, Nat.le_of_ble_eq_true rfl⟩ ⟨rfl, rfl⟩ ⟨Nat.zero_le _, Nat.zero_le _⟩ rfl (Nat.le_of_ble_eq_true rfl) dX9_extra_41 rfl ?_
      refine wa_aload_n cx (i := 0) dX9_extra_44 rfl rfl ?_
      refine gf_X9_57 cx h_c0 dX9_extra_45 ?_
      refine gf_X9_164 cx (kq9_8 cx.2.2.2.2.2.2.1 h_c0) dX9_extra_48 ?_
      refine wa_ldc2 cx dX9_extra_51 (10 : Int64) kc_X9_257 ?_
      refine wa_lmul cx dX9_extra_54 ?_
      refine wa_iload_n cx (i := 1) dX9_extra_55 rfl rfl ?_
      refine wa_i2l cx dX9_extra_56 ?_
      refine wa_aload_n cx (i := 0) dX9_extra_57 rfl rfl ?_
      refine gf_X9_36 cx h_c0 dX9_extra_58 ?_
      obtain ⟨x9, S10, e11, h⟩ := bd_some h
      refine wa_callVl cx (m_X0_allWays l cx.2.2.2.2.2.2.1 (kq9_4 cx.2.2.2.2.2.2.1 h_c0) e11) vl_X9_168 (kq9_4 cx.2.2.2.2.2.2.1 h_c0) (by decide) rfl rfl ⟨_, cell_eq0 (kd_lt (kq9_4 cx.2.2.2.2.2.2.1 h_c0) (by decide)).2⟩ ⟨Nat.le_of_ble_eq_true rfl, Nat.le_of_ble_eq_true rfl⟩ ⟨rfl, rfl⟩ ⟨Nat.zero_le _, Nat.zero_le _⟩ rfl (Nat.le_of_ble_eq_true rfl) dX9_extra_61 rfl ?_
      refine wa_lmul cx dX9_extra_64 ?_
      refine wa_lcmp_lt cx dX9_extra_65 dX9_extra_66 71 (by decide) (fun q12 => ?_) (fun q12 => ?_)
      · rw [if_pos q12] at h
        refine wa_iinc cx dX9_extra_71 (l2 + (1 : Int32)) [(0, .ref (ad g c0)), (1, .int a1), (2, .int (l2 + (1 : Int32)))] rfl rfl (Nat.le_of_ble_eq_true rfl) rfl (lvs_c rfl (lvs_c rfl (lvs_c rfl (lvs_n)))) ?_
        refine wa_goto cx dX9_extra_74 14 (by decide) ?_
        refine wa_sub (lv' := [(0, .ref (ad g c0)), (1, .int a1), (2, .int (l2 + (1 : Int32)))]) (lvs_c rfl (lvs_c rfl (lvs_c rfl (lvs_n)))) ?_
        exact ih (l2 + (1 : Int32)) S10  h
      · rw [if_neg q12] at h
        refine wa_iload_n cx (i := 2) dX9_extra_69 rfl rfl ?_
        exact wa_iret cx h dX9_extra_70
def f_X9_extra (c0 : Nat) (a1 : Int32) (S : St) : Option (Int32 × St) := bd (f_X9_isWithin a1 (0 : Int32) (10 : Int32) S) fun x13 S14 => if x13 = 0 then some ((-1 : Int32), S14) else f_X9_extra_L14 FU c0 a1 (0 : Int32) S14
set_option maxHeartbeats 4000000 in
set_option maxRecDepth 100000 in
theorem m_X9_extra (l : Launch) {g : Gl} (hg : GOK g) {c0 : Nat} {a1 : Int32} {S : St} {r : Int32 × St} (h_c0 : kd g c0 = 9) (h : f_X9_extra c0 a1 S = some r) : MW l yX9_extra cX9_extra 3 (some .int) rm_X9_extra g S [.ref (ad g c0), .int a1] (QWi g r) := by
  refine startW [(0, .ref (ad g c0)), (1, .int a1)] (by decide +kernel) (Nat.le_of_ble_eq_true rfl) rfl hg (fun p e s m args below meth c cx => ?_)
  have cx : Cx p s m args meth c cX9_extra 3 (some .int) RX9 g (Ap g) := cx
  rw [f_X9_extra] at h
  refine wa_iload_n cx (i := 1) dX9_extra_0 rfl rfl ?_
  refine wa_iconst cx dX9_extra_1 (0 : Int32) (by decide) ?_
  refine wa_bipush cx dX9_extra_2 (10 : Int32) (by decide) ?_
  obtain ⟨x13, S14, e15, h⟩ := bd_some h
  refine wa_callSi cx (m_X9_isWithin l cx.2.2.2.2.2.2.1  e15) vl_X9_103 ⟨Nat.le_of_ble_eq_true rfl, Nat.le_of_ble_eq_true rfl⟩ ⟨rfl, rfl⟩ ⟨Nat.zero_le _, Nat.zero_le _⟩ rfl (Nat.le_of_ble_eq_true rfl) dX9_extra_4 rfl ?_
  refine wa_if_ne cx dX9_extra_7 12 (by decide) (fun q16 => ?_) (fun q16 => ?_)
  · rw [if_neg q16] at h
    refine wa_iconst cx dX9_extra_12 (0 : Int32) (by decide) ?_
    refine wa_istore_n cx (i := 2) dX9_extra_13 [(0, .ref (ad g c0)), (1, .int a1), (2, .int (0 : Int32))] rfl (Nat.le_of_ble_eq_true rfl) rfl (lvs_c rfl (lvs_c rfl (lvs_c rfl (lvs_n)))) ?_
    refine wa_sub (lv' := [(0, .ref (ad g c0)), (1, .int a1), (2, .int (0 : Int32))]) (lvs_c rfl (lvs_c rfl (lvs_c rfl (lvs_n)))) ?_
    exact w_X9_extra_L14 cx h_c0  FU (0 : Int32) S14  h
  · rw [if_pos q16] at h
    refine wa_iconst cx dX9_extra_10 (-1 : Int32) (by decide) ?_
    exact wa_iret cx h dX9_extra_11
def rm_X9_bestShow : Room := { frames := 5, cells := 0, slots := 0, locals := 121 }
def f_X9_bestShow_L9 : Nat → Nat → Int32 → Int64 → Int32 → St → Option (Int32 × St)
  | 0, _, _, _, _, _ => none
  | n + 1, c0, l1, l2, l4, S => if (2 : Int32) < l4 then some (l1, S) else ck (kdE (S.2.2 c0 2) = 2) (bd (f_X1_set (c0 + 47) (S.2.2 c0 2) (c0 + 25) l4 S) fun _ S3 => bd (f_X8_goThrough (c0 + 79) (c0 + 47) (0 : Int32) S3) fun _ S6 => if (S6.2.1 (c0 + 79) 0) ≤ l2 then f_X9_bestShow_L9 n c0 l1 l2 (l4 + (1 : Int32)) S6 else sq (S6.2.1 (c0 + 79) 0) fun x10 => f_X9_bestShow_L9 n c0 l4 x10 (l4 + (1 : Int32)) S6)
set_option maxHeartbeats 4000000 in
set_option maxRecDepth 100000 in
theorem w_X9_bestShow_L9 {p : Program} {l : Launch} {e : Env} {s : State} {m : MethodId} {args : Array Value} {below : List Frame} {meth : Method} {c : Code} {g : Gl} {r : Int32 × St} {c0 : Nat} (cx : Cx p s m args meth c cX9_bestShow 5 (some .int) RX9 g (Ap g)) (h_c0 : kd g c0 = 9) : ∀ n : Nat, ∀ (l1 : Int32) (l2 : Int64) (l4 : Int32) (S : St), f_X9_bestShow_L9 n c0 l1 l2 l4 S = some r → WA p l e rm_X9_bestShow s m args below meth c 0 0 (MQ below (QWi g r) args s 0 0 (Ap g)) 5 g (Ap g) S 9 [(0, .ref (ad g c0)), (1, .int l1), (2, .long l2), (4, .int l4)] [] := by
  intro n
  induction n with
  | zero => intro l1 l2 l4 S h; rw [f_X9_bestShow_L9] at h; cases h
  | succ n ih =>
    intro l1 l2 l4 S h
    rw [f_X9_bestShow_L9] at h
    refine wa_iload cx dX9_bestShow_9 rfl ?_
    refine wa_iconst cx dX9_bestShow_11 (2 : Int32) (by decide) ?_
    refine wa_icmp_gt cx dX9_bestShow_12 73 (by decide) (fun q1 => ?_) (fun q1 => ?_)
    · rw [if_pos q1] at h
      refine wa_iload_n cx (i := 1) dX9_bestShow_73 rfl rfl ?_
      exact wa_iret cx h dX9_bestShow_74
    · rw [if_neg q1] at h
      refine wa_aload_n cx (i := 0) dX9_bestShow_15 rfl rfl ?_
      refine gf_X9_46 cx h_c0 dX9_bestShow_16 ?_
      refine wa_aload_n cx (i := 0) dX9_bestShow_19 rfl rfl ?_
      obtain ⟨b2, h⟩ := ck_some h
      refine gf_X9_26 cx h_c0 dX9_bestShow_20 ?_
      refine wa_aload_n cx (i := 0) dX9_bestShow_23 rfl rfl ?_
      refine gf_X9_36 cx h_c0 dX9_bestShow_24 ?_
      refine wa_iload cx dX9_bestShow_27 rfl ?_
      obtain ⟨u5, S3, e4, h⟩ := bd_some h
      refine wa_callVv cx (m_X1_set l cx.2.2.2.2.2.2.1 (kq9_6 cx.2.2.2.2.2.2.1 h_c0) (kd_of cx.2.2.2.2.2.2.1 b2 (by decide)) (kq9_4 cx.2.2.2.2.2.2.1 h_c0) e4) vl_X9_243 (kq9_6 cx.2.2.2.2.2.2.1 h_c0) (by decide) rfl rfl ⟨_, cell_eq1 (kd_lt (kq9_6 cx.2.2.2.2.2.2.1 h_c0) (by decide)).2⟩ ⟨Nat.le_of_ble_eq_true rfl, Nat.le_of_ble_eq_true rfl⟩ ⟨rfl, rfl⟩ ⟨Nat.zero_le _, Nat.zero_le _⟩ rfl (Nat.le_of_ble_eq_true rfl) dX9_bestShow_29 rfl ?_
      refine wa_aload_n cx (i := 0) dX9_bestShow_32 rfl rfl ?_
      refine gf_X9_57 cx h_c0 dX9_bestShow_33 ?_
      refine wa_aload_n cx (i := 0) dX9_bestShow_36 rfl rfl ?_
      refine gf_X9_46 cx h_c0 dX9_bestShow_37 ?_
      refine wa_iconst cx dX9_bestShow_40 (0 : Int32) (by decide) ?_
      obtain ⟨u8, S6, e7, h⟩ := bd_some h
      refine wa_callVv cx (m_X8_goThrough l cx.2.2.2.2.2.2.1 (kq9_8 cx.2.2.2.2.2.2.1 h_c0) (kq9_6 cx.2.2.2.2.2.2.1 h_c0) e7) vl_X9_247 (kq9_8 cx.2.2.2.2.2.2.1 h_c0) (by decide) rfl rfl ⟨_, cell_eq8 (kd_lt (kq9_8 cx.2.2.2.2.2.2.1 h_c0) (by decide)).2⟩ ⟨Nat.le_of_ble_eq_true rfl, Nat.le_of_ble_eq_true rfl⟩ ⟨rfl, rfl⟩ ⟨Nat.zero_le _, Nat.zero_le _⟩ rfl (Nat.le_of_ble_eq_true rfl) dX9_bestShow_41 rfl ?_
      refine wa_aload_n cx (i := 0) dX9_bestShow_44 rfl rfl ?_
      refine gf_X9_57 cx h_c0 dX9_bestShow_45 ?_
      refine gf_X9_164 cx (kq9_8 cx.2.2.2.2.2.2.1 h_c0) dX9_bestShow_48 ?_
      refine wa_lload_n cx (i := 2) dX9_bestShow_51 rfl rfl ?_
      refine wa_lcmp_le cx dX9_bestShow_52 dX9_bestShow_53 67 (by decide) (fun q9 => ?_) (fun q9 => ?_)
      · rw [if_pos q9] at h
        refine wa_iinc cx dX9_bestShow_67 (l4 + (1 : Int32)) [(0, .ref (ad g c0)), (1, .int l1), (2, .long l2), (4, .int (l4 + (1 : Int32)))] rfl rfl (Nat.le_of_ble_eq_true rfl) rfl (lvs_c rfl (lvs_c rfl (lvs_c rfl (lvs_c rfl (lvs_n))))) ?_
        refine wa_goto cx dX9_bestShow_70 9 (by decide) ?_
        refine wa_sub (lv' := [(0, .ref (ad g c0)), (1, .int l1), (2, .long l2), (4, .int (l4 + (1 : Int32)))]) (lvs_c rfl (lvs_c rfl (lvs_c rfl (lvs_c rfl (lvs_n))))) ?_
        exact ih l1 l2 (l4 + (1 : Int32)) S6  h
      · rw [if_neg q9] at h
        refine wa_aload_n cx (i := 0) dX9_bestShow_56 rfl rfl ?_
        refine gf_X9_57 cx h_c0 dX9_bestShow_57 ?_
        refine gf_X9_164 cx (kq9_8 cx.2.2.2.2.2.2.1 h_c0) dX9_bestShow_60 ?_
        replace h := sq_eq h
        generalize (S6.2.1 (c0 + 79) 0) = x10 at h ⊢
        refine wa_lstore_n cx (i := 2) dX9_bestShow_63 [(0, .ref (ad g c0)), (2, .long x10), (4, .int l4)] rfl (Nat.le_of_ble_eq_true rfl) rfl (lvs_c rfl (lvs_c rfl (lvs_c rfl (lvs_n)))) ?_
        refine wa_iload cx dX9_bestShow_64 rfl ?_
        refine wa_istore_n cx (i := 1) dX9_bestShow_66 [(0, .ref (ad g c0)), (1, .int l4), (2, .long x10), (4, .int l4)] rfl (Nat.le_of_ble_eq_true rfl) rfl (lvs_c rfl (lvs_c rfl (lvs_c rfl (lvs_c rfl (lvs_n))))) ?_
        refine wa_iinc cx dX9_bestShow_67 (l4 + (1 : Int32)) [(0, .ref (ad g c0)), (1, .int l4), (2, .long x10), (4, .int (l4 + (1 : Int32)))] rfl rfl (Nat.le_of_ble_eq_true rfl) rfl (lvs_c rfl (lvs_c rfl (lvs_c rfl (lvs_c rfl (lvs_n))))) ?_
        refine wa_goto cx dX9_bestShow_70 9 (by decide) ?_
        refine wa_sub (lv' := [(0, .ref (ad g c0)), (1, .int l4), (2, .long x10), (4, .int (l4 + (1 : Int32)))]) (lvs_c rfl (lvs_c rfl (lvs_c rfl (lvs_c rfl (lvs_n))))) ?_
        exact ih l4 x10 (l4 + (1 : Int32)) S6  h
def f_X9_bestShow (c0 : Nat) (S : St) : Option (Int32 × St) := f_X9_bestShow_L9 FU c0 (0 : Int32) (-1 : Int64) (0 : Int32) S
set_option maxHeartbeats 4000000 in
set_option maxRecDepth 100000 in
theorem m_X9_bestShow (l : Launch) {g : Gl} (hg : GOK g) {c0 : Nat} {S : St} {r : Int32 × St} (h_c0 : kd g c0 = 9) (h : f_X9_bestShow c0 S = some r) : MW l yX9_bestShow cX9_bestShow 5 (some .int) rm_X9_bestShow g S [.ref (ad g c0)] (QWi g r) := by
  refine startW [(0, .ref (ad g c0))] (by decide +kernel) (Nat.le_of_ble_eq_true rfl) rfl hg (fun p e s m args below meth c cx => ?_)
  have cx : Cx p s m args meth c cX9_bestShow 5 (some .int) RX9 g (Ap g) := cx
  rw [f_X9_bestShow] at h
  refine wa_iconst cx dX9_bestShow_0 (0 : Int32) (by decide) ?_
  refine wa_istore_n cx (i := 1) dX9_bestShow_1 [(0, .ref (ad g c0)), (1, .int (0 : Int32))] rfl (Nat.le_of_ble_eq_true rfl) rfl (lvs_c rfl (lvs_c rfl (lvs_n))) ?_
  refine wa_ldc2 cx dX9_bestShow_2 (-1 : Int64) kc_X9_158 ?_
  refine wa_lstore_n cx (i := 2) dX9_bestShow_5 [(0, .ref (ad g c0)), (1, .int (0 : Int32)), (2, .long (-1 : Int64))] rfl (Nat.le_of_ble_eq_true rfl) rfl (lvs_c rfl (lvs_c rfl (lvs_c rfl (lvs_n)))) ?_
  refine wa_iconst cx dX9_bestShow_6 (0 : Int32) (by decide) ?_
  refine wa_istore cx dX9_bestShow_7 [(0, .ref (ad g c0)), (1, .int (0 : Int32)), (2, .long (-1 : Int64)), (4, .int (0 : Int32))] (Nat.le_of_ble_eq_true rfl) rfl (lvs_c rfl (lvs_c rfl (lvs_c rfl (lvs_c rfl (lvs_n))))) ?_
  refine wa_sub (lv' := [(0, .ref (ad g c0)), (1, .int (0 : Int32)), (2, .long (-1 : Int64)), (4, .int (0 : Int32))]) (lvs_c rfl (lvs_c rfl (lvs_c rfl (lvs_c rfl (lvs_n))))) ?_
  exact w_X9_bestShow_L9 cx h_c0  FU (0 : Int32) (-1 : Int64) (0 : Int32) S  h
def rm_X9_richWays : Room := { frames := 5, cells := 0, slots := 0, locals := 121 }
def f_X9_richWays (c0 : Nat) (a1 : Int32) (a2 : Int32) (S : St) : Option (Int64 × St) := bd (f_X9_setGame c0 S) fun _ S1 => sq (pI S1 (c0 + 47) 5 a1) fun S4 => sq (pI S4 (c0 + 47) 6 (a2 - (1 : Int32))) fun S5 => bd (f_X8_goThrough (c0 + 79) (c0 + 47) (0 : Int32) S5) fun _ S6 => some ((S6.2.1 (c0 + 79) 0), S6)
set_option maxHeartbeats 4000000 in
set_option maxRecDepth 100000 in
theorem m_X9_richWays (l : Launch) {g : Gl} (hg : GOK g) {c0 : Nat} {a1 : Int32} {a2 : Int32} {S : St} {r : Int64 × St} (h_c0 : kd g c0 = 9) (h : f_X9_richWays c0 a1 a2 S = some r) : MW l yX9_richWays cX9_richWays 3 (some .long) rm_X9_richWays g S [.ref (ad g c0), .int a1, .int a2] (QWl g r) := by
  refine startW [(0, .ref (ad g c0)), (1, .int a1), (2, .int a2)] (by decide +kernel) (Nat.le_of_ble_eq_true rfl) rfl hg (fun p e s m args below meth c cx => ?_)
  have cx : Cx p s m args meth c cX9_richWays 3 (some .long) RX9 g (Ap g) := cx
  rw [f_X9_richWays] at h
  refine wa_aload_n cx (i := 0) dX9_richWays_0 rfl rfl ?_
  obtain ⟨u3, S1, e2, h⟩ := bd_some h
  refine wa_callVv cx (m_X9_setGame l cx.2.2.2.2.2.2.1 h_c0 e2) vl_X9_195 h_c0 (by decide) rfl rfl ⟨_, cell_eq9 (kd_lt h_c0 (by decide)).2⟩ ⟨Nat.le_of_ble_eq_true rfl, Nat.le_of_ble_eq_true rfl⟩ ⟨rfl, rfl⟩ ⟨Nat.zero_le _, Nat.zero_le _⟩ rfl (Nat.le_of_ble_eq_true rfl) dX9_richWays_1 rfl ?_
  refine wa_aload_n cx (i := 0) dX9_richWays_4 rfl rfl ?_
  refine gf_X9_46 cx h_c0 dX9_richWays_5 ?_
  refine wa_iload_n cx (i := 1) dX9_richWays_8 rfl rfl ?_
  refine pf_X9_309 cx (kq9_6 cx.2.2.2.2.2.2.1 h_c0) dX9_richWays_9 ?_
  replace h := sq_eq h
  generalize (pI S1 (c0 + 47) 5 a1) = S4 at h ⊢
  refine wa_aload_n cx (i := 0) dX9_richWays_12 rfl rfl ?_
  refine gf_X9_46 cx h_c0 dX9_richWays_13 ?_
  refine wa_iload_n cx (i := 2) dX9_richWays_16 rfl rfl ?_
  refine wa_iconst cx dX9_richWays_17 (1 : Int32) (by decide) ?_
  refine wa_isub cx dX9_richWays_18 ?_
  refine pf_X9_312 cx (kq9_6 cx.2.2.2.2.2.2.1 h_c0) dX9_richWays_19 ?_
  replace h := sq_eq h
  generalize (pI S4 (c0 + 47) 6 (a2 - (1 : Int32))) = S5 at h ⊢
  refine wa_aload_n cx (i := 0) dX9_richWays_22 rfl rfl ?_
  refine gf_X9_57 cx h_c0 dX9_richWays_23 ?_
  refine wa_aload_n cx (i := 0) dX9_richWays_26 rfl rfl ?_
  refine gf_X9_46 cx h_c0 dX9_richWays_27 ?_
  refine wa_iconst cx dX9_richWays_30 (0 : Int32) (by decide) ?_
  obtain ⟨u8, S6, e7, h⟩ := bd_some h
  refine wa_callVv cx (m_X8_goThrough l cx.2.2.2.2.2.2.1 (kq9_8 cx.2.2.2.2.2.2.1 h_c0) (kq9_6 cx.2.2.2.2.2.2.1 h_c0) e7) vl_X9_247 (kq9_8 cx.2.2.2.2.2.2.1 h_c0) (by decide) rfl rfl ⟨_, cell_eq8 (kd_lt (kq9_8 cx.2.2.2.2.2.2.1 h_c0) (by decide)).2⟩ ⟨Nat.le_of_ble_eq_true rfl, Nat.le_of_ble_eq_true rfl⟩ ⟨rfl, rfl⟩ ⟨Nat.zero_le _, Nat.zero_le _⟩ rfl (Nat.le_of_ble_eq_true rfl) dX9_richWays_31 rfl ?_
  refine wa_aload_n cx (i := 0) dX9_richWays_34 rfl rfl ?_
  refine gf_X9_57 cx h_c0 dX9_richWays_35 ?_
  refine gf_X9_164 cx (kq9_8 cx.2.2.2.2.2.2.1 h_c0) dX9_richWays_38 ?_
  exact wa_lret cx h dX9_richWays_41
def rm_X9_rich : Room := { frames := 6, cells := 0, slots := 0, locals := 143 }
def f_X9_rich (c0 : Nat) (a1 : Int32) (a2 : Int32) (S : St) : Option (Int64 × St) := bd (f_X9_isWithin a1 (0 : Int32) (99 : Int32) S) fun x1 S2 => if x1 = 0 then some ((-1 : Int64), S2) else ck (kdE (S2.2.2 c0 2) = 2) (bd (f_X9_isWithin a2 (0 : Int32) (S2.1 (S2.2.2 c0 2) 2) S2) fun x6 S7 => if x6 = 0 then some ((-1 : Int64), S7) else bd (f_X0_comeBy (c0 + 25) a2 S7) fun x10 S11 => bd (f_X9_richWays c0 a1 x10 S11) fun x13 S14 => some (x13, S14))
set_option maxHeartbeats 4000000 in
set_option maxRecDepth 100000 in
theorem m_X9_rich (l : Launch) {g : Gl} (hg : GOK g) {c0 : Nat} {a1 : Int32} {a2 : Int32} {S : St} {r : Int64 × St} (h_c0 : kd g c0 = 9) (h : f_X9_rich c0 a1 a2 S = some r) : MW l yX9_rich cX9_rich 3 (some .long) rm_X9_rich g S [.ref (ad g c0), .int a1, .int a2] (QWl g r) := by
  refine startW [(0, .ref (ad g c0)), (1, .int a1), (2, .int a2)] (by decide +kernel) (Nat.le_of_ble_eq_true rfl) rfl hg (fun p e s m args below meth c cx => ?_)
  have cx : Cx p s m args meth c cX9_rich 3 (some .long) RX9 g (Ap g) := cx
  rw [f_X9_rich] at h
  refine wa_iload_n cx (i := 1) dX9_rich_0 rfl rfl ?_
  refine wa_iconst cx dX9_rich_1 (0 : Int32) (by decide) ?_
  refine wa_bipush cx dX9_rich_2 (99 : Int32) (by decide) ?_
  obtain ⟨x1, S2, e3, h⟩ := bd_some h
  refine wa_callSi cx (m_X9_isWithin l cx.2.2.2.2.2.2.1  e3) vl_X9_103 ⟨Nat.le_of_ble_eq_true rfl, Nat.le_of_ble_eq_true rfl⟩ ⟨rfl, rfl⟩ ⟨Nat.zero_le _, Nat.zero_le _⟩ rfl (Nat.le_of_ble_eq_true rfl) dX9_rich_4 rfl ?_
  refine wa_if_eq cx dX9_rich_7 25 (by decide) (fun q4 => ?_) (fun q4 => ?_)
  · rw [if_pos q4] at h
    refine wa_ldc2 cx dX9_rich_25 (-1 : Int64) kc_X9_158 ?_
    exact wa_lret cx h dX9_rich_28
  · rw [if_neg q4] at h
    refine wa_iload_n cx (i := 2) dX9_rich_10 rfl rfl ?_
    refine wa_iconst cx dX9_rich_11 (0 : Int32) (by decide) ?_
    refine wa_aload_n cx (i := 0) dX9_rich_12 rfl rfl ?_
    obtain ⟨b5, h⟩ := ck_some h
    refine gf_X9_26 cx h_c0 dX9_rich_13 ?_
    refine gf_X9_95 cx (kd_of cx.2.2.2.2.2.2.1 b5 (by decide)) dX9_rich_16 ?_
    obtain ⟨x6, S7, e8, h⟩ := bd_some h
    refine wa_callSi cx (m_X9_isWithin l cx.2.2.2.2.2.2.1  e8) vl_X9_103 ⟨Nat.le_of_ble_eq_true rfl, Nat.le_of_ble_eq_true rfl⟩ ⟨rfl, rfl⟩ ⟨Nat.zero_le _, Nat.zero_le _⟩ rfl (Nat.le_of_ble_eq_true rfl) dX9_rich_19 rfl ?_
    refine wa_if_ne cx dX9_rich_22 29 (by decide) (fun q9 => ?_) (fun q9 => ?_)
    · rw [if_neg q9] at h
      refine wa_aload_n cx (i := 0) dX9_rich_29 rfl rfl ?_
      refine wa_iload_n cx (i := 1) dX9_rich_30 rfl rfl ?_
      refine wa_aload_n cx (i := 0) dX9_rich_31 rfl rfl ?_
      refine gf_X9_36 cx h_c0 dX9_rich_32 ?_
      refine wa_iload_n cx (i := 2) dX9_rich_35 rfl rfl ?_
      obtain ⟨x10, S11, e12, h⟩ := bd_some h
      refine wa_callVi cx (m_X0_comeBy l cx.2.2.2.2.2.2.1 (kq9_4 cx.2.2.2.2.2.2.1 h_c0) e12) vl_X9_259 (kq9_4 cx.2.2.2.2.2.2.1 h_c0) (by decide) rfl rfl ⟨_, cell_eq0 (kd_lt (kq9_4 cx.2.2.2.2.2.2.1 h_c0) (by decide)).2⟩ ⟨Nat.le_of_ble_eq_true rfl, Nat.le_of_ble_eq_true rfl⟩ ⟨rfl, rfl⟩ ⟨Nat.zero_le _, Nat.zero_le _⟩ rfl (Nat.le_of_ble_eq_true rfl) dX9_rich_36 rfl ?_
      obtain ⟨x13, S14, e15, h⟩ := bd_some h
      refine wa_callVl cx (m_X9_richWays l cx.2.2.2.2.2.2.1 h_c0 e15) vl_X9_262 h_c0 (by decide) rfl rfl ⟨_, cell_eq9 (kd_lt h_c0 (by decide)).2⟩ ⟨Nat.le_of_ble_eq_true rfl, Nat.le_of_ble_eq_true rfl⟩ ⟨rfl, rfl⟩ ⟨Nat.zero_le _, Nat.zero_le _⟩ rfl (Nat.le_of_ble_eq_true rfl) dX9_rich_39 rfl ?_
      exact wa_lret cx h dX9_rich_42
    · rw [if_pos q9] at h
      refine wa_ldc2 cx dX9_rich_25 (-1 : Int64) kc_X9_158 ?_
      exact wa_lret cx h dX9_rich_28
def rm_X9_richDay : Room := { frames := 6, cells := 0, slots := 0, locals := 143 }
def f_X9_richDay_L24 : Nat → Nat → Int32 → Int32 → Int64 → Int32 → Int32 → St → Option (Int32 × St)
  | 0, _, _, _, _, _, _, _ => none
  | n + 1, c0, a1, l2, l3, l5, l6, S => ck (kdE (S.2.2 c0 2) = 2) (if (S.1 (S.2.2 c0 2) 2) < l6 then some (l2, S) else bd (f_X0_comeBy (c0 + 25) l6 S) fun x3 S4 => if x3 = l5 then f_X9_richDay_L24 n c0 a1 l2 l3 l5 (l6 + (1 : Int32)) S4 else bd (f_X9_richWays c0 a1 x3 S4) fun x7 S8 => if x7 ≤ l3 then f_X9_richDay_L24 n c0 a1 l2 l3 x3 (l6 + (1 : Int32)) S8 else f_X9_richDay_L24 n c0 a1 l6 x7 x3 (l6 + (1 : Int32)) S8)
set_option maxHeartbeats 4000000 in
set_option maxRecDepth 100000 in
theorem w_X9_richDay_L24 {p : Program} {l : Launch} {e : Env} {s : State} {m : MethodId} {args : Array Value} {below : List Frame} {meth : Method} {c : Code} {g : Gl} {r : Int32 × St} {c0 : Nat} {a1 : Int32} (cx : Cx p s m args meth c cX9_richDay 10 (some .int) RX9 g (Ap g)) (h_c0 : kd g c0 = 9) : ∀ n : Nat, ∀ (l2 : Int32) (l3 : Int64) (l5 : Int32) (l6 : Int32) (S : St), f_X9_richDay_L24 n c0 a1 l2 l3 l5 l6 S = some r → WA p l e rm_X9_richDay s m args below meth c 0 0 (MQ below (QWi g r) args s 0 0 (Ap g)) 10 g (Ap g) S 24 [(0, .ref (ad g c0)), (1, .int a1), (2, .int l2), (3, .long l3), (5, .int l5), (6, .int l6)] [] := by
  intro n
  induction n with
  | zero => intro l2 l3 l5 l6 S h; rw [f_X9_richDay_L24] at h; cases h
  | succ n ih =>
    intro l2 l3 l5 l6 S h
    rw [f_X9_richDay_L24] at h
    refine wa_iload cx dX9_richDay_24 rfl ?_
    refine wa_aload_n cx (i := 0) dX9_richDay_26 rfl rfl ?_
    obtain ⟨b1, h⟩ := ck_some h
    refine gf_X9_26 cx h_c0 dX9_richDay_27 ?_
    refine gf_X9_95 cx (kd_of cx.2.2.2.2.2.2.1 b1 (by decide)) dX9_richDay_30 ?_
    refine wa_icmp_gt cx dX9_richDay_33 89 (by decide) (fun q2 => ?_) (fun q2 => ?_)
    · rw [if_pos q2] at h
      refine wa_iload_n cx (i := 2) dX9_richDay_89 rfl rfl ?_
      exact wa_iret cx h dX9_richDay_90
    · rw [if_neg q2] at h
      refine wa_aload_n cx (i := 0) dX9_richDay_36 rfl rfl ?_
      refine gf_X9_36 cx h_c0 dX9_richDay_37 ?_
      refine wa_iload cx dX9_richDay_40 rfl ?_
      obtain ⟨x3, S4, e5, h⟩ := bd_some h
      refine wa_callVi cx (m_X0_comeBy l cx.2.2.2.2.2.2.1 (kq9_4 cx.2.2.2.2.2.2.1 h_c0) e5) vl_X9_259 (kq9_4 cx.2.2.2.2.2.2.1 h_c0) (by decide) rfl rfl ⟨_, cell_eq0 (kd_lt (kq9_4 cx.2.2.2.2.2.2.1 h_c0) (by decide)).2⟩ ⟨Nat.le_of_ble_eq_true rfl, Nat.le_of_ble_eq_true rfl⟩ ⟨rfl, rfl⟩ ⟨Nat.zero_le _, Nat.zero_le _⟩ rfl (Nat.le_of_ble_eq_true rfl) dX9_richDay_42 rfl ?_
      refine wa_istore cx dX9_richDay_45 [(0, .ref (ad g c0)), (1, .int a1), (2, .int l2), (3, .long l3), (5, .int l5), (6, .int l6), (7, .int x3)] (Nat.le_of_ble_eq_true rfl) rfl (lvs_c rfl (lvs_c rfl (lvs_c rfl (lvs_c rfl (lvs_c rfl (lvs_c rfl (lvs_c rfl (lvs_n)))))))) ?_
      refine wa_iload cx dX9_richDay_47 rfl ?_
      refine wa_iload cx dX9_richDay_49 rfl ?_
      refine wa_icmp_ne cx dX9_richDay_51 57 (by decide) (fun q6 => ?_) (fun q6 => ?_)
      · rw [if_neg q6] at h
        refine wa_iload cx dX9_richDay_57 rfl ?_
        refine wa_istore cx dX9_richDay_59 [(0, .ref (ad g c0)), (1, .int a1), (2, .int l2), (3, .long l3), (5, .int x3), (6, .int l6), (7, .int x3)] (Nat.le_of_ble_eq_true rfl) rfl (lvs_c rfl (lvs_c rfl (lvs_c rfl (lvs_c rfl (lvs_c rfl (lvs_c rfl (lvs_c rfl (lvs_n)))))))) ?_
        refine wa_aload_n cx (i := 0) dX9_richDay_61 rfl rfl ?_
        refine wa_iload_n cx (i := 1) dX9_richDay_62 rfl rfl ?_
        refine wa_iload cx dX9_richDay_63 rfl ?_
        obtain ⟨x7, S8, e9, h⟩ := bd_some h
        refine wa_callVl cx (m_X9_richWays l cx.2.2.2.2.2.2.1 h_c0 e9) vl_X9_262 h_c0 (by decide) rfl rfl ⟨_, cell_eq9 (kd_lt h_c0 (by decide)).2⟩ ⟨Nat.le_of_ble_eq_true rfl, Nat.le_of_ble_eq_true rfl⟩ ⟨rfl, rfl⟩ ⟨Nat.zero_le _, Nat.zero_le _⟩ rfl (Nat.le_of_ble_eq_true rfl) dX9_richDay_65 rfl ?_
        refine wa_lstore cx dX9_richDay_68 [(0, .ref (ad g c0)), (1, .int a1), (2, .int l2), (3, .long l3), (5, .int x3), (6, .int l6), (8, .long x7)] (Nat.le_of_ble_eq_true rfl) rfl (lvs_c rfl (lvs_c rfl (lvs_c rfl (lvs_c rfl (lvs_c rfl (lvs_c rfl (lvs_c rfl (lvs_n)))))))) ?_
        refine wa_lload cx dX9_richDay_70 rfl ?_
        refine wa_lload_n cx (i := 3) dX9_richDay_72 rfl rfl ?_
        refine wa_lcmp_le cx dX9_richDay_73 dX9_richDay_74 83 (by decide) (fun q10 => ?_) (fun q10 => ?_)
        · rw [if_pos q10] at h
          refine wa_iinc cx dX9_richDay_83 (l6 + (1 : Int32)) [(0, .ref (ad g c0)), (1, .int a1), (2, .int l2), (3, .long l3), (5, .int x3), (6, .int (l6 + (1 : Int32)))] rfl rfl (Nat.le_of_ble_eq_true rfl) rfl (lvs_c rfl (lvs_c rfl (lvs_c rfl (lvs_c rfl (lvs_c rfl (lvs_c rfl (lvs_n))))))) ?_
          refine wa_goto cx dX9_richDay_86 24 (by decide) ?_
          refine wa_sub (lv' := [(0, .ref (ad g c0)), (1, .int a1), (2, .int l2), (3, .long l3), (5, .int x3), (6, .int (l6 + (1 : Int32)))]) (lvs_c rfl (lvs_c rfl (lvs_c rfl (lvs_c rfl (lvs_c rfl (lvs_c rfl (lvs_n))))))) ?_
          exact ih l2 l3 x3 (l6 + (1 : Int32)) S8  h
        · rw [if_neg q10] at h
          refine wa_lload cx dX9_richDay_77 rfl ?_
          refine wa_lstore_n cx (i := 3) dX9_richDay_79 [(0, .ref (ad g c0)), (1, .int a1), (3, .long x7), (5, .int x3), (6, .int l6)] rfl (Nat.le_of_ble_eq_true rfl) rfl (lvs_c rfl (lvs_c rfl (lvs_c rfl (lvs_c rfl (lvs_c rfl (lvs_n)))))) ?_
          refine wa_iload cx dX9_richDay_80 rfl ?_
          refine wa_istore_n cx (i := 2) dX9_richDay_82 [(0, .ref (ad g c0)), (1, .int a1), (2, .int l6), (3, .long x7), (5, .int x3), (6, .int l6)] rfl (Nat.le_of_ble_eq_true rfl) rfl (lvs_c rfl (lvs_c rfl (lvs_c rfl (lvs_c rfl (lvs_c rfl (lvs_c rfl (lvs_n))))))) ?_
          refine wa_iinc cx dX9_richDay_83 (l6 + (1 : Int32)) [(0, .ref (ad g c0)), (1, .int a1), (2, .int l6), (3, .long x7), (5, .int x3), (6, .int (l6 + (1 : Int32)))] rfl rfl (Nat.le_of_ble_eq_true rfl) rfl (lvs_c rfl (lvs_c rfl (lvs_c rfl (lvs_c rfl (lvs_c rfl (lvs_c rfl (lvs_n))))))) ?_
          refine wa_goto cx dX9_richDay_86 24 (by decide) ?_
          refine wa_sub (lv' := [(0, .ref (ad g c0)), (1, .int a1), (2, .int l6), (3, .long x7), (5, .int x3), (6, .int (l6 + (1 : Int32)))]) (lvs_c rfl (lvs_c rfl (lvs_c rfl (lvs_c rfl (lvs_c rfl (lvs_c rfl (lvs_n))))))) ?_
          exact ih l6 x7 x3 (l6 + (1 : Int32)) S8  h
      · rw [if_pos q6] at h
        refine wa_goto cx dX9_richDay_54 83 (by decide) ?_
        refine wa_iinc cx dX9_richDay_83 (l6 + (1 : Int32)) [(0, .ref (ad g c0)), (1, .int a1), (2, .int l2), (3, .long l3), (5, .int l5), (6, .int (l6 + (1 : Int32)))] rfl rfl (Nat.le_of_ble_eq_true rfl) rfl (lvs_c rfl (lvs_c rfl (lvs_c rfl (lvs_c rfl (lvs_c rfl (lvs_c rfl (lvs_n))))))) ?_
        refine wa_goto cx dX9_richDay_86 24 (by decide) ?_
        refine wa_sub (lv' := [(0, .ref (ad g c0)), (1, .int a1), (2, .int l2), (3, .long l3), (5, .int l5), (6, .int (l6 + (1 : Int32)))]) (lvs_c rfl (lvs_c rfl (lvs_c rfl (lvs_c rfl (lvs_c rfl (lvs_c rfl (lvs_n))))))) ?_
        exact ih l2 l3 l5 (l6 + (1 : Int32)) S4  h
def f_X9_richDay (c0 : Nat) (a1 : Int32) (S : St) : Option (Int32 × St) := bd (f_X9_isWithin a1 (0 : Int32) (99 : Int32) S) fun x11 S12 => if x11 = 0 then some ((-1 : Int32), S12) else f_X9_richDay_L24 FU c0 a1 (0 : Int32) (-1 : Int64) (-1 : Int32) (0 : Int32) S12
set_option maxHeartbeats 4000000 in
set_option maxRecDepth 100000 in
theorem m_X9_richDay (l : Launch) {g : Gl} (hg : GOK g) {c0 : Nat} {a1 : Int32} {S : St} {r : Int32 × St} (h_c0 : kd g c0 = 9) (h : f_X9_richDay c0 a1 S = some r) : MW l yX9_richDay cX9_richDay 10 (some .int) rm_X9_richDay g S [.ref (ad g c0), .int a1] (QWi g r) := by
  refine startW [(0, .ref (ad g c0)), (1, .int a1)] (by decide +kernel) (Nat.le_of_ble_eq_true rfl) rfl hg (fun p e s m args below meth c cx => ?_)
  have cx : Cx p s m args meth c cX9_richDay 10 (some .int) RX9 g (Ap g) := cx
  rw [f_X9_richDay] at h
  refine wa_iload_n cx (i := 1) dX9_richDay_0 rfl rfl ?_
  refine wa_iconst cx dX9_richDay_1 (0 : Int32) (by decide) ?_
  refine wa_bipush cx dX9_richDay_2 (99 : Int32) (by decide) ?_
  obtain ⟨x11, S12, e13, h⟩ := bd_some h
  refine wa_callSi cx (m_X9_isWithin l cx.2.2.2.2.2.2.1  e13) vl_X9_103 ⟨Nat.le_of_ble_eq_true rfl, Nat.le_of_ble_eq_true rfl⟩ ⟨rfl, rfl⟩ ⟨Nat.zero_le _, Nat.zero_le _⟩ rfl (Nat.le_of_ble_eq_true rfl) dX9_richDay_4 rfl ?_
  refine wa_if_ne cx dX9_richDay_7 12 (by decide) (fun q14 => ?_) (fun q14 => ?_)
  · rw [if_neg q14] at h
    refine wa_iconst cx dX9_richDay_12 (0 : Int32) (by decide) ?_
    refine wa_istore_n cx (i := 2) dX9_richDay_13 [(0, .ref (ad g c0)), (1, .int a1), (2, .int (0 : Int32))] rfl (Nat.le_of_ble_eq_true rfl) rfl (lvs_c rfl (lvs_c rfl (lvs_c rfl (lvs_n)))) ?_
    refine wa_ldc2 cx dX9_richDay_14 (-1 : Int64) kc_X9_158 ?_
    refine wa_lstore_n cx (i := 3) dX9_richDay_17 [(0, .ref (ad g c0)), (1, .int a1), (2, .int (0 : Int32)), (3, .long (-1 : Int64))] rfl (Nat.le_of_ble_eq_true rfl) rfl (lvs_c rfl (lvs_c rfl (lvs_c rfl (lvs_c rfl (lvs_n))))) ?_
    refine wa_iconst cx dX9_richDay_18 (-1 : Int32) (by decide) ?_
    refine wa_istore cx dX9_richDay_19 [(0, .ref (ad g c0)), (1, .int a1), (2, .int (0 : Int32)), (3, .long (-1 : Int64)), (5, .int (-1 : Int32))] (Nat.le_of_ble_eq_true rfl) rfl (lvs_c rfl (lvs_c rfl (lvs_c rfl (lvs_c rfl (lvs_c rfl (lvs_n)))))) ?_
    refine wa_iconst cx dX9_richDay_21 (0 : Int32) (by decide) ?_
    refine wa_istore cx dX9_richDay_22 [(0, .ref (ad g c0)), (1, .int a1), (2, .int (0 : Int32)), (3, .long (-1 : Int64)), (5, .int (-1 : Int32)), (6, .int (0 : Int32))] (Nat.le_of_ble_eq_true rfl) rfl (lvs_c rfl (lvs_c rfl (lvs_c rfl (lvs_c rfl (lvs_c rfl (lvs_c rfl (lvs_n))))))) ?_
    refine wa_sub (lv' := [(0, .ref (ad g c0)), (1, .int a1), (2, .int (0 : Int32)), (3, .long (-1 : Int64)), (5, .int (-1 : Int32)), (6, .int (0 : Int32))]) (lvs_c rfl (lvs_c rfl (lvs_c rfl (lvs_c rfl (lvs_c rfl (lvs_c rfl (lvs_n))))))) ?_
    exact w_X9_richDay_L24 cx h_c0  FU (0 : Int32) (-1 : Int64) (-1 : Int32) (0 : Int32) S12  h
  · rw [if_pos q14] at h
    refine wa_iconst cx dX9_richDay_10 (-1 : Int32) (by decide) ?_
    exact wa_iret cx h dX9_richDay_11
def rm_X9_two : Room := { frames := 6, cells := 0, slots := 0, locals := 141 }
def f_X9_two (c0 : Nat) (a1 : Int32) (S : St) : Option (Int64 × St) := bd (f_X9_isWithin a1 (0 : Int32) (2 : Int32) S) fun x1 S2 => if x1 = 0 then some ((-1 : Int64), S2) else ck (kdE (S2.2.2 c0 2) = 2) (if (S2.1 (S2.2.2 c0 2) 7) = 0 then some ((-2 : Int64), S2) else bd (f_X9_waysAsTheyStand c0 S2) fun x7 S8 => ck (kdE x7 = 8) (if a1 = 0 then some ((S8.2.1 x7 0), S8) else if a1 = (1 : Int32) then some ((S8.2.1 x7 3), S8) else some ((S8.2.1 x7 4), S8)))
set_option maxHeartbeats 4000000 in
set_option maxRecDepth 100000 in
theorem m_X9_two (l : Launch) {g : Gl} (hg : GOK g) {c0 : Nat} {a1 : Int32} {S : St} {r : Int64 × St} (h_c0 : kd g c0 = 9) (h : f_X9_two c0 a1 S = some r) : MW l yX9_two cX9_two 3 (some .long) rm_X9_two g S [.ref (ad g c0), .int a1] (QWl g r) := by
  refine startW [(0, .ref (ad g c0)), (1, .int a1)] (by decide +kernel) (Nat.le_of_ble_eq_true rfl) rfl hg (fun p e s m args below meth c cx => ?_)
  have cx : Cx p s m args meth c cX9_two 3 (some .long) RX9 g (Ap g) := cx
  rw [f_X9_two] at h
  refine wa_iload_n cx (i := 1) dX9_two_0 rfl rfl ?_
  refine wa_iconst cx dX9_two_1 (0 : Int32) (by decide) ?_
  refine wa_iconst cx dX9_two_2 (2 : Int32) (by decide) ?_
  obtain ⟨x1, S2, e3, h⟩ := bd_some h
  refine wa_callSi cx (m_X9_isWithin l cx.2.2.2.2.2.2.1  e3) vl_X9_103 ⟨Nat.le_of_ble_eq_true rfl, Nat.le_of_ble_eq_true rfl⟩ ⟨rfl, rfl⟩ ⟨Nat.zero_le _, Nat.zero_le _⟩ rfl (Nat.le_of_ble_eq_true rfl) dX9_two_3 rfl ?_
  refine wa_if_ne cx dX9_two_6 13 (by decide) (fun q4 => ?_) (fun q4 => ?_)
  · rw [if_neg q4] at h
    refine wa_aload_n cx (i := 0) dX9_two_13 rfl rfl ?_
    obtain ⟨b5, h⟩ := ck_some h
    refine gf_X9_26 cx h_c0 dX9_two_14 ?_
    refine gf_X9_266 cx (kd_of cx.2.2.2.2.2.2.1 b5 (by decide)) dX9_two_17 ?_
    refine wa_if_ne cx dX9_two_20 27 (by decide) (fun q6 => ?_) (fun q6 => ?_)
    · rw [if_neg q6] at h
      refine wa_aload_n cx (i := 0) dX9_two_27 rfl rfl ?_
      obtain ⟨x7, S8, e9, h⟩ := bd_some h
      refine wa_callVr cx (m_X9_waysAsTheyStand l cx.2.2.2.2.2.2.1 h_c0 e9) vl_X9_160 h_c0 (by decide) rfl rfl ⟨_, cell_eq9 (kd_lt h_c0 (by decide)).2⟩ ⟨Nat.le_of_ble_eq_true rfl, Nat.le_of_ble_eq_true rfl⟩ ⟨rfl, rfl⟩ ⟨Nat.zero_le _, Nat.zero_le _⟩ rfl (Nat.le_of_ble_eq_true rfl) dX9_two_28 rfl ?_
      obtain ⟨b10, h⟩ := ck_some h
      refine wa_astore_n cx (i := 2) dX9_two_31 [(1, .int a1), (2, .ref (ad g x7))] rfl (Nat.le_of_ble_eq_true rfl) rfl (lvs_c rfl (lvs_c rfl (lvs_n))) ?_
      refine wa_iload_n cx (i := 1) dX9_two_32 rfl rfl ?_
      refine wa_if_ne cx dX9_two_33 41 (by decide) (fun q11 => ?_) (fun q11 => ?_)
      · rw [if_neg q11] at h
        refine wa_iload_n cx (i := 1) dX9_two_41 rfl rfl ?_
        refine wa_iconst cx dX9_two_42 (1 : Int32) (by decide) ?_
        refine wa_icmp_ne cx dX9_two_43 53 (by decide) (fun q12 => ?_) (fun q12 => ?_)
        · rw [if_neg q12] at h
          refine wa_aload_n cx (i := 2) dX9_two_53 rfl rfl ?_
          refine gf_X9_274 cx (kd_of cx.2.2.2.2.2.2.1 b10 (by decide)) dX9_two_54 ?_
          exact wa_lret cx h dX9_two_57
        · rw [if_pos q12] at h
          refine wa_aload_n cx (i := 2) dX9_two_46 rfl rfl ?_
          refine gf_X9_271 cx (kd_of cx.2.2.2.2.2.2.1 b10 (by decide)) dX9_two_47 ?_
          refine wa_goto cx dX9_two_50 57 (by decide) ?_
          exact wa_lret cx h dX9_two_57
      · rw [if_pos q11] at h
        refine wa_aload_n cx (i := 2) dX9_two_36 rfl rfl ?_
        refine gf_X9_164 cx (kd_of cx.2.2.2.2.2.2.1 b10 (by decide)) dX9_two_37 ?_
        exact wa_lret cx h dX9_two_40
    · rw [if_pos q6] at h
      refine wa_ldc2 cx dX9_two_23 (-2 : Int64) kc_X9_269 ?_
      exact wa_lret cx h dX9_two_26
  · rw [if_pos q4] at h
    refine wa_ldc2 cx dX9_two_9 (-1 : Int64) kc_X9_158 ?_
    exact wa_lret cx h dX9_two_12
def rm_X9_drawnWorth : Room := { frames := 1, cells := 0, slots := 0, locals := 24 }
def f_X9_drawnWorth (c0 : Nat) (a1 : Int32) (a2 : Int32) (S : St) : Option (Int32 × St) := ob a2 8 (sq ((((7919 : Int64) * (Int32.toInt64 a1)) + ((6151 : Int64) * (Int32.toInt64 (S.1 ((c0 + 25) + 1) (Int32.toNatClampNeg a2))))) + (1 : Int64)) fun x2 => bd (f_X0_worthBy (c0 + 25) a2 (Int64.toInt32 (((x2 * x2) - (x2 * x2) / (65521 : Int64) * (65521 : Int64)) - ((x2 * x2) - (x2 * x2) / (65521 : Int64) * (65521 : Int64)) / (10 : Int64) * (10 : Int64))) S) fun x3 S4 => some (x3, S4))
set_option maxHeartbeats 4000000 in
set_option maxRecDepth 100000 in
theorem m_X9_drawnWorth (l : Launch) {g : Gl} (hg : GOK g) {c0 : Nat} {a1 : Int32} {a2 : Int32} {S : St} {r : Int32 × St} (h_c0 : kd g c0 = 9) (h : f_X9_drawnWorth c0 a1 a2 S = some r) : MW l yX9_drawnWorth cX9_drawnWorth 5 (some .int) rm_X9_drawnWorth g S [.ref (ad g c0), .int a1, .int a2] (QWi g r) := by
  refine startW [(0, .ref (ad g c0)), (1, .int a1), (2, .int a2)] (by decide +kernel) (Nat.le_of_ble_eq_true rfl) rfl hg (fun p e s m args below meth c cx => ?_)
  have cx : Cx p s m args meth c cX9_drawnWorth 5 (some .int) RX9 g (Ap g) := cx
  rw [f_X9_drawnWorth] at h
  refine wa_ldc2 cx dX9_drawnWorth_0 (7919 : Int64) kc_X9_319 ?_
  refine wa_iload_n cx (i := 1) dX9_drawnWorth_3 rfl rfl ?_
  refine wa_i2l cx dX9_drawnWorth_4 ?_
  refine wa_lmul cx dX9_drawnWorth_5 ?_
  refine wa_ldc2 cx dX9_drawnWorth_6 (6151 : Int64) kc_X9_321 ?_
  refine wa_aload_n cx (i := 0) dX9_drawnWorth_9 rfl rfl ?_
  refine gf_X9_36 cx h_c0 dX9_drawnWorth_10 ?_
  refine gf_X9_199 cx (kq9_4 cx.2.2.2.2.2.2.1 h_c0) dX9_drawnWorth_13 ?_
  refine wa_iload_n cx (i := 2) dX9_drawnWorth_16 rfl rfl ?_
  obtain ⟨b1, h⟩ := ob_some h
  refine wa_iald cx dX9_drawnWorth_17 (kq0_1 cx.2.2.2.2.2.2.1 (kq9_4 cx.2.2.2.2.2.2.1 h_c0)) b1 ?_
  refine wa_i2l cx dX9_drawnWorth_18 ?_
  refine wa_lmul cx dX9_drawnWorth_19 ?_
  refine wa_ladd cx dX9_drawnWorth_20 ?_
  refine wa_lconst cx dX9_drawnWorth_21 (1 : Int64) (by decide) ?_
  refine wa_ladd cx dX9_drawnWorth_22 ?_
  replace h := sq_eq h
  generalize ((((7919 : Int64) * (Int32.toInt64 a1)) + ((6151 : Int64) * (Int32.toInt64 (S.1 ((c0 + 25) + 1) (Int32.toNatClampNeg a2))))) + (1 : Int64)) = x2 at h ⊢
  refine wa_lstore_n cx (i := 3) dX9_drawnWorth_23 [(0, .ref (ad g c0)), (2, .int a2), (3, .long x2)] rfl (Nat.le_of_ble_eq_true rfl) rfl (lvs_c rfl (lvs_c rfl (lvs_c rfl (lvs_n)))) ?_
  refine wa_aload_n cx (i := 0) dX9_drawnWorth_24 rfl rfl ?_
  refine gf_X9_36 cx h_c0 dX9_drawnWorth_25 ?_
  refine wa_iload_n cx (i := 2) dX9_drawnWorth_28 rfl rfl ?_
  refine wa_lload_n cx (i := 3) dX9_drawnWorth_29 rfl rfl ?_
  refine wa_lload_n cx (i := 3) dX9_drawnWorth_30 rfl rfl ?_
  refine wa_lmul cx dX9_drawnWorth_31 ?_
  refine wa_ldc2 cx dX9_drawnWorth_32 (65521 : Int64) kc_X9_323 ?_
  refine wa_lrem cx dX9_drawnWorth_35 (by decide) ?_
  refine wa_ldc2 cx dX9_drawnWorth_36 (10 : Int64) kc_X9_257 ?_
  refine wa_lrem cx dX9_drawnWorth_39 (by decide) ?_
  refine wa_l2i cx dX9_drawnWorth_40 ?_
  obtain ⟨x3, S4, e5, h⟩ := bd_some h
  refine wa_callVi cx (m_X0_worthBy l cx.2.2.2.2.2.2.1 (kq9_4 cx.2.2.2.2.2.2.1 h_c0) e5) vl_X9_325 (kq9_4 cx.2.2.2.2.2.2.1 h_c0) (by decide) rfl rfl ⟨_, cell_eq0 (kd_lt (kq9_4 cx.2.2.2.2.2.2.1 h_c0) (by decide)).2⟩ ⟨Nat.le_of_ble_eq_true rfl, Nat.le_of_ble_eq_true rfl⟩ ⟨rfl, rfl⟩ ⟨Nat.zero_le _, Nat.zero_le _⟩ rfl (Nat.le_of_ble_eq_true rfl) dX9_drawnWorth_41 rfl ?_
  exact wa_iret cx h dX9_drawnWorth_44
def rm_X9_playEvening : Room := { frames := 4, cells := 0, slots := 0, locals := 94 }
def f_X9_playEvening_L6 : Nat → Nat → Int32 → Int32 → St → Option (Unit × St)
  | 0, _, _, _, _ => none
  | n + 1, c0, a1, l2, S => if (S.1 (c0 + 25) 0) ≤ l2 then some ((), S) else bd (f_X9_drawnWorth c0 a1 l2 S) fun x2 S3 => bd (f_X1_play (c0 + 47) l2 x2 S3) fun _ S5 => f_X9_playEvening_L6 n c0 a1 (l2 + (1 : Int32)) S5
set_option maxHeartbeats 4000000 in
set_option maxRecDepth 100000 in
theorem w_X9_playEvening_L6 {p : Program} {l : Launch} {e : Env} {s : State} {m : MethodId} {args : Array Value} {below : List Frame} {meth : Method} {c : Code} {g : Gl} {r : Unit × St} {c0 : Nat} {a1 : Int32} (cx : Cx p s m args meth c cX9_playEvening 3 none RX9 g (Ap g)) (h_c0 : kd g c0 = 9) : ∀ n : Nat, ∀ (l2 : Int32) (S : St), f_X9_playEvening_L6 n c0 a1 l2 S = some r → WA p l e rm_X9_playEvening s m args below meth c 0 0 (MQ below (QWv g r) args s 0 0 (Ap g)) 3 g (Ap g) S 6 [(0, .ref (ad g c0)), (1, .int a1), (2, .int l2)] [] := by
  intro n
  induction n with
  | zero => intro l2 S h; rw [f_X9_playEvening_L6] at h; cases h
  | succ n ih =>
    intro l2 S h
    rw [f_X9_playEvening_L6] at h
    refine wa_iload_n cx (i := 2) dX9_playEvening_6 rfl rfl ?_
    refine wa_aload_n cx (i := 0) dX9_playEvening_7 rfl rfl ?_
    refine gf_X9_36 cx h_c0 dX9_playEvening_8 ?_
    refine gf_X9_198 cx (kq9_4 cx.2.2.2.2.2.2.1 h_c0) dX9_playEvening_11 ?_
    refine wa_icmp_ge cx dX9_playEvening_14 37 (by decide) (fun q1 => ?_) (fun q1 => ?_)
    · rw [if_pos q1] at h
      exact wa_vret cx h dX9_playEvening_37
    · rw [if_neg q1] at h
      refine wa_aload_n cx (i := 0) dX9_playEvening_17 rfl rfl ?_
      refine gf_X9_46 cx h_c0 dX9_playEvening_18 ?_
      refine wa_iload_n cx (i := 2) dX9_playEvening_21 rfl rfl ?_
      refine wa_aload_n cx (i := 0) dX9_playEvening_22 rfl rfl ?_
      refine wa_iload_n cx (i := 1) dX9_playEvening_23 rfl rfl ?_
      refine wa_iload_n cx (i := 2) dX9_playEvening_24 rfl rfl ?_
      obtain ⟨x2, S3, e4, h⟩ := bd_some h
      refine wa_callVi cx (m_X9_drawnWorth l cx.2.2.2.2.2.2.1 h_c0 e4) vl_X9_284 h_c0 (by decide) rfl rfl ⟨_, cell_eq9 (kd_lt h_c0 (by decide)).2⟩ ⟨Nat.le_of_ble_eq_true rfl, Nat.le_of_ble_eq_true rfl⟩ ⟨rfl, rfl⟩ ⟨Nat.zero_le _, Nat.zero_le _⟩ rfl (Nat.le_of_ble_eq_true rfl) dX9_playEvening_25 rfl ?_
      obtain ⟨u7, S5, e6, h⟩ := bd_some h
      refine wa_callVv cx (m_X1_play l cx.2.2.2.2.2.2.1 (kq9_6 cx.2.2.2.2.2.2.1 h_c0) e6) vl_X9_315 (kq9_6 cx.2.2.2.2.2.2.1 h_c0) (by decide) rfl rfl ⟨_, cell_eq1 (kd_lt (kq9_6 cx.2.2.2.2.2.2.1 h_c0) (by decide)).2⟩ ⟨Nat.le_of_ble_eq_true rfl, Nat.le_of_ble_eq_true rfl⟩ ⟨rfl, rfl⟩ ⟨Nat.zero_le _, Nat.zero_le _⟩ rfl (Nat.le_of_ble_eq_true rfl) dX9_playEvening_28 rfl ?_
      refine wa_iinc cx dX9_playEvening_31 (l2 + (1 : Int32)) [(0, .ref (ad g c0)), (1, .int a1), (2, .int (l2 + (1 : Int32)))] rfl rfl (Nat.le_of_ble_eq_true rfl) rfl (lvs_c rfl (lvs_c rfl (lvs_c rfl (lvs_n)))) ?_
      refine wa_goto cx dX9_playEvening_34 6 (by decide) ?_
      refine wa_sub (lv' := [(0, .ref (ad g c0)), (1, .int a1), (2, .int (l2 + (1 : Int32)))]) (lvs_c rfl (lvs_c rfl (lvs_c rfl (lvs_n)))) ?_
      exact ih (l2 + (1 : Int32)) S5  h
def f_X9_playEvening (c0 : Nat) (a1 : Int32) (S : St) : Option (Unit × St) := bd (f_X9_setGame c0 S) fun _ S8 => f_X9_playEvening_L6 FU c0 a1 (0 : Int32) S8
set_option maxHeartbeats 4000000 in
set_option maxRecDepth 100000 in
theorem m_X9_playEvening (l : Launch) {g : Gl} (hg : GOK g) {c0 : Nat} {a1 : Int32} {S : St} {r : Unit × St} (h_c0 : kd g c0 = 9) (h : f_X9_playEvening c0 a1 S = some r) : MW l yX9_playEvening cX9_playEvening 3 none rm_X9_playEvening g S [.ref (ad g c0), .int a1] (QWv g r) := by
  refine startW [(0, .ref (ad g c0)), (1, .int a1)] (by decide +kernel) (Nat.le_of_ble_eq_true rfl) rfl hg (fun p e s m args below meth c cx => ?_)
  have cx : Cx p s m args meth c cX9_playEvening 3 none RX9 g (Ap g) := cx
  rw [f_X9_playEvening] at h
  refine wa_aload_n cx (i := 0) dX9_playEvening_0 rfl rfl ?_
  obtain ⟨u10, S8, e9, h⟩ := bd_some h
  refine wa_callVv cx (m_X9_setGame l cx.2.2.2.2.2.2.1 h_c0 e9) vl_X9_195 h_c0 (by decide) rfl rfl ⟨_, cell_eq9 (kd_lt h_c0 (by decide)).2⟩ ⟨Nat.le_of_ble_eq_true rfl, Nat.le_of_ble_eq_true rfl⟩ ⟨rfl, rfl⟩ ⟨Nat.zero_le _, Nat.zero_le _⟩ rfl (Nat.le_of_ble_eq_true rfl) dX9_playEvening_1 rfl ?_
  refine wa_iconst cx dX9_playEvening_4 (0 : Int32) (by decide) ?_
  refine wa_istore_n cx (i := 2) dX9_playEvening_5 [(0, .ref (ad g c0)), (1, .int a1), (2, .int (0 : Int32))] rfl (Nat.le_of_ble_eq_true rfl) rfl (lvs_c rfl (lvs_c rfl (lvs_c rfl (lvs_n)))) ?_
  refine wa_sub (lv' := [(0, .ref (ad g c0)), (1, .int a1), (2, .int (0 : Int32))]) (lvs_c rfl (lvs_c rfl (lvs_c rfl (lvs_n)))) ?_
  exact w_X9_playEvening_L6 cx h_c0  FU (0 : Int32) S8  h
def rm_X9_evening : Room := { frames := 5, cells := 0, slots := 0, locals := 116 }
def f_X9_evening (c0 : Nat) (a1 : Int32) (a2 : Int32) (a3 : Int32) (S : St) : Option (Int32 × St) := bd (f_X9_isWithin a1 (0 : Int32) (9999 : Int32) S) fun x1 S2 => if x1 = 0 then some ((-1001 : Int32), S2) else bd (f_X9_isGiver c0 a2 S2) fun x5 S6 => if x5 = 0 then some ((-1001 : Int32), S6) else bd (f_X9_isWithin a3 (0 : Int32) (1 : Int32) S6) fun x9 S10 => if x9 = 0 then some ((-1001 : Int32), S10) else bd (f_X0_placeOf (c0 + 25) a2 S10) fun x13 S14 => if x13 = (-4 : Int32) then some ((-1004 : Int32), S14) else bd (f_X9_playEvening c0 a1 S14) fun _ S17 => if a3 = 0 then ob x13 8 (some ((S17.1 ((c0 + 47) + 22) (Int32.toNatClampNeg x13)), S17)) else bd (f_X9_drawnWorth c0 a1 x13 S17) fun x21 S22 => bd (f_X1_hasAt (c0 + 47) x13 x21 S22) fun x24 S25 => some (x24, S25)
set_option maxHeartbeats 4000000 in
set_option maxRecDepth 100000 in
theorem m_X9_evening (l : Launch) {g : Gl} (hg : GOK g) {c0 : Nat} {a1 : Int32} {a2 : Int32} {a3 : Int32} {S : St} {r : Int32 × St} (h_c0 : kd g c0 = 9) (h : f_X9_evening c0 a1 a2 a3 S = some r) : MW l yX9_evening cX9_evening 5 (some .int) rm_X9_evening g S [.ref (ad g c0), .int a1, .int a2, .int a3] (QWi g r) := by
  refine startW [(0, .ref (ad g c0)), (1, .int a1), (2, .int a2), (3, .int a3)] (by decide +kernel) (Nat.le_of_ble_eq_true rfl) rfl hg (fun p e s m args below meth c cx => ?_)
  have cx : Cx p s m args meth c cX9_evening 5 (some .int) RX9 g (Ap g) := cx
  rw [f_X9_evening] at h
  refine wa_iload_n cx (i := 1) dX9_evening_0 rfl rfl ?_
  refine wa_iconst cx dX9_evening_1 (0 : Int32) (by decide) ?_
  refine wa_sipush cx dX9_evening_2 (9999 : Int32) (by decide) ?_
  obtain ⟨x1, S2, e3, h⟩ := bd_some h
  refine wa_callSi cx (m_X9_isWithin l cx.2.2.2.2.2.2.1  e3) vl_X9_103 ⟨Nat.le_of_ble_eq_true rfl, Nat.le_of_ble_eq_true rfl⟩ ⟨rfl, rfl⟩ ⟨Nat.zero_le _, Nat.zero_le _⟩ rfl (Nat.le_of_ble_eq_true rfl) dX9_evening_5 rfl ?_
  refine wa_if_eq cx dX9_evening_8 28 (by decide) (fun q4 => ?_) (fun q4 => ?_)
  · rw [if_pos q4] at h
    refine wa_sipush cx dX9_evening_28 (-1001 : Int32) (by decide) ?_
    exact wa_iret cx h dX9_evening_31
  · rw [if_neg q4] at h
    refine wa_aload_n cx (i := 0) dX9_evening_11 rfl rfl ?_
    refine wa_iload_n cx (i := 2) dX9_evening_12 rfl rfl ?_
    obtain ⟨x5, S6, e7, h⟩ := bd_some h
    refine wa_callVi cx (m_X9_isGiver l cx.2.2.2.2.2.2.1 h_c0 e7) vl_X9_141 h_c0 (by decide) rfl rfl ⟨_, cell_eq9 (kd_lt h_c0 (by decide)).2⟩ ⟨Nat.le_of_ble_eq_true rfl, Nat.le_of_ble_eq_true rfl⟩ ⟨rfl, rfl⟩ ⟨Nat.zero_le _, Nat.zero_le _⟩ rfl (Nat.le_of_ble_eq_true rfl) dX9_evening_13 rfl ?_
    refine wa_if_eq cx dX9_evening_16 28 (by decide) (fun q8 => ?_) (fun q8 => ?_)
    · rw [if_pos q8] at h
      refine wa_sipush cx dX9_evening_28 (-1001 : Int32) (by decide) ?_
      exact wa_iret cx h dX9_evening_31
    · rw [if_neg q8] at h
      refine wa_iload_n cx (i := 3) dX9_evening_19 rfl rfl ?_
      refine wa_iconst cx dX9_evening_20 (0 : Int32) (by decide) ?_
      refine wa_iconst cx dX9_evening_21 (1 : Int32) (by decide) ?_
      obtain ⟨x9, S10, e11, h⟩ := bd_some h
      refine wa_callSi cx (m_X9_isWithin l cx.2.2.2.2.2.2.1  e11) vl_X9_103 ⟨Nat.le_of_ble_eq_true rfl, Nat.le_of_ble_eq_true rfl⟩ ⟨rfl, rfl⟩ ⟨Nat.zero_le _, Nat.zero_le _⟩ rfl (Nat.le_of_ble_eq_true rfl) dX9_evening_22 rfl ?_
      refine wa_if_ne cx dX9_evening_25 32 (by decide) (fun q12 => ?_) (fun q12 => ?_)
      · rw [if_neg q12] at h
        refine wa_aload_n cx (i := 0) dX9_evening_32 rfl rfl ?_
        refine gf_X9_36 cx h_c0 dX9_evening_33 ?_
        refine wa_iload_n cx (i := 2) dX9_evening_36 rfl rfl ?_
        obtain ⟨x13, S14, e15, h⟩ := bd_some h
        refine wa_callVi cx (m_X0_placeOf l cx.2.2.2.2.2.2.1 (kq9_4 cx.2.2.2.2.2.2.1 h_c0) e15) vl_X9_145 (kq9_4 cx.2.2.2.2.2.2.1 h_c0) (by decide) rfl rfl ⟨_, cell_eq0 (kd_lt (kq9_4 cx.2.2.2.2.2.2.1 h_c0) (by decide)).2⟩ ⟨Nat.le_of_ble_eq_true rfl, Nat.le_of_ble_eq_true rfl⟩ ⟨rfl, rfl⟩ ⟨Nat.zero_le _, Nat.zero_le _⟩ rfl (Nat.le_of_ble_eq_true rfl) dX9_evening_37 rfl ?_
        refine wa_istore cx dX9_evening_40 [(0, .ref (ad g c0)), (1, .int a1), (3, .int a3), (4, .int x13)] (Nat.le_of_ble_eq_true rfl) rfl (lvs_c rfl (lvs_c rfl (lvs_c rfl (lvs_c rfl (lvs_n))))) ?_
        refine wa_iload cx dX9_evening_42 rfl ?_
        refine wa_bipush cx dX9_evening_44 (-4 : Int32) (by decide) ?_
        refine wa_icmp_ne cx dX9_evening_46 53 (by decide) (fun q16 => ?_) (fun q16 => ?_)
        · rw [if_neg q16] at h
          refine wa_aload_n cx (i := 0) dX9_evening_53 rfl rfl ?_
          refine wa_iload_n cx (i := 1) dX9_evening_54 rfl rfl ?_
          obtain ⟨u19, S17, e18, h⟩ := bd_some h
          refine wa_callVv cx (m_X9_playEvening l cx.2.2.2.2.2.2.1 h_c0 e18) vl_X9_277 h_c0 (by decide) rfl rfl ⟨_, cell_eq9 (kd_lt h_c0 (by decide)).2⟩ ⟨Nat.le_of_ble_eq_true rfl, Nat.le_of_ble_eq_true rfl⟩ ⟨rfl, rfl⟩ ⟨Nat.zero_le _, Nat.zero_le _⟩ rfl (Nat.le_of_ble_eq_true rfl) dX9_evening_55 rfl ?_
          refine wa_iload_n cx (i := 3) dX9_evening_58 rfl rfl ?_
          refine wa_if_ne cx dX9_evening_59 75 (by decide) (fun q20 => ?_) (fun q20 => ?_)
          · rw [if_neg q20] at h
            refine wa_aload_n cx (i := 0) dX9_evening_75 rfl rfl ?_
            refine gf_X9_46 cx h_c0 dX9_evening_76 ?_
            refine wa_iload cx dX9_evening_79 rfl ?_
            refine wa_aload_n cx (i := 0) dX9_evening_81 rfl rfl ?_
            refine wa_iload_n cx (i := 1) dX9_evening_82 rfl rfl ?_
            refine wa_iload cx dX9_evening_83 rfl ?_
            obtain ⟨x21, S22, e23, h⟩ := bd_some h
            refine wa_callVi cx (m_X9_drawnWorth l cx.2.2.2.2.2.2.1 h_c0 e23) vl_X9_284 h_c0 (by decide) rfl rfl ⟨_, cell_eq9 (kd_lt h_c0 (by decide)).2⟩ ⟨Nat.le_of_ble_eq_true rfl, Nat.le_of_ble_eq_true rfl⟩ ⟨rfl, rfl⟩ ⟨Nat.zero_le _, Nat.zero_le _⟩ rfl (Nat.le_of_ble_eq_true rfl) dX9_evening_85 rfl ?_
            obtain ⟨x24, S25, e26, h⟩ := bd_some h
            refine wa_callVi cx (m_X1_hasAt l cx.2.2.2.2.2.2.1 (kq9_6 cx.2.2.2.2.2.2.1 h_c0) e26) vl_X9_288 (kq9_6 cx.2.2.2.2.2.2.1 h_c0) (by decide) rfl rfl ⟨_, cell_eq1 (kd_lt (kq9_6 cx.2.2.2.2.2.2.1 h_c0) (by decide)).2⟩ ⟨Nat.le_of_ble_eq_true rfl, Nat.le_of_ble_eq_true rfl⟩ ⟨rfl, rfl⟩ ⟨Nat.zero_le _, Nat.zero_le _⟩ rfl (Nat.le_of_ble_eq_true rfl) dX9_evening_88 rfl ?_
            exact wa_iret cx h dX9_evening_91
          · rw [if_pos q20] at h
            refine wa_aload_n cx (i := 0) dX9_evening_62 rfl rfl ?_
            refine gf_X9_46 cx h_c0 dX9_evening_63 ?_
            refine gf_X9_281 cx (kq9_6 cx.2.2.2.2.2.2.1 h_c0) dX9_evening_66 ?_
            refine wa_iload cx dX9_evening_69 rfl ?_
            obtain ⟨b27, h⟩ := ob_some h
            refine wa_iald cx dX9_evening_71 (kq1_7 cx.2.2.2.2.2.2.1 (kq9_6 cx.2.2.2.2.2.2.1 h_c0)) b27 ?_
            refine wa_goto cx dX9_evening_72 91 (by decide) ?_
            exact wa_iret cx h dX9_evening_91
        · rw [if_pos q16] at h
          refine wa_sipush cx dX9_evening_49 (-1004 : Int32) (by decide) ?_
          exact wa_iret cx h dX9_evening_52
      · rw [if_pos q12] at h
        refine wa_sipush cx dX9_evening_28 (-1001 : Int32) (by decide) ?_
        exact wa_iret cx h dX9_evening_31
def rm_X9_whole : Room := { frames := 5, cells := 0, slots := 0, locals := 116 }
def f_X9_whole (c0 : Nat) (a1 : Int32) (a2 : Int32) (S : St) : Option (Int32 × St) := bd (f_X9_isWithin a1 (0 : Int32) (9999 : Int32) S) fun x1 S2 => if x1 = 0 then some ((-1 : Int32), S2) else bd (f_X9_isWithin a2 (0 : Int32) (1 : Int32) S2) fun x5 S6 => if x5 = 0 then some ((-1 : Int32), S6) else bd (f_X9_playEvening c0 a1 S6) fun _ S9 => if a2 = 0 then ob (S9.1 (c0 + 25) 0) 9 (some ((S9.1 ((c0 + 47) + 23) (Int32.toNatClampNeg (S9.1 (c0 + 25) 0))), S9)) else bd (f_X1_isBuilt (c0 + 47) S9) fun x13 S14 => if x13 = 0 then some ((0 : Int32), S14) else some ((1 : Int32), S14)
set_option maxHeartbeats 4000000 in
set_option maxRecDepth 100000 in
theorem m_X9_whole (l : Launch) {g : Gl} (hg : GOK g) {c0 : Nat} {a1 : Int32} {a2 : Int32} {S : St} {r : Int32 × St} (h_c0 : kd g c0 = 9) (h : f_X9_whole c0 a1 a2 S = some r) : MW l yX9_whole cX9_whole 3 (some .int) rm_X9_whole g S [.ref (ad g c0), .int a1, .int a2] (QWi g r) := by
  refine startW [(0, .ref (ad g c0)), (1, .int a1), (2, .int a2)] (by decide +kernel) (Nat.le_of_ble_eq_true rfl) rfl hg (fun p e s m args below meth c cx => ?_)
  have cx : Cx p s m args meth c cX9_whole 3 (some .int) RX9 g (Ap g) := cx
  rw [f_X9_whole] at h
  refine wa_iload_n cx (i := 1) dX9_whole_0 rfl rfl ?_
  refine wa_iconst cx dX9_whole_1 (0 : Int32) (by decide) ?_
  refine wa_sipush cx dX9_whole_2 (9999 : Int32) (by decide) ?_
  obtain ⟨x1, S2, e3, h⟩ := bd_some h
  refine wa_callSi cx (m_X9_isWithin l cx.2.2.2.2.2.2.1  e3) vl_X9_103 ⟨Nat.le_of_ble_eq_true rfl, Nat.le_of_ble_eq_true rfl⟩ ⟨rfl, rfl⟩ ⟨Nat.zero_le _, Nat.zero_le _⟩ rfl (Nat.le_of_ble_eq_true rfl) dX9_whole_5 rfl ?_
  refine wa_if_eq cx dX9_whole_8 20 (by decide) (fun q4 => ?_) (fun q4 => ?_)
  · rw [if_pos q4] at h
    refine wa_iconst cx dX9_whole_20 (-1 : Int32) (by decide) ?_
    exact wa_iret cx h dX9_whole_21
  · rw [if_neg q4] at h
    refine wa_iload_n cx (i := 2) dX9_whole_11 rfl rfl ?_
    refine wa_iconst cx dX9_whole_12 (0 : Int32) (by decide) ?_
    refine wa_iconst cx dX9_whole_13 (1 : Int32) (by decide) ?_
    obtain ⟨x5, S6, e7, h⟩ := bd_some h
    refine wa_callSi cx (m_X9_isWithin l cx.2.2.2.2.2.2.1  e7) vl_X9_103 ⟨Nat.le_of_ble_eq_true rfl, Nat.le_of_ble_eq_true rfl⟩ ⟨rfl, rfl⟩ ⟨Nat.zero_le _, Nat.zero_le _⟩ rfl (Nat.le_of_ble_eq_true rfl) dX9_whole_14 rfl ?_
    refine wa_if_ne cx dX9_whole_17 22 (by decide) (fun q8 => ?_) (fun q8 => ?_)
    · rw [if_neg q8] at h
      refine wa_aload_n cx (i := 0) dX9_whole_22 rfl rfl ?_
      refine wa_iload_n cx (i := 1) dX9_whole_23 rfl rfl ?_
      obtain ⟨u11, S9, e10, h⟩ := bd_some h
      refine wa_callVv cx (m_X9_playEvening l cx.2.2.2.2.2.2.1 h_c0 e10) vl_X9_277 h_c0 (by decide) rfl rfl ⟨_, cell_eq9 (kd_lt h_c0 (by decide)).2⟩ ⟨Nat.le_of_ble_eq_true rfl, Nat.le_of_ble_eq_true rfl⟩ ⟨rfl, rfl⟩ ⟨Nat.zero_le _, Nat.zero_le _⟩ rfl (Nat.le_of_ble_eq_true rfl) dX9_whole_24 rfl ?_
      refine wa_iload_n cx (i := 2) dX9_whole_27 rfl rfl ?_
      refine wa_if_ne cx dX9_whole_28 47 (by decide) (fun q12 => ?_) (fun q12 => ?_)
      · rw [if_neg q12] at h
        refine wa_aload_n cx (i := 0) dX9_whole_47 rfl rfl ?_
        refine gf_X9_46 cx h_c0 dX9_whole_48 ?_
        obtain ⟨x13, S14, e15, h⟩ := bd_some h
        refine wa_callVi cx (m_X1_isBuilt l cx.2.2.2.2.2.2.1 (kq9_6 cx.2.2.2.2.2.2.1 h_c0) e15) vl_X9_294 (kq9_6 cx.2.2.2.2.2.2.1 h_c0) (by decide) rfl rfl ⟨_, cell_eq1 (kd_lt (kq9_6 cx.2.2.2.2.2.2.1 h_c0) (by decide)).2⟩ ⟨Nat.le_of_ble_eq_true rfl, Nat.le_of_ble_eq_true rfl⟩ ⟨rfl, rfl⟩ ⟨Nat.zero_le _, Nat.zero_le _⟩ rfl (Nat.le_of_ble_eq_true rfl) dX9_whole_51 rfl ?_
        refine wa_if_eq cx dX9_whole_54 61 (by decide) (fun q16 => ?_) (fun q16 => ?_)
        · rw [if_pos q16] at h
          refine wa_iconst cx dX9_whole_61 (0 : Int32) (by decide) ?_
          exact wa_iret cx h dX9_whole_62
        · rw [if_neg q16] at h
          refine wa_iconst cx dX9_whole_57 (1 : Int32) (by decide) ?_
          refine wa_goto cx dX9_whole_58 62 (by decide) ?_
          exact wa_iret cx h dX9_whole_62
      · rw [if_pos q12] at h
        refine wa_aload_n cx (i := 0) dX9_whole_31 rfl rfl ?_
        refine gf_X9_46 cx h_c0 dX9_whole_32 ?_
        refine gf_X9_291 cx (kq9_6 cx.2.2.2.2.2.2.1 h_c0) dX9_whole_35 ?_
        refine wa_aload_n cx (i := 0) dX9_whole_38 rfl rfl ?_
        refine gf_X9_36 cx h_c0 dX9_whole_39 ?_
        refine gf_X9_198 cx (kq9_4 cx.2.2.2.2.2.2.1 h_c0) dX9_whole_42 ?_
        obtain ⟨b17, h⟩ := ob_some h
        refine wa_iald cx dX9_whole_45 (kq1_8 cx.2.2.2.2.2.2.1 (kq9_6 cx.2.2.2.2.2.2.1 h_c0)) b17 ?_
        exact wa_iret cx h dX9_whole_46
    · rw [if_pos q8] at h
      refine wa_iconst cx dX9_whole_20 (-1 : Int32) (by decide) ?_
      exact wa_iret cx h dX9_whole_21
def rm_X9_keep : Room := { frames := 2, cells := 0, slots := 0, locals := 62 }
def f_X9_keep (c0 : Nat) (S : St) : Option (Int32 × St) := bd (f_X5_put (c0 + 100) (c0 + 99) (S.1 c0 11) S) fun x1 S2 => if x1 = 0 then some ((-3 : Int32), S2) else some ((S2.1 (c0 + 100) 0), S2)
set_option maxHeartbeats 4000000 in
set_option maxRecDepth 100000 in
theorem m_X9_keep (l : Launch) {g : Gl} (hg : GOK g) {c0 : Nat} {S : St} {r : Int32 × St} (h_c0 : kd g c0 = 9) (h : f_X9_keep c0 S = some r) : MW l yX9_keep cX9_keep 1 (some .int) rm_X9_keep g S [.ref (ad g c0)] (QWi g r) := by
  refine startW [(0, .ref (ad g c0))] (by decide +kernel) (Nat.le_of_ble_eq_true rfl) rfl hg (fun p e s m args below meth c cx => ?_)
  have cx : Cx p s m args meth c cX9_keep 1 (some .int) RX9 g (Ap g) := cx
  rw [f_X9_keep] at h
  refine wa_aload_n cx (i := 0) dX9_keep_0 rfl rfl ?_
  refine gf_X9_76 cx h_c0 dX9_keep_1 ?_
  refine wa_aload_n cx (i := 0) dX9_keep_4 rfl rfl ?_
  refine gf_X9_69 cx h_c0 dX9_keep_5 ?_
  refine wa_aload_n cx (i := 0) dX9_keep_8 rfl rfl ?_
  refine gf_X9_125 cx h_c0 dX9_keep_9 ?_
  obtain ⟨x1, S2, e3, h⟩ := bd_some h
  refine wa_callVi cx (m_X5_put l cx.2.2.2.2.2.2.1 (kq9_12 cx.2.2.2.2.2.2.1 h_c0) ⟨(kq9_10 cx.2.2.2.2.2.2.1 h_c0).1, rfl⟩ e3) vl_X9_298 (kq9_12 cx.2.2.2.2.2.2.1 h_c0) (by decide) rfl rfl ⟨_, cell_eq5 (kd_lt (kq9_12 cx.2.2.2.2.2.2.1 h_c0) (by decide)).2⟩ ⟨Nat.le_of_ble_eq_true rfl, Nat.le_of_ble_eq_true rfl⟩ ⟨rfl, rfl⟩ ⟨Nat.zero_le _, Nat.zero_le _⟩ rfl (Nat.le_of_ble_eq_true rfl) dX9_keep_12 rfl ?_
  refine wa_if_eq cx dX9_keep_15 28 (by decide) (fun q4 => ?_) (fun q4 => ?_)
  · rw [if_pos q4] at h
    refine wa_bipush cx dX9_keep_28 (-3 : Int32) (by decide) ?_
    exact wa_iret cx h dX9_keep_30
  · rw [if_neg q4] at h
    refine wa_aload_n cx (i := 0) dX9_keep_18 rfl rfl ?_
    refine gf_X9_76 cx h_c0 dX9_keep_19 ?_
    refine gf_X9_128 cx (kq9_12 cx.2.2.2.2.2.2.1 h_c0) dX9_keep_22 ?_
    refine wa_goto cx dX9_keep_25 30 (by decide) ?_
    exact wa_iret cx h dX9_keep_30
def rm_X9_back : Room := { frames := 2, cells := 0, slots := 0, locals := 61 }
def f_X9_back (c0 : Nat) (S : St) : Option (Int32 × St) := if (1 : Int32) ≤ (S.1 (c0 + 100) 0) then bd (f_X5_takeInto (c0 + 100) (c0 + 99) S) fun x2 S3 => sq (pI S3 c0 11 x2) fun S5 => bd (f_X9_forgetWays c0 S5) fun _ S6 => some ((S6.1 (c0 + 100) 0), S6) else some ((-2 : Int32), S)
set_option maxHeartbeats 4000000 in
set_option maxRecDepth 100000 in
theorem m_X9_back (l : Launch) {g : Gl} (hg : GOK g) {c0 : Nat} {S : St} {r : Int32 × St} (h_c0 : kd g c0 = 9) (h : f_X9_back c0 S = some r) : MW l yX9_back cX9_back 1 (some .int) rm_X9_back g S [.ref (ad g c0)] (QWi g r) := by
  refine startW [(0, .ref (ad g c0))] (by decide +kernel) (Nat.le_of_ble_eq_true rfl) rfl hg (fun p e s m args below meth c cx => ?_)
  have cx : Cx p s m args meth c cX9_back 1 (some .int) RX9 g (Ap g) := cx
  rw [f_X9_back] at h
  refine wa_aload_n cx (i := 0) dX9_back_0 rfl rfl ?_
  refine gf_X9_76 cx h_c0 dX9_back_1 ?_
  refine gf_X9_128 cx (kq9_12 cx.2.2.2.2.2.2.1 h_c0) dX9_back_4 ?_
  refine wa_iconst cx dX9_back_7 (1 : Int32) (by decide) ?_
  refine wa_icmp_ge cx dX9_back_8 14 (by decide) (fun q1 => ?_) (fun q1 => ?_)
  · rw [if_pos q1] at h
    refine wa_aload_n cx (i := 0) dX9_back_14 rfl rfl ?_
    refine wa_aload_n cx (i := 0) dX9_back_15 rfl rfl ?_
    refine gf_X9_76 cx h_c0 dX9_back_16 ?_
    refine wa_aload_n cx (i := 0) dX9_back_19 rfl rfl ?_
    refine gf_X9_69 cx h_c0 dX9_back_20 ?_
    obtain ⟨x2, S3, e4, h⟩ := bd_some h
    refine wa_callVi cx (m_X5_takeInto l cx.2.2.2.2.2.2.1 (kq9_12 cx.2.2.2.2.2.2.1 h_c0) ⟨(kq9_10 cx.2.2.2.2.2.2.1 h_c0).1, rfl⟩ e4) vl_X9_301 (kq9_12 cx.2.2.2.2.2.2.1 h_c0) (by decide) rfl rfl ⟨_, cell_eq5 (kd_lt (kq9_12 cx.2.2.2.2.2.2.1 h_c0) (by decide)).2⟩ ⟨Nat.le_of_ble_eq_true rfl, Nat.le_of_ble_eq_true rfl⟩ ⟨rfl, rfl⟩ ⟨Nat.zero_le _, Nat.zero_le _⟩ rfl (Nat.le_of_ble_eq_true rfl) dX9_back_23 rfl ?_
    refine pf_X9_125 cx h_c0 dX9_back_26 ?_
    replace h := sq_eq h
    generalize (pI S3 c0 11 x2) = S5 at h ⊢
    refine wa_aload_n cx (i := 0) dX9_back_29 rfl rfl ?_
    obtain ⟨u8, S6, e7, h⟩ := bd_some h
    refine wa_callVv cx (m_X9_forgetWays l cx.2.2.2.2.2.2.1 h_c0 e7) vl_X9_135 h_c0 (by decide) rfl rfl ⟨_, cell_eq9 (kd_lt h_c0 (by decide)).2⟩ ⟨Nat.le_of_ble_eq_true rfl, Nat.le_of_ble_eq_true rfl⟩ ⟨rfl, rfl⟩ ⟨Nat.zero_le _, Nat.zero_le _⟩ rfl (Nat.le_of_ble_eq_true rfl) dX9_back_30 rfl ?_
    refine wa_aload_n cx (i := 0) dX9_back_33 rfl rfl ?_
    refine gf_X9_76 cx h_c0 dX9_back_34 ?_
    refine gf_X9_128 cx (kq9_12 cx.2.2.2.2.2.2.1 h_c0) dX9_back_37 ?_
    exact wa_iret cx h dX9_back_40
  · rw [if_neg q1] at h
    refine wa_bipush cx dX9_back_11 (-2 : Int32) (by decide) ?_
    exact wa_iret cx h dX9_back_13
def rm_X9_count : Room := { frames := 0, cells := 0, slots := 0, locals := 0 }
def f_X9_count (c0 : Nat) (a1 : Int32) (S : St) : Option (Int32 × St) := if a1 = (0 : Int32) then ck (kdE (S.2.2 c0 2) = 2) (some ((S.1 ((S.2.2 c0 2) + 1) 1), S)) else if a1 = (1 : Int32) then some ((S.1 (c0 + 25) 0), S) else if a1 = (2 : Int32) then ck (kdE (S.2.2 c0 2) = 2) (some ((S.1 ((S.2.2 c0 2) + 1) 0), S)) else if a1 = (3 : Int32) then some ((S.1 (c0 + 1) 1), S) else if a1 = (4 : Int32) then some ((S.1 (c0 + 100) 0), S) else if a1 = (5 : Int32) then ck (kdE (S.2.2 c0 2) = 2) (some ((S.1 (S.2.2 c0 2) 0), S)) else if a1 = (6 : Int32) then ck (kdE (S.2.2 c0 2) = 2) (some ((S.1 (S.2.2 c0 2) 2), S)) else some ((-1 : Int32), S)
set_option maxHeartbeats 4000000 in
set_option maxRecDepth 100000 in
theorem m_X9_count (l : Launch) {g : Gl} (hg : GOK g) {c0 : Nat} {a1 : Int32} {S : St} {r : Int32 × St} (h_c0 : kd g c0 = 9) (h : f_X9_count c0 a1 S = some r) : MW l yX9_count cX9_count 2 (some .int) rm_X9_count g S [.ref (ad g c0), .int a1] (QWi g r) := by
  refine startW [(0, .ref (ad g c0)), (1, .int a1)] (by decide +kernel) (Nat.le_of_ble_eq_true rfl) rfl hg (fun p e s m args below meth c cx => ?_)
  have cx : Cx p s m args meth c cX9_count 2 (some .int) RX9 g (Ap g) := cx
  rw [f_X9_count] at h
  refine wa_iload_n cx (i := 1) dX9_count_0 rfl rfl ?_
  by_cases q1 : a1 = (0 : Int32)
  · rw [if_pos q1] at h
    refine wa_tabIn cx dX9_count_1 44 (by rw [q1]; decide) (by rw [q1]; decide) (by rw [q1] <;> rfl) (by decide) ?_
    refine wa_aload_n cx (i := 0) dX9_count_44 rfl rfl ?_
    obtain ⟨b2, h⟩ := ck_some h
    refine gf_X9_26 cx h_c0 dX9_count_45 ?_
    refine gf_X9_83 cx (kd_of cx.2.2.2.2.2.2.1 b2 (by decide)) dX9_count_48 ?_
    refine gf_X9_138 cx (kq2_10 cx.2.2.2.2.2.2.1 (kd_of cx.2.2.2.2.2.2.1 b2 (by decide))) dX9_count_51 ?_
    exact wa_iret cx h dX9_count_54
  rw [if_neg q1] at h
  by_cases q3 : a1 = (1 : Int32)
  · rw [if_pos q3] at h
    refine wa_tabIn cx dX9_count_1 55 (by rw [q3]; decide) (by rw [q3]; decide) (by rw [q3] <;> rfl) (by decide) ?_
    refine wa_aload_n cx (i := 0) dX9_count_55 rfl rfl ?_
    refine gf_X9_36 cx h_c0 dX9_count_56 ?_
    refine gf_X9_198 cx (kq9_4 cx.2.2.2.2.2.2.1 h_c0) dX9_count_59 ?_
    exact wa_iret cx h dX9_count_62
  rw [if_neg q3] at h
  by_cases q4 : a1 = (2 : Int32)
  · rw [if_pos q4] at h
    refine wa_tabIn cx dX9_count_1 63 (by rw [q4]; decide) (by rw [q4]; decide) (by rw [q4] <;> rfl) (by decide) ?_
    refine wa_aload_n cx (i := 0) dX9_count_63 rfl rfl ?_
    obtain ⟨b5, h⟩ := ck_some h
    refine gf_X9_26 cx h_c0 dX9_count_64 ?_
    refine gf_X9_83 cx (kd_of cx.2.2.2.2.2.2.1 b5 (by decide)) dX9_count_67 ?_
    refine gf_X9_117 cx (kq2_10 cx.2.2.2.2.2.2.1 (kd_of cx.2.2.2.2.2.2.1 b5 (by decide))) dX9_count_70 ?_
    exact wa_iret cx h dX9_count_73
  rw [if_neg q4] at h
  by_cases q6 : a1 = (3 : Int32)
  · rw [if_pos q6] at h
    refine wa_tabIn cx dX9_count_1 74 (by rw [q6]; decide) (by rw [q6]; decide) (by rw [q6] <;> rfl) (by decide) ?_
    refine wa_aload_n cx (i := 0) dX9_count_74 rfl rfl ?_
    refine gf_X9_10 cx h_c0 dX9_count_75 ?_
    refine gf_X9_110 cx (kq9_0 cx.2.2.2.2.2.2.1 h_c0) dX9_count_78 ?_
    exact wa_iret cx h dX9_count_81
  rw [if_neg q6] at h
  by_cases q7 : a1 = (4 : Int32)
  · rw [if_pos q7] at h
    refine wa_tabIn cx dX9_count_1 82 (by rw [q7]; decide) (by rw [q7]; decide) (by rw [q7] <;> rfl) (by decide) ?_
    refine wa_aload_n cx (i := 0) dX9_count_82 rfl rfl ?_
    refine gf_X9_76 cx h_c0 dX9_count_83 ?_
    refine gf_X9_128 cx (kq9_12 cx.2.2.2.2.2.2.1 h_c0) dX9_count_86 ?_
    exact wa_iret cx h dX9_count_89
  rw [if_neg q7] at h
  by_cases q8 : a1 = (5 : Int32)
  · rw [if_pos q8] at h
    refine wa_tabIn cx dX9_count_1 90 (by rw [q8]; decide) (by rw [q8]; decide) (by rw [q8] <;> rfl) (by decide) ?_
    refine wa_aload_n cx (i := 0) dX9_count_90 rfl rfl ?_
    obtain ⟨b9, h⟩ := ck_some h
    refine gf_X9_26 cx h_c0 dX9_count_91 ?_
    refine gf_X9_209 cx (kd_of cx.2.2.2.2.2.2.1 b9 (by decide)) dX9_count_94 ?_
    exact wa_iret cx h dX9_count_97
  rw [if_neg q8] at h
  by_cases q10 : a1 = (6 : Int32)
  · rw [if_pos q10] at h
    refine wa_tabIn cx dX9_count_1 98 (by rw [q10]; decide) (by rw [q10]; decide) (by rw [q10] <;> rfl) (by decide) ?_
    refine wa_aload_n cx (i := 0) dX9_count_98 rfl rfl ?_
    obtain ⟨b11, h⟩ := ck_some h
    refine gf_X9_26 cx h_c0 dX9_count_99 ?_
    refine gf_X9_95 cx (kd_of cx.2.2.2.2.2.2.1 b11 (by decide)) dX9_count_102 ?_
    exact wa_iret cx h dX9_count_105
  rw [if_neg q10] at h
  refine wa_tabDef cx dX9_count_1 106 [0, 1, 2, 3, 4, 5, 6] (by decide) (by decide) (show allne _ _ from ⟨ne_toInt q1, ne_toInt q3, ne_toInt q4, ne_toInt q6, ne_toInt q7, ne_toInt q8, ne_toInt q10, trivial⟩) (by decide) ?_
  refine wa_iconst cx dX9_count_106 (-1 : Int32) (by decide) ?_
  exact wa_iret cx h dX9_count_107
