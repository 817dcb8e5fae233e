/-! the law over both machines, each with a pool of its own, in one and the same state -/
abbrev mate (g : Gl) (qq : Nat → Nat) : Gl := (g.1, g.2.1, qq, 103)
def Refus (S : St) : Prop := f_X9_write 0 (9 : Int32) (0 : Int64) S = some ((-1 : Int32), S) ∧ f_X9_giver 0 (8 : Int32) (0 : Int32) S = some ((-1 : Int32), S) ∧ f_X9_show 0 (3 : Int32) S = some ((-1 : Int32), S) ∧ f_X9_odds 0 (3 : Int32) S = some ((-1 : Int64), S) ∧ f_X9_mean 0 (8 : Int32) (0 : Int32) S = some ((-9223372036854775808 : Int64), S) ∧ f_X9_wrong 0 (2 : Int32) S = some ((-1 : Int64), S) ∧ f_X9_row 0 (0 : Int32) (31 : Int32) S = some ((-1 : Int32), S) ∧ f_X9_made 0 (2 : Int32) S = some ((-1 : Int32), S) ∧ f_X9_just 0 (8 : Int32) S = some ((-1 : Int64), S) ∧ f_X9_bestBar 0 (2 : Int32) S = some ((-1 : Int64), S) ∧ f_X9_extra 0 (11 : Int32) S = some ((-1 : Int32), S) ∧ f_X9_rich 0 (100 : Int32) (0 : Int32) S = some ((-1 : Int64), S) ∧ f_X9_richDay 0 (100 : Int32) S = some ((-1 : Int32), S) ∧ f_X9_two 0 (3 : Int32) S = some ((-1 : Int64), S) ∧ f_X9_evening 0 (0 : Int32) (8 : Int32) (0 : Int32) S = some ((-1001 : Int32), S) ∧ f_X9_whole 0 (0 : Int32) (2 : Int32) S = some ((-1 : Int32), S) ∧ f_X9_count 0 (7 : Int32) S = some ((-1 : Int32), S)
/-- one round of the law: act x y on a board of b0 givers, last day b3 -/
def Round (b0 b3 x y t : Int32) (S S4 : St) : Prop := ∃ (va : Int64) (S1 S2 S3 : St) (vj : Int32) (vo : Int64) (vm vw : Int32) (cv : Int32 → Int32),
  f_L_act 0 x y b0 b3 S = some (va, S1) ∧ f_X9_judge 0 S1 = some (vj, S2) ∧ f_X9_odds 0 (0 : Int32) S2 = some (vo, S3) ∧ f_X9_made 0 (0 : Int32) S3 = some (vm, S3) ∧ f_X9_whole 0 t (0 : Int32) S3 = some (vw, S4) ∧ (∀ k : Nat, k < 7 → f_X9_count 0 (iI k) S4 = some (cv (iI k), S4) ∧ ¬ cv (iI k) < 0) ∧ cv (0 : Int32) = b0 ∧ ¬ b0 < cv (1 : Int32) ∧ ¬ (2 : Int32) < cv (4 : Int32) ∧ f_X9_odds 0 (0 : Int32) S4 = some (vo, S4) ∧ (0 : Int64) ≤ vo
set_option maxHeartbeats 40000000 in
set_option maxRecDepth 1000000 in
theorem w_law_417 {p : Program} {l : Launch} {e : Env} {s : State} {m : MethodId} {below : List Frame} {meth : Method} {c : Code} {g : Gl} {qq : Nat → Nat} {A : Nat → Prop} {b ba wa Ln : Nat} {xs : Nat → Int32} {B W : Nat → Int32} {S : St} {t : Int32} {cv : Int32 → Int32} (cx : CxL p s m #[Value.ref b] meth c cL_law 11 ret RL g.1 g.2.1 A) (hX : va_X b Ln xs s s.heap) (hbl : b < s.heap.size) (hbA : ¬ A b) (hn : npl g = 103) (hcv : ∀ k : Nat, k < 7 → f_X9_count 0 (iI k) S = some (cv (iI k), S) ∧ ¬ cv (iI k) < 0) (kk : WL p l e room_1 s m #[Value.ref b] below meth c 208 3768 (lw_Z below #[Value.ref b] s) 11 g.1 A ((bw ba wa g.2.1 B W ++ pool (mate g qq) S) ++ pool g S) 466 [(0, .ref b), (1, .ref (ad g 0)), (2, .ref (ad (mate g qq) 0)), (3, .ref ba), (4, .ref wa), (5, .int t), (9, .int (1 : Int32))] []) : ∀ (f j : Nat), j + f = 7 → WL p l e room_1 s m #[Value.ref b] below meth c 208 3768 (lw_Z below #[Value.ref b] s) 11 g.1 A ((bw ba wa g.2.1 B W ++ pool (mate g qq) S) ++ pool g S) 417 [(0, .ref b), (1, .ref (ad g 0)), (2, .ref (ad (mate g qq) 0)), (3, .ref ba), (4, .ref wa), (5, .int t), (9, .int (1 : Int32)), (10, .int (iI j))] [] := by
  have hko : kd g 0 = 9 := by unfold kd; rw [hn]; rfl
  have hkq : kd (mate g qq) 0 = 9 := rfl
  intro f
  induction f with
  | zero =>
    intro j hj
    refine wl_iload cx dL_law_417 rfl ?_
    refine wl_bipush cx dL_law_419 (7 : Int32) (by decide) ?_
    refine wl_icmp_ge cx dL_law_421 466 (by decide) (fun _ => ?_) (fun h => absurd (by rw [show (7 : Int32) = iI 7 from rfl, iI_le (by omega) (by omega)]; omega) h)
    exact wl_sub (lv' := [(0, .ref b), (1, .ref (ad g 0)), (2, .ref (ad (mate g qq) 0)), (3, .ref ba), (4, .ref wa), (5, .int t), (9, .int (1 : Int32))]) (lvs_c rfl (lvs_c rfl (lvs_c rfl (lvs_c rfl (lvs_c rfl (lvs_c rfl (lvs_c rfl (lvs_n)))))))) kk
  | succ f ih =>
    intro j hj
    refine wl_iload cx dL_law_417 rfl ?_
    refine wl_bipush cx dL_law_419 (7 : Int32) (by decide) ?_
    refine wl_icmp_ge cx dL_law_421 466 (by decide) (fun h => absurd h (by rw [show (7 : Int32) = iI 7 from rfl, iI_le (by omega) (by omega)]; omega)) (fun _ => ?_)
    refine wl_iload cx dL_law_424 rfl ?_
    refine wl_if_eq cx dL_law_426 457 (by decide) (fun h => absurd h (by decide)) (fun _ => ?_)
    refine wl_aload_n cx (i := 1) dL_law_429 rfl rfl ?_
    refine wl_iload cx dL_law_430 rfl ?_
    refine wl_callVi (g := g) (S := S) cx hn (fun hg => m_X9_count l hg hko (hcv j (by omega)).1) vl_L_146 hko (by decide) rfl rfl ⟨_, cell_eq9 (kd_lt hko (by decide)).2⟩ ⟨Nat.le_of_ble_eq_true rfl, Nat.le_of_ble_eq_true rfl⟩ ⟨rfl, rfl⟩ ⟨Nat.le_of_ble_eq_true rfl, Nat.le_of_ble_eq_true rfl⟩ rfl (Nat.le_of_ble_eq_true rfl) dL_law_432 rfl ?_
    refine wl_aload_n cx (i := 2) dL_law_435 rfl rfl ?_
    refine wl_iload cx dL_law_436 rfl ?_
    refine wl_swap ?_
    refine wl_callVi (g := (mate g qq)) (S := S) cx rfl (fun hg => m_X9_count l hg hkq (hcv j (by omega)).1) vl_L_146 hkq (by decide) rfl rfl ⟨_, cell_eq9 (kd_lt hkq (by decide)).2⟩ ⟨Nat.le_of_ble_eq_true rfl, Nat.le_of_ble_eq_true rfl⟩ ⟨rfl, rfl⟩ ⟨Nat.le_of_ble_eq_true rfl, Nat.le_of_ble_eq_true rfl⟩ rfl (Nat.le_of_ble_eq_true rfl) dL_law_438 rfl ?_
    refine wl_swap ?_
    refine wl_icmp_ne cx dL_law_441 457 (by decide) (fun h => absurd rfl h) (fun _ => ?_)
    refine wl_aload_n cx (i := 1) dL_law_444 rfl rfl ?_
    refine wl_iload cx dL_law_445 rfl ?_
    refine wl_callVi (g := g) (S := S) cx hn (fun hg => m_X9_count l hg hko (hcv j (by omega)).1) vl_L_146 hko (by decide) rfl rfl ⟨_, cell_eq9 (kd_lt hko (by decide)).2⟩ ⟨Nat.le_of_ble_eq_true rfl, Nat.le_of_ble_eq_true rfl⟩ ⟨rfl, rfl⟩ ⟨Nat.le_of_ble_eq_true rfl, Nat.le_of_ble_eq_true rfl⟩ rfl (Nat.le_of_ble_eq_true rfl) dL_law_447 rfl ?_
    refine wl_if_lt cx dL_law_450 457 (by decide) (fun h => absurd h (hcv j (by omega)).2) (fun _ => ?_)
    refine wl_iconst cx dL_law_453 (1 : Int32) (by decide) ?_
    refine wl_goto cx dL_law_454 458 (by decide) ?_
    refine wl_istore cx dL_law_458 [(0, .ref b), (1, .ref (ad g 0)), (2, .ref (ad (mate g qq) 0)), (3, .ref ba), (4, .ref wa), (5, .int t), (9, .int (1 : Int32)), (10, .int (iI j))] (Nat.le_of_ble_eq_true rfl) rfl (lvs_c rfl (lvs_c rfl (lvs_c rfl (lvs_c rfl (lvs_c rfl (lvs_c rfl (lvs_c rfl (lvs_c rfl (lvs_n))))))))) ?_
    refine wl_iinc cx dL_law_460 ((iI j) + (1 : Int32)) [(0, .ref b), (1, .ref (ad g 0)), (2, .ref (ad (mate g qq) 0)), (3, .ref ba), (4, .ref wa), (5, .int t), (9, .int (1 : Int32)), (10, .int ((iI j) + (1 : Int32)))] rfl rfl (Nat.le_of_ble_eq_true rfl) rfl (lvs_c rfl (lvs_c rfl (lvs_c rfl (lvs_c rfl (lvs_c rfl (lvs_c rfl (lvs_c rfl (lvs_c rfl (lvs_n))))))))) ?_
    refine wl_goto cx dL_law_463 417 (by decide) ?_
    rw [show iI (j : Int) + (1 : Int32) = iI ((j + 1 : Nat) : Int) from iI_add j 1]
    exact ih (j + 1) (by omega)
set_option maxHeartbeats 40000000 in
set_option maxRecDepth 1000000 in
theorem w_law_79 {p : Program} {l : Launch} {e : Env} {s : State} {m : MethodId} {below : List Frame} {meth : Method} {c : Code} {g : Gl} {qq : Nat → Nat} {A : Nat → Prop} {b ba wa Ln : Nat} {xs : Nat → Int32} {B W : Nat → Int32} {LI : St → Prop} (cx : CxL p s m #[Value.ref b] meth c cL_law 11 ret RL g.1 g.2.1 A) (hX : va_X b Ln xs s s.heap) (hbl : b < s.heap.size) (hbA : ¬ A b) (hn : npl g = 103) (hLn : Ln < 2147483648) (hR : ∀ S, LI S → Refus S ∧ ∀ (x y : Int32) (t : Nat), t < 40 → ∃ S4, Round (B (Int32.toNatClampNeg (0 : Int32))) (B (Int32.toNatClampNeg (3 : Int32))) x y (iI t) S S4 ∧ LI S4) (hA : A = fun q => s.heap.size ≤ q) : ∀ (f t : Nat) (S : St), t + f = 40 → LI S → WL p l e room_1 s m #[Value.ref b] below meth c 208 3768 (lw_Z below #[Value.ref b] s) 11 g.1 A ((bw ba wa g.2.1 B W ++ pool (mate g qq) S) ++ pool g S) 79 [(0, .ref b), (1, .ref (ad g 0)), (2, .ref (ad (mate g qq) 0)), (3, .ref ba), (4, .ref wa), (5, .int (iI t))] [] := by
  have hko : kd g 0 = 9 := by unfold kd; rw [hn]; rfl
  have hkq : kd (mate g qq) 0 = 9 := rfl
  have k8 : ∀ t : Nat, t < 40 → (0 : Int32) ≤ (8 : Int32) + (2 : Int32) * iI t := fun t ht => by
    rw [show (2 : Int32) = iI 2 from rfl, iI_mul, show (8 : Int32) = iI 8 from rfl, iI_add, show (0 : Int32) = iI 0 from rfl, iI_le (by omega) (by omega)]; omega
  have k9 : ∀ t : Nat, t < 40 → (0 : Int32) ≤ (9 : Int32) + (2 : Int32) * iI t := fun t ht => by
    rw [show (2 : Int32) = iI 2 from rfl, iI_mul, show (9 : Int32) = iI 9 from rfl, iI_add, show (0 : Int32) = iI 0 from rfl, iI_le (by omega) (by omega)]; omega
  intro f
  induction f with
  | zero =>
    intro t S ht hS
    refine wl_iload cx dL_law_79 rfl ?_
    refine wl_bipush cx dL_law_81 (40 : Int32) (by decide) ?_
    refine wl_icmp_ge cx dL_law_83 520 (by decide) (fun _ => ?_) (fun h => absurd (by rw [show (40 : Int32) = iI 40 from rfl, iI_le (by omega) (by omega)]; omega) h)
    refine wl_iconst cx dL_law_520 (1 : Int32) (by decide) ?_
    exact fun H locs ls hP hD hS hl => va_forget (fun q hq => by have := hS.2.2 q hq; rw [hA] at this; exact this) (lw_ret cx.1 cx.2.1 cx.2.2.2.2.2.2.2.1 cx.2.2.2.2.2.2.2.2.1 dL_law_521)
  | succ f ih =>
    intro t S htf hS
    have ht : t < 40 := by omega
    obtain ⟨⟨r1, r2, r3, r4, r5, r6, r7, r8, r9, r10, r11, r12, r13, r14, r15, r16, r17⟩, hRd⟩ := hR S hS
    obtain ⟨S4, ⟨va, S1, S2, S3, vj, vo, vm, vw, cv, ea, ej, eo, em, ew, hcv, hc0, hc1, hc4, eo2, ho0⟩, hS4⟩ := hRd (cellF xs Ln ((8 : Int32) + (2 : Int32) * iI t)) (cellF xs Ln ((9 : Int32) + (2 : Int32) * iI t)) t ht
    refine wl_iload cx dL_law_79 rfl ?_
    refine wl_bipush cx dL_law_81 (40 : Int32) (by decide) ?_
    refine wl_icmp_ge cx dL_law_83 520 (by decide) (fun h => absurd h (by rw [show (40 : Int32) = iI 40 from rfl, iI_le (by omega) (by omega)]; omega)) (fun _ => ?_)
    refine wl_aload_n cx (i := 0) dL_law_86 rfl rfl ?_
    refine wl_bipush cx dL_law_87 (8 : Int32) (by decide) ?_
    refine wl_iconst cx dL_law_89 (2 : Int32) (by decide) ?_
    refine wl_iload cx dL_law_90 rfl ?_
    refine wl_imul cx dL_law_92 ?_
    refine wl_iadd cx dL_law_93 ?_
    refine wl_re (ws2 := ((bw ba wa g.2.1 B W ++ pool (mate g qq) S) ++ pool g S) ++ []) (List.append_nil _).symm ?_
    refine wl_callG cx hX hbl hbA (m_L_cell l (xs := xs) (b := b) ⟨k8 t ht, hLn⟩) vl_L_21 ⟨Nat.le_of_ble_eq_true rfl, Nat.le_of_ble_eq_true rfl⟩ ⟨rfl, rfl⟩ ⟨Nat.le_of_ble_eq_true rfl, Nat.le_of_ble_eq_true rfl⟩ rfl (Nat.le_of_ble_eq_true rfl) dL_law_94 rfl ?_
    refine wl_re (ws2 := (bw ba wa g.2.1 B W ++ pool (mate g qq) S) ++ pool g S) (List.append_nil _) ?_
    refine wl_istore cx dL_law_97 [(0, .ref b), (1, .ref (ad g 0)), (2, .ref (ad (mate g qq) 0)), (3, .ref ba), (4, .ref wa), (5, .int (iI t)), (6, .int (cellF xs Ln ((8 : Int32) + ((2 : Int32) * (iI t)))))] (Nat.le_of_ble_eq_true rfl) rfl (lvs_c rfl (lvs_c rfl (lvs_c rfl (lvs_c rfl (lvs_c rfl (lvs_c rfl (lvs_c rfl (lvs_n)))))))) ?_
    refine wl_aload_n cx (i := 0) dL_law_99 rfl rfl ?_
    refine wl_bipush cx dL_law_100 (9 : Int32) (by decide) ?_
    refine wl_iconst cx dL_law_102 (2 : Int32) (by decide) ?_
    refine wl_iload cx dL_law_103 rfl ?_
    refine wl_imul cx dL_law_105 ?_
    refine wl_iadd cx dL_law_106 ?_
    refine wl_re (ws2 := ((bw ba wa g.2.1 B W ++ pool (mate g qq) S) ++ pool g S) ++ []) (List.append_nil _).symm ?_
    refine wl_callG cx hX hbl hbA (m_L_cell l (xs := xs) (b := b) ⟨k9 t ht, hLn⟩) vl_L_21 ⟨Nat.le_of_ble_eq_true rfl, Nat.le_of_ble_eq_true rfl⟩ ⟨rfl, rfl⟩ ⟨Nat.le_of_ble_eq_true rfl, Nat.le_of_ble_eq_true rfl⟩ rfl (Nat.le_of_ble_eq_true rfl) dL_law_107 rfl ?_
    refine wl_re (ws2 := (bw ba wa g.2.1 B W ++ pool (mate g qq) S) ++ pool g S) (List.append_nil _) ?_
    refine wl_istore cx dL_law_110 [(0, .ref b), (1, .ref (ad g 0)), (2, .ref (ad (mate g qq) 0)), (3, .ref ba), (4, .ref wa), (5, .int (iI t)), (6, .int (cellF xs Ln ((8 : Int32) + ((2 : Int32) * (iI t))))), (7, .int (cellF xs Ln ((9 : Int32) + ((2 : Int32) * (iI t)))))] (Nat.le_of_ble_eq_true rfl) rfl (lvs_c rfl (lvs_c rfl (lvs_c rfl (lvs_c rfl (lvs_c rfl (lvs_c rfl (lvs_c rfl (lvs_c rfl (lvs_n))))))))) ?_
    refine wl_aload_n cx (i := 2) dL_law_112 rfl rfl ?_
    refine wl_bipush cx dL_law_113 (9 : Int32) (by decide) ?_
    refine wl_lconst cx dL_law_115 (0 : Int64) (by decide) ?_
    refine wl_swap ?_
    refine wl_callVi (g := (mate g qq)) (S := S) cx rfl (fun hg => m_X9_write l hg hkq r1) vl_L_9 hkq (by decide) rfl rfl ⟨_, cell_eq9 (kd_lt hkq (by decide)).2⟩ ⟨Nat.le_of_ble_eq_true rfl, Nat.le_of_ble_eq_true rfl⟩ ⟨rfl, rfl⟩ ⟨Nat.le_of_ble_eq_true rfl, Nat.le_of_ble_eq_true rfl⟩ rfl (Nat.le_of_ble_eq_true rfl) dL_law_116 rfl ?_
    refine wl_swap ?_
    refine wl_iconst cx dL_law_119 (-1 : Int32) (by decide) ?_
    refine wl_icmp_ne cx dL_law_120 310 (by decide) (fun h => absurd rfl h) (fun _ => ?_)
    refine wl_aload_n cx (i := 2) dL_law_123 rfl rfl ?_
    refine wl_bipush cx dL_law_124 (8 : Int32) (by decide) ?_
    refine wl_iconst cx dL_law_126 (0 : Int32) (by decide) ?_
    refine wl_swap ?_
    refine wl_callVi (g := (mate g qq)) (S := S) cx rfl (fun hg => m_X9_giver l hg hkq r2) vl_L_141 hkq (by decide) rfl rfl ⟨_, cell_eq9 (kd_lt hkq (by decide)).2⟩ ⟨Nat.le_of_ble_eq_true rfl, Nat.le_of_ble_eq_true rfl⟩ ⟨rfl, rfl⟩ ⟨Nat.le_of_ble_eq_true rfl, Nat.le_of_ble_eq_true rfl⟩ rfl (Nat.le_of_ble_eq_true rfl) dL_law_127 rfl ?_
    refine wl_swap ?_
    refine wl_iconst cx dL_law_130 (-1 : Int32) (by decide) ?_
    refine wl_icmp_ne cx dL_law_131 310 (by decide) (fun h => absurd rfl h) (fun _ => ?_)
    refine wl_aload_n cx (i := 2) dL_law_134 rfl rfl ?_
    refine wl_iconst cx dL_law_135 (3 : Int32) (by decide) ?_
    refine wl_swap ?_
    refine wl_callVi (g := (mate g qq)) (S := S) cx rfl (fun hg => m_X9_show l hg hkq r3) vl_L_68 hkq (by decide) rfl rfl ⟨_, cell_eq9 (kd_lt hkq (by decide)).2⟩ ⟨Nat.le_of_ble_eq_true rfl, Nat.le_of_ble_eq_true rfl⟩ ⟨rfl, rfl⟩ ⟨Nat.le_of_ble_eq_true rfl, Nat.le_of_ble_eq_true rfl⟩ rfl (Nat.le_of_ble_eq_true rfl) dL_law_136 rfl ?_
    refine wl_swap ?_
    refine wl_iconst cx dL_law_139 (-1 : Int32) (by decide) ?_
    refine wl_icmp_ne cx dL_law_140 310 (by decide) (fun h => absurd rfl h) (fun _ => ?_)
    refine wl_aload_n cx (i := 2) dL_law_143 rfl rfl ?_
    refine wl_iconst cx dL_law_144 (3 : Int32) (by decide) ?_
    refine wl_swap ?_
    refine wl_callVl (g := (mate g qq)) (S := S) cx rfl (fun hg => m_X9_odds l hg hkq r4) vl_L_72 hkq (by decide) rfl rfl ⟨_, cell_eq9 (kd_lt hkq (by decide)).2⟩ ⟨Nat.le_of_ble_eq_true rfl, Nat.le_of_ble_eq_true rfl⟩ ⟨rfl, rfl⟩ ⟨Nat.le_of_ble_eq_true rfl, Nat.le_of_ble_eq_true rfl⟩ rfl (Nat.le_of_ble_eq_true rfl) dL_law_145 rfl ?_
    refine wl_swap ?_
    refine wl_ldc2 cx dL_law_148 (-1 : Int64) kc_L_56 ?_
    refine wl_lcmp_ne cx dL_law_151 dL_law_152 310 (by decide) (fun h => absurd rfl h) (fun _ => ?_)
    refine wl_aload_n cx (i := 2) dL_law_155 rfl rfl ?_
    refine wl_bipush cx dL_law_156 (8 : Int32) (by decide) ?_
    refine wl_iconst cx dL_law_158 (0 : Int32) (by decide) ?_
    refine wl_swap ?_
    refine wl_callVl (g := (mate g qq)) (S := S) cx rfl (fun hg => m_X9_mean l hg hkq r5) vl_L_76 hkq (by decide) rfl rfl ⟨_, cell_eq9 (kd_lt hkq (by decide)).2⟩ ⟨Nat.le_of_ble_eq_true rfl, Nat.le_of_ble_eq_true rfl⟩ ⟨rfl, rfl⟩ ⟨Nat.le_of_ble_eq_true rfl, Nat.le_of_ble_eq_true rfl⟩ rfl (Nat.le_of_ble_eq_true rfl) dL_law_159 rfl ?_
    refine wl_swap ?_
    refine wl_ldc2 cx dL_law_162 (-4 : Int64) kc_L_144 ?_
    refine wl_lcmp_ge cx dL_law_165 dL_law_166 310 (by decide) (fun h => absurd h (by decide)) (fun _ => ?_)
    refine wl_aload_n cx (i := 2) dL_law_169 rfl rfl ?_
    refine wl_iconst cx dL_law_170 (2 : Int32) (by decide) ?_
    refine wl_swap ?_
    refine wl_callVl (g := (mate g qq)) (S := S) cx rfl (fun hg => m_X9_wrong l hg hkq r6) vl_L_80 hkq (by decide) rfl rfl ⟨_, cell_eq9 (kd_lt hkq (by decide)).2⟩ ⟨Nat.le_of_ble_eq_true rfl, Nat.le_of_ble_eq_true rfl⟩ ⟨rfl, rfl⟩ ⟨Nat.le_of_ble_eq_true rfl, Nat.le_of_ble_eq_true rfl⟩ rfl (Nat.le_of_ble_eq_true rfl) dL_law_171 rfl ?_
    refine wl_swap ?_
    refine wl_ldc2 cx dL_law_174 (-1 : Int64) kc_L_56 ?_
    refine wl_lcmp_ne cx dL_law_177 dL_law_178 310 (by decide) (fun h => absurd rfl h) (fun _ => ?_)
    refine wl_aload_n cx (i := 2) dL_law_181 rfl rfl ?_
    refine wl_iconst cx dL_law_182 (0 : Int32) (by decide) ?_
    refine wl_bipush cx dL_law_183 (31 : Int32) (by decide) ?_
    refine wl_swap ?_
    refine wl_callVi (g := (mate g qq)) (S := S) cx rfl (fun hg => m_X9_row l hg hkq r7) vl_L_83 hkq (by decide) rfl rfl ⟨_, cell_eq9 (kd_lt hkq (by decide)).2⟩ ⟨Nat.le_of_ble_eq_true rfl, Nat.le_of_ble_eq_true rfl⟩ ⟨rfl, rfl⟩ ⟨Nat.le_of_ble_eq_true rfl, Nat.le_of_ble_eq_true rfl⟩ rfl (Nat.le_of_ble_eq_true rfl) dL_law_185 rfl ?_
    refine wl_swap ?_
    refine wl_iconst cx dL_law_188 (-1 : Int32) (by decide) ?_
    refine wl_icmp_ne cx dL_law_189 310 (by decide) (fun h => absurd rfl h) (fun _ => ?_)
    refine wl_aload_n cx (i := 2) dL_law_192 rfl rfl ?_
    refine wl_iconst cx dL_law_193 (2 : Int32) (by decide) ?_
    refine wl_swap ?_
    refine wl_callVi (g := (mate g qq)) (S := S) cx rfl (fun hg => m_X9_made l hg hkq r8) vl_L_91 hkq (by decide) rfl rfl ⟨_, cell_eq9 (kd_lt hkq (by decide)).2⟩ ⟨Nat.le_of_ble_eq_true rfl, Nat.le_of_ble_eq_true rfl⟩ ⟨rfl, rfl⟩ ⟨Nat.le_of_ble_eq_true rfl, Nat.le_of_ble_eq_true rfl⟩ rfl (Nat.le_of_ble_eq_true rfl) dL_law_194 rfl ?_
    refine wl_swap ?_
    refine wl_iconst cx dL_law_197 (-1 : Int32) (by decide) ?_
    refine wl_icmp_ne cx dL_law_198 310 (by decide) (fun h => absurd rfl h) (fun _ => ?_)
    refine wl_aload_n cx (i := 2) dL_law_201 rfl rfl ?_
    refine wl_bipush cx dL_law_202 (8 : Int32) (by decide) ?_
    refine wl_swap ?_
    refine wl_callVl (g := (mate g qq)) (S := S) cx rfl (fun hg => m_X9_just l hg hkq r9) vl_L_94 hkq (by decide) rfl rfl ⟨_, cell_eq9 (kd_lt hkq (by decide)).2⟩ ⟨Nat.le_of_ble_eq_true rfl, Nat.le_of_ble_eq_true rfl⟩ ⟨rfl, rfl⟩ ⟨Nat.le_of_ble_eq_true rfl, Nat.le_of_ble_eq_true rfl⟩ rfl (Nat.le_of_ble_eq_true rfl) dL_law_204 rfl ?_
    refine wl_swap ?_
    refine wl_ldc2 cx dL_law_207 (-1 : Int64) kc_L_56 ?_
    refine wl_lcmp_ne cx dL_law_210 dL_law_211 310 (by decide) (fun h => absurd rfl h) (fun _ => ?_)
    refine wl_aload_n cx (i := 2) dL_law_214 rfl rfl ?_
    refine wl_iconst cx dL_law_215 (2 : Int32) (by decide) ?_
    refine wl_swap ?_
    refine wl_callVl (g := (mate g qq)) (S := S) cx rfl (fun hg => m_X9_bestBar l hg hkq r10) vl_L_101 hkq (by decide) rfl rfl ⟨_, cell_eq9 (kd_lt hkq (by decide)).2⟩ ⟨Nat.le_of_ble_eq_true rfl, Nat.le_of_ble_eq_true rfl⟩ ⟨rfl, rfl⟩ ⟨Nat.le_of_ble_eq_true rfl, Nat.le_of_ble_eq_true rfl⟩ rfl (Nat.le_of_ble_eq_true rfl) dL_law_216 rfl ?_
    refine wl_swap ?_
    refine wl_ldc2 cx dL_law_219 (-1 : Int64) kc_L_56 ?_
    refine wl_lcmp_ne cx dL_law_222 dL_law_223 310 (by decide) (fun h => absurd rfl h) (fun _ => ?_)
    refine wl_aload_n cx (i := 2) dL_law_226 rfl rfl ?_
    refine wl_bipush cx dL_law_227 (11 : Int32) (by decide) ?_
    refine wl_swap ?_
    refine wl_callVi (g := (mate g qq)) (S := S) cx rfl (fun hg => m_X9_extra l hg hkq r11) vl_L_110 hkq (by decide) rfl rfl ⟨_, cell_eq9 (kd_lt hkq (by decide)).2⟩ ⟨Nat.le_of_ble_eq_true rfl, Nat.le_of_ble_eq_true rfl⟩ ⟨rfl, rfl⟩ ⟨Nat.le_of_ble_eq_true rfl, Nat.le_of_ble_eq_true rfl⟩ rfl (Nat.le_of_ble_eq_true rfl) dL_law_229 rfl ?_
    refine wl_swap ?_
    refine wl_iconst cx dL_law_232 (-1 : Int32) (by decide) ?_
    refine wl_icmp_ne cx dL_law_233 310 (by decide) (fun h => absurd rfl h) (fun _ => ?_)
    refine wl_aload_n cx (i := 2) dL_law_236 rfl rfl ?_
    refine wl_bipush cx dL_law_237 (100 : Int32) (by decide) ?_
    refine wl_iconst cx dL_law_239 (0 : Int32) (by decide) ?_
    refine wl_swap ?_
    refine wl_callVl (g := (mate g qq)) (S := S) cx rfl (fun hg => m_X9_rich l hg hkq r12) vl_L_113 hkq (by decide) rfl rfl ⟨_, cell_eq9 (kd_lt hkq (by decide)).2⟩ ⟨Nat.le_of_ble_eq_true rfl, Nat.le_of_ble_eq_true rfl⟩ ⟨rfl, rfl⟩ ⟨Nat.le_of_ble_eq_true rfl, Nat.le_of_ble_eq_true rfl⟩ rfl (Nat.le_of_ble_eq_true rfl) dL_law_240 rfl ?_
    refine wl_swap ?_
    refine wl_ldc2 cx dL_law_243 (-1 : Int64) kc_L_56 ?_
    refine wl_lcmp_ne cx dL_law_246 dL_law_247 310 (by decide) (fun h => absurd rfl h) (fun _ => ?_)
    refine wl_aload_n cx (i := 2) dL_law_250 rfl rfl ?_
    refine wl_bipush cx dL_law_251 (100 : Int32) (by decide) ?_
    refine wl_swap ?_
    refine wl_callVi (g := (mate g qq)) (S := S) cx rfl (fun hg => m_X9_richDay l hg hkq r13) vl_L_118 hkq (by decide) rfl rfl ⟨_, cell_eq9 (kd_lt hkq (by decide)).2⟩ ⟨Nat.le_of_ble_eq_true rfl, Nat.le_of_ble_eq_true rfl⟩ ⟨rfl, rfl⟩ ⟨Nat.le_of_ble_eq_true rfl, Nat.le_of_ble_eq_true rfl⟩ rfl (Nat.le_of_ble_eq_true rfl) dL_law_253 rfl ?_
    refine wl_swap ?_
    refine wl_iconst cx dL_law_256 (-1 : Int32) (by decide) ?_
    refine wl_icmp_ne cx dL_law_257 310 (by decide) (fun h => absurd rfl h) (fun _ => ?_)
    refine wl_aload_n cx (i := 2) dL_law_260 rfl rfl ?_
    refine wl_iconst cx dL_law_261 (3 : Int32) (by decide) ?_
    refine wl_swap ?_
    refine wl_callVl (g := (mate g qq)) (S := S) cx rfl (fun hg => m_X9_two l hg hkq r14) vl_L_121 hkq (by decide) rfl rfl ⟨_, cell_eq9 (kd_lt hkq (by decide)).2⟩ ⟨Nat.le_of_ble_eq_true rfl, Nat.le_of_ble_eq_true rfl⟩ ⟨rfl, rfl⟩ ⟨Nat.le_of_ble_eq_true rfl, Nat.le_of_ble_eq_true rfl⟩ rfl (Nat.le_of_ble_eq_true rfl) dL_law_262 rfl ?_
    refine wl_swap ?_
    refine wl_ldc2 cx dL_law_265 (-1 : Int64) kc_L_56 ?_
    refine wl_lcmp_ne cx dL_law_268 dL_law_269 310 (by decide) (fun h => absurd rfl h) (fun _ => ?_)
    refine wl_aload_n cx (i := 2) dL_law_272 rfl rfl ?_
    refine wl_iconst cx dL_law_273 (0 : Int32) (by decide) ?_
    refine wl_bipush cx dL_law_274 (8 : Int32) (by decide) ?_
    refine wl_iconst cx dL_law_276 (0 : Int32) (by decide) ?_
    refine wl_swap ?_
    refine wl_callVi (g := (mate g qq)) (S := S) cx rfl (fun hg => m_X9_evening l hg hkq r15) vl_L_124 hkq (by decide) rfl rfl ⟨_, cell_eq9 (kd_lt hkq (by decide)).2⟩ ⟨Nat.le_of_ble_eq_true rfl, Nat.le_of_ble_eq_true rfl⟩ ⟨rfl, rfl⟩ ⟨Nat.le_of_ble_eq_true rfl, Nat.le_of_ble_eq_true rfl⟩ rfl (Nat.le_of_ble_eq_true rfl) dL_law_277 rfl ?_
    refine wl_swap ?_
    refine wl_sipush cx dL_law_280 (-1001 : Int32) (by decide) ?_
    refine wl_icmp_ne cx dL_law_283 310 (by decide) (fun h => absurd rfl h) (fun _ => ?_)
    refine wl_aload_n cx (i := 2) dL_law_286 rfl rfl ?_
    refine wl_iconst cx dL_law_287 (0 : Int32) (by decide) ?_
    refine wl_iconst cx dL_law_288 (2 : Int32) (by decide) ?_
    refine wl_swap ?_
    refine wl_callVi (g := (mate g qq)) (S := S) cx rfl (fun hg => m_X9_whole l hg hkq r16) vl_L_127 hkq (by decide) rfl rfl ⟨_, cell_eq9 (kd_lt hkq (by decide)).2⟩ ⟨Nat.le_of_ble_eq_true rfl, Nat.le_of_ble_eq_true rfl⟩ ⟨rfl, rfl⟩ ⟨Nat.le_of_ble_eq_true rfl, Nat.le_of_ble_eq_true rfl⟩ rfl (Nat.le_of_ble_eq_true rfl) dL_law_289 rfl ?_
    refine wl_swap ?_
    refine wl_iconst cx dL_law_292 (-1 : Int32) (by decide) ?_
    refine wl_icmp_ne cx dL_law_293 310 (by decide) (fun h => absurd rfl h) (fun _ => ?_)
    refine wl_aload_n cx (i := 2) dL_law_296 rfl rfl ?_
    refine wl_bipush cx dL_law_297 (7 : Int32) (by decide) ?_
    refine wl_swap ?_
    refine wl_callVi (g := (mate g qq)) (S := S) cx rfl (fun hg => m_X9_count l hg hkq r17) vl_L_146 hkq (by decide) rfl rfl ⟨_, cell_eq9 (kd_lt hkq (by decide)).2⟩ ⟨Nat.le_of_ble_eq_true rfl, Nat.le_of_ble_eq_true rfl⟩ ⟨rfl, rfl⟩ ⟨Nat.le_of_ble_eq_true rfl, Nat.le_of_ble_eq_true rfl⟩ rfl (Nat.le_of_ble_eq_true rfl) dL_law_299 rfl ?_
    refine wl_swap ?_
    refine wl_iconst cx dL_law_302 (-1 : Int32) (by decide) ?_
    refine wl_icmp_ne cx dL_law_303 310 (by decide) (fun h => absurd rfl h) (fun _ => ?_)
    refine wl_iconst cx dL_law_306 (1 : Int32) (by decide) ?_
    refine wl_goto cx dL_law_307 311 (by decide) ?_
    refine wl_istore cx dL_law_311 [(0, .ref b), (1, .ref (ad g 0)), (2, .ref (ad (mate g qq) 0)), (3, .ref ba), (4, .ref wa), (5, .int (iI t)), (6, .int (cellF xs Ln ((8 : Int32) + ((2 : Int32) * (iI t))))), (7, .int (cellF xs Ln ((9 : Int32) + ((2 : Int32) * (iI t))))), (8, .int (1 : Int32))] (Nat.le_of_ble_eq_true rfl) rfl (lvs_c rfl (lvs_c rfl (lvs_c rfl (lvs_c rfl (lvs_c rfl (lvs_c rfl (lvs_c rfl (lvs_c rfl (lvs_c rfl (lvs_n)))))))))) ?_
    refine wl_iload cx dL_law_313 rfl ?_
    refine wl_if_eq cx dL_law_315 350 (by decide) (fun h => absurd h (by decide)) (fun _ => ?_)
    refine wl_aload_n cx (i := 1) dL_law_318 rfl rfl ?_
    refine wl_iload cx dL_law_319 rfl ?_
    refine wl_iload cx dL_law_321 rfl ?_
    refine wl_aload_n cx (i := 3) dL_law_323 rfl rfl ?_
    refine wl_iconst cx dL_law_324 (0 : Int32) (by decide) ?_
    refine wl_iald cx dL_law_325 0 rfl (vinl (by decide)) ?_
    refine wl_aload_n cx (i := 3) dL_law_326 rfl rfl ?_
    refine wl_iconst cx dL_law_327 (3 : Int32) (by decide) ?_
    refine wl_iald cx dL_law_328 0 rfl (vinl (by decide)) ?_
    refine wl_callSl (g := g) (S := S) cx hn (fun hg => m_L_act l hg hko ea) vl_L_149 ⟨Nat.le_of_ble_eq_true rfl, Nat.le_of_ble_eq_true rfl⟩ ⟨rfl, rfl⟩ ⟨Nat.le_of_ble_eq_true rfl, Nat.le_of_ble_eq_true rfl⟩ rfl (Nat.le_of_ble_eq_true rfl) dL_law_329 rfl ?_
    refine wl_aload_n cx (i := 2) dL_law_332 rfl rfl ?_
    refine wl_iload cx dL_law_333 rfl ?_
    refine wl_iload cx dL_law_335 rfl ?_
    refine wl_aload_n cx (i := 3) dL_law_337 rfl rfl ?_
    refine wl_iconst cx dL_law_338 (0 : Int32) (by decide) ?_
    refine wl_iald cx dL_law_339 0 rfl (vinl (by decide)) ?_
    refine wl_aload_n cx (i := 3) dL_law_340 rfl rfl ?_
    refine wl_iconst cx dL_law_341 (3 : Int32) (by decide) ?_
    refine wl_iald cx dL_law_342 0 rfl (vinl (by decide)) ?_
    refine wl_swap ?_
    refine wl_callSl (g := (mate g qq)) (S := S) cx rfl (fun hg => m_L_act l hg hkq ea) vl_L_149 ⟨Nat.le_of_ble_eq_true rfl, Nat.le_of_ble_eq_true rfl⟩ ⟨rfl, rfl⟩ ⟨Nat.le_of_ble_eq_true rfl, Nat.le_of_ble_eq_true rfl⟩ rfl (Nat.le_of_ble_eq_true rfl) dL_law_343 rfl ?_
    refine wl_swap ?_
    refine wl_lcmp_eq cx dL_law_346 dL_law_347 352 (by decide) (fun _ => ?_) (fun h => absurd rfl h)
    refine wl_aload_n cx (i := 1) dL_law_352 rfl rfl ?_
    refine wl_callVi (g := g) (S := S1) cx hn (fun hg => m_X9_judge l hg hko ej) vl_L_86 hko (by decide) rfl rfl ⟨_, cell_eq9 (kd_lt hko (by decide)).2⟩ ⟨Nat.le_of_ble_eq_true rfl, Nat.le_of_ble_eq_true rfl⟩ ⟨rfl, rfl⟩ ⟨Nat.le_of_ble_eq_true rfl, Nat.le_of_ble_eq_true rfl⟩ rfl (Nat.le_of_ble_eq_true rfl) dL_law_353 rfl ?_
    refine wl_aload_n cx (i := 2) dL_law_356 rfl rfl ?_
    refine wl_swap ?_
    refine wl_callVi (g := (mate g qq)) (S := S1) cx rfl (fun hg => m_X9_judge l hg hkq ej) vl_L_86 hkq (by decide) rfl rfl ⟨_, cell_eq9 (kd_lt hkq (by decide)).2⟩ ⟨Nat.le_of_ble_eq_true rfl, Nat.le_of_ble_eq_true rfl⟩ ⟨rfl, rfl⟩ ⟨Nat.le_of_ble_eq_true rfl, Nat.le_of_ble_eq_true rfl⟩ rfl (Nat.le_of_ble_eq_true rfl) dL_law_357 rfl ?_
    refine wl_swap ?_
    refine wl_icmp_ne cx dL_law_360 411 (by decide) (fun h => absurd rfl h) (fun _ => ?_)
    refine wl_aload_n cx (i := 1) dL_law_363 rfl rfl ?_
    refine wl_iconst cx dL_law_364 (0 : Int32) (by decide) ?_
    refine wl_callVl (g := g) (S := S2) cx hn (fun hg => m_X9_odds l hg hko eo) vl_L_72 hko (by decide) rfl rfl ⟨_, cell_eq9 (kd_lt hko (by decide)).2⟩ ⟨Nat.le_of_ble_eq_true rfl, Nat.le_of_ble_eq_true rfl⟩ ⟨rfl, rfl⟩ ⟨Nat.le_of_ble_eq_true rfl, Nat.le_of_ble_eq_true rfl⟩ rfl (Nat.le_of_ble_eq_true rfl) dL_law_365 rfl ?_
    refine wl_aload_n cx (i := 2) dL_law_368 rfl rfl ?_
    refine wl_iconst cx dL_law_369 (0 : Int32) (by decide) ?_
    refine wl_swap ?_
    refine wl_callVl (g := (mate g qq)) (S := S2) cx rfl (fun hg => m_X9_odds l hg hkq eo) vl_L_72 hkq (by decide) rfl rfl ⟨_, cell_eq9 (kd_lt hkq (by decide)).2⟩ ⟨Nat.le_of_ble_eq_true rfl, Nat.le_of_ble_eq_true rfl⟩ ⟨rfl, rfl⟩ ⟨Nat.le_of_ble_eq_true rfl, Nat.le_of_ble_eq_true rfl⟩ rfl (Nat.le_of_ble_eq_true rfl) dL_law_370 rfl ?_
    refine wl_swap ?_
    refine wl_lcmp_ne cx dL_law_373 dL_law_374 411 (by decide) (fun h => absurd rfl h) (fun _ => ?_)
    refine wl_aload_n cx (i := 1) dL_law_377 rfl rfl ?_
    refine wl_iconst cx dL_law_378 (0 : Int32) (by decide) ?_
    refine wl_callVi (g := g) (S := S3) cx hn (fun hg => m_X9_made l hg hko em) vl_L_91 hko (by decide) rfl rfl ⟨_, cell_eq9 (kd_lt hko (by decide)).2⟩ ⟨Nat.le_of_ble_eq_true rfl, Nat.le_of_ble_eq_true rfl⟩ ⟨rfl, rfl⟩ ⟨Nat.le_of_ble_eq_true rfl, Nat.le_of_ble_eq_true rfl⟩ rfl (Nat.le_of_ble_eq_true rfl) dL_law_379 rfl ?_
    refine wl_aload_n cx (i := 2) dL_law_382 rfl rfl ?_
    refine wl_iconst cx dL_law_383 (0 : Int32) (by decide) ?_
    refine wl_swap ?_
    refine wl_callVi (g := (mate g qq)) (S := S3) cx rfl (fun hg => m_X9_made l hg hkq em) vl_L_91 hkq (by decide) rfl rfl ⟨_, cell_eq9 (kd_lt hkq (by decide)).2⟩ ⟨Nat.le_of_ble_eq_true rfl, Nat.le_of_ble_eq_true rfl⟩ ⟨rfl, rfl⟩ ⟨Nat.le_of_ble_eq_true rfl, Nat.le_of_ble_eq_true rfl⟩ rfl (Nat.le_of_ble_eq_true rfl) dL_law_384 rfl ?_
    refine wl_swap ?_
    refine wl_icmp_ne cx dL_law_387 411 (by decide) (fun h => absurd rfl h) (fun _ => ?_)
    refine wl_aload_n cx (i := 1) dL_law_390 rfl rfl ?_
    refine wl_iload cx dL_law_391 rfl ?_
    refine wl_iconst cx dL_law_393 (0 : Int32) (by decide) ?_
    refine wl_callVi (g := g) (S := S3) cx hn (fun hg => m_X9_whole l hg hko ew) vl_L_127 hko (by decide) rfl rfl ⟨_, cell_eq9 (kd_lt hko (by decide)).2⟩ ⟨Nat.le_of_ble_eq_true rfl, Nat.le_of_ble_eq_true rfl⟩ ⟨rfl, rfl⟩ ⟨Nat.le_of_ble_eq_true rfl, Nat.le_of_ble_eq_true rfl⟩ rfl (Nat.le_of_ble_eq_true rfl) dL_law_394 rfl ?_
    refine wl_aload_n cx (i := 2) dL_law_397 rfl rfl ?_
    refine wl_iload cx dL_law_398 rfl ?_
    refine wl_iconst cx dL_law_400 (0 : Int32) (by decide) ?_
    refine wl_swap ?_
    refine wl_callVi (g := (mate g qq)) (S := S3) cx rfl (fun hg => m_X9_whole l hg hkq ew) vl_L_127 hkq (by decide) rfl rfl ⟨_, cell_eq9 (kd_lt hkq (by decide)).2⟩ ⟨Nat.le_of_ble_eq_true rfl, Nat.le_of_ble_eq_true rfl⟩ ⟨rfl, rfl⟩ ⟨Nat.le_of_ble_eq_true rfl, Nat.le_of_ble_eq_true rfl⟩ rfl (Nat.le_of_ble_eq_true rfl) dL_law_401 rfl ?_
    refine wl_swap ?_
    refine wl_icmp_ne cx dL_law_404 411 (by decide) (fun h => absurd rfl h) (fun _ => ?_)
    refine wl_iconst cx dL_law_407 (1 : Int32) (by decide) ?_
    refine wl_goto cx dL_law_408 412 (by decide) ?_
    refine wl_istore cx dL_law_412 [(0, .ref b), (1, .ref (ad g 0)), (2, .ref (ad (mate g qq) 0)), (3, .ref ba), (4, .ref wa), (5, .int (iI t)), (6, .int (cellF xs Ln ((8 : Int32) + ((2 : Int32) * (iI t))))), (7, .int (cellF xs Ln ((9 : Int32) + ((2 : Int32) * (iI t))))), (8, .int (1 : Int32)), (9, .int (1 : Int32))] (Nat.le_of_ble_eq_true rfl) rfl (lvs_c rfl (lvs_c rfl (lvs_c rfl (lvs_c rfl (lvs_c rfl (lvs_c rfl (lvs_c rfl (lvs_c rfl (lvs_c rfl (lvs_c rfl (lvs_n))))))))))) ?_
    refine wl_iconst cx dL_law_414 (0 : Int32) (by decide) ?_
    refine wl_istore cx dL_law_415 [(0, .ref b), (1, .ref (ad g 0)), (2, .ref (ad (mate g qq) 0)), (3, .ref ba), (4, .ref wa), (5, .int (iI t)), (6, .int (cellF xs Ln ((8 : Int32) + ((2 : Int32) * (iI t))))), (7, .int (cellF xs Ln ((9 : Int32) + ((2 : Int32) * (iI t))))), (8, .int (1 : Int32)), (9, .int (1 : Int32)), (10, .int (0 : Int32))] (Nat.le_of_ble_eq_true rfl) rfl (lvs_c rfl (lvs_c rfl (lvs_c rfl (lvs_c rfl (lvs_c rfl (lvs_c rfl (lvs_c rfl (lvs_c rfl (lvs_c rfl (lvs_c rfl (lvs_c rfl (lvs_n)))))))))))) ?_
    refine wl_sub (lv' := [(0, .ref b), (1, .ref (ad g 0)), (2, .ref (ad (mate g qq) 0)), (3, .ref ba), (4, .ref wa), (5, .int (iI t)), (9, .int (1 : Int32)), (10, .int (iI ((0 : Nat) : Int)))]) (lvs_c rfl (lvs_c rfl (lvs_c rfl (lvs_c rfl (lvs_c rfl (lvs_c rfl (lvs_c rfl (lvs_c rfl (lvs_n))))))))) ?_
    refine w_law_417 cx hX hbl hbA hn hcv ?_ 7 0 (by omega)
    refine wl_iload cx dL_law_466 rfl ?_
    refine wl_if_eq cx dL_law_468 512 (by decide) (fun h => absurd h (by decide)) (fun _ => ?_)
    refine wl_aload_n cx (i := 1) dL_law_471 rfl rfl ?_
    refine wl_iconst cx dL_law_472 (0 : Int32) (by decide) ?_
    refine wl_callVi (g := g) (S := S4) cx hn (fun hg => m_X9_count l hg hko (hcv 0 (by omega)).1) vl_L_146 hko (by decide) rfl rfl ⟨_, cell_eq9 (kd_lt hko (by decide)).2⟩ ⟨Nat.le_of_ble_eq_true rfl, Nat.le_of_ble_eq_true rfl⟩ ⟨rfl, rfl⟩ ⟨Nat.le_of_ble_eq_true rfl, Nat.le_of_ble_eq_true rfl⟩ rfl (Nat.le_of_ble_eq_true rfl) dL_law_473 rfl ?_
    refine wl_aload_n cx (i := 3) dL_law_476 rfl rfl ?_
    refine wl_iconst cx dL_law_477 (0 : Int32) (by decide) ?_
    refine wl_iald cx dL_law_478 0 rfl (vinl (by decide)) ?_
    refine wl_icmp_ne cx dL_law_479 512 (by decide) (fun h => absurd hc0 h) (fun _ => ?_)
    refine wl_aload_n cx (i := 1) dL_law_482 rfl rfl ?_
    refine wl_iconst cx dL_law_483 (1 : Int32) (by decide) ?_
    refine wl_callVi (g := g) (S := S4) cx hn (fun hg => m_X9_count l hg hko (hcv 1 (by omega)).1) vl_L_146 hko (by decide) rfl rfl ⟨_, cell_eq9 (kd_lt hko (by decide)).2⟩ ⟨Nat.le_of_ble_eq_true rfl, Nat.le_of_ble_eq_true rfl⟩ ⟨rfl, rfl⟩ ⟨Nat.le_of_ble_eq_true rfl, Nat.le_of_ble_eq_true rfl⟩ rfl (Nat.le_of_ble_eq_true rfl) dL_law_484 rfl ?_
    refine wl_aload_n cx (i := 3) dL_law_487 rfl rfl ?_
    refine wl_iconst cx dL_law_488 (0 : Int32) (by decide) ?_
    refine wl_iald cx dL_law_489 0 rfl (vinl (by decide)) ?_
    refine wl_icmp_gt cx dL_law_490 512 (by decide) (fun h => absurd h hc1) (fun _ => ?_)
    refine wl_aload_n cx (i := 1) dL_law_493 rfl rfl ?_
    refine wl_iconst cx dL_law_494 (4 : Int32) (by decide) ?_
    refine wl_callVi (g := g) (S := S4) cx hn (fun hg => m_X9_count l hg hko (hcv 4 (by omega)).1) vl_L_146 hko (by decide) rfl rfl ⟨_, cell_eq9 (kd_lt hko (by decide)).2⟩ ⟨Nat.le_of_ble_eq_true rfl, Nat.le_of_ble_eq_true rfl⟩ ⟨rfl, rfl⟩ ⟨Nat.le_of_ble_eq_true rfl, Nat.le_of_ble_eq_true rfl⟩ rfl (Nat.le_of_ble_eq_true rfl) dL_law_495 rfl ?_
    refine wl_iconst cx dL_law_498 (2 : Int32) (by decide) ?_
    refine wl_icmp_gt cx dL_law_499 512 (by decide) (fun h => absurd h hc4) (fun _ => ?_)
    refine wl_aload_n cx (i := 1) dL_law_502 rfl rfl ?_
    refine wl_iconst cx dL_law_503 (0 : Int32) (by decide) ?_
    refine wl_callVl (g := g) (S := S4) cx hn (fun hg => m_X9_odds l hg hko eo2) vl_L_72 hko (by decide) rfl rfl ⟨_, cell_eq9 (kd_lt hko (by decide)).2⟩ ⟨Nat.le_of_ble_eq_true rfl, Nat.le_of_ble_eq_true rfl⟩ ⟨rfl, rfl⟩ ⟨Nat.le_of_ble_eq_true rfl, Nat.le_of_ble_eq_true rfl⟩ rfl (Nat.le_of_ble_eq_true rfl) dL_law_504 rfl ?_
    refine wl_lconst cx dL_law_507 (0 : Int64) (by decide) ?_
    refine wl_lcmp_ge cx dL_law_508 dL_law_509 514 (by decide) (fun _ => ?_) (fun h => absurd ho0 h)
    refine wl_iinc cx dL_law_514 ((iI t) + (1 : Int32)) [(0, .ref b), (1, .ref (ad g 0)), (2, .ref (ad (mate g qq) 0)), (3, .ref ba), (4, .ref wa), (5, .int ((iI t) + (1 : Int32))), (9, .int (1 : Int32))] rfl rfl (Nat.le_of_ble_eq_true rfl) rfl (lvs_c rfl (lvs_c rfl (lvs_c rfl (lvs_c rfl (lvs_c rfl (lvs_c rfl (lvs_c rfl (lvs_n)))))))) ?_
    refine wl_goto cx dL_law_517 79 (by decide) ?_
    refine wl_sub (lv' := [(0, .ref b), (1, .ref (ad g 0)), (2, .ref (ad (mate g qq) 0)), (3, .ref ba), (4, .ref wa), (5, .int ((iI t) + (1 : Int32)))]) (lvs_c rfl (lvs_c rfl (lvs_c rfl (lvs_c rfl (lvs_c rfl (lvs_c rfl (lvs_n))))))) ?_
    rw [show iI (t : Int) + (1 : Int32) = iI ((t + 1 : Nat) : Int) from iI_add t 1]
    exact ih (t + 1) S4 (by omega) hS4
set_option maxHeartbeats 40000000 in
set_option maxRecDepth 1000000 in
theorem w_law_44 {p : Program} {l : Launch} {e : Env} {s : State} {m : MethodId} {below : List Frame} {meth : Method} {c : Code} {g : Gl} {qq : Nat → Nat} {A : Nat → Prop} {b ba wa Ln : Nat} {xs : Nat → Int32} {W : Nat → Int32} {So Sq : St} (cx : CxL p s m #[Value.ref b] meth c cL_law 11 ret RL g.1 g.2.1 A) (hX : va_X b Ln xs s s.heap) (hbl : b < s.heap.size) (hbA : ¬ A b) (hn : npl g = 103) (kk : ∀ B : Nat → Int32, WL p l e room_1 s m #[Value.ref b] below meth c 208 3768 (lw_Z below #[Value.ref b] s) 11 g.1 A ((bw ba wa g.2.1 B W ++ pool (mate g qq) Sq) ++ pool g So) 62 [(0, .ref b), (1, .ref (ad g 0)), (2, .ref (ad (mate g qq) 0)), (3, .ref ba), (4, .ref wa)] []) : ∀ (f j : Nat) (B : Nat → Int32), j + f = 41 → WL p l e room_1 s m #[Value.ref b] below meth c 208 3768 (lw_Z below #[Value.ref b] s) 11 g.1 A ((bw ba wa g.2.1 B W ++ pool (mate g qq) Sq) ++ pool g So) 44 [(0, .ref b), (1, .ref (ad g 0)), (2, .ref (ad (mate g qq) 0)), (3, .ref ba), (4, .ref wa), (5, .int (iI j))] [] := by
  intro f
  induction f with
  | zero =>
    intro j B hj
    refine wl_iload cx dL_law_44 rfl ?_
    refine wl_bipush cx dL_law_46 (41 : Int32) (by decide) ?_
    refine wl_icmp_ge cx dL_law_48 62 (by decide) (fun _ => ?_) (fun h => absurd (by rw [show (41 : Int32) = iI 41 from rfl, iI_le (by omega) (by omega)]; omega) h)
    exact wl_sub (lv' := [(0, .ref b), (1, .ref (ad g 0)), (2, .ref (ad (mate g qq) 0)), (3, .ref ba), (4, .ref wa)]) (lvs_c rfl (lvs_c rfl (lvs_c rfl (lvs_c rfl (lvs_c rfl (lvs_n)))))) (kk B)
  | succ f ih =>
    intro j B hj
    refine wl_iload cx dL_law_44 rfl ?_
    refine wl_bipush cx dL_law_46 (41 : Int32) (by decide) ?_
    refine wl_icmp_ge cx dL_law_48 62 (by decide) (fun h => absurd h (by rw [show (41 : Int32) = iI 41 from rfl, iI_le (by omega) (by omega)]; omega)) (fun _ => ?_)
    refine wl_aload_n cx (i := 3) dL_law_51 rfl rfl ?_
    refine wl_iload cx dL_law_52 rfl ?_
    refine wl_iconst cx dL_law_54 (0 : Int32) (by decide) ?_
    refine wl_iast cx ((bw ba wa g.2.1 (fset B (Int32.toNatClampNeg (iI j)) (0 : Int32)) W ++ pool (mate g qq) Sq) ++ pool g So) dL_law_55 0 rfl (by rw [show (iI (j : Int)) = nI j from rfl]; exact vp_in_nI (by omega) (by omega)) rfl ?_
    refine wl_iinc cx dL_law_56 ((iI j) + (1 : Int32)) [(0, .ref b), (1, .ref (ad g 0)), (2, .ref (ad (mate g qq) 0)), (3, .ref ba), (4, .ref wa), (5, .int ((iI j) + (1 : Int32)))] rfl rfl (Nat.le_of_ble_eq_true rfl) rfl (lvs_c rfl (lvs_c rfl (lvs_c rfl (lvs_c rfl (lvs_c rfl (lvs_c rfl (lvs_n))))))) ?_
    refine wl_goto cx dL_law_59 44 (by decide) ?_
    rw [show iI (j : Int) + (1 : Int32) = iI ((j + 1 : Nat) : Int) from iI_add j 1]
    exact ih (j + 1) _ (by omega)
set_option maxHeartbeats 40000000 in
set_option maxRecDepth 1000000 in
theorem w_law_27 {p : Program} {l : Launch} {e : Env} {s : State} {m : MethodId} {below : List Frame} {meth : Method} {c : Code} {g : Gl} {qq : Nat → Nat} {A : Nat → Prop} {b ba wa Ln : Nat} {xs : Nat → Int32} {Bz Wz : Nat → Int32} {S0 Sb : St} {LI : St → Prop} {b0 b3 : Int32} (cx : CxL p s m #[Value.ref b] meth c cL_law 11 ret RL g.1 g.2.1 A) (hX : va_X b Ln xs s s.heap) (hbl : b < s.heap.size) (hbA : ¬ A b) (hn : npl g = 103) (hLn : Ln < 2147483648) (hbd : ∀ B W : Nat → Int32, ∃ B2 W2 : Nat → Int32, f_L_board 0 xs Ln (0 : Int32) S0 B W = some ((1 : Int32), Sb, B2, W2) ∧ B2 (Int32.toNatClampNeg (0 : Int32)) = b0 ∧ B2 (Int32.toNatClampNeg (3 : Int32)) = b3) (hSb : LI Sb) (hR : ∀ S, LI S → Refus S ∧ ∀ (x y : Int32) (t : Nat), t < 40 → ∃ S4, Round b0 b3 x y (iI t) S S4 ∧ LI S4) (hA : A = fun q => s.heap.size ≤ q) : WL p l e room_1 s m #[Value.ref b] below meth c 208 3768 (lw_Z below #[Value.ref b] s) 11 g.1 A ((bw ba wa g.2.1 Bz Wz ++ pool (mate g qq) S0) ++ pool g S0) 27 [(0, .ref b), (1, .ref (ad g 0)), (2, .ref (ad (mate g qq) 0)), (3, .ref ba), (4, .ref wa)] [] := by
  have hko : kd g 0 = 9 := by unfold kd; rw [hn]; rfl
  have hkq : kd (mate g qq) 0 = 9 := rfl
  obtain ⟨B1, W1, e1, -, -⟩ := hbd Bz Wz
  refine wl_aload_n cx (i := 1) dL_law_27 rfl rfl ?_
  refine wl_aload_n cx (i := 0) dL_law_28 rfl rfl ?_
  refine wl_iconst cx dL_law_29 (0 : Int32) (by decide) ?_
  refine wl_aload_n cx (i := 3) dL_law_30 rfl rfl ?_
  refine wl_aload cx dL_law_31 rfl ?_
  refine wl_rot ?_
  refine wl_re (ws2 := pool (mate g qq) S0 ++ (bw ba wa g.2.1 Bz Wz ++ pool g S0)) (List.append_assoc _ _ _) ?_
  refine wl_callG cx hX hbl hbA (m_L_board l (g := g) hn (b := b) (ba := ba) (wa := wa) hko e1) vl_L_137 ⟨Nat.le_of_ble_eq_true rfl, Nat.le_of_ble_eq_true rfl⟩ ⟨rfl, rfl⟩ ⟨Nat.le_of_ble_eq_true rfl, Nat.le_of_ble_eq_true rfl⟩ rfl (Nat.le_of_ble_eq_true rfl) dL_law_33 rfl ?_
  refine wl_re (ws2 := (pool (mate g qq) S0 ++ bw ba wa g.2.1 B1 W1) ++ pool g Sb) (List.append_assoc _ _ _).symm ?_
  refine wl_rot ?_
  refine wl_if_ne cx dL_law_36 41 (by decide) (fun _ => ?_) (fun h => absurd h (by decide))
  refine wl_iconst cx dL_law_41 (0 : Int32) (by decide) ?_
  refine wl_istore cx dL_law_42 [(0, .ref b), (1, .ref (ad g 0)), (2, .ref (ad (mate g qq) 0)), (3, .ref ba), (4, .ref wa), (5, .int (iI ((0 : Nat) : Int)))] (Nat.le_of_ble_eq_true rfl) rfl (lvs_c rfl (lvs_c rfl (lvs_c rfl (lvs_c rfl (lvs_c rfl (lvs_c rfl (lvs_n))))))) ?_
  refine w_law_44 cx hX hbl hbA hn (fun B => ?_) 41 0 B1 (by omega)
  obtain ⟨B2, W2, e2, g0, g3⟩ := hbd B W1
  refine wl_aload_n cx (i := 2) dL_law_62 rfl rfl ?_
  refine wl_aload_n cx (i := 0) dL_law_63 rfl rfl ?_
  refine wl_iconst cx dL_law_64 (0 : Int32) (by decide) ?_
  refine wl_aload_n cx (i := 3) dL_law_65 rfl rfl ?_
  refine wl_aload cx dL_law_66 rfl ?_
  refine wl_swap ?_
  refine wl_rot ?_
  refine wl_re (ws2 := pool g Sb ++ (bw ba wa g.2.1 B W1 ++ pool (mate g qq) S0)) (List.append_assoc _ _ _) ?_
  refine wl_callG cx hX hbl hbA (m_L_board l (g := (mate g qq)) rfl (b := b) (ba := ba) (wa := wa) hkq e2) vl_L_137 ⟨Nat.le_of_ble_eq_true rfl, Nat.le_of_ble_eq_true rfl⟩ ⟨rfl, rfl⟩ ⟨Nat.le_of_ble_eq_true rfl, Nat.le_of_ble_eq_true rfl⟩ rfl (Nat.le_of_ble_eq_true rfl) dL_law_68 rfl ?_
  refine wl_re (ws2 := (pool g Sb ++ bw ba wa g.2.1 B2 W2) ++ pool (mate g qq) Sb) (List.append_assoc _ _ _).symm ?_
  refine wl_rot ?_
  refine wl_swap ?_
  refine wl_if_ne cx dL_law_71 76 (by decide) (fun _ => ?_) (fun h => absurd h (by decide))
  refine wl_iconst cx dL_law_76 (0 : Int32) (by decide) ?_
  refine wl_istore cx dL_law_77 [(0, .ref b), (1, .ref (ad g 0)), (2, .ref (ad (mate g qq) 0)), (3, .ref ba), (4, .ref wa), (5, .int (iI ((0 : Nat) : Int)))] (Nat.le_of_ble_eq_true rfl) rfl (lvs_c rfl (lvs_c rfl (lvs_c rfl (lvs_c rfl (lvs_c rfl (lvs_c rfl (lvs_n))))))) ?_
  refine w_law_79 cx hX hbl hbA hn hLn (LI := LI) ?_ hA 40 0 Sb (by omega) hSb
  rw [g0, g3]
  exact hR
set_option maxHeartbeats 40000000 in
set_option maxRecDepth 1000000 in
theorem whole_start_of {S1 Sb : St} {LI : St → Prop} {b0 b3 : Int32} (hE : f_X9_initB 0 S0 = some ((), S1)) {p : Program} {e : Env} {s : State} {m : MethodId} {below : List Frame} {meth : Method} {c : Code} (l : Launch) {b Ln : Nat} {xs : Nat → Int32} (hLn : Ln < 2147483648) (hbd : ∀ B W : Nat → Int32, ∃ B2 W2 : Nat → Int32, f_L_board 0 xs Ln (0 : Int32) S1 B W = some ((1 : Int32), Sb, B2, W2) ∧ B2 (Int32.toNatClampNeg (0 : Int32)) = b0 ∧ B2 (Int32.toNatClampNeg (3 : Int32)) = b3) (hSb : LI Sb) (hR : ∀ S, LI S → Refus S ∧ ∀ (x y : Int32) (t : Nat), t < 40 → ∃ S4, Round b0 b3 x y (iI t) S S4 ∧ LI S4) (C0 : lw_At p s m meth c b Ln xs) : W p l e room_1 s m #[Value.ref b] below meth c s.heap [] 0 0 (lw_Z below #[Value.ref b] s) (entryFrame m ([Value.ref b] : List Value).toArray 11) := by
  obtain ⟨hx, hb, hr, hml, hown, hts, hX, hbl, hlocks, hgv⟩ := id C0
  obtain ⟨A, hAe⟩ : ∃ A : Nat → Prop, A = fun q => s.heap.size ≤ q := ⟨_, rfl⟩
  have hbA : ¬ A b := by rw [hAe]; exact Nat.not_le.mpr hbl
  have htg : ∀ w ∈ lw_g, w.before #[Value.ref b] s = true := fun w h => hts w (List.mem_filter.mp h).1
  have hNW : NW s := fun w hw hn => by
    cases w <;> first | (exact va_Nw.of rfl (hts _ hw)) | (cases hn)
  obtain ⟨c0, iS0, hKn0⟩ := u_known (C := RX0) (T := TX0) (N := 11) (n := 11) htg inW0 (htg _ ins_0)
  obtain ⟨c1, iS1, hKn1⟩ := u_known (C := RX1) (T := TX1) (N := 11) (n := 11) htg inW1 (htg _ ins_1)
  obtain ⟨c2, iS2, hKn2⟩ := u_known (C := RX2) (T := TX2) (N := 11) (n := 11) htg inW2 (htg _ ins_2)
  obtain ⟨c3, iS3, hKn3⟩ := u_known (C := RX3) (T := TX3) (N := 2) (n := 2) htg inW3 (htg _ ins_3)
  obtain ⟨c4, iS4, hKn4⟩ := u_known (C := RX4) (T := TX4) (N := 6) (n := 6) htg inW4 (htg _ ins_4)
  obtain ⟨c5, iS5, hKn5⟩ := u_known (C := RX5) (T := TX5) (N := 3) (n := 3) htg inW5 (htg _ ins_5)
  obtain ⟨c6, iS6, hKn6⟩ := u_known (C := RX6) (T := TX6) (N := 10) (n := 10) htg inW6 (htg _ ins_6)
  obtain ⟨c7, iS7, hKn7⟩ := u_known (C := RX7) (T := TX7) (N := 2) (n := 2) htg inW7 (htg _ ins_7)
  obtain ⟨c8, iS8, hKn8⟩ := u_known (C := RX8) (T := TX8) (N := 10) (n := 10) htg inW8 (htg _ ins_8)
  obtain ⟨c9, iS9, hKn9⟩ := u_known (C := RX9) (T := TX9) (N := 19) (n := 19) htg inW9 (htg _ ins_9)
  obtain ⟨dC, dI, hKc⟩ : ∃ (dC : Nat → ClassId) (dI : Nat → Nat → Nat), ∀ (k : Nat) (q : vw_C), vwCl[k]? = some q → u_Kn s q.1 q.2.1 q.2.2 (dC k) (dI k) := by
    refine ⟨fun k => if k = 0 then c0 else if k = 1 then c1 else if k = 2 then c2 else if k = 3 then c3 else if k = 4 then c4 else if k = 5 then c5 else if k = 6 then c6 else if k = 7 then c7 else if k = 8 then c8 else c9, fun k => if k = 0 then iS0 else if k = 1 then iS1 else if k = 2 then iS2 else if k = 3 then iS3 else if k = 4 then iS4 else if k = 5 then iS5 else if k = 6 then iS6 else if k = 7 then iS7 else if k = 8 then iS8 else iS9, ?_⟩
    intro k q hq
    match k, hq with
    | 0, hq => cases hq; exact hKn0
    | 1, hq => cases hq; exact hKn1
    | 2, hq => cases hq; exact hKn2
    | 3, hq => cases hq; exact hKn3
    | 4, hq => cases hq; exact hKn4
    | 5, hq => cases hq; exact hKn5
    | 6, hq => cases hq; exact hKn6
    | 7, hq => cases hq; exact hKn7
    | 8, hq => cases hq; exact hKn8
    | 9, hq => cases hq; exact hKn9
    | k + 10, hq => simp [vwCl] at hq
  have arr : ∀ ty : FieldType, Cond.arrayClass ty ∈ lw_g → (∀ C, ty ≠ .object C) → ∃ cA : ClassId, ArrOfT s cA ty ∧ va_RA s cA ty := fun ty h hno => by
    obtain ⟨cA, kA, comp, h1, h2, h3⟩ := Cond.arrayClass_spec (htg _ h)
    exact ⟨cA, fun n z => ⟨fun k h => (by cases h), kA, h2, comp, h3⟩, by cases ty <;> first | exact h1 | exact absurd rfl (hno _)⟩
  obtain ⟨cI, hI1, hI2⟩ := arr .int ar_I (fun _ h => by cases h)
  obtain ⟨cJ, hJ1, hJ2⟩ := arr .long ar_J (fun _ h => by cases h)
  obtain ⟨D, hDe⟩ : ∃ D : va_G, D = (dC, dI) := ⟨_, rfl⟩
  obtain ⟨cy, hcy⟩ : ∃ cy : ClassId × ClassId, cy = (cI, cJ) := ⟨_, rfl⟩
  have hK : va_K D vwCl [(cy.1, .int), (cy.2, .long)] s := by
    rw [hDe, hcy]
    refine ⟨hKc, fun k q h => ?_⟩
    match k, h with
    | 0, h => cases h; exact ⟨hI1, hI2⟩
    | 1, h => cases h; exact ⟨hJ1, hJ2⟩
    | k + 2, h => simp at h
  have cx : CxL p s m #[Value.ref b] meth c cL_law 11 ret RL D cy A := ⟨hx, hb, hml, hown, htg, hK, fun q h => by rw [hAe]; exact h, hr, hlocks, hNW⟩
  have hl := lv_entry ([.ref b]) (n := 11) (Nat.le_of_ble_eq_true rfl)
  rw [lg_entry_eq]
  generalize (lg_sl ([.ref b]) ++ List.replicate (11 - (lg_sl ([.ref b])).length) Slot.unset).toArray = ls at hl ⊢
  have hl : lv_has ls 11 [(0, .ref b)] := hl
  suffices hWL : WL p l e room_1 s m #[Value.ref b] below meth c 0 0 (lw_Z below #[Value.ref b] s) 11 D A [] 0 [(0, .ref b)] [] from hWL s.heap [] ls (fun k q h => by simp at h) ⟨fun i j p q h => by simp at h, fun k q h => by simp at h⟩ va_S.rf hl
  refine wl_new (ci := 9) cx dL_law_0 1 19 nul9 tyX9 tyX9_ok inW9 (show Cond.classLink RL 10 RX9 ∈ lw_g from (lwm 40 (by decide +kernel) rfl)) ins_9 ini_9 rfl nulv9 ⟨rfl, rfl⟩ ⟨Nat.le_of_ble_eq_true rfl, Nat.le_of_ble_eq_true rfl⟩ (fun p8 => ?_)
  refine wl_dup cx dL_law_3 rfl ?_
  refine wl_callI (wr := ([] : va_W)) cx dL_law_4 103 1853 (fun sz => c_X9 l D cy hE p8 sz) (show IL RL 136 yX9_init cX9_init 1 from ⟨⟨(lwm 42 (by decide +kernel) rfl), (lwm 43 (by decide +kernel) rfl), (lwm 27 (by decide +kernel) rfl), (lwm 44 (by decide +kernel) rfl)⟩, by decide, by decide, by decide +kernel⟩) rfl ⟨Nat.le_of_ble_eq_true rfl, Nat.le_of_ble_eq_true rfl⟩ ⟨rfl, rfl⟩ ⟨rfl, rfl⟩ ⟨Nat.le_of_ble_eq_true rfl, Nat.le_of_ble_eq_true rfl⟩ (Nat.le_of_ble_eq_true rfl) (fun u8 hu8 => ?_)
  subst hu8
  refine wl_re (List.nil_append _) ?_
  refine wl_astore_n cx (i := 1) dL_law_7 [(0, .ref b), (1, .ref (u8 0))] rfl (Nat.le_of_ble_eq_true rfl) rfl (lvs_c rfl (lvs_c rfl lvs_n)) ?_
  refine wl_new (ci := 9) cx dL_law_8 104 1872 nul9 tyX9 tyX9_ok inW9 (show Cond.classLink RL 10 RX9 ∈ lw_g from (lwm 40 (by decide +kernel) rfl)) ins_9 ini_9 rfl nulv9 ⟨rfl, rfl⟩ ⟨Nat.le_of_ble_eq_true rfl, Nat.le_of_ble_eq_true rfl⟩ (fun p9 => ?_)
  refine wl_dup cx dL_law_11 rfl ?_
  refine wl_callI (wr := (pool (D, cy, u8, 103) S1)) cx dL_law_12 206 3706 (fun sz => c_X9 l D cy hE p9 sz) (show IL RL 136 yX9_init cX9_init 1 from ⟨⟨(lwm 42 (by decide +kernel) rfl), (lwm 43 (by decide +kernel) rfl), (lwm 27 (by decide +kernel) rfl), (lwm 44 (by decide +kernel) rfl)⟩, by decide, by decide, by decide +kernel⟩) rfl ⟨Nat.le_of_ble_eq_true rfl, Nat.le_of_ble_eq_true rfl⟩ ⟨rfl, rfl⟩ ⟨rfl, rfl⟩ ⟨Nat.le_of_ble_eq_true rfl, Nat.le_of_ble_eq_true rfl⟩ (Nat.le_of_ble_eq_true rfl) (fun u9 hu9 => ?_)
  subst hu9
  refine wl_astore_n cx (i := 2) dL_law_15 [(0, .ref b), (1, .ref (u8 0)), (2, .ref (u9 0))] rfl (Nat.le_of_ble_eq_true rfl) rfl (lvs_c rfl (lvs_c rfl (lvs_c rfl lvs_n))) ?_
  refine wl_bipush cx dL_law_16 (41 : Int32) (by decide) ?_
  refine wl_newI cx dL_law_18 41 207 3747 ar_I (by decide) (by decide) (by decide) ⟨rfl, rfl⟩ ⟨Nat.le_of_ble_eq_true rfl, Nat.le_of_ble_eq_true rfl⟩ (fun ba => ?_)
  refine wl_astore_n cx (i := 3) dL_law_20 [(0, .ref b), (1, .ref (u8 0)), (2, .ref (u9 0)), (3, .ref ba)] rfl (Nat.le_of_ble_eq_true rfl) rfl (lvs_c rfl (lvs_c rfl (lvs_c rfl (lvs_c rfl lvs_n)))) ?_
  refine wl_bipush cx dL_law_21 (21 : Int32) (by decide) ?_
  refine wl_newI cx dL_law_23 21 208 3768 ar_I (by decide) (by decide) (by decide) ⟨rfl, rfl⟩ ⟨Nat.le_of_ble_eq_true rfl, Nat.le_of_ble_eq_true rfl⟩ (fun wa => ?_)
  refine wl_astore cx dL_law_25 [(0, .ref b), (1, .ref (u8 0)), (2, .ref (u9 0)), (3, .ref ba), (4, .ref wa)] (Nat.le_of_ble_eq_true rfl) rfl (lvs_c rfl (lvs_c rfl (lvs_c rfl (lvs_c rfl (lvs_c rfl lvs_n))))) ?_
  refine wl_re (ws2 := (pool (D, cy, u8, 103) S1 ++ pool (D, cy, u9, 103) S1) ++ bw ba wa cy (fun _ => 0) (fun _ => 0)) (List.append_assoc _ _ _) ?_
  refine wl_swap ?_
  refine wl_rot ?_
  refine wl_swap ?_
  exact w_law_27 (g := (D, cy, u8, 103)) (qq := u9) cx hX hbl hbA rfl hLn hbd hSb hR hAe
