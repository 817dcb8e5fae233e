def rm_X4_failingWays : Room := { frames := 3, cells := 0, slots := 0, locals := 71 }
def f_X4_failingWays_L15 : Nat → Nat → (Int64 → Int32 → St → Option (Int64 × St)) → Int64 → Int32 → Int32 → St → Option (Int64 × St)
  | 0, _, _, _, _, _, _ => none
  | n + 1, c0, kb4, l1, l3, l4, S => ck (kdE (S.2.2 c0 0) = 0) (if (S.1 (S.2.2 c0 0) 0) < l4 then kb4 l1 (l3 + (1 : Int32)) S else if l3 < l4 then kb4 l1 (l3 + (1 : Int32)) S else bd (f_X4_failingWays_ c0 l3 l4 S) fun x4 S5 => sq (l1 + x4) fun x7 => f_X4_failingWays_L15 n c0 kb4 x7 l3 (l4 + (1 : Int32)) S5)
set_option maxHeartbeats 4000000 in
set_option maxRecDepth 100000 in
theorem w_X4_failingWays_L15 {p : Program} {l : Launch} {e : Env} {s : State} {m : MethodId} {args : Array Value} {below : List Frame} {meth : Method} {c : Code} {g : Gl} {r : Int64 × St} {c0 : Nat} {kb4 : Int64 → Int32 → St → Option (Int64 × St)} (cx : Cx p s m args meth c cX4_failingWays 5 (some .long) RX4 g (Ap g)) (h_c0 : kd g c0 = 4) (hkb4 : ∀ (l1 : Int64) (l3 : Int32) (S : St), kb4 l1 l3 S = some r → WA p l e rm_X4_failingWays s m args below meth c 0 0 (MQ below (QWl g r) args s 0 0 (Ap g)) 5 g (Ap g) S 4 [(0, .ref (ad g c0)), (1, .long l1), (3, .int l3)] []) : ∀ n : Nat, ∀ (l1 : Int64) (l3 : Int32) (l4 : Int32) (S : St), f_X4_failingWays_L15 n c0 kb4 l1 l3 l4 S = some r → WA p l e rm_X4_failingWays s m args below meth c 0 0 (MQ below (QWl g r) args s 0 0 (Ap g)) 5 g (Ap g) S 15 [(0, .ref (ad g c0)), (1, .long l1), (3, .int l3), (4, .int l4)] [] := by
  intro n
  induction n with
  | zero => intro l1 l3 l4 S h; rw [f_X4_failingWays_L15] at h; cases h
  | succ n ih =>
    intro l1 l3 l4 S h
    rw [f_X4_failingWays_L15] at h
    refine wa_iload cx dX4_failingWays_15 rfl ?_
    refine wa_aload_n cx (i := 0) dX4_failingWays_17 rfl rfl ?_
    obtain ⟨b1, h⟩ := ck_some h
    refine gf_X4_12 cx h_c0 dX4_failingWays_18 ?_
    refine gf_X4_43 cx (kd_of cx.2.2.2.2.2.2.1 b1 (by decide)) dX4_failingWays_21 ?_
    refine wa_icmp_gt cx dX4_failingWays_24 49 (by decide) (fun q2 => ?_) (fun q2 => ?_)
    · rw [if_pos q2] at h
      refine wa_iinc cx dX4_failingWays_49 (l3 + (1 : Int32)) [(0, .ref (ad g c0)), (1, .long l1), (3, .int (l3 + (1 : Int32)))] rfl rfl (Nat.le_of_ble_eq_true rfl) rfl (lvs_c rfl (lvs_c rfl (lvs_c rfl (lvs_n)))) ?_
      refine wa_goto cx dX4_failingWays_52 4 (by decide) ?_
      refine wa_sub (lv' := [(0, .ref (ad g c0)), (1, .long l1), (3, .int (l3 + (1 : Int32)))]) (lvs_c rfl (lvs_c rfl (lvs_c rfl (lvs_n)))) ?_
      exact hkb4 l1 (l3 + (1 : Int32)) S  h
    · rw [if_neg q2] at h
      refine wa_iload cx dX4_failingWays_27 rfl ?_
      refine wa_iload_n cx (i := 3) dX4_failingWays_29 rfl rfl ?_
      refine wa_icmp_gt cx dX4_failingWays_30 49 (by decide) (fun q3 => ?_) (fun q3 => ?_)
      · rw [if_pos q3] at h
        refine wa_iinc cx dX4_failingWays_49 (l3 + (1 : Int32)) [(0, .ref (ad g c0)), (1, .long l1), (3, .int (l3 + (1 : Int32)))] rfl rfl (Nat.le_of_ble_eq_true rfl) rfl (lvs_c rfl (lvs_c rfl (lvs_c rfl (lvs_n)))) ?_
        refine wa_goto cx dX4_failingWays_52 4 (by decide) ?_
        refine wa_sub (lv' := [(0, .ref (ad g c0)), (1, .long l1), (3, .int (l3 + (1 : Int32)))]) (lvs_c rfl (lvs_c rfl (lvs_c rfl (lvs_n)))) ?_
        exact hkb4 l1 (l3 + (1 : Int32)) S  h
      · rw [if_neg q3] at h
        refine wa_lload_n cx (i := 1) dX4_failingWays_33 rfl rfl ?_
        refine wa_aload_n cx (i := 0) dX4_failingWays_34 rfl rfl ?_
        refine wa_iload_n cx (i := 3) dX4_failingWays_35 rfl rfl ?_
        refine wa_iload cx dX4_failingWays_36 rfl ?_
        obtain ⟨x4, S5, e6, h⟩ := bd_some h
        refine wa_callVl cx (m_X4_failingWays_ l cx.2.2.2.2.2.2.1 h_c0 e6) vl_X4_82 h_c0 (by decide) rfl rfl ⟨_, cell_eq4 (kd_lt h_c0 (by decide)).2⟩ ⟨Nat.le_of_ble_eq_true rfl, Nat.le_of_ble_eq_true rfl⟩ ⟨rfl, rfl⟩ ⟨Nat.zero_le _, Nat.zero_le _⟩ rfl (Nat.le_of_ble_eq_true rfl) dX4_failingWays_38 rfl ?_
        refine wa_ladd cx dX4_failingWays_41 ?_
        replace h := sq_eq h
        generalize (l1 + x4) = x7 at h ⊢
        refine wa_lstore_n cx (i := 1) dX4_failingWays_42 [(0, .ref (ad g c0)), (1, .long x7), (3, .int l3), (4, .int l4)] rfl (Nat.le_of_ble_eq_true rfl) rfl (lvs_c rfl (lvs_c rfl (lvs_c rfl (lvs_c rfl (lvs_n))))) ?_
        refine wa_iinc cx dX4_failingWays_43 (l4 + (1 : Int32)) [(0, .ref (ad g c0)), (1, .long x7), (3, .int l3), (4, .int (l4 + (1 : Int32)))] rfl rfl (Nat.le_of_ble_eq_true rfl) rfl (lvs_c rfl (lvs_c rfl (lvs_c rfl (lvs_c rfl (lvs_n))))) ?_
        refine wa_goto cx dX4_failingWays_46 15 (by decide) ?_
        refine wa_sub (lv' := [(0, .ref (ad g c0)), (1, .long x7), (3, .int l3), (4, .int (l4 + (1 : Int32)))]) (lvs_c rfl (lvs_c rfl (lvs_c rfl (lvs_c rfl (lvs_n))))) ?_
        exact ih x7 l3 (l4 + (1 : Int32)) S5  h
def f_X4_failingWays_L4 : Nat → Nat → Int64 → Int32 → St → Option (Int64 × St)
  | 0, _, _, _, _ => none
  | n + 1, c0, l1, l3, S => if (S.1 c0 1) ≤ l3 then some (l1, S) else f_X4_failingWays_L15 FU c0 (fun l1 l3 S => f_X4_failingWays_L4 n c0 l1 l3 S) l1 l3 (0 : Int32) S
set_option maxHeartbeats 4000000 in
set_option maxRecDepth 100000 in
theorem w_X4_failingWays_L4 {p : Program} {l : Launch} {e : Env} {s : State} {m : MethodId} {args : Array Value} {below : List Frame} {meth : Method} {c : Code} {g : Gl} {r : Int64 × St} {c0 : Nat} (cx : Cx p s m args meth c cX4_failingWays 5 (some .long) RX4 g (Ap g)) (h_c0 : kd g c0 = 4) : ∀ n : Nat, ∀ (l1 : Int64) (l3 : Int32) (S : St), f_X4_failingWays_L4 n c0 l1 l3 S = some r → WA p l e rm_X4_failingWays s m args below meth c 0 0 (MQ below (QWl g r) args s 0 0 (Ap g)) 5 g (Ap g) S 4 [(0, .ref (ad g c0)), (1, .long l1), (3, .int l3)] [] := by
  intro n
  induction n with
  | zero => intro l1 l3 S h; rw [f_X4_failingWays_L4] at h; cases h
  | succ n ih =>
    intro l1 l3 S h
    rw [f_X4_failingWays_L4] at h
    refine wa_iload_n cx (i := 3) dX4_failingWays_4 rfl rfl ?_
    refine wa_aload_n cx (i := 0) dX4_failingWays_5 rfl rfl ?_
    refine gf_X4_34 cx h_c0 dX4_failingWays_6 ?_
    refine wa_icmp_ge cx dX4_failingWays_9 55 (by decide) (fun q8 => ?_) (fun q8 => ?_)
    · rw [if_pos q8] at h
      refine wa_lload_n cx (i := 1) dX4_failingWays_55 rfl rfl ?_
      exact wa_lret cx h dX4_failingWays_56
    · rw [if_neg q8] at h
      refine wa_iconst cx dX4_failingWays_12 (0 : Int32) (by decide) ?_
      refine wa_istore cx dX4_failingWays_13 [(0, .ref (ad g c0)), (1, .long l1), (3, .int l3), (4, .int (0 : Int32))] (Nat.le_of_ble_eq_true rfl) rfl (lvs_c rfl (lvs_c rfl (lvs_c rfl (lvs_c rfl (lvs_n))))) ?_
      refine wa_sub (lv' := [(0, .ref (ad g c0)), (1, .long l1), (3, .int l3), (4, .int (0 : Int32))]) (lvs_c rfl (lvs_c rfl (lvs_c rfl (lvs_c rfl (lvs_n))))) ?_
      exact w_X4_failingWays_L15 cx h_c0 ih FU l1 l3 (0 : Int32) S  h
def f_X4_failingWays (c0 : Nat) (S : St) : Option (Int64 × St) := f_X4_failingWays_L4 FU c0 (0 : Int64) (0 : Int32) S
set_option maxHeartbeats 4000000 in
set_option maxRecDepth 100000 in
theorem m_X4_failingWays (l : Launch) {g : Gl} (hg : GOK g) {c0 : Nat} {S : St} {r : Int64 × St} (h_c0 : kd g c0 = 4) (h : f_X4_failingWays c0 S = some r) : MW l yX4_failingWays cX4_failingWays 5 (some .long) rm_X4_failingWays g S [.ref (ad g c0)] (QWl g r) := by
  refine startW [(0, .ref (ad g c0))] (by decide +kernel) (Nat.le_of_ble_eq_true rfl) rfl hg (fun p e s m args below meth c cx => ?_)
  have cx : Cx p s m args meth c cX4_failingWays 5 (some .long) RX4 g (Ap g) := cx
  rw [f_X4_failingWays] at h
  refine wa_lconst cx dX4_failingWays_0 (0 : Int64) (by decide) ?_
  refine wa_lstore_n cx (i := 1) dX4_failingWays_1 [(0, .ref (ad g c0)), (1, .long (0 : Int64))] rfl (Nat.le_of_ble_eq_true rfl) rfl (lvs_c rfl (lvs_c rfl (lvs_n))) ?_
  refine wa_iconst cx dX4_failingWays_2 (0 : Int32) (by decide) ?_
  refine wa_istore_n cx (i := 3) dX4_failingWays_3 [(0, .ref (ad g c0)), (1, .long (0 : Int64)), (3, .int (0 : Int32))] rfl (Nat.le_of_ble_eq_true rfl) rfl (lvs_c rfl (lvs_c rfl (lvs_c rfl (lvs_n)))) ?_
  refine wa_sub (lv' := [(0, .ref (ad g c0)), (1, .long (0 : Int64)), (3, .int (0 : Int32))]) (lvs_c rfl (lvs_c rfl (lvs_c rfl (lvs_n)))) ?_
  exact w_X4_failingWays_L4 cx h_c0  FU (0 : Int64) (0 : Int32) S  h
def rm_X5_put : Room := { frames := 1, cells := 0, slots := 0, locals := 40 }
def f_X5_put (c0 : Nat) (a1 : Nat) (a2 : Int32) (S : St) : Option (Int32 × St) := if (S.1 c0 0) < 0 then some ((0 : Int32), S) else if (2 : Int32) ≤ (S.1 c0 0) then some ((0 : Int32), S) else if (8 : Int32) ≤ (nI (lnT a1)) then ck (¬ (0 : Int32) < 0 ∧ ¬ ((S.1 c0 0) * (8 : Int32)) < 0 ∧ ¬ (8 : Int32) < 0 ∧ Int32.toNatClampNeg (0 : Int32) + Int32.toNatClampNeg (8 : Int32) ≤ (lnT a1) ∧ Int32.toNatClampNeg ((S.1 c0 0) * (8 : Int32)) + Int32.toNatClampNeg (8 : Int32) ≤ 16) (sq (pRow S (c0 + 1) (va_cpy (S.1 a1) (S.1 (c0 + 1)) (Int32.toNatClampNeg (0 : Int32)) (Int32.toNatClampNeg ((S.1 c0 0) * (8 : Int32))) (Int32.toNatClampNeg (8 : Int32)))) fun S5 => ob (S5.1 c0 0) 2 (sq (pI S5 (c0 + 2) (Int32.toNatClampNeg (S5.1 c0 0)) a2) fun S7 => sq (pI S7 c0 0 ((S7.1 c0 0) + (1 : Int32))) fun S8 => some ((1 : Int32), S8))) else some ((0 : Int32), S)
set_option maxHeartbeats 4000000 in
set_option maxRecDepth 100000 in
theorem m_X5_put (l : Launch) {g : Gl} (hg : GOK g) {c0 : Nat} {a1 : Nat} {a2 : Int32} {S : St} {r : Int32 × St} (h_c0 : kd g c0 = 5) (h_a1 : kd g a1 = 11 ∧ lnT a1 = lnT a1) (h : f_X5_put c0 a1 a2 S = some r) : MW l yX5_put cX5_put 3 (some .boolean) rm_X5_put g S [.ref (ad g c0), .ref (ad g a1), .int a2] (QWi g r) := by
  refine startW [(0, .ref (ad g c0)), (1, .ref (ad g a1)), (2, .int a2)] (by decide +kernel) (Nat.le_of_ble_eq_true rfl) rfl hg (fun p e s m args below meth c cx => ?_)
  have cx : Cx p s m args meth c cX5_put 3 (some .boolean) RX5 g (Ap g) := cx
  rw [f_X5_put] at h
  refine wa_aload_n cx (i := 0) dX5_put_0 rfl rfl ?_
  refine gf_X5_18 cx h_c0 dX5_put_1 ?_
  refine wa_if_lt cx dX5_put_4 22 (by decide) (fun q1 => ?_) (fun q1 => ?_)
  · rw [if_pos q1] at h
    refine wa_iconst cx dX5_put_22 (0 : Int32) (by decide) ?_
    exact wa_zret cx (by decide) h dX5_put_23
  · rw [if_neg q1] at h
    refine wa_aload_n cx (i := 0) dX5_put_7 rfl rfl ?_
    refine gf_X5_18 cx h_c0 dX5_put_8 ?_
    refine wa_iconst cx dX5_put_11 (2 : Int32) (by decide) ?_
    refine wa_icmp_ge cx dX5_put_12 22 (by decide) (fun q2 => ?_) (fun q2 => ?_)
    · rw [if_pos q2] at h
      refine wa_iconst cx dX5_put_22 (0 : Int32) (by decide) ?_
      exact wa_zret cx (by decide) h dX5_put_23
    · rw [if_neg q2] at h
      refine wa_aload_n cx (i := 1) dX5_put_15 rfl rfl ?_
      refine wa_alen cx dX5_put_16 (nI (lnT a1)) ⟨Or.inl h_a1.1, rfl⟩ ?_
      refine wa_bipush cx dX5_put_17 (8 : Int32) (by decide) ?_
      refine wa_icmp_ge cx dX5_put_19 24 (by decide) (fun q3 => ?_) (fun q3 => ?_)
      · rw [if_pos q3] at h
        refine wa_aload_n cx (i := 1) dX5_put_24 rfl rfl ?_
        refine wa_iconst cx dX5_put_25 (0 : Int32) (by decide) ?_
        refine wa_aload_n cx (i := 0) dX5_put_26 rfl rfl ?_
        refine gf_X5_11 cx h_c0 dX5_put_27 ?_
        refine wa_aload_n cx (i := 0) dX5_put_30 rfl rfl ?_
        refine gf_X5_18 cx h_c0 dX5_put_31 ?_
        refine wa_bipush cx dX5_put_34 (8 : Int32) (by decide) ?_
        refine wa_imul cx dX5_put_36 ?_
        refine wa_bipush cx dX5_put_37 (8 : Int32) (by decide) ?_
        obtain ⟨b4, h⟩ := ck_some h
        refine wa_acopy cx dX5_put_39 al_X5_22 al_n al_s al_i h_a1 (kq5_1 cx.2.2.2.2.2.2.1 h_c0) b4 ⟨Nat.le_of_ble_eq_true rfl, (by decide)⟩ ?_
        replace h := sq_eq h
        generalize (pRow S (c0 + 1) (va_cpy (S.1 a1) (S.1 (c0 + 1)) (Int32.toNatClampNeg (0 : Int32)) (Int32.toNatClampNeg ((S.1 c0 0) * (8 : Int32))) (Int32.toNatClampNeg (8 : Int32)))) = S5 at h ⊢
        refine wa_aload_n cx (i := 0) dX5_put_42 rfl rfl ?_
        refine gf_X5_15 cx h_c0 dX5_put_43 ?_
        refine wa_aload_n cx (i := 0) dX5_put_46 rfl rfl ?_
        refine gf_X5_18 cx h_c0 dX5_put_47 ?_
        refine wa_iload_n cx (i := 2) dX5_put_50 rfl rfl ?_
        obtain ⟨b6, h⟩ := ob_some h
        refine wa_iast cx dX5_put_51 (kq5_2 cx.2.2.2.2.2.2.1 h_c0) b6 ?_
        replace h := sq_eq h
        generalize (pI S5 (c0 + 2) (Int32.toNatClampNeg (S5.1 c0 0)) a2) = S7 at h ⊢
        refine wa_aload_n cx (i := 0) dX5_put_52 rfl rfl ?_
        refine wa_dup cx dX5_put_53 rfl ?_
        refine gf_X5_18 cx h_c0 dX5_put_54 ?_
        refine wa_iconst cx dX5_put_57 (1 : Int32) (by decide) ?_
        refine wa_iadd cx dX5_put_58 ?_
        refine pf_X5_18 cx h_c0 dX5_put_59 ?_
        replace h := sq_eq h
        generalize (pI S7 c0 0 ((S7.1 c0 0) + (1 : Int32))) = S8 at h ⊢
        refine wa_iconst cx dX5_put_62 (1 : Int32) (by decide) ?_
        exact wa_zret cx (by decide) h dX5_put_63
      · rw [if_neg q3] at h
        refine wa_iconst cx dX5_put_22 (0 : Int32) (by decide) ?_
        exact wa_zret cx (by decide) h dX5_put_23
def rm_X5_takeInto : Room := { frames := 1, cells := 0, slots := 0, locals := 40 }
def f_X5_takeInto (c0 : Nat) (a1 : Nat) (S : St) : Option (Int32 × St) := if (S.1 c0 0) < (1 : Int32) then some ((0 : Int32), S) else if (2 : Int32) < (S.1 c0 0) then some ((0 : Int32), S) else if (8 : Int32) ≤ (nI (lnT a1)) then sq (pI S c0 0 ((S.1 c0 0) - (1 : Int32))) fun S4 => ck (¬ ((S4.1 c0 0) * (8 : Int32)) < 0 ∧ ¬ (0 : Int32) < 0 ∧ ¬ (8 : Int32) < 0 ∧ Int32.toNatClampNeg ((S4.1 c0 0) * (8 : Int32)) + Int32.toNatClampNeg (8 : Int32) ≤ 16 ∧ Int32.toNatClampNeg (0 : Int32) + Int32.toNatClampNeg (8 : Int32) ≤ (lnT a1)) (sq (pRow S4 a1 (va_cpy (S4.1 (c0 + 1)) (S4.1 a1) (Int32.toNatClampNeg ((S4.1 c0 0) * (8 : Int32))) (Int32.toNatClampNeg (0 : Int32)) (Int32.toNatClampNeg (8 : Int32)))) fun S6 => ob (S6.1 c0 0) 2 (some ((S6.1 (c0 + 2) (Int32.toNatClampNeg (S6.1 c0 0))), S6))) else some ((0 : Int32), S)
set_option maxHeartbeats 4000000 in
set_option maxRecDepth 100000 in
theorem m_X5_takeInto (l : Launch) {g : Gl} (hg : GOK g) {c0 : Nat} {a1 : Nat} {S : St} {r : Int32 × St} (h_c0 : kd g c0 = 5) (h_a1 : kd g a1 = 11 ∧ lnT a1 = lnT a1) (h : f_X5_takeInto c0 a1 S = some r) : MW l yX5_takeInto cX5_takeInto 2 (some .int) rm_X5_takeInto g S [.ref (ad g c0), .ref (ad g a1)] (QWi g r) := by
  refine startW [(0, .ref (ad g c0)), (1, .ref (ad g a1))] (by decide +kernel) (Nat.le_of_ble_eq_true rfl) rfl hg (fun p e s m args below meth c cx => ?_)
  have cx : Cx p s m args meth c cX5_takeInto 2 (some .int) RX5 g (Ap g) := cx
  rw [f_X5_takeInto] at h
  refine wa_aload_n cx (i := 0) dX5_takeInto_0 rfl rfl ?_
  refine gf_X5_18 cx h_c0 dX5_takeInto_1 ?_
  refine wa_iconst cx dX5_takeInto_4 (1 : Int32) (by decide) ?_
  refine wa_icmp_lt cx dX5_takeInto_5 23 (by decide) (fun q1 => ?_) (fun q1 => ?_)
  · rw [if_pos q1] at h
    refine wa_iconst cx dX5_takeInto_23 (0 : Int32) (by decide) ?_
    exact wa_iret cx h dX5_takeInto_24
  · rw [if_neg q1] at h
    refine wa_aload_n cx (i := 0) dX5_takeInto_8 rfl rfl ?_
    refine gf_X5_18 cx h_c0 dX5_takeInto_9 ?_
    refine wa_iconst cx dX5_takeInto_12 (2 : Int32) (by decide) ?_
    refine wa_icmp_gt cx dX5_takeInto_13 23 (by decide) (fun q2 => ?_) (fun q2 => ?_)
    · rw [if_pos q2] at h
      refine wa_iconst cx dX5_takeInto_23 (0 : Int32) (by decide) ?_
      exact wa_iret cx h dX5_takeInto_24
    · rw [if_neg q2] at h
      refine wa_aload_n cx (i := 1) dX5_takeInto_16 rfl rfl ?_
      refine wa_alen cx dX5_takeInto_17 (nI (lnT a1)) ⟨Or.inl h_a1.1, rfl⟩ ?_
      refine wa_bipush cx dX5_takeInto_18 (8 : Int32) (by decide) ?_
      refine wa_icmp_ge cx dX5_takeInto_20 25 (by decide) (fun q3 => ?_) (fun q3 => ?_)
      · rw [if_pos q3] at h
        refine wa_aload_n cx (i := 0) dX5_takeInto_25 rfl rfl ?_
        refine wa_dup cx dX5_takeInto_26 rfl ?_
        refine gf_X5_18 cx h_c0 dX5_takeInto_27 ?_
        refine wa_iconst cx dX5_takeInto_30 (1 : Int32) (by decide) ?_
        refine wa_isub cx dX5_takeInto_31 ?_
        refine pf_X5_18 cx h_c0 dX5_takeInto_32 ?_
        replace h := sq_eq h
        generalize (pI S c0 0 ((S.1 c0 0) - (1 : Int32))) = S4 at h ⊢
        refine wa_aload_n cx (i := 0) dX5_takeInto_35 rfl rfl ?_
        refine gf_X5_11 cx h_c0 dX5_takeInto_36 ?_
        refine wa_aload_n cx (i := 0) dX5_takeInto_39 rfl rfl ?_
        refine gf_X5_18 cx h_c0 dX5_takeInto_40 ?_
        refine wa_bipush cx dX5_takeInto_43 (8 : Int32) (by decide) ?_
        refine wa_imul cx dX5_takeInto_45 ?_
        refine wa_aload_n cx (i := 1) dX5_takeInto_46 rfl rfl ?_
        refine wa_iconst cx dX5_takeInto_47 (0 : Int32) (by decide) ?_
        refine wa_bipush cx dX5_takeInto_48 (8 : Int32) (by decide) ?_
        obtain ⟨b5, h⟩ := ck_some h
        refine wa_acopy cx dX5_takeInto_50 al_X5_22 al_n al_s al_i (kq5_1 cx.2.2.2.2.2.2.1 h_c0) h_a1 b5 ⟨Nat.le_of_ble_eq_true rfl, (by decide)⟩ ?_
        replace h := sq_eq h
        generalize (pRow S4 a1 (va_cpy (S4.1 (c0 + 1)) (S4.1 a1) (Int32.toNatClampNeg ((S4.1 c0 0) * (8 : Int32))) (Int32.toNatClampNeg (0 : Int32)) (Int32.toNatClampNeg (8 : Int32)))) = S6 at h ⊢
        refine wa_aload_n cx (i := 0) dX5_takeInto_53 rfl rfl ?_
        refine gf_X5_15 cx h_c0 dX5_takeInto_54 ?_
        refine wa_aload_n cx (i := 0) dX5_takeInto_57 rfl rfl ?_
        refine gf_X5_18 cx h_c0 dX5_takeInto_58 ?_
        obtain ⟨b7, h⟩ := ob_some h
        refine wa_iald cx dX5_takeInto_61 (kq5_2 cx.2.2.2.2.2.2.1 h_c0) b7 ?_
        exact wa_iret cx h dX5_takeInto_62
      · rw [if_neg q3] at h
        refine wa_iconst cx dX5_takeInto_23 (0 : Int32) (by decide) ?_
        exact wa_iret cx h dX5_takeInto_24
def rm_X7_put : Room := { frames := 0, cells := 0, slots := 0, locals := 0 }
def f_X7_put_L19 : Nat → Nat → Int32 → Int64 → Int32 → St → Option (Int32 × St)
  | 0, _, _, _, _, _ => none
  | n + 1, c0, a1, a2, l4, S => if l4 < 0 then some ((1 : Int32), S) else ob (S.1 c0 1) 300 (sq (pI S (c0 + 1) (Int32.toNatClampNeg (S.1 c0 1)) ((Int64.toInt32 ((Int64.toUInt64 a2 >>> (Int64.toUInt64 (Int32.toInt64 ((8 : Int32) * l4)) &&& Int64.toUInt64 63)).toInt64)) &&& (255 : Int32))) fun S3 => sq (pI S3 c0 1 ((S3.1 c0 1) + (1 : Int32))) fun S4 => f_X7_put_L19 n c0 a1 a2 (l4 + (-1 : Int32)) S4)
set_option maxHeartbeats 4000000 in
set_option maxRecDepth 100000 in
theorem w_X7_put_L19 {p : Program} {l : Launch} {e : Env} {s : State} {m : MethodId} {args : Array Value} {below : List Frame} {meth : Method} {c : Code} {g : Gl} {r : Int32 × St} {c0 : Nat} {a1 : Int32} {a2 : Int64} (cx : Cx p s m args meth c cX7_put 5 (some .boolean) RX7 g (Ap g)) (h_c0 : kd g c0 = 7) : ∀ n : Nat, ∀ (l4 : Int32) (S : St), f_X7_put_L19 n c0 a1 a2 l4 S = some r → WA p l e rm_X7_put s m args below meth c 0 0 (MQ below (QWi g r) args s 0 0 (Ap g)) 5 g (Ap g) S 19 [(0, .ref (ad g c0)), (2, .long a2), (4, .int l4)] [] := by
  intro n
  induction n with
  | zero => intro l4 S h; rw [f_X7_put_L19] at h; cases h
  | succ n ih =>
    intro l4 S h
    rw [f_X7_put_L19] at h
    refine wa_iload cx dX7_put_19 rfl ?_
    refine wa_if_lt cx dX7_put_21 61 (by decide) (fun q1 => ?_) (fun q1 => ?_)
    · rw [if_pos q1] at h
      refine wa_iconst cx dX7_put_61 (1 : Int32) (by decide) ?_
      exact wa_zret cx (by decide) h dX7_put_62
    · rw [if_neg q1] at h
      refine wa_aload_n cx (i := 0) dX7_put_24 rfl rfl ?_
      refine gf_X7_9 cx h_c0 dX7_put_25 ?_
      refine wa_aload_n cx (i := 0) dX7_put_28 rfl rfl ?_
      refine gf_X7_13 cx h_c0 dX7_put_29 ?_
      refine wa_lload_n cx (i := 2) dX7_put_32 rfl rfl ?_
      refine wa_bipush cx dX7_put_33 (8 : Int32) (by decide) ?_
      refine wa_iload cx dX7_put_35 rfl ?_
      refine wa_imul cx dX7_put_37 ?_
      refine wa_lushr cx dX7_put_38 ?_
      refine wa_l2i cx dX7_put_39 ?_
      refine wa_sipush cx dX7_put_40 (255 : Int32) (by decide) ?_
      refine wa_iand cx dX7_put_43 ?_
      obtain ⟨b2, h⟩ := ob_some h
      refine wa_iast cx dX7_put_44 (kq7_0 cx.2.2.2.2.2.2.1 h_c0) b2 ?_
      replace h := sq_eq h
      generalize (pI S (c0 + 1) (Int32.toNatClampNeg (S.1 c0 1)) ((Int64.toInt32 ((Int64.toUInt64 a2 >>> (Int64.toUInt64 (Int32.toInt64 ((8 : Int32) * l4)) &&& Int64.toUInt64 63)).toInt64)) &&& (255 : Int32))) = S3 at h ⊢
      refine wa_aload_n cx (i := 0) dX7_put_45 rfl rfl ?_
      refine wa_dup cx dX7_put_46 rfl ?_
      refine gf_X7_13 cx h_c0 dX7_put_47 ?_
      refine wa_iconst cx dX7_put_50 (1 : Int32) (by decide) ?_
      refine wa_iadd cx dX7_put_51 ?_
      refine pf_X7_13 cx h_c0 dX7_put_52 ?_
      replace h := sq_eq h
      generalize (pI S3 c0 1 ((S3.1 c0 1) + (1 : Int32))) = S4 at h ⊢
      refine wa_iinc cx dX7_put_55 (l4 + (-1 : Int32)) [(0, .ref (ad g c0)), (2, .long a2), (4, .int (l4 + (-1 : Int32)))] rfl rfl (Nat.le_of_ble_eq_true rfl) rfl (lvs_c rfl (lvs_c rfl (lvs_c rfl (lvs_n)))) ?_
      refine wa_goto cx dX7_put_58 19 (by decide) ?_
      refine wa_sub (lv' := [(0, .ref (ad g c0)), (2, .long a2), (4, .int (l4 + (-1 : Int32)))]) (lvs_c rfl (lvs_c rfl (lvs_c rfl (lvs_n)))) ?_
      exact ih (l4 + (-1 : Int32)) S4  h
def f_X7_put (c0 : Nat) (a1 : Int32) (a2 : Int64) (S : St) : Option (Int32 × St) := if ((S.1 c0 1) + a1) ≤ (300 : Int32) then sq (a1 - (1 : Int32)) fun x6 => f_X7_put_L19 FU c0 a1 a2 x6 S else some ((0 : Int32), S)
set_option maxHeartbeats 4000000 in
set_option maxRecDepth 100000 in
theorem m_X7_put (l : Launch) {g : Gl} (hg : GOK g) {c0 : Nat} {a1 : Int32} {a2 : Int64} {S : St} {r : Int32 × St} (h_c0 : kd g c0 = 7) (h : f_X7_put c0 a1 a2 S = some r) : MW l yX7_put cX7_put 5 (some .boolean) rm_X7_put g S [.ref (ad g c0), .int a1, .long a2] (QWi g r) := by
  refine startW [(0, .ref (ad g c0)), (1, .int a1), (2, .long a2)] (by decide +kernel) (Nat.le_of_ble_eq_true rfl) rfl hg (fun p e s m args below meth c cx => ?_)
  have cx : Cx p s m args meth c cX7_put 5 (some .boolean) RX7 g (Ap g) := cx
  rw [f_X7_put] at h
  refine wa_aload_n cx (i := 0) dX7_put_0 rfl rfl ?_
  refine gf_X7_13 cx h_c0 dX7_put_1 ?_
  refine wa_iload_n cx (i := 1) dX7_put_4 rfl rfl ?_
  refine wa_iadd cx dX7_put_5 ?_
  refine wa_sipush cx dX7_put_6 (300 : Int32) (by decide) ?_
  refine wa_icmp_le cx dX7_put_9 14 (by decide) (fun q5 => ?_) (fun q5 => ?_)
  · rw [if_pos q5] at h
    refine wa_iload_n cx (i := 1) dX7_put_14 rfl rfl ?_
    refine wa_iconst cx dX7_put_15 (1 : Int32) (by decide) ?_
    refine wa_isub cx dX7_put_16 ?_
    replace h := sq_eq h
    generalize (a1 - (1 : Int32)) = x6 at h ⊢
    refine wa_istore cx dX7_put_17 [(0, .ref (ad g c0)), (2, .long a2), (4, .int x6)] (Nat.le_of_ble_eq_true rfl) rfl (lvs_c rfl (lvs_c rfl (lvs_c rfl (lvs_n)))) ?_
    refine wa_sub (lv' := [(0, .ref (ad g c0)), (2, .long a2), (4, .int x6)]) (lvs_c rfl (lvs_c rfl (lvs_c rfl (lvs_n)))) ?_
    exact w_X7_put_L19 cx h_c0  FU x6 S  h
  · rw [if_neg q5] at h
    refine wa_iconst cx dX7_put_12 (0 : Int32) (by decide) ?_
    exact wa_zret cx (by decide) h dX7_put_13
def rm_X8_clear : Room := { frames := 1, cells := 0, slots := 0, locals := 24 }
def f_X8_clear (c0 : Nat) (S : St) : Option (Unit × St) := sq (pJ S c0 0 (0 : Int64)) fun S1 => sq (pJ S1 c0 1 (0 : Int64)) fun S2 => sq (pJ S2 c0 2 (0 : Int64)) fun S3 => sq (pJ S3 c0 3 (0 : Int64)) fun S4 => sq (pJ S4 c0 4 (0 : Int64)) fun S5 => bd (f_J7_fill_d0a16 (c0 + 1) (0 : Int64) S5) fun _ S6 => bd (f_J7_fill_d0a16 (c0 + 2) (0 : Int64) S6) fun _ S9 => bd (f_J7_fill_53178 (c0 + 3) (0 : Int32) S9) fun _ S12 => sq (pJ S12 (c0 + 4) (Int32.toNatClampNeg (0 : Int32)) (1 : Int64)) fun S15 => some ((), S15)
set_option maxHeartbeats 4000000 in
set_option maxRecDepth 100000 in
theorem m_X8_clear (l : Launch) {g : Gl} (hg : GOK g) {c0 : Nat} {S : St} {r : Unit × St} (h_c0 : kd g c0 = 8) (h : f_X8_clear c0 S = some r) : MW l yX8_clear cX8_clear 1 none rm_X8_clear g S [.ref (ad g c0)] (QWv g r) := by
  refine startW [(0, .ref (ad g c0))] (by decide +kernel) (Nat.le_of_ble_eq_true rfl) rfl hg (fun p e s m args below meth c cx => ?_)
  have cx : Cx p s m args meth c cX8_clear 1 none RX8 g (Ap g) := cx
  rw [f_X8_clear] at h
  refine wa_aload_n cx (i := 0) dX8_clear_0 rfl rfl ?_
  refine wa_lconst cx dX8_clear_1 (0 : Int64) (by decide) ?_
  refine pf_X8_65 cx h_c0 dX8_clear_2 ?_
  replace h := sq_eq h
  generalize (pJ S c0 0 (0 : Int64)) = S1 at h ⊢
  refine wa_aload_n cx (i := 0) dX8_clear_5 rfl rfl ?_
  refine wa_lconst cx dX8_clear_6 (0 : Int64) (by decide) ?_
  refine pf_X8_69 cx h_c0 dX8_clear_7 ?_
  replace h := sq_eq h
  generalize (pJ S1 c0 1 (0 : Int64)) = S2 at h ⊢
  refine wa_aload_n cx (i := 0) dX8_clear_10 rfl rfl ?_
  refine wa_lconst cx dX8_clear_11 (0 : Int64) (by decide) ?_
  refine pf_X8_72 cx h_c0 dX8_clear_12 ?_
  replace h := sq_eq h
  generalize (pJ S2 c0 2 (0 : Int64)) = S3 at h ⊢
  refine wa_aload_n cx (i := 0) dX8_clear_15 rfl rfl ?_
  refine wa_lconst cx dX8_clear_16 (0 : Int64) (by decide) ?_
  refine pf_X8_75 cx h_c0 dX8_clear_17 ?_
  replace h := sq_eq h
  generalize (pJ S3 c0 3 (0 : Int64)) = S4 at h ⊢
  refine wa_aload_n cx (i := 0) dX8_clear_20 rfl rfl ?_
  refine wa_lconst cx dX8_clear_21 (0 : Int64) (by decide) ?_
  refine pf_X8_78 cx h_c0 dX8_clear_22 ?_
  replace h := sq_eq h
  generalize (pJ S4 c0 4 (0 : Int64)) = S5 at h ⊢
  refine wa_aload_n cx (i := 0) dX8_clear_25 rfl rfl ?_
  refine gf_X8_9 cx h_c0 dX8_clear_26 ?_
  refine wa_lconst cx dX8_clear_29 (0 : Int64) (by decide) ?_
  obtain ⟨u8, S6, e7, h⟩ := bd_some h
  refine wa_callSv cx (m_J7_fill_d0a16 l cx.2.2.2.2.2.2.1 ⟨(kq8_5 cx.2.2.2.2.2.2.1 h_c0).1, rfl⟩ e7) vl_X8_81 ⟨Nat.le_of_ble_eq_true rfl, Nat.le_of_ble_eq_true rfl⟩ ⟨rfl, rfl⟩ ⟨Nat.zero_le _, Nat.zero_le _⟩ rfl (Nat.le_of_ble_eq_true rfl) dX8_clear_30 rfl ?_
  refine wa_aload_n cx (i := 0) dX8_clear_33 rfl rfl ?_
  refine gf_X8_15 cx h_c0 dX8_clear_34 ?_
  refine wa_lconst cx dX8_clear_37 (0 : Int64) (by decide) ?_
  obtain ⟨u11, S9, e10, h⟩ := bd_some h
  refine wa_callSv cx (m_J7_fill_d0a16 l cx.2.2.2.2.2.2.1 ⟨(kq8_6 cx.2.2.2.2.2.2.1 h_c0).1, rfl⟩ e10) vl_X8_81 ⟨Nat.le_of_ble_eq_true rfl, Nat.le_of_ble_eq_true rfl⟩ ⟨rfl, rfl⟩ ⟨Nat.zero_le _, Nat.zero_le _⟩ rfl (Nat.le_of_ble_eq_true rfl) dX8_clear_38 rfl ?_
  refine wa_aload_n cx (i := 0) dX8_clear_41 rfl rfl ?_
  refine gf_X8_18 cx h_c0 dX8_clear_42 ?_
  refine wa_iconst cx dX8_clear_45 (0 : Int32) (by decide) ?_
  obtain ⟨u14, S12, e13, h⟩ := bd_some h
  refine wa_callSv cx (m_J7_fill_53178 l cx.2.2.2.2.2.2.1 ⟨(kq8_7 cx.2.2.2.2.2.2.1 h_c0).1, rfl⟩ e13) vl_X8_87 ⟨Nat.le_of_ble_eq_true rfl, Nat.le_of_ble_eq_true rfl⟩ ⟨rfl, rfl⟩ ⟨Nat.zero_le _, Nat.zero_le _⟩ rfl (Nat.le_of_ble_eq_true rfl) dX8_clear_46 rfl ?_
  refine wa_aload_n cx (i := 0) dX8_clear_49 rfl rfl ?_
  refine gf_X8_22 cx h_c0 dX8_clear_50 ?_
  refine wa_iconst cx dX8_clear_53 (0 : Int32) (by decide) ?_
  refine wa_lconst cx dX8_clear_54 (1 : Int64) (by decide) ?_
  refine wa_last cx dX8_clear_55 (kq8_8 cx.2.2.2.2.2.2.1 h_c0) (vinl (by decide)) ?_
  replace h := sq_eq h
  generalize (pJ S12 (c0 + 4) (Int32.toNatClampNeg (0 : Int32)) (1 : Int64)) = S15 at h ⊢
  exact wa_vret cx h dX8_clear_56
def rm_X8_add : Room := { frames := 1, cells := 0, slots := 0, locals := 20 }
def f_X8_add_J118 (c0 : Nat) (a1 : Nat) (a2 : Int32) (l3 : Int32) (l5 : Int32) (S : St) : Option (Unit × St) := if l3 = 0 then some ((), S) else if l5 = 0 then some ((), S) else ob a2 9 (sq (pJ S c0 4 ((S.2.1 c0 4) + (S.2.1 (c0 + 4) (Int32.toNatClampNeg a2)))) fun S4 => some ((), S4))
set_option maxHeartbeats 4000000 in
set_option maxRecDepth 100000 in
theorem w_X8_add_J118 {p : Program} {l : Launch} {e : Env} {s : State} {m : MethodId} {args : Array Value} {below : List Frame} {meth : Method} {c : Code} {g : Gl} {r : Unit × St} {c0 : Nat} {a1 : Nat} {a2 : Int32} (cx : Cx p s m args meth c cX8_add 6 none RX8 g (Ap g)) (h_c0 : kd g c0 = 8) (h_a1 : kd g a1 = 1) : ∀ (l3 : Int32) (l5 : Int32) (S : St), f_X8_add_J118 c0 a1 a2 l3 l5 S = some r → WA p l e rm_X8_add s m args below meth c 0 0 (MQ below (QWv g r) args s 0 0 (Ap g)) 6 g (Ap g) S 118 [(0, .ref (ad g c0)), (2, .int a2), (3, .int l3), (5, .int l5)] [] := by
  intro l3 l5 S h
  rw [f_X8_add_J118] at h
  refine wa_iload_n cx (i := 3) dX8_add_118 rfl rfl ?_
  refine wa_if_eq cx dX8_add_119 142 (by decide) (fun q1 => ?_) (fun q1 => ?_)
  · rw [if_pos q1] at h
    exact wa_vret cx h dX8_add_142
  · rw [if_neg q1] at h
    refine wa_iload cx dX8_add_122 rfl ?_
    refine wa_if_eq cx dX8_add_124 142 (by decide) (fun q2 => ?_) (fun q2 => ?_)
    · rw [if_pos q2] at h
      exact wa_vret cx h dX8_add_142
    · rw [if_neg q2] at h
      refine wa_aload_n cx (i := 0) dX8_add_127 rfl rfl ?_
      refine wa_dup cx dX8_add_128 rfl ?_
      refine gf_X8_78 cx h_c0 dX8_add_129 ?_
      refine wa_aload_n cx (i := 0) dX8_add_132 rfl rfl ?_
      refine gf_X8_22 cx h_c0 dX8_add_133 ?_
      refine wa_iload_n cx (i := 2) dX8_add_136 rfl rfl ?_
      obtain ⟨b3, h⟩ := ob_some h
      refine wa_lald cx dX8_add_137 (kq8_8 cx.2.2.2.2.2.2.1 h_c0) b3 ?_
      refine wa_ladd cx dX8_add_138 ?_
      refine pf_X8_78 cx h_c0 dX8_add_139 ?_
      replace h := sq_eq h
      generalize (pJ S c0 4 ((S.2.1 c0 4) + (S.2.1 (c0 + 4) (Int32.toNatClampNeg a2)))) = S4 at h ⊢
      exact wa_vret cx h dX8_add_142
def f_X8_add_J98 (c0 : Nat) (a1 : Nat) (a2 : Int32) (l3 : Int32) (l5 : Int32) (S : St) : Option (Unit × St) := if l5 = 0 then f_X8_add_J118 c0 a1 a2 l3 l5 S else ob a2 9 (sq (pJ S c0 3 ((S.2.1 c0 3) + (S.2.1 (c0 + 4) (Int32.toNatClampNeg a2)))) fun S7 => f_X8_add_J118 c0 a1 a2 l3 l5 S7)
set_option maxHeartbeats 4000000 in
set_option maxRecDepth 100000 in
theorem w_X8_add_J98 {p : Program} {l : Launch} {e : Env} {s : State} {m : MethodId} {args : Array Value} {below : List Frame} {meth : Method} {c : Code} {g : Gl} {r : Unit × St} {c0 : Nat} {a1 : Nat} {a2 : Int32} (cx : Cx p s m args meth c cX8_add 6 none RX8 g (Ap g)) (h_c0 : kd g c0 = 8) (h_a1 : kd g a1 = 1) : ∀ (l3 : Int32) (l5 : Int32) (S : St), f_X8_add_J98 c0 a1 a2 l3 l5 S = some r → WA p l e rm_X8_add s m args below meth c 0 0 (MQ below (QWv g r) args s 0 0 (Ap g)) 6 g (Ap g) S 98 [(0, .ref (ad g c0)), (2, .int a2), (3, .int l3), (5, .int l5)] [] := by
  intro l3 l5 S h
  rw [f_X8_add_J98] at h
  refine wa_iload cx dX8_add_98 rfl ?_
  refine wa_if_eq cx dX8_add_100 118 (by decide) (fun q5 => ?_) (fun q5 => ?_)
  · rw [if_pos q5] at h
    refine wa_sub (lv' := [(0, .ref (ad g c0)), (2, .int a2), (3, .int l3), (5, .int l5)]) (lvs_c rfl (lvs_c rfl (lvs_c rfl (lvs_c rfl (lvs_n))))) ?_
    exact w_X8_add_J118 cx h_c0 h_a1   l3 l5 S  h
  · rw [if_neg q5] at h
    refine wa_aload_n cx (i := 0) dX8_add_103 rfl rfl ?_
    refine wa_dup cx dX8_add_104 rfl ?_
    refine gf_X8_75 cx h_c0 dX8_add_105 ?_
    refine wa_aload_n cx (i := 0) dX8_add_108 rfl rfl ?_
    refine gf_X8_22 cx h_c0 dX8_add_109 ?_
    refine wa_iload_n cx (i := 2) dX8_add_112 rfl rfl ?_
    obtain ⟨b6, h⟩ := ob_some h
    refine wa_lald cx dX8_add_113 (kq8_8 cx.2.2.2.2.2.2.1 h_c0) b6 ?_
    refine wa_ladd cx dX8_add_114 ?_
    refine pf_X8_75 cx h_c0 dX8_add_115 ?_
    replace h := sq_eq h
    generalize (pJ S c0 3 ((S.2.1 c0 3) + (S.2.1 (c0 + 4) (Int32.toNatClampNeg a2)))) = S7 at h ⊢
    refine wa_sub (lv' := [(0, .ref (ad g c0)), (2, .int a2), (3, .int l3), (5, .int l5)]) (lvs_c rfl (lvs_c rfl (lvs_c rfl (lvs_c rfl (lvs_n))))) ?_
    exact w_X8_add_J118 cx h_c0 h_a1   l3 l5 S7  h
def f_X8_add_J74 (c0 : Nat) (a1 : Nat) (a2 : Int32) (l3 : Int32) (l4 : Int32) (l5 : Int32) (S : St) : Option (Unit × St) := if l3 = 0 then if l4 = 0 then f_X8_add_J98 c0 a1 a2 l3 l5 S else ob a2 9 (sq (pJ S c0 2 ((S.2.1 c0 2) + (S.2.1 (c0 + 4) (Int32.toNatClampNeg a2)))) fun S11 => f_X8_add_J98 c0 a1 a2 l3 l5 S11) else f_X8_add_J98 c0 a1 a2 l3 l5 S
set_option maxHeartbeats 4000000 in
set_option maxRecDepth 100000 in
theorem w_X8_add_J74 {p : Program} {l : Launch} {e : Env} {s : State} {m : MethodId} {args : Array Value} {below : List Frame} {meth : Method} {c : Code} {g : Gl} {r : Unit × St} {c0 : Nat} {a1 : Nat} {a2 : Int32} (cx : Cx p s m args meth c cX8_add 6 none RX8 g (Ap g)) (h_c0 : kd g c0 = 8) (h_a1 : kd g a1 = 1) : ∀ (l3 : Int32) (l4 : Int32) (l5 : Int32) (S : St), f_X8_add_J74 c0 a1 a2 l3 l4 l5 S = some r → WA p l e rm_X8_add s m args below meth c 0 0 (MQ below (QWv g r) args s 0 0 (Ap g)) 6 g (Ap g) S 74 [(0, .ref (ad g c0)), (2, .int a2), (3, .int l3), (4, .int l4), (5, .int l5)] [] := by
  intro l3 l4 l5 S h
  rw [f_X8_add_J74] at h
  refine wa_iload_n cx (i := 3) dX8_add_74 rfl rfl ?_
  refine wa_if_ne cx dX8_add_75 98 (by decide) (fun q8 => ?_) (fun q8 => ?_)
  · rw [if_neg q8] at h
    refine wa_sub (lv' := [(0, .ref (ad g c0)), (2, .int a2), (3, .int l3), (5, .int l5)]) (lvs_c rfl (lvs_c rfl (lvs_c rfl (lvs_c rfl (lvs_n))))) ?_
    exact w_X8_add_J98 cx h_c0 h_a1   l3 l5 S  h
  · rw [if_pos q8] at h
    refine wa_iload cx dX8_add_78 rfl ?_
    refine wa_if_eq cx dX8_add_80 98 (by decide) (fun q9 => ?_) (fun q9 => ?_)
    · rw [if_pos q9] at h
      refine wa_sub (lv' := [(0, .ref (ad g c0)), (2, .int a2), (3, .int l3), (5, .int l5)]) (lvs_c rfl (lvs_c rfl (lvs_c rfl (lvs_c rfl (lvs_n))))) ?_
      exact w_X8_add_J98 cx h_c0 h_a1   l3 l5 S  h
    · rw [if_neg q9] at h
      refine wa_aload_n cx (i := 0) dX8_add_83 rfl rfl ?_
      refine wa_dup cx dX8_add_84 rfl ?_
      refine gf_X8_72 cx h_c0 dX8_add_85 ?_
      refine wa_aload_n cx (i := 0) dX8_add_88 rfl rfl ?_
      refine gf_X8_22 cx h_c0 dX8_add_89 ?_
      refine wa_iload_n cx (i := 2) dX8_add_92 rfl rfl ?_
      obtain ⟨b10, h⟩ := ob_some h
      refine wa_lald cx dX8_add_93 (kq8_8 cx.2.2.2.2.2.2.1 h_c0) b10 ?_
      refine wa_ladd cx dX8_add_94 ?_
      refine pf_X8_72 cx h_c0 dX8_add_95 ?_
      replace h := sq_eq h
      generalize (pJ S c0 2 ((S.2.1 c0 2) + (S.2.1 (c0 + 4) (Int32.toNatClampNeg a2)))) = S11 at h ⊢
      refine wa_sub (lv' := [(0, .ref (ad g c0)), (2, .int a2), (3, .int l3), (5, .int l5)]) (lvs_c rfl (lvs_c rfl (lvs_c rfl (lvs_c rfl (lvs_n))))) ?_
      exact w_X8_add_J98 cx h_c0 h_a1   l3 l5 S11  h
def f_X8_add_J50 (c0 : Nat) (a1 : Nat) (a2 : Int32) (l3 : Int32) (l4 : Int32) (l5 : Int32) (S : St) : Option (Unit × St) := if l3 = 0 then f_X8_add_J74 c0 a1 a2 l3 l4 l5 S else if l4 = 0 then ob a2 9 (sq (pJ S c0 1 ((S.2.1 c0 1) + (S.2.1 (c0 + 4) (Int32.toNatClampNeg a2)))) fun S15 => f_X8_add_J74 c0 a1 a2 l3 l4 l5 S15) else f_X8_add_J74 c0 a1 a2 l3 l4 l5 S
set_option maxHeartbeats 4000000 in
set_option maxRecDepth 100000 in
theorem w_X8_add_J50 {p : Program} {l : Launch} {e : Env} {s : State} {m : MethodId} {args : Array Value} {below : List Frame} {meth : Method} {c : Code} {g : Gl} {r : Unit × St} {c0 : Nat} {a1 : Nat} {a2 : Int32} (cx : Cx p s m args meth c cX8_add 6 none RX8 g (Ap g)) (h_c0 : kd g c0 = 8) (h_a1 : kd g a1 = 1) : ∀ (l3 : Int32) (l4 : Int32) (l5 : Int32) (S : St), f_X8_add_J50 c0 a1 a2 l3 l4 l5 S = some r → WA p l e rm_X8_add s m args below meth c 0 0 (MQ below (QWv g r) args s 0 0 (Ap g)) 6 g (Ap g) S 50 [(0, .ref (ad g c0)), (2, .int a2), (3, .int l3), (4, .int l4), (5, .int l5)] [] := by
  intro l3 l4 l5 S h
  rw [f_X8_add_J50] at h
  refine wa_iload_n cx (i := 3) dX8_add_50 rfl rfl ?_
  refine wa_if_eq cx dX8_add_51 74 (by decide) (fun q12 => ?_) (fun q12 => ?_)
  · rw [if_pos q12] at h
    refine wa_sub (lv' := [(0, .ref (ad g c0)), (2, .int a2), (3, .int l3), (4, .int l4), (5, .int l5)]) (lvs_c rfl (lvs_c rfl (lvs_c rfl (lvs_c rfl (lvs_c rfl (lvs_n)))))) ?_
    exact w_X8_add_J74 cx h_c0 h_a1   l3 l4 l5 S  h
  · rw [if_neg q12] at h
    refine wa_iload cx dX8_add_54 rfl ?_
    refine wa_if_ne cx dX8_add_56 74 (by decide) (fun q13 => ?_) (fun q13 => ?_)
    · rw [if_neg q13] at h
      refine wa_sub (lv' := [(0, .ref (ad g c0)), (2, .int a2), (3, .int l3), (4, .int l4), (5, .int l5)]) (lvs_c rfl (lvs_c rfl (lvs_c rfl (lvs_c rfl (lvs_c rfl (lvs_n)))))) ?_
      exact w_X8_add_J74 cx h_c0 h_a1   l3 l4 l5 S  h
    · rw [if_pos q13] at h
      refine wa_aload_n cx (i := 0) dX8_add_59 rfl rfl ?_
      refine wa_dup cx dX8_add_60 rfl ?_
      refine gf_X8_69 cx h_c0 dX8_add_61 ?_
      refine wa_aload_n cx (i := 0) dX8_add_64 rfl rfl ?_
      refine gf_X8_22 cx h_c0 dX8_add_65 ?_
      refine wa_iload_n cx (i := 2) dX8_add_68 rfl rfl ?_
      obtain ⟨b14, h⟩ := ob_some h
      refine wa_lald cx dX8_add_69 (kq8_8 cx.2.2.2.2.2.2.1 h_c0) b14 ?_
      refine wa_ladd cx dX8_add_70 ?_
      refine pf_X8_69 cx h_c0 dX8_add_71 ?_
      replace h := sq_eq h
      generalize (pJ S c0 1 ((S.2.1 c0 1) + (S.2.1 (c0 + 4) (Int32.toNatClampNeg a2)))) = S15 at h ⊢
      refine wa_sub (lv' := [(0, .ref (ad g c0)), (2, .int a2), (3, .int l3), (4, .int l4), (5, .int l5)]) (lvs_c rfl (lvs_c rfl (lvs_c rfl (lvs_c rfl (lvs_c rfl (lvs_n)))))) ?_
      exact w_X8_add_J74 cx h_c0 h_a1   l3 l4 l5 S15  h
def f_X8_add_J23 (c0 : Nat) (a1 : Nat) (a2 : Int32) (l3 : Int32) (k0 : Int32) (S : St) : Option (Unit × St) := bd (f_X1_isSecondBuilt a1 S) fun x16 S17 => if l3 = 0 then f_X8_add_J50 c0 a1 a2 l3 k0 x16 S17 else ob a2 9 (sq (pJ S17 c0 0 ((S17.2.1 c0 0) + (S17.2.1 (c0 + 4) (Int32.toNatClampNeg a2)))) fun S21 => f_X8_add_J50 c0 a1 a2 l3 k0 x16 S21)
set_option maxHeartbeats 4000000 in
set_option maxRecDepth 100000 in
theorem w_X8_add_J23 {p : Program} {l : Launch} {e : Env} {s : State} {m : MethodId} {args : Array Value} {below : List Frame} {meth : Method} {c : Code} {g : Gl} {r : Unit × St} {c0 : Nat} {a1 : Nat} {a2 : Int32} (cx : Cx p s m args meth c cX8_add 6 none RX8 g (Ap g)) (h_c0 : kd g c0 = 8) (h_a1 : kd g a1 = 1) : ∀ (l3 : Int32) (k0 : Int32) (S : St), f_X8_add_J23 c0 a1 a2 l3 k0 S = some r → WA p l e rm_X8_add s m args below meth c 0 0 (MQ below (QWv g r) args s 0 0 (Ap g)) 6 g (Ap g) S 23 [(0, .ref (ad g c0)), (1, .ref (ad g a1)), (2, .int a2), (3, .int l3)] [.int k0] := by
  intro l3 k0 S h
  rw [f_X8_add_J23] at h
  refine wa_istore cx dX8_add_23 [(0, .ref (ad g c0)), (1, .ref (ad g a1)), (2, .int a2), (3, .int l3), (4, .int k0)] (Nat.le_of_ble_eq_true rfl) rfl (lvs_c rfl (lvs_c rfl (lvs_c rfl (lvs_c rfl (lvs_c rfl (lvs_n)))))) ?_
  refine wa_aload_n cx (i := 1) dX8_add_25 rfl rfl ?_
  obtain ⟨x16, S17, e18, h⟩ := bd_some h
  refine wa_callVi cx (m_X1_isSecondBuilt l cx.2.2.2.2.2.2.1 h_a1 e18) vl_X8_98 h_a1 (by decide) rfl rfl ⟨_, cell_eq1 (kd_lt h_a1 (by decide)).2⟩ ⟨Nat.le_of_ble_eq_true rfl, Nat.le_of_ble_eq_true rfl⟩ ⟨rfl, rfl⟩ ⟨Nat.zero_le _, Nat.zero_le _⟩ rfl (Nat.le_of_ble_eq_true rfl) dX8_add_26 rfl ?_
  refine wa_istore cx dX8_add_29 [(0, .ref (ad g c0)), (2, .int a2), (3, .int l3), (4, .int k0), (5, .int x16)] (Nat.le_of_ble_eq_true rfl) rfl (lvs_c rfl (lvs_c rfl (lvs_c rfl (lvs_c rfl (lvs_c rfl (lvs_n)))))) ?_
  refine wa_iload_n cx (i := 3) dX8_add_31 rfl rfl ?_
  refine wa_if_eq cx dX8_add_32 50 (by decide) (fun q19 => ?_) (fun q19 => ?_)
  · rw [if_pos q19] at h
    refine wa_sub (lv' := [(0, .ref (ad g c0)), (2, .int a2), (3, .int l3), (4, .int k0), (5, .int x16)]) (lvs_c rfl (lvs_c rfl (lvs_c rfl (lvs_c rfl (lvs_c rfl (lvs_n)))))) ?_
    exact w_X8_add_J50 cx h_c0 h_a1   l3 k0 x16 S17  h
  · rw [if_neg q19] at h
    refine wa_aload_n cx (i := 0) dX8_add_35 rfl rfl ?_
    refine wa_dup cx dX8_add_36 rfl ?_
    refine gf_X8_65 cx h_c0 dX8_add_37 ?_
    refine wa_aload_n cx (i := 0) dX8_add_40 rfl rfl ?_
    refine gf_X8_22 cx h_c0 dX8_add_41 ?_
    refine wa_iload_n cx (i := 2) dX8_add_44 rfl rfl ?_
    obtain ⟨b20, h⟩ := ob_some h
    refine wa_lald cx dX8_add_45 (kq8_8 cx.2.2.2.2.2.2.1 h_c0) b20 ?_
    refine wa_ladd cx dX8_add_46 ?_
    refine pf_X8_65 cx h_c0 dX8_add_47 ?_
    replace h := sq_eq h
    generalize (pJ S17 c0 0 ((S17.2.1 c0 0) + (S17.2.1 (c0 + 4) (Int32.toNatClampNeg a2)))) = S21 at h ⊢
    refine wa_sub (lv' := [(0, .ref (ad g c0)), (2, .int a2), (3, .int l3), (4, .int k0), (5, .int x16)]) (lvs_c rfl (lvs_c rfl (lvs_c rfl (lvs_c rfl (lvs_c rfl (lvs_n)))))) ?_
    exact w_X8_add_J50 cx h_c0 h_a1   l3 k0 x16 S21  h
def f_X8_add (c0 : Nat) (a1 : Nat) (a2 : Int32) (S : St) : Option (Unit × St) := bd (f_X1_isBuilt a1 S) fun x22 S23 => ob a2 9 (bd (f_X1_cost a1 S23) fun x26 S27 => if (S23.1 (c0 + 5) (Int32.toNatClampNeg a2)) < x26 then f_X8_add_J23 c0 a1 a2 x22 (0 : Int32) S27 else f_X8_add_J23 c0 a1 a2 x22 (1 : Int32) S27)
set_option maxHeartbeats 4000000 in
set_option maxRecDepth 100000 in
theorem m_X8_add (l : Launch) {g : Gl} (hg : GOK g) {c0 : Nat} {a1 : Nat} {a2 : Int32} {S : St} {r : Unit × St} (h_c0 : kd g c0 = 8) (h_a1 : kd g a1 = 1) (h : f_X8_add c0 a1 a2 S = some r) : MW l yX8_add cX8_add 6 none rm_X8_add g S [.ref (ad g c0), .ref (ad g a1), .int a2] (QWv g r) := by
  refine startW [(0, .ref (ad g c0)), (1, .ref (ad g a1)), (2, .int a2)] (by decide +kernel) (Nat.le_of_ble_eq_true rfl) rfl hg (fun p e s m args below meth c cx => ?_)
  have cx : Cx p s m args meth c cX8_add 6 none RX8 g (Ap g) := cx
  rw [f_X8_add] at h
  refine wa_aload_n cx (i := 1) dX8_add_0 rfl rfl ?_
  obtain ⟨x22, S23, e24, h⟩ := bd_some h
  refine wa_callVi cx (m_X1_isBuilt l cx.2.2.2.2.2.2.1 h_a1 e24) vl_X8_90 h_a1 (by decide) rfl rfl ⟨_, cell_eq1 (kd_lt h_a1 (by decide)).2⟩ ⟨Nat.le_of_ble_eq_true rfl, Nat.le_of_ble_eq_true rfl⟩ ⟨rfl, rfl⟩ ⟨Nat.zero_le _, Nat.zero_le _⟩ rfl (Nat.le_of_ble_eq_true rfl) dX8_add_1 rfl ?_
  refine wa_istore_n cx (i := 3) dX8_add_4 [(0, .ref (ad g c0)), (1, .ref (ad g a1)), (2, .int a2), (3, .int x22)] rfl (Nat.le_of_ble_eq_true rfl) rfl (lvs_c rfl (lvs_c rfl (lvs_c rfl (lvs_c rfl (lvs_n))))) ?_
  refine wa_aload_n cx (i := 0) dX8_add_5 rfl rfl ?_
  refine gf_X8_25 cx h_c0 dX8_add_6 ?_
  refine wa_iload_n cx (i := 2) dX8_add_9 rfl rfl ?_
  obtain ⟨b25, h⟩ := ob_some h
  refine wa_iald cx dX8_add_10 (kq8_9 cx.2.2.2.2.2.2.1 h_c0) b25 ?_
  refine wa_aload_n cx (i := 1) dX8_add_11 rfl rfl ?_
  obtain ⟨x26, S27, e28, h⟩ := bd_some h
  refine wa_callVi cx (m_X1_cost l cx.2.2.2.2.2.2.1 h_a1 e28) vl_X8_94 h_a1 (by decide) rfl rfl ⟨_, cell_eq1 (kd_lt h_a1 (by decide)).2⟩ ⟨Nat.le_of_ble_eq_true rfl, Nat.le_of_ble_eq_true rfl⟩ ⟨rfl, rfl⟩ ⟨Nat.zero_le _, Nat.zero_le _⟩ rfl (Nat.le_of_ble_eq_true rfl) dX8_add_12 rfl ?_
  refine wa_icmp_lt cx dX8_add_15 22 (by decide) (fun q29 => ?_) (fun q29 => ?_)
  · rw [if_pos q29] at h
    refine wa_iconst cx dX8_add_22 (0 : Int32) (by decide) ?_
    refine wa_sub (lv' := [(0, .ref (ad g c0)), (1, .ref (ad g a1)), (2, .int a2), (3, .int x22)]) (lvs_c rfl (lvs_c rfl (lvs_c rfl (lvs_c rfl (lvs_n))))) ?_
    exact w_X8_add_J23 cx h_c0 h_a1   x22 (0 : Int32) S27  h
  · rw [if_neg q29] at h
    refine wa_iconst cx dX8_add_18 (1 : Int32) (by decide) ?_
    refine wa_goto cx dX8_add_19 23 (by decide) ?_
    refine wa_sub (lv' := [(0, .ref (ad g c0)), (1, .ref (ad g a1)), (2, .int a2), (3, .int x22)]) (lvs_c rfl (lvs_c rfl (lvs_c rfl (lvs_c rfl (lvs_n))))) ?_
    exact w_X8_add_J23 cx h_c0 h_a1   x22 (1 : Int32) S27  h
def rm_X8_addMeans : Room := { frames := 2, cells := 0, slots := 0, locals := 45 }
def f_X8_addMeans_L2 : Nat → Nat → Nat → Nat → Int32 → St → Option (Unit × St)
  | 0, _, _, _, _, _ => none
  | n + 1, c0, a1, a2, l3, S => if (S.1 a2 0) ≤ l3 then some ((), S) else ob l3 8 (ob ((l3 * (3 : Int32)) + (S.1 (c0 + 3) (Int32.toNatClampNeg l3))) 24 (sq (S.1 (a2 + 8) (Int32.toNatClampNeg ((l3 * (3 : Int32)) + (S.1 (c0 + 3) (Int32.toNatClampNeg l3))))) fun x4 => ob l3 8 (ob (S.1 a2 0) 9 (ob l3 8 (ob l3 8 (sq (pJ S (c0 + 1) (Int32.toNatClampNeg l3) ((S.2.1 (c0 + 1) (Int32.toNatClampNeg l3)) + ((S.2.1 (c0 + 4) (Int32.toNatClampNeg (S.1 a2 0))) * (Int32.toInt64 (S.1 (a1 + 22) (Int32.toNatClampNeg l3)))))) fun S9 => ob l3 8 (ob (S9.1 a2 0) 9 (bd (f_X1_hasAt a1 l3 x4 S9) fun x12 S13 => ob l3 8 (sq (pJ S13 (c0 + 2) (Int32.toNatClampNeg l3) ((S9.2.1 (c0 + 2) (Int32.toNatClampNeg l3)) + ((S9.2.1 (c0 + 4) (Int32.toNatClampNeg (S9.1 a2 0))) * (Int32.toInt64 x12)))) fun S16 => f_X8_addMeans_L2 n c0 a1 a2 (l3 + (1 : Int32)) S16)))))))))
set_option maxHeartbeats 4000000 in
set_option maxRecDepth 100000 in
theorem w_X8_addMeans_L2 {p : Program} {l : Launch} {e : Env} {s : State} {m : MethodId} {args : Array Value} {below : List Frame} {meth : Method} {c : Code} {g : Gl} {r : Unit × St} {c0 : Nat} {a1 : Nat} {a2 : Nat} (cx : Cx p s m args meth c cX8_addMeans 5 none RX8 g (Ap g)) (h_c0 : kd g c0 = 8) (h_a1 : kd g a1 = 1) (h_a2 : kd g a2 = 0) : ∀ n : Nat, ∀ (l3 : Int32) (S : St), f_X8_addMeans_L2 n c0 a1 a2 l3 S = some r → WA p l e rm_X8_addMeans s m args below meth c 0 0 (MQ below (QWv g r) args s 0 0 (Ap g)) 5 g (Ap g) S 2 [(0, .ref (ad g c0)), (1, .ref (ad g a1)), (2, .ref (ad g a2)), (3, .int l3)] [] := by
  intro n
  induction n with
  | zero => intro l3 S h; rw [f_X8_addMeans_L2] at h; cases h
  | succ n ih =>
    intro l3 S h
    rw [f_X8_addMeans_L2] at h
    refine wa_iload_n cx (i := 3) dX8_addMeans_2 rfl rfl ?_
    refine wa_aload_n cx (i := 2) dX8_addMeans_3 rfl rfl ?_
    refine gf_X8_37 cx h_a2 dX8_addMeans_4 ?_
    refine wa_icmp_ge cx dX8_addMeans_7 86 (by decide) (fun q1 => ?_) (fun q1 => ?_)
    · rw [if_pos q1] at h
      exact wa_vret cx h dX8_addMeans_86
    · rw [if_neg q1] at h
      refine wa_aload_n cx (i := 2) dX8_addMeans_10 rfl rfl ?_
      refine gf_X8_46 cx h_a2 dX8_addMeans_11 ?_
      refine wa_iload_n cx (i := 3) dX8_addMeans_14 rfl rfl ?_
      refine wa_iconst cx dX8_addMeans_15 (3 : Int32) (by decide) ?_
      refine wa_imul cx dX8_addMeans_16 ?_
      refine wa_aload_n cx (i := 0) dX8_addMeans_17 rfl rfl ?_
      refine gf_X8_18 cx h_c0 dX8_addMeans_18 ?_
      refine wa_iload_n cx (i := 3) dX8_addMeans_21 rfl rfl ?_
      obtain ⟨b2, h⟩ := ob_some h
      refine wa_iald cx dX8_addMeans_22 (kq8_7 cx.2.2.2.2.2.2.1 h_c0) b2 ?_
      refine wa_iadd cx dX8_addMeans_23 ?_
      obtain ⟨b3, h⟩ := ob_some h
      refine wa_iald cx dX8_addMeans_24 (kq0_8 cx.2.2.2.2.2.2.1 h_a2) b3 ?_
      replace h := sq_eq h
      generalize (S.1 (a2 + 8) (Int32.toNatClampNeg ((l3 * (3 : Int32)) + (S.1 (c0 + 3) (Int32.toNatClampNeg l3))))) = x4 at h ⊢
      refine wa_istore cx dX8_addMeans_25 [(0, .ref (ad g c0)), (1, .ref (ad g a1)), (2, .ref (ad g a2)), (3, .int l3), (4, .int x4)] (Nat.le_of_ble_eq_true rfl) rfl (lvs_c rfl (lvs_c rfl (lvs_c rfl (lvs_c rfl (lvs_c rfl (lvs_n)))))) ?_
      refine wa_aload_n cx (i := 0) dX8_addMeans_27 rfl rfl ?_
      refine gf_X8_9 cx h_c0 dX8_addMeans_28 ?_
      refine wa_iload_n cx (i := 3) dX8_addMeans_31 rfl rfl ?_
      refine wa_dup2 cx dX8_addMeans_32 rfl rfl ?_
      obtain ⟨b5, h⟩ := ob_some h
      refine wa_lald cx dX8_addMeans_33 (kq8_5 cx.2.2.2.2.2.2.1 h_c0) b5 ?_
      refine wa_aload_n cx (i := 0) dX8_addMeans_34 rfl rfl ?_
      refine gf_X8_22 cx h_c0 dX8_addMeans_35 ?_
      refine wa_aload_n cx (i := 2) dX8_addMeans_38 rfl rfl ?_
      refine gf_X8_37 cx h_a2 dX8_addMeans_39 ?_
      obtain ⟨b6, h⟩ := ob_some h
      refine wa_lald cx dX8_addMeans_42 (kq8_8 cx.2.2.2.2.2.2.1 h_c0) b6 ?_
      refine wa_aload_n cx (i := 1) dX8_addMeans_43 rfl rfl ?_
      refine gf_X8_101 cx h_a1 dX8_addMeans_44 ?_
      refine wa_iload_n cx (i := 3) dX8_addMeans_47 rfl rfl ?_
      obtain ⟨b7, h⟩ := ob_some h
      refine wa_iald cx dX8_addMeans_48 (kq1_7 cx.2.2.2.2.2.2.1 h_a1) b7 ?_
      refine wa_i2l cx dX8_addMeans_49 ?_
      refine wa_lmul cx dX8_addMeans_50 ?_
      refine wa_ladd cx dX8_addMeans_51 ?_
      obtain ⟨b8, h⟩ := ob_some h
      refine wa_last cx dX8_addMeans_52 (kq8_5 cx.2.2.2.2.2.2.1 h_c0) b8 ?_
      replace h := sq_eq h
      generalize (pJ S (c0 + 1) (Int32.toNatClampNeg l3) ((S.2.1 (c0 + 1) (Int32.toNatClampNeg l3)) + ((S.2.1 (c0 + 4) (Int32.toNatClampNeg (S.1 a2 0))) * (Int32.toInt64 (S.1 (a1 + 22) (Int32.toNatClampNeg l3)))))) = S9 at h ⊢
      refine wa_aload_n cx (i := 0) dX8_addMeans_53 rfl rfl ?_
      refine gf_X8_15 cx h_c0 dX8_addMeans_54 ?_
      refine wa_iload_n cx (i := 3) dX8_addMeans_57 rfl rfl ?_
      refine wa_dup2 cx dX8_addMeans_58 rfl rfl ?_
      obtain ⟨b10, h⟩ := ob_some h
      refine wa_lald cx dX8_addMeans_59 (kq8_6 cx.2.2.2.2.2.2.1 h_c0) b10 ?_
      refine wa_aload_n cx (i := 0) dX8_addMeans_60 rfl rfl ?_
      refine gf_X8_22 cx h_c0 dX8_addMeans_61 ?_
      refine wa_aload_n cx (i := 2) dX8_addMeans_64 rfl rfl ?_
      refine gf_X8_37 cx h_a2 dX8_addMeans_65 ?_
      obtain ⟨b11, h⟩ := ob_some h
      refine wa_lald cx dX8_addMeans_68 (kq8_8 cx.2.2.2.2.2.2.1 h_c0) b11 ?_
      refine wa_aload_n cx (i := 1) dX8_addMeans_69 rfl rfl ?_
      refine wa_iload_n cx (i := 3) dX8_addMeans_70 rfl rfl ?_
      refine wa_iload cx dX8_addMeans_71 rfl ?_
      obtain ⟨x12, S13, e14, h⟩ := bd_some h
      refine wa_callVi cx (m_X1_hasAt l cx.2.2.2.2.2.2.1 h_a1 e14) vl_X8_104 h_a1 (by decide) rfl rfl ⟨_, cell_eq1 (kd_lt h_a1 (by decide)).2⟩ ⟨Nat.le_of_ble_eq_true rfl, Nat.le_of_ble_eq_true rfl⟩ ⟨rfl, rfl⟩ ⟨Nat.zero_le _, Nat.zero_le _⟩ rfl (Nat.le_of_ble_eq_true rfl) dX8_addMeans_73 rfl ?_
      refine wa_i2l cx dX8_addMeans_76 ?_
      refine wa_lmul cx dX8_addMeans_77 ?_
      refine wa_ladd cx dX8_addMeans_78 ?_
      obtain ⟨b15, h⟩ := ob_some h
      refine wa_last cx dX8_addMeans_79 (kq8_6 cx.2.2.2.2.2.2.1 h_c0) b15 ?_
      replace h := sq_eq h
      generalize (pJ S13 (c0 + 2) (Int32.toNatClampNeg l3) ((S9.2.1 (c0 + 2) (Int32.toNatClampNeg l3)) + ((S9.2.1 (c0 + 4) (Int32.toNatClampNeg (S9.1 a2 0))) * (Int32.toInt64 x12)))) = S16 at h ⊢
      refine wa_iinc cx dX8_addMeans_80 (l3 + (1 : Int32)) [(0, .ref (ad g c0)), (1, .ref (ad g a1)), (2, .ref (ad g a2)), (3, .int (l3 + (1 : Int32)))] rfl rfl (Nat.le_of_ble_eq_true rfl) rfl (lvs_c rfl (lvs_c rfl (lvs_c rfl (lvs_c rfl (lvs_n))))) ?_
      refine wa_goto cx dX8_addMeans_83 2 (by decide) ?_
      refine wa_sub (lv' := [(0, .ref (ad g c0)), (1, .ref (ad g a1)), (2, .ref (ad g a2)), (3, .int (l3 + (1 : Int32)))]) (lvs_c rfl (lvs_c rfl (lvs_c rfl (lvs_c rfl (lvs_n))))) ?_
      exact ih (l3 + (1 : Int32)) S16  h
def f_X8_addMeans (c0 : Nat) (a1 : Nat) (a2 : Nat) (S : St) : Option (Unit × St) := f_X8_addMeans_L2 FU c0 a1 a2 (0 : Int32) S
set_option maxHeartbeats 4000000 in
set_option maxRecDepth 100000 in
theorem m_X8_addMeans (l : Launch) {g : Gl} (hg : GOK g) {c0 : Nat} {a1 : Nat} {a2 : Nat} {S : St} {r : Unit × St} (h_c0 : kd g c0 = 8) (h_a1 : kd g a1 = 1) (h_a2 : kd g a2 = 0) (h : f_X8_addMeans c0 a1 a2 S = some r) : MW l yX8_addMeans cX8_addMeans 5 none rm_X8_addMeans g S [.ref (ad g c0), .ref (ad g a1), .ref (ad g a2)] (QWv g r) := by
  refine startW [(0, .ref (ad g c0)), (1, .ref (ad g a1)), (2, .ref (ad g a2))] (by decide +kernel) (Nat.le_of_ble_eq_true rfl) rfl hg (fun p e s m args below meth c cx => ?_)
  have cx : Cx p s m args meth c cX8_addMeans 5 none RX8 g (Ap g) := cx
  rw [f_X8_addMeans] at h
  refine wa_iconst cx dX8_addMeans_0 (0 : Int32) (by decide) ?_
  refine wa_istore_n cx (i := 3) dX8_addMeans_1 [(0, .ref (ad g c0)), (1, .ref (ad g a1)), (2, .ref (ad g a2)), (3, .int (0 : Int32))] rfl (Nat.le_of_ble_eq_true rfl) rfl (lvs_c rfl (lvs_c rfl (lvs_c rfl (lvs_c rfl (lvs_n))))) ?_
  refine wa_sub (lv' := [(0, .ref (ad g c0)), (1, .ref (ad g a1)), (2, .ref (ad g a2)), (3, .int (0 : Int32))]) (lvs_c rfl (lvs_c rfl (lvs_c rfl (lvs_c rfl (lvs_n))))) ?_
  exact w_X8_addMeans_L2 cx h_c0 h_a1 h_a2  FU (0 : Int32) S  h
def rm_X8_nextWay : Room := { frames := 0, cells := 0, slots := 0, locals := 0 }
def f_X8_nextWay_L7 : Nat → Nat → Nat → Int32 → St → Option (Int32 × St)
  | 0, _, _, _, _ => none
  | n + 1, c0, a1, l2, S => if l2 < 0 then some ((-1 : Int32), S) else ob l2 8 (ob l2 8 (sq (pI S (c0 + 3) (Int32.toNatClampNeg l2) ((S.1 (c0 + 3) (Int32.toNatClampNeg l2)) + (1 : Int32))) fun S4 => ob l2 8 (ob l2 8 (if (S4.1 (a1 + 7) (Int32.toNatClampNeg l2)) ≤ (S4.1 (c0 + 3) (Int32.toNatClampNeg l2)) then ob l2 8 (sq (pI S4 (c0 + 3) (Int32.toNatClampNeg l2) (0 : Int32)) fun S9 => f_X8_nextWay_L7 n c0 a1 (l2 + (-1 : Int32)) S9) else some (l2, S4)))))
set_option maxHeartbeats 4000000 in
set_option maxRecDepth 100000 in
theorem w_X8_nextWay_L7 {p : Program} {l : Launch} {e : Env} {s : State} {m : MethodId} {args : Array Value} {below : List Frame} {meth : Method} {c : Code} {g : Gl} {r : Int32 × St} {c0 : Nat} {a1 : Nat} (cx : Cx p s m args meth c cX8_nextWay 3 (some .int) RX8 g (Ap g)) (h_c0 : kd g c0 = 8) (h_a1 : kd g a1 = 0) : ∀ n : Nat, ∀ (l2 : Int32) (S : St), f_X8_nextWay_L7 n c0 a1 l2 S = some r → WA p l e rm_X8_nextWay s m args below meth c 0 0 (MQ below (QWi g r) args s 0 0 (Ap g)) 3 g (Ap g) S 7 [(0, .ref (ad g c0)), (1, .ref (ad g a1)), (2, .int l2)] [] := by
  intro n
  induction n with
  | zero => intro l2 S h; rw [f_X8_nextWay_L7] at h; cases h
  | succ n ih =>
    intro l2 S h
    rw [f_X8_nextWay_L7] at h
    refine wa_iload_n cx (i := 2) dX8_nextWay_7 rfl rfl ?_
    refine wa_if_lt cx dX8_nextWay_8 51 (by decide) (fun q1 => ?_) (fun q1 => ?_)
    · rw [if_pos q1] at h
      refine wa_iconst cx dX8_nextWay_51 (-1 : Int32) (by decide) ?_
      exact wa_iret cx h dX8_nextWay_52
    · rw [if_neg q1] at h
      refine wa_aload_n cx (i := 0) dX8_nextWay_11 rfl rfl ?_
      refine gf_X8_18 cx h_c0 dX8_nextWay_12 ?_
      refine wa_iload_n cx (i := 2) dX8_nextWay_15 rfl rfl ?_
      refine wa_dup2 cx dX8_nextWay_16 rfl rfl ?_
      obtain ⟨b2, h⟩ := ob_some h
      refine wa_iald cx dX8_nextWay_17 (kq8_7 cx.2.2.2.2.2.2.1 h_c0) b2 ?_
      refine wa_iconst cx dX8_nextWay_18 (1 : Int32) (by decide) ?_
      refine wa_iadd cx dX8_nextWay_19 ?_
      obtain ⟨b3, h⟩ := ob_some h
      refine wa_iast cx dX8_nextWay_20 (kq8_7 cx.2.2.2.2.2.2.1 h_c0) b3 ?_
      replace h := sq_eq h
      generalize (pI S (c0 + 3) (Int32.toNatClampNeg l2) ((S.1 (c0 + 3) (Int32.toNatClampNeg l2)) + (1 : Int32))) = S4 at h ⊢
      refine wa_aload_n cx (i := 0) dX8_nextWay_21 rfl rfl ?_
      refine gf_X8_18 cx h_c0 dX8_nextWay_22 ?_
      refine wa_iload_n cx (i := 2) dX8_nextWay_25 rfl rfl ?_
      obtain ⟨b5, h⟩ := ob_some h
      refine wa_iald cx dX8_nextWay_26 (kq8_7 cx.2.2.2.2.2.2.1 h_c0) b5 ?_
      refine wa_aload_n cx (i := 1) dX8_nextWay_27 rfl rfl ?_
      refine gf_X8_108 cx h_a1 dX8_nextWay_28 ?_
      refine wa_iload_n cx (i := 2) dX8_nextWay_31 rfl rfl ?_
      obtain ⟨b6, h⟩ := ob_some h
      refine wa_iald cx dX8_nextWay_32 (kq0_7 cx.2.2.2.2.2.2.1 h_a1) b6 ?_
      refine wa_icmp_ge cx dX8_nextWay_33 38 (by decide) (fun q7 => ?_) (fun q7 => ?_)
      · rw [if_pos q7] at h
        refine wa_aload_n cx (i := 0) dX8_nextWay_38 rfl rfl ?_
        refine gf_X8_18 cx h_c0 dX8_nextWay_39 ?_
        refine wa_iload_n cx (i := 2) dX8_nextWay_42 rfl rfl ?_
        refine wa_iconst cx dX8_nextWay_43 (0 : Int32) (by decide) ?_
        obtain ⟨b8, h⟩ := ob_some h
        refine wa_iast cx dX8_nextWay_44 (kq8_7 cx.2.2.2.2.2.2.1 h_c0) b8 ?_
        replace h := sq_eq h
        generalize (pI S4 (c0 + 3) (Int32.toNatClampNeg l2) (0 : Int32)) = S9 at h ⊢
        refine wa_iinc cx dX8_nextWay_45 (l2 + (-1 : Int32)) [(0, .ref (ad g c0)), (1, .ref (ad g a1)), (2, .int (l2 + (-1 : Int32)))] rfl rfl (Nat.le_of_ble_eq_true rfl) rfl (lvs_c rfl (lvs_c rfl (lvs_c rfl (lvs_n)))) ?_
        refine wa_goto cx dX8_nextWay_48 7 (by decide) ?_
        refine wa_sub (lv' := [(0, .ref (ad g c0)), (1, .ref (ad g a1)), (2, .int (l2 + (-1 : Int32)))]) (lvs_c rfl (lvs_c rfl (lvs_c rfl (lvs_n)))) ?_
        exact ih (l2 + (-1 : Int32)) S9  h
      · rw [if_neg q7] at h
        refine wa_iload_n cx (i := 2) dX8_nextWay_36 rfl rfl ?_
        exact wa_iret cx h dX8_nextWay_37
def f_X8_nextWay (c0 : Nat) (a1 : Nat) (S : St) : Option (Int32 × St) := sq ((S.1 a1 0) - (1 : Int32)) fun x10 => f_X8_nextWay_L7 FU c0 a1 x10 S
set_option maxHeartbeats 4000000 in
set_option maxRecDepth 100000 in
theorem m_X8_nextWay (l : Launch) {g : Gl} (hg : GOK g) {c0 : Nat} {a1 : Nat} {S : St} {r : Int32 × St} (h_c0 : kd g c0 = 8) (h_a1 : kd g a1 = 0) (h : f_X8_nextWay c0 a1 S = some r) : MW l yX8_nextWay cX8_nextWay 3 (some .int) rm_X8_nextWay g S [.ref (ad g c0), .ref (ad g a1)] (QWi g r) := by
  refine startW [(0, .ref (ad g c0)), (1, .ref (ad g a1))] (by decide +kernel) (Nat.le_of_ble_eq_true rfl) rfl hg (fun p e s m args below meth c cx => ?_)
  have cx : Cx p s m args meth c cX8_nextWay 3 (some .int) RX8 g (Ap g) := cx
  rw [f_X8_nextWay] at h
  refine wa_aload_n cx (i := 1) dX8_nextWay_0 rfl rfl ?_
  refine gf_X8_37 cx h_a1 dX8_nextWay_1 ?_
  refine wa_iconst cx dX8_nextWay_4 (1 : Int32) (by decide) ?_
  refine wa_isub cx dX8_nextWay_5 ?_
  replace h := sq_eq h
  generalize ((S.1 a1 0) - (1 : Int32)) = x10 at h ⊢
  refine wa_istore_n cx (i := 2) dX8_nextWay_6 [(0, .ref (ad g c0)), (1, .ref (ad g a1)), (2, .int x10)] rfl (Nat.le_of_ble_eq_true rfl) rfl (lvs_c rfl (lvs_c rfl (lvs_c rfl (lvs_n)))) ?_
  refine wa_sub (lv' := [(0, .ref (ad g c0)), (1, .ref (ad g a1)), (2, .int x10)]) (lvs_c rfl (lvs_c rfl (lvs_c rfl (lvs_n)))) ?_
  exact w_X8_nextWay_L7 cx h_c0 h_a1  FU x10 S  h
def rm_X8_goThrough : Room := { frames := 4, cells := 0, slots := 0, locals := 94 }
def f_X8_goThrough_J142 (c0 : Nat) (a1 : Nat) (a2 : Int32) (kb15 : Nat → Int32 → Int32 → St → Option (Unit × St)) (l3 : Nat) (l5 : Int32) (S : St) : Option (Unit × St) := bd (f_X8_nextWay c0 l3 S) fun x1 S2 => kb15 l3 x1 (l5 + (1 : Int32)) S2
set_option maxHeartbeats 4000000 in
set_option maxRecDepth 100000 in
theorem w_X8_goThrough_J142 {p : Program} {l : Launch} {e : Env} {s : State} {m : MethodId} {args : Array Value} {below : List Frame} {meth : Method} {c : Code} {g : Gl} {r : Unit × St} {c0 : Nat} {a1 : Nat} {a2 : Int32} {kb15 : Nat → Int32 → Int32 → St → Option (Unit × St)} (cx : Cx p s m args meth c cX8_goThrough 8 none RX8 g (Ap g)) (h_c0 : kd g c0 = 8) (h_a1 : kd g a1 = 1) (hkb15 : ∀ (l3 : Nat) (l4 : Int32) (l5 : Int32) (S : St), kd g l3 = 0 → kb15 l3 l4 l5 S = some r → WA p l e rm_X8_goThrough s m args below meth c 0 0 (MQ below (QWv g r) args s 0 0 (Ap g)) 8 g (Ap g) S 15 [(0, .ref (ad g c0)), (1, .ref (ad g a1)), (2, .int a2), (3, .ref (ad g l3)), (4, .int l4), (5, .int l5)] []) : ∀ (l3 : Nat) (l5 : Int32) (S : St), kd g l3 = 0 → f_X8_goThrough_J142 c0 a1 a2 kb15 l3 l5 S = some r → WA p l e rm_X8_goThrough s m args below meth c 0 0 (MQ below (QWv g r) args s 0 0 (Ap g)) 8 g (Ap g) S 142 [(0, .ref (ad g c0)), (1, .ref (ad g a1)), (2, .int a2), (3, .ref (ad g l3)), (5, .int l5)] [] := by
  intro l3 l5 S h_l3 h
  rw [f_X8_goThrough_J142] at h
  refine wa_aload_n cx (i := 0) dX8_goThrough_142 rfl rfl ?_
  refine wa_aload_n cx (i := 3) dX8_goThrough_143 rfl rfl ?_
  obtain ⟨x1, S2, e3, h⟩ := bd_some h
  refine wa_callVi cx (m_X8_nextWay l cx.2.2.2.2.2.2.1 h_c0 h_l3 e3) vl_X8_61 h_c0 (by decide) rfl rfl ⟨_, cell_eq8 (kd_lt h_c0 (by decide)).2⟩ ⟨Nat.le_of_ble_eq_true rfl, Nat.le_of_ble_eq_true rfl⟩ ⟨rfl, rfl⟩ ⟨Nat.zero_le _, Nat.zero_le _⟩ rfl (Nat.le_of_ble_eq_true rfl) dX8_goThrough_144 rfl ?_
  refine wa_istore cx dX8_goThrough_147 [(0, .ref (ad g c0)), (1, .ref (ad g a1)), (2, .int a2), (3, .ref (ad g l3)), (4, .int x1), (5, .int l5)] (Nat.le_of_ble_eq_true rfl) rfl (lvs_c rfl (lvs_c rfl (lvs_c rfl (lvs_c rfl (lvs_c rfl (lvs_c rfl (lvs_n))))))) ?_
  refine wa_iinc cx dX8_goThrough_149 (l5 + (1 : Int32)) [(0, .ref (ad g c0)), (1, .ref (ad g a1)), (2, .int a2), (3, .ref (ad g l3)), (4, .int x1), (5, .int (l5 + (1 : Int32)))] rfl rfl (Nat.le_of_ble_eq_true rfl) rfl (lvs_c rfl (lvs_c rfl (lvs_c rfl (lvs_c rfl (lvs_c rfl (lvs_c rfl (lvs_n))))))) ?_
  refine wa_goto cx dX8_goThrough_152 15 (by decide) ?_
  refine wa_sub (lv' := [(0, .ref (ad g c0)), (1, .ref (ad g a1)), (2, .int a2), (3, .ref (ad g l3)), (4, .int x1), (5, .int (l5 + (1 : Int32)))]) (lvs_c rfl (lvs_c rfl (lvs_c rfl (lvs_c rfl (lvs_c rfl (lvs_c rfl (lvs_n))))))) ?_
  exact hkb15 l3 x1 (l5 + (1 : Int32)) S2 h_l3 h
def f_X8_goThrough_L32 : Nat → Nat → Nat → Int32 → (Nat → Int32 → Int32 → St → Option (Unit × St)) → Nat → Int32 → Int32 → St → Option (Unit × St)
  | 0, _, _, _, _, _, _, _, _ => none
  | n + 1, c0, a1, a2, kb15, l3, l5, l6, S => if (S.1 l3 0) ≤ l6 then bd (f_X8_add c0 a1 (S.1 l3 0) S) fun _ S5 => if a2 = 0 then f_X8_goThrough_J142 c0 a1 a2 kb15 l3 l5 S5 else bd (f_X8_addMeans c0 a1 l3 S5) fun _ S9 => f_X8_goThrough_J142 c0 a1 a2 kb15 l3 l5 S9 else ob l6 8 (sq ((l6 * (3 : Int32)) + (S.1 (c0 + 3) (Int32.toNatClampNeg l6))) fun x13 => ob l6 9 (ob x13 24 (ob (l6 + (1 : Int32)) 9 (sq (pJ S (c0 + 4) (Int32.toNatClampNeg (l6 + (1 : Int32))) ((S.2.1 (c0 + 4) (Int32.toNatClampNeg l6)) * (Int32.toInt64 (S.1 (l3 + 9) (Int32.toNatClampNeg x13))))) fun S17 => ob l6 9 (ob x13 24 (ob (l6 + (1 : Int32)) 9 (sq (pI S17 (c0 + 5) (Int32.toNatClampNeg (l6 + (1 : Int32))) ((S17.1 (c0 + 5) (Int32.toNatClampNeg l6)) + (S17.1 (l3 + 8) (Int32.toNatClampNeg x13)))) fun S21 => ob x13 24 (bd (f_X1_play a1 l6 (S21.1 (l3 + 8) (Int32.toNatClampNeg x13)) S21) fun _ S23 => f_X8_goThrough_L32 n c0 a1 a2 kb15 l3 l5 (l6 + (1 : Int32)) S23))))))))
set_option maxHeartbeats 4000000 in
set_option maxRecDepth 100000 in
theorem w_X8_goThrough_L32 {p : Program} {l : Launch} {e : Env} {s : State} {m : MethodId} {args : Array Value} {below : List Frame} {meth : Method} {c : Code} {g : Gl} {r : Unit × St} {c0 : Nat} {a1 : Nat} {a2 : Int32} {kb15 : Nat → Int32 → Int32 → St → Option (Unit × St)} (cx : Cx p s m args meth c cX8_goThrough 8 none RX8 g (Ap g)) (h_c0 : kd g c0 = 8) (h_a1 : kd g a1 = 1) (hkb15 : ∀ (l3 : Nat) (l4 : Int32) (l5 : Int32) (S : St), kd g l3 = 0 → kb15 l3 l4 l5 S = some r → WA p l e rm_X8_goThrough s m args below meth c 0 0 (MQ below (QWv g r) args s 0 0 (Ap g)) 8 g (Ap g) S 15 [(0, .ref (ad g c0)), (1, .ref (ad g a1)), (2, .int a2), (3, .ref (ad g l3)), (4, .int l4), (5, .int l5)] []) : ∀ n : Nat, ∀ (l3 : Nat) (l5 : Int32) (l6 : Int32) (S : St), kd g l3 = 0 → f_X8_goThrough_L32 n c0 a1 a2 kb15 l3 l5 l6 S = some r → WA p l e rm_X8_goThrough s m args below meth c 0 0 (MQ below (QWv g r) args s 0 0 (Ap g)) 8 g (Ap g) S 32 [(0, .ref (ad g c0)), (1, .ref (ad g a1)), (2, .int a2), (3, .ref (ad g l3)), (5, .int l5), (6, .int l6)] [] := by
  intro n
  induction n with
  | zero => intro l3 l5 l6 S h_l3 h; rw [f_X8_goThrough_L32] at h; cases h
  | succ n ih =>
    intro l3 l5 l6 S h_l3 h
    rw [f_X8_goThrough_L32] at h
    refine wa_iload cx dX8_goThrough_32 rfl ?_
    refine wa_aload_n cx (i := 3) dX8_goThrough_34 rfl rfl ?_
    refine gf_X8_37 cx h_l3 dX8_goThrough_35 ?_
    refine wa_icmp_ge cx dX8_goThrough_38 123 (by decide) (fun q4 => ?_) (fun q4 => ?_)
    · rw [if_pos q4] at h
      refine wa_aload_n cx (i := 0) dX8_goThrough_123 rfl rfl ?_
      refine wa_aload_n cx (i := 1) dX8_goThrough_124 rfl rfl ?_
      refine wa_aload_n cx (i := 3) dX8_goThrough_125 rfl rfl ?_
      refine gf_X8_37 cx h_l3 dX8_goThrough_126 ?_
      obtain ⟨u7, S5, e6, h⟩ := bd_some h
      refine wa_callVv cx (m_X8_add l cx.2.2.2.2.2.2.1 h_c0 h_a1 e6) vl_X8_53 h_c0 (by decide) rfl rfl ⟨_, cell_eq8 (kd_lt h_c0 (by decide)).2⟩ ⟨Nat.le_of_ble_eq_true rfl, Nat.le_of_ble_eq_true rfl⟩ ⟨rfl, rfl⟩ ⟨Nat.zero_le _, Nat.zero_le _⟩ rfl (Nat.le_of_ble_eq_true rfl) dX8_goThrough_129 rfl ?_
      refine wa_iload_n cx (i := 2) dX8_goThrough_132 rfl rfl ?_
      refine wa_if_eq cx dX8_goThrough_133 142 (by decide) (fun q8 => ?_) (fun q8 => ?_)
      · rw [if_pos q8] at h
        refine wa_sub (lv' := [(0, .ref (ad g c0)), (1, .ref (ad g a1)), (2, .int a2), (3, .ref (ad g l3)), (5, .int l5)]) (lvs_c rfl (lvs_c rfl (lvs_c rfl (lvs_c rfl (lvs_c rfl (lvs_n)))))) ?_
        exact w_X8_goThrough_J142 cx h_c0 h_a1 hkb15  l3 l5 S5 h_l3 h
      · rw [if_neg q8] at h
        refine wa_aload_n cx (i := 0) dX8_goThrough_136 rfl rfl ?_
        refine wa_aload_n cx (i := 1) dX8_goThrough_137 rfl rfl ?_
        refine wa_aload_n cx (i := 3) dX8_goThrough_138 rfl rfl ?_
        obtain ⟨u11, S9, e10, h⟩ := bd_some h
        refine wa_callVv cx (m_X8_addMeans l cx.2.2.2.2.2.2.1 h_c0 h_a1 h_l3 e10) vl_X8_57 h_c0 (by decide) rfl rfl ⟨_, cell_eq8 (kd_lt h_c0 (by decide)).2⟩ ⟨Nat.le_of_ble_eq_true rfl, Nat.le_of_ble_eq_true rfl⟩ ⟨rfl, rfl⟩ ⟨Nat.zero_le _, Nat.zero_le _⟩ rfl (Nat.le_of_ble_eq_true rfl) dX8_goThrough_139 rfl ?_
        refine wa_sub (lv' := [(0, .ref (ad g c0)), (1, .ref (ad g a1)), (2, .int a2), (3, .ref (ad g l3)), (5, .int l5)]) (lvs_c rfl (lvs_c rfl (lvs_c rfl (lvs_c rfl (lvs_c rfl (lvs_n)))))) ?_
        exact w_X8_goThrough_J142 cx h_c0 h_a1 hkb15  l3 l5 S9 h_l3 h
    · rw [if_neg q4] at h
      refine wa_iload cx dX8_goThrough_41 rfl ?_
      refine wa_iconst cx dX8_goThrough_43 (3 : Int32) (by decide) ?_
      refine wa_imul cx dX8_goThrough_44 ?_
      refine wa_aload_n cx (i := 0) dX8_goThrough_45 rfl rfl ?_
      refine gf_X8_18 cx h_c0 dX8_goThrough_46 ?_
      refine wa_iload cx dX8_goThrough_49 rfl ?_
      obtain ⟨b12, h⟩ := ob_some h
      refine wa_iald cx dX8_goThrough_51 (kq8_7 cx.2.2.2.2.2.2.1 h_c0) b12 ?_
      refine wa_iadd cx dX8_goThrough_52 ?_
      replace h := sq_eq h
      generalize ((l6 * (3 : Int32)) + (S.1 (c0 + 3) (Int32.toNatClampNeg l6))) = x13 at h ⊢
      refine wa_istore cx dX8_goThrough_53 [(0, .ref (ad g c0)), (1, .ref (ad g a1)), (2, .int a2), (3, .ref (ad g l3)), (5, .int l5), (6, .int l6), (7, .int x13)] (Nat.le_of_ble_eq_true rfl) rfl (lvs_c rfl (lvs_c rfl (lvs_c rfl (lvs_c rfl (lvs_c rfl (lvs_c rfl (lvs_c rfl (lvs_n)))))))) ?_
      refine wa_aload_n cx (i := 0) dX8_goThrough_55 rfl rfl ?_
      refine gf_X8_22 cx h_c0 dX8_goThrough_56 ?_
      refine wa_iload cx dX8_goThrough_59 rfl ?_
      refine wa_iconst cx dX8_goThrough_61 (1 : Int32) (by decide) ?_
      refine wa_iadd cx dX8_goThrough_62 ?_
      refine wa_aload_n cx (i := 0) dX8_goThrough_63 rfl rfl ?_
      refine gf_X8_22 cx h_c0 dX8_goThrough_64 ?_
      refine wa_iload cx dX8_goThrough_67 rfl ?_
      obtain ⟨b14, h⟩ := ob_some h
      refine wa_lald cx dX8_goThrough_69 (kq8_8 cx.2.2.2.2.2.2.1 h_c0) b14 ?_
      refine wa_aload_n cx (i := 3) dX8_goThrough_70 rfl rfl ?_
      refine gf_X8_43 cx h_l3 dX8_goThrough_71 ?_
      refine wa_iload cx dX8_goThrough_74 rfl ?_
      obtain ⟨b15, h⟩ := ob_some h
      refine wa_iald cx dX8_goThrough_76 (kq0_9 cx.2.2.2.2.2.2.1 h_l3) b15 ?_
      refine wa_i2l cx dX8_goThrough_77 ?_
      refine wa_lmul cx dX8_goThrough_78 ?_
      obtain ⟨b16, h⟩ := ob_some h
      refine wa_last cx dX8_goThrough_79 (kq8_8 cx.2.2.2.2.2.2.1 h_c0) b16 ?_
      replace h := sq_eq h
      generalize (pJ S (c0 + 4) (Int32.toNatClampNeg (l6 + (1 : Int32))) ((S.2.1 (c0 + 4) (Int32.toNatClampNeg l6)) * (Int32.toInt64 (S.1 (l3 + 9) (Int32.toNatClampNeg x13))))) = S17 at h ⊢
      refine wa_aload_n cx (i := 0) dX8_goThrough_80 rfl rfl ?_
      refine gf_X8_25 cx h_c0 dX8_goThrough_81 ?_
      refine wa_iload cx dX8_goThrough_84 rfl ?_
      refine wa_iconst cx dX8_goThrough_86 (1 : Int32) (by decide) ?_
      refine wa_iadd cx dX8_goThrough_87 ?_
      refine wa_aload_n cx (i := 0) dX8_goThrough_88 rfl rfl ?_
      refine gf_X8_25 cx h_c0 dX8_goThrough_89 ?_
      refine wa_iload cx dX8_goThrough_92 rfl ?_
      obtain ⟨b18, h⟩ := ob_some h
      refine wa_iald cx dX8_goThrough_94 (kq8_9 cx.2.2.2.2.2.2.1 h_c0) b18 ?_
      refine wa_aload_n cx (i := 3) dX8_goThrough_95 rfl rfl ?_
      refine gf_X8_46 cx h_l3 dX8_goThrough_96 ?_
      refine wa_iload cx dX8_goThrough_99 rfl ?_
      obtain ⟨b19, h⟩ := ob_some h
      refine wa_iald cx dX8_goThrough_101 (kq0_8 cx.2.2.2.2.2.2.1 h_l3) b19 ?_
      refine wa_iadd cx dX8_goThrough_102 ?_
      obtain ⟨b20, h⟩ := ob_some h
      refine wa_iast cx dX8_goThrough_103 (kq8_9 cx.2.2.2.2.2.2.1 h_c0) b20 ?_
      replace h := sq_eq h
      generalize (pI S17 (c0 + 5) (Int32.toNatClampNeg (l6 + (1 : Int32))) ((S17.1 (c0 + 5) (Int32.toNatClampNeg l6)) + (S17.1 (l3 + 8) (Int32.toNatClampNeg x13)))) = S21 at h ⊢
      refine wa_aload_n cx (i := 1) dX8_goThrough_104 rfl rfl ?_
      refine wa_iload cx dX8_goThrough_105 rfl ?_
      refine wa_aload_n cx (i := 3) dX8_goThrough_107 rfl rfl ?_
      refine gf_X8_46 cx h_l3 dX8_goThrough_108 ?_
      refine wa_iload cx dX8_goThrough_111 rfl ?_
      obtain ⟨b22, h⟩ := ob_some h
      refine wa_iald cx dX8_goThrough_113 (kq0_8 cx.2.2.2.2.2.2.1 h_l3) b22 ?_
      obtain ⟨u25, S23, e24, h⟩ := bd_some h
      refine wa_callVv cx (m_X1_play l cx.2.2.2.2.2.2.1 h_a1 e24) vl_X8_49 h_a1 (by decide) rfl rfl ⟨_, cell_eq1 (kd_lt h_a1 (by decide)).2⟩ ⟨Nat.le_of_ble_eq_true rfl, Nat.le_of_ble_eq_true rfl⟩ ⟨rfl, rfl⟩ ⟨Nat.zero_le _, Nat.zero_le _⟩ rfl (Nat.le_of_ble_eq_true rfl) dX8_goThrough_114 rfl ?_
      refine wa_iinc cx dX8_goThrough_117 (l6 + (1 : Int32)) [(0, .ref (ad g c0)), (1, .ref (ad g a1)), (2, .int a2), (3, .ref (ad g l3)), (5, .int l5), (6, .int (l6 + (1 : Int32)))] rfl rfl (Nat.le_of_ble_eq_true rfl) rfl (lvs_c rfl (lvs_c rfl (lvs_c rfl (lvs_c rfl (lvs_c rfl (lvs_c rfl (lvs_n))))))) ?_
      refine wa_goto cx dX8_goThrough_120 32 (by decide) ?_
      refine wa_sub (lv' := [(0, .ref (ad g c0)), (1, .ref (ad g a1)), (2, .int a2), (3, .ref (ad g l3)), (5, .int l5), (6, .int (l6 + (1 : Int32)))]) (lvs_c rfl (lvs_c rfl (lvs_c rfl (lvs_c rfl (lvs_c rfl (lvs_c rfl (lvs_n))))))) ?_
      exact ih l3 l5 (l6 + (1 : Int32)) S23 h_l3 h
def f_X8_goThrough_L15 : Nat → Nat → Nat → Int32 → Nat → Int32 → Int32 → St → Option (Unit × St)
  | 0, _, _, _, _, _, _, _ => none
  | n + 1, c0, a1, a2, l3, l4, l5, S => if (6561 : Int32) ≤ l5 then some ((), S) else if l4 < 0 then some ((), S) else f_X8_goThrough_L32 FU c0 a1 a2 (fun l3 l4 l5 S => f_X8_goThrough_L15 n c0 a1 a2 l3 l4 l5 S) l3 l5 l4 S
set_option maxHeartbeats 4000000 in
set_option maxRecDepth 100000 in
theorem w_X8_goThrough_L15 {p : Program} {l : Launch} {e : Env} {s : State} {m : MethodId} {args : Array Value} {below : List Frame} {meth : Method} {c : Code} {g : Gl} {r : Unit × St} {c0 : Nat} {a1 : Nat} {a2 : Int32} (cx : Cx p s m args meth c cX8_goThrough 8 none RX8 g (Ap g)) (h_c0 : kd g c0 = 8) (h_a1 : kd g a1 = 1) : ∀ n : Nat, ∀ (l3 : Nat) (l4 : Int32) (l5 : Int32) (S : St), kd g l3 = 0 → f_X8_goThrough_L15 n c0 a1 a2 l3 l4 l5 S = some r → WA p l e rm_X8_goThrough s m args below meth c 0 0 (MQ below (QWv g r) args s 0 0 (Ap g)) 8 g (Ap g) S 15 [(0, .ref (ad g c0)), (1, .ref (ad g a1)), (2, .int a2), (3, .ref (ad g l3)), (4, .int l4), (5, .int l5)] [] := by
  intro n
  induction n with
  | zero => intro l3 l4 l5 S h_l3 h; rw [f_X8_goThrough_L15] at h; cases h
  | succ n ih =>
    intro l3 l4 l5 S h_l3 h
    rw [f_X8_goThrough_L15] at h
    refine wa_iload cx dX8_goThrough_15 rfl ?_
    refine wa_sipush cx dX8_goThrough_17 (6561 : Int32) (by decide) ?_
    refine wa_icmp_ge cx dX8_goThrough_20 155 (by decide) (fun q26 => ?_) (fun q26 => ?_)
    · rw [if_pos q26] at h
      exact wa_vret cx h dX8_goThrough_155
    · rw [if_neg q26] at h
      refine wa_iload cx dX8_goThrough_23 rfl ?_
      refine wa_if_lt cx dX8_goThrough_25 155 (by decide) (fun q27 => ?_) (fun q27 => ?_)
      · rw [if_pos q27] at h
        exact wa_vret cx h dX8_goThrough_155
      · rw [if_neg q27] at h
        refine wa_iload cx dX8_goThrough_28 rfl ?_
        refine wa_istore cx dX8_goThrough_30 [(0, .ref (ad g c0)), (1, .ref (ad g a1)), (2, .int a2), (3, .ref (ad g l3)), (5, .int l5), (6, .int l4)] (Nat.le_of_ble_eq_true rfl) rfl (lvs_c rfl (lvs_c rfl (lvs_c rfl (lvs_c rfl (lvs_c rfl (lvs_c rfl (lvs_n))))))) ?_
        refine wa_sub (lv' := [(0, .ref (ad g c0)), (1, .ref (ad g a1)), (2, .int a2), (3, .ref (ad g l3)), (5, .int l5), (6, .int l4)]) (lvs_c rfl (lvs_c rfl (lvs_c rfl (lvs_c rfl (lvs_c rfl (lvs_c rfl (lvs_n))))))) ?_
        exact w_X8_goThrough_L32 cx h_c0 h_a1 ih FU l3 l5 l4 S h_l3 h
def f_X8_goThrough (c0 : Nat) (a1 : Nat) (a2 : Int32) (S : St) : Option (Unit × St) := bd (f_X8_clear c0 S) fun _ S28 => bd (f_X1_whoCome a1 S28) fun x31 S32 => ck (kdE x31 = 0) (f_X8_goThrough_L15 FU c0 a1 a2 x31 (0 : Int32) (0 : Int32) S32)
set_option maxHeartbeats 4000000 in
set_option maxRecDepth 100000 in
theorem m_X8_goThrough (l : Launch) {g : Gl} (hg : GOK g) {c0 : Nat} {a1 : Nat} {a2 : Int32} {S : St} {r : Unit × St} (h_c0 : kd g c0 = 8) (h_a1 : kd g a1 = 1) (h : f_X8_goThrough c0 a1 a2 S = some r) : MW l yX8_goThrough cX8_goThrough 8 none rm_X8_goThrough g S [.ref (ad g c0), .ref (ad g a1), .int a2] (QWv g r) := by
  refine startW [(0, .ref (ad g c0)), (1, .ref (ad g a1)), (2, .int a2)] (by decide +kernel) (Nat.le_of_ble_eq_true rfl) rfl hg (fun p e s m args below meth c cx => ?_)
  have cx : Cx p s m args meth c cX8_goThrough 8 none RX8 g (Ap g) := cx
  rw [f_X8_goThrough] at h
  refine wa_aload_n cx (i := 0) dX8_goThrough_0 rfl rfl ?_
  obtain ⟨u30, S28, e29, h⟩ := bd_some h
  refine wa_callVv cx (m_X8_clear l cx.2.2.2.2.2.2.1 h_c0 e29) vl_X8_28 h_c0 (by decide) rfl rfl ⟨_, cell_eq8 (kd_lt h_c0 (by decide)).2⟩ ⟨Nat.le_of_ble_eq_true rfl, Nat.le_of_ble_eq_true rfl⟩ ⟨rfl, rfl⟩ ⟨Nat.zero_le _, Nat.zero_le _⟩ rfl (Nat.le_of_ble_eq_true rfl) dX8_goThrough_1 rfl ?_
  refine wa_aload_n cx (i := 1) dX8_goThrough_4 rfl rfl ?_
  obtain ⟨x31, S32, e33, h⟩ := bd_some h
  refine wa_callVr cx (m_X1_whoCome l cx.2.2.2.2.2.2.1 h_a1 e33) vl_X8_31 h_a1 (by decide) rfl rfl ⟨_, cell_eq1 (kd_lt h_a1 (by decide)).2⟩ ⟨Nat.le_of_ble_eq_true rfl, Nat.le_of_ble_eq_true rfl⟩ ⟨rfl, rfl⟩ ⟨Nat.zero_le _, Nat.zero_le _⟩ rfl (Nat.le_of_ble_eq_true rfl) dX8_goThrough_5 rfl ?_
  obtain ⟨b34, h⟩ := ck_some h
  refine wa_astore_n cx (i := 3) dX8_goThrough_8 [(0, .ref (ad g c0)), (1, .ref (ad g a1)), (2, .int a2), (3, .ref (ad g x31))] rfl (Nat.le_of_ble_eq_true rfl) rfl (lvs_c rfl (lvs_c rfl (lvs_c rfl (lvs_c rfl (lvs_n))))) ?_
  refine wa_iconst cx dX8_goThrough_9 (0 : Int32) (by decide) ?_
  refine wa_istore cx dX8_goThrough_10 [(0, .ref (ad g c0)), (1, .ref (ad g a1)), (2, .int a2), (3, .ref (ad g x31)), (4, .int (0 : Int32))] (Nat.le_of_ble_eq_true rfl) rfl (lvs_c rfl (lvs_c rfl (lvs_c rfl (lvs_c rfl (lvs_c rfl (lvs_n)))))) ?_
  refine wa_iconst cx dX8_goThrough_12 (0 : Int32) (by decide) ?_
  refine wa_istore cx dX8_goThrough_13 [(0, .ref (ad g c0)), (1, .ref (ad g a1)), (2, .int a2), (3, .ref (ad g x31)), (4, .int (0 : Int32)), (5, .int (0 : Int32))] (Nat.le_of_ble_eq_true rfl) rfl (lvs_c rfl (lvs_c rfl (lvs_c rfl (lvs_c rfl (lvs_c rfl (lvs_c rfl (lvs_n))))))) ?_
  refine wa_sub (lv' := [(0, .ref (ad g c0)), (1, .ref (ad g a1)), (2, .int a2), (3, .ref (ad g x31)), (4, .int (0 : Int32)), (5, .int (0 : Int32))]) (lvs_c rfl (lvs_c rfl (lvs_c rfl (lvs_c rfl (lvs_c rfl (lvs_c rfl (lvs_n))))))) ?_
  exact w_X8_goThrough_L15 cx h_c0 h_a1  FU x31 (0 : Int32) (0 : Int32) S32 (kd_of cx.2.2.2.2.2.2.1 b34 (by decide)) h
def rm_X9_write : Room := { frames := 1, cells := 0, slots := 0, locals := 24 }
def f_X9_write (c0 : Nat) (a1 : Int32) (a2 : Int64) (S : St) : Option (Int32 × St) := bd (f_X9_isWithin a1 (1 : Int32) (8 : Int32) S) fun x1 S2 => if x1 = 0 then some ((-1 : Int32), S2) else bd (f_X7_put (c0 + 1) a1 a2 S2) fun x5 S6 => if x5 = 0 then some ((-3 : Int32), S6) else some ((S6.1 (c0 + 1) 1), S6)
set_option maxHeartbeats 4000000 in
set_option maxRecDepth 100000 in
theorem m_X9_write (l : Launch) {g : Gl} (hg : GOK g) {c0 : Nat} {a1 : Int32} {a2 : Int64} {S : St} {r : Int32 × St} (h_c0 : kd g c0 = 9) (h : f_X9_write c0 a1 a2 S = some r) : MW l yX9_write cX9_write 4 (some .int) rm_X9_write g S [.ref (ad g c0), .int a1, .long a2] (QWi g r) := by
  refine startW [(0, .ref (ad g c0)), (1, .int a1), (2, .long a2)] (by decide +kernel) (Nat.le_of_ble_eq_true rfl) rfl hg (fun p e s m args below meth c cx => ?_)
  have cx : Cx p s m args meth c cX9_write 4 (some .int) RX9 g (Ap g) := cx
  rw [f_X9_write] at h
  refine wa_iload_n cx (i := 1) dX9_write_0 rfl rfl ?_
  refine wa_iconst cx dX9_write_1 (1 : Int32) (by decide) ?_
  refine wa_bipush cx dX9_write_2 (8 : Int32) (by decide) ?_
  obtain ⟨x1, S2, e3, h⟩ := bd_some h
  refine wa_callSi cx (m_X9_isWithin l cx.2.2.2.2.2.2.1  e3) vl_X9_103 ⟨Nat.le_of_ble_eq_true rfl, Nat.le_of_ble_eq_true rfl⟩ ⟨rfl, rfl⟩ ⟨Nat.zero_le _, Nat.zero_le _⟩ rfl (Nat.le_of_ble_eq_true rfl) dX9_write_4 rfl ?_
  refine wa_if_ne cx dX9_write_7 12 (by decide) (fun q4 => ?_) (fun q4 => ?_)
  · rw [if_neg q4] at h
    refine wa_aload_n cx (i := 0) dX9_write_12 rfl rfl ?_
    refine gf_X9_10 cx h_c0 dX9_write_13 ?_
    refine wa_iload_n cx (i := 1) dX9_write_16 rfl rfl ?_
    refine wa_lload_n cx (i := 2) dX9_write_17 rfl rfl ?_
    obtain ⟨x5, S6, e7, h⟩ := bd_some h
    refine wa_callVi cx (m_X7_put l cx.2.2.2.2.2.2.1 (kq9_0 cx.2.2.2.2.2.2.1 h_c0) e7) vl_X9_106 (kq9_0 cx.2.2.2.2.2.2.1 h_c0) (by decide) rfl rfl ⟨_, cell_eq7 (kd_lt (kq9_0 cx.2.2.2.2.2.2.1 h_c0) (by decide)).2⟩ ⟨Nat.le_of_ble_eq_true rfl, Nat.le_of_ble_eq_true rfl⟩ ⟨rfl, rfl⟩ ⟨Nat.zero_le _, Nat.zero_le _⟩ rfl (Nat.le_of_ble_eq_true rfl) dX9_write_18 rfl ?_
    refine wa_if_eq cx dX9_write_21 34 (by decide) (fun q8 => ?_) (fun q8 => ?_)
    · rw [if_pos q8] at h
      refine wa_bipush cx dX9_write_34 (-3 : Int32) (by decide) ?_
      exact wa_iret cx h dX9_write_36
    · rw [if_neg q8] at h
      refine wa_aload_n cx (i := 0) dX9_write_24 rfl rfl ?_
      refine gf_X9_10 cx h_c0 dX9_write_25 ?_
      refine gf_X9_110 cx (kq9_0 cx.2.2.2.2.2.2.1 h_c0) dX9_write_28 ?_
      refine wa_goto cx dX9_write_31 36 (by decide) ?_
      exact wa_iret cx h dX9_write_36
  · rw [if_pos q4] at h
    refine wa_iconst cx dX9_write_10 (-1 : Int32) (by decide) ?_
    exact wa_iret cx h dX9_write_11
def rm_X9_wipe : Room := { frames := 0, cells := 0, slots := 0, locals := 0 }
def f_X9_wipe (c0 : Nat) (S : St) : Option (Int32 × St) := sq (S.1 (c0 + 1) 1) fun x1 => sq (pI S (c0 + 1) 1 (0 : Int32)) fun S2 => some (x1, S2)
set_option maxHeartbeats 4000000 in
set_option maxRecDepth 100000 in
theorem m_X9_wipe (l : Launch) {g : Gl} (hg : GOK g) {c0 : Nat} {S : St} {r : Int32 × St} (h_c0 : kd g c0 = 9) (h : f_X9_wipe c0 S = some r) : MW l yX9_wipe cX9_wipe 2 (some .int) rm_X9_wipe g S [.ref (ad g c0)] (QWi g r) := by
  refine startW [(0, .ref (ad g c0))] (by decide +kernel) (Nat.le_of_ble_eq_true rfl) rfl hg (fun p e s m args below meth c cx => ?_)
  have cx : Cx p s m args meth c cX9_wipe 2 (some .int) RX9 g (Ap g) := cx
  rw [f_X9_wipe] at h
  refine wa_aload_n cx (i := 0) dX9_wipe_0 rfl rfl ?_
  refine gf_X9_10 cx h_c0 dX9_wipe_1 ?_
  refine gf_X9_110 cx (kq9_0 cx.2.2.2.2.2.2.1 h_c0) dX9_wipe_4 ?_
  replace h := sq_eq h
  generalize (S.1 (c0 + 1) 1) = x1 at h ⊢
  refine wa_istore_n cx (i := 1) dX9_wipe_7 [(0, .ref (ad g c0)), (1, .int x1)] rfl (Nat.le_of_ble_eq_true rfl) rfl (lvs_c rfl (lvs_c rfl (lvs_n))) ?_
  refine wa_aload_n cx (i := 0) dX9_wipe_8 rfl rfl ?_
  refine gf_X9_10 cx h_c0 dX9_wipe_9 ?_
  refine wa_iconst cx dX9_wipe_12 (0 : Int32) (by decide) ?_
  refine pf_X9_110 cx (kq9_0 cx.2.2.2.2.2.2.1 h_c0) dX9_wipe_13 ?_
  replace h := sq_eq h
  generalize (pI S (c0 + 1) 1 (0 : Int32)) = S2 at h ⊢
  refine wa_iload_n cx (i := 1) dX9_wipe_16 rfl rfl ?_
  exact wa_iret cx h dX9_wipe_17
def rm_X9_fault : Room := { frames := 5, cells := 0, slots := 0, locals := 113 }
def f_X9_fault (c0 : Nat) (S : St) : Option (Int32 × St) := ck (kdE (S.2.2 c0 3) = 2) (bd (f_X3_read (c0 + 3) (c0 + 1) (S.2.2 c0 3) S) fun x2 S3 => some (x2, S3))
set_option maxHeartbeats 4000000 in
set_option maxRecDepth 100000 in
theorem m_X9_fault (l : Launch) {g : Gl} (hg : GOK g) {c0 : Nat} {S : St} {r : Int32 × St} (h_c0 : kd g c0 = 9) (h : f_X9_fault c0 S = some r) : MW l yX9_fault cX9_fault 1 (some .int) rm_X9_fault g S [.ref (ad g c0)] (QWi g r) := by
  refine startW [(0, .ref (ad g c0))] (by decide +kernel) (Nat.le_of_ble_eq_true rfl) rfl hg (fun p e s m args below meth c cx => ?_)
  have cx : Cx p s m args meth c cX9_fault 1 (some .int) RX9 g (Ap g) := cx
  rw [f_X9_fault] at h
  refine wa_aload_n cx (i := 0) dX9_fault_0 rfl rfl ?_
  refine gf_X9_19 cx h_c0 dX9_fault_1 ?_
  refine wa_aload_n cx (i := 0) dX9_fault_4 rfl rfl ?_
  refine gf_X9_10 cx h_c0 dX9_fault_5 ?_
  refine wa_aload_n cx (i := 0) dX9_fault_8 rfl rfl ?_
  obtain ⟨b1, h⟩ := ck_some h
  refine gf_X9_30 cx h_c0 dX9_fault_9 ?_
  obtain ⟨x2, S3, e4, h⟩ := bd_some h
  refine wa_callVi cx (m_X3_read l cx.2.2.2.2.2.2.1 (kq9_1 cx.2.2.2.2.2.2.1 h_c0) (kq9_0 cx.2.2.2.2.2.2.1 h_c0) (kd_of cx.2.2.2.2.2.2.1 b1 (by decide)) e4) vl_X9_113 (kq9_1 cx.2.2.2.2.2.2.1 h_c0) (by decide) rfl rfl ⟨_, cell_eq3 (kd_lt (kq9_1 cx.2.2.2.2.2.2.1 h_c0) (by decide)).2⟩ ⟨Nat.le_of_ble_eq_true rfl, Nat.le_of_ble_eq_true rfl⟩ ⟨rfl, rfl⟩ ⟨Nat.zero_le _, Nat.zero_le _⟩ rfl (Nat.le_of_ble_eq_true rfl) dX9_fault_12 rfl ?_
  exact wa_iret cx h dX9_fault_15
def rm_X9_forgetWays : Room := { frames := 0, cells := 0, slots := 0, locals := 0 }
def f_X9_forgetWays (c0 : Nat) (S : St) : Option (Unit × St) := sq (pI S c0 13 (0 : Int32)) fun S1 => sq (pI S1 c0 14 (0 : Int32)) fun S2 => some ((), S2)
set_option maxHeartbeats 4000000 in
set_option maxRecDepth 100000 in
theorem m_X9_forgetWays (l : Launch) {g : Gl} (hg : GOK g) {c0 : Nat} {S : St} {r : Unit × St} (h_c0 : kd g c0 = 9) (h : f_X9_forgetWays c0 S = some r) : MW l yX9_forgetWays cX9_forgetWays 1 none rm_X9_forgetWays g S [.ref (ad g c0)] (QWv g r) := by
  refine startW [(0, .ref (ad g c0))] (by decide +kernel) (Nat.le_of_ble_eq_true rfl) rfl hg (fun p e s m args below meth c cx => ?_)
  have cx : Cx p s m args meth c cX9_forgetWays 1 none RX9 g (Ap g) := cx
  rw [f_X9_forgetWays] at h
  refine wa_aload_n cx (i := 0) dX9_forgetWays_0 rfl rfl ?_
  refine wa_iconst cx dX9_forgetWays_1 (0 : Int32) (by decide) ?_
  refine pf_X9_305 cx (by decide) h_c0 dX9_forgetWays_2 ?_
  replace h := sq_eq h
  generalize (pI S c0 13 (0 : Int32)) = S1 at h ⊢
  refine wa_aload_n cx (i := 0) dX9_forgetWays_5 rfl rfl ?_
  refine wa_iconst cx dX9_forgetWays_6 (0 : Int32) (by decide) ?_
  refine pf_X9_231 cx (by decide) h_c0 dX9_forgetWays_7 ?_
  replace h := sq_eq h
  generalize (pI S1 c0 14 (0 : Int32)) = S2 at h ⊢
  exact wa_vret cx h dX9_forgetWays_10
def rm_X9_lay : Room := { frames := 5, cells := 0, slots := 0, locals := 113 }
def f_X9_lay (c0 : Nat) (S : St) : Option (Int32 × St) := ck (kdE (S.2.2 c0 3) = 2) (bd (f_X3_read (c0 + 3) (c0 + 1) (S.2.2 c0 3) S) fun x2 S3 => if x2 = (-4 : Int32) then ck (kdE (S3.2.2 c0 3) = 2) (if (S3.1 ((S3.2.2 c0 3) + 1) 0) = 0 then some ((-2 : Int32), S3) else ck (kdE (S3.2.2 c0 2) = 2) (ck (kdE (S3.2.2 c0 3) = 2) (sq (pR S3 c0 2 (S3.2.2 c0 3)) fun S10 => sq (pR S10 c0 3 (S3.2.2 c0 2)) fun S11 => ck (kdE (S11.2.2 c0 2) = 2) (ck (kdE (S11.2.2 c0 2) = 2) (bd (f_X0_arrange (c0 + 25) (S11.2.2 c0 2) (S11.1 (S11.2.2 c0 2) 2) S11) fun x14 S15 => bd (f_J7_fill_53178 (c0 + 99) (0 : Int32) S15) fun _ S17 => sq (pI S17 c0 11 (0 : Int32)) fun S20 => sq (pI S20 (c0 + 100) 0 (0 : Int32)) fun S21 => sq (pI S21 c0 15 (0 : Int32)) fun S22 => bd (f_X9_forgetWays c0 S22) fun _ S23 => ck (kdE (S23.2.2 c0 2) = 2) (some ((S23.1 ((S23.2.2 c0 2) + 1) 1), S23))))))) else some ((-2 : Int32), S3))
set_option maxHeartbeats 4000000 in
set_option maxRecDepth 100000 in
theorem m_X9_lay (l : Launch) {g : Gl} (hg : GOK g) {c0 : Nat} {S : St} {r : Int32 × St} (h_c0 : kd g c0 = 9) (h : f_X9_lay c0 S = some r) : MW l yX9_lay cX9_lay 2 (some .int) rm_X9_lay g S [.ref (ad g c0)] (QWi g r) := by
  refine startW [(0, .ref (ad g c0))] (by decide +kernel) (Nat.le_of_ble_eq_true rfl) rfl hg (fun p e s m args below meth c cx => ?_)
  have cx : Cx p s m args meth c cX9_lay 2 (some .int) RX9 g (Ap g) := cx
  rw [f_X9_lay] at h
  refine wa_aload_n cx (i := 0) dX9_lay_0 rfl rfl ?_
  refine gf_X9_19 cx h_c0 dX9_lay_1 ?_
  refine wa_aload_n cx (i := 0) dX9_lay_4 rfl rfl ?_
  refine gf_X9_10 cx h_c0 dX9_lay_5 ?_
  refine wa_aload_n cx (i := 0) dX9_lay_8 rfl rfl ?_
  obtain ⟨b1, h⟩ := ck_some h
  refine gf_X9_30 cx h_c0 dX9_lay_9 ?_
  obtain ⟨x2, S3, e4, h⟩ := bd_some h
  refine wa_callVi cx (m_X3_read l cx.2.2.2.2.2.2.1 (kq9_1 cx.2.2.2.2.2.2.1 h_c0) (kq9_0 cx.2.2.2.2.2.2.1 h_c0) (kd_of cx.2.2.2.2.2.2.1 b1 (by decide)) e4) vl_X9_113 (kq9_1 cx.2.2.2.2.2.2.1 h_c0) (by decide) rfl rfl ⟨_, cell_eq3 (kd_lt (kq9_1 cx.2.2.2.2.2.2.1 h_c0) (by decide)).2⟩ ⟨Nat.le_of_ble_eq_true rfl, Nat.le_of_ble_eq_true rfl⟩ ⟨rfl, rfl⟩ ⟨Nat.zero_le _, Nat.zero_le _⟩ rfl (Nat.le_of_ble_eq_true rfl) dX9_lay_12 rfl ?_
  refine wa_bipush cx dX9_lay_15 (-4 : Int32) (by decide) ?_
  refine wa_icmp_ne cx dX9_lay_17 33 (by decide) (fun q5 => ?_) (fun q5 => ?_)
  · rw [if_neg q5] at h
    refine wa_bipush cx dX9_lay_33 (-2 : Int32) (by decide) ?_
    exact wa_iret cx h dX9_lay_35
  · rw [if_pos q5] at h
    refine wa_aload_n cx (i := 0) dX9_lay_20 rfl rfl ?_
    obtain ⟨b6, h⟩ := ck_some h
    refine gf_X9_30 cx h_c0 dX9_lay_21 ?_
    refine gf_X9_83 cx (kd_of cx.2.2.2.2.2.2.1 b6 (by decide)) dX9_lay_24 ?_
    refine gf_X9_117 cx (kq2_10 cx.2.2.2.2.2.2.1 (kd_of cx.2.2.2.2.2.2.1 b6 (by decide))) dX9_lay_27 ?_
    refine wa_if_ne cx dX9_lay_30 36 (by decide) (fun q7 => ?_) (fun q7 => ?_)
    · rw [if_neg q7] at h
      refine wa_aload_n cx (i := 0) dX9_lay_36 rfl rfl ?_
      obtain ⟨b8, h⟩ := ck_some h
      refine gf_X9_26 cx h_c0 dX9_lay_37 ?_
      refine wa_astore_n cx (i := 1) dX9_lay_40 [(0, .ref (ad g c0)), (1, .ref (ad g (S3.2.2 c0 2)))] rfl (Nat.le_of_ble_eq_true rfl) rfl (lvs_c rfl (lvs_c rfl (lvs_n))) ?_
      refine wa_aload_n cx (i := 0) dX9_lay_41 rfl rfl ?_
      refine wa_aload_n cx (i := 0) dX9_lay_42 rfl rfl ?_
      obtain ⟨b9, h⟩ := ck_some h
      refine gf_X9_30 cx h_c0 dX9_lay_43 ?_
      refine pf_X9_26 cx h_c0 dX9_lay_46 ?_
      replace h := sq_eq h
      generalize (pR S3 c0 2 (S3.2.2 c0 3)) = S10 at h ⊢
      refine wa_aload_n cx (i := 0) dX9_lay_49 rfl rfl ?_
      refine wa_aload_n cx (i := 1) dX9_lay_50 rfl rfl ?_
      refine pf_X9_30 cx h_c0 dX9_lay_51 ?_
      replace h := sq_eq h
      generalize (pR S10 c0 3 (S3.2.2 c0 2)) = S11 at h ⊢
      refine wa_aload_n cx (i := 0) dX9_lay_54 rfl rfl ?_
      refine gf_X9_36 cx h_c0 dX9_lay_55 ?_
      refine wa_aload_n cx (i := 0) dX9_lay_58 rfl rfl ?_
      obtain ⟨b12, h⟩ := ck_some h
      refine gf_X9_26 cx h_c0 dX9_lay_59 ?_
      refine wa_aload_n cx (i := 0) dX9_lay_62 rfl rfl ?_
      obtain ⟨b13, h⟩ := ck_some h
      refine gf_X9_26 cx h_c0 dX9_lay_63 ?_
      refine gf_X9_95 cx (kd_of cx.2.2.2.2.2.2.1 b13 (by decide)) dX9_lay_66 ?_
      obtain ⟨x14, S15, e16, h⟩ := bd_some h
      refine wa_callVi cx (m_X0_arrange l cx.2.2.2.2.2.2.1 (kq9_4 cx.2.2.2.2.2.2.1 h_c0) (kd_of cx.2.2.2.2.2.2.1 b12 (by decide)) e16) vl_X9_99 (kq9_4 cx.2.2.2.2.2.2.1 h_c0) (by decide) rfl rfl ⟨_, cell_eq0 (kd_lt (kq9_4 cx.2.2.2.2.2.2.1 h_c0) (by decide)).2⟩ ⟨Nat.le_of_ble_eq_true rfl, Nat.le_of_ble_eq_true rfl⟩ ⟨rfl, rfl⟩ ⟨Nat.zero_le _, Nat.zero_le _⟩ rfl (Nat.le_of_ble_eq_true rfl) dX9_lay_69 rfl ?_
      refine wa_pop cx dX9_lay_72 rfl ?_
      refine wa_aload_n cx (i := 0) dX9_lay_73 rfl rfl ?_
      refine gf_X9_69 cx h_c0 dX9_lay_74 ?_
      refine wa_iconst cx dX9_lay_77 (0 : Int32) (by decide) ?_
      obtain ⟨u19, S17, e18, h⟩ := bd_some h
      refine wa_callSv cx (m_J7_fill_53178 l cx.2.2.2.2.2.2.1 ⟨(kq9_10 cx.2.2.2.2.2.2.1 h_c0).1, rfl⟩ e18) vl_X9_119 ⟨Nat.le_of_ble_eq_true rfl, Nat.le_of_ble_eq_true rfl⟩ ⟨rfl, rfl⟩ ⟨Nat.zero_le _, Nat.zero_le _⟩ rfl (Nat.le_of_ble_eq_true rfl) dX9_lay_78 rfl ?_
      refine wa_aload_n cx (i := 0) dX9_lay_81 rfl rfl ?_
      refine wa_iconst cx dX9_lay_82 (0 : Int32) (by decide) ?_
      refine pf_X9_125 cx h_c0 dX9_lay_83 ?_
      replace h := sq_eq h
      generalize (pI S17 c0 11 (0 : Int32)) = S20 at h ⊢
      refine wa_aload_n cx (i := 0) dX9_lay_86 rfl rfl ?_
      refine gf_X9_76 cx h_c0 dX9_lay_87 ?_
      refine wa_iconst cx dX9_lay_90 (0 : Int32) (by decide) ?_
      refine pf_X9_128 cx (kq9_12 cx.2.2.2.2.2.2.1 h_c0) dX9_lay_91 ?_
      replace h := sq_eq h
      generalize (pI S20 (c0 + 100) 0 (0 : Int32)) = S21 at h ⊢
      refine wa_aload_n cx (i := 0) dX9_lay_94 rfl rfl ?_
      refine wa_iconst cx dX9_lay_95 (0 : Int32) (by decide) ?_
      refine pf_X9_131 cx (by decide) h_c0 dX9_lay_96 ?_
      replace h := sq_eq h
      generalize (pI S21 c0 15 (0 : Int32)) = S22 at h ⊢
      refine wa_aload_n cx (i := 0) dX9_lay_99 rfl rfl ?_
      obtain ⟨u25, S23, e24, h⟩ := bd_some h
      refine wa_callVv cx (m_X9_forgetWays l cx.2.2.2.2.2.2.1 h_c0 e24) vl_X9_135 h_c0 (by decide) rfl rfl ⟨_, cell_eq9 (kd_lt h_c0 (by decide)).2⟩ ⟨Nat.le_of_ble_eq_true rfl, Nat.le_of_ble_eq_true rfl⟩ ⟨rfl, rfl⟩ ⟨Nat.zero_le _, Nat.zero_le _⟩ rfl (Nat.le_of_ble_eq_true rfl) dX9_lay_100 rfl ?_
      refine wa_aload_n cx (i := 0) dX9_lay_103 rfl rfl ?_
      obtain ⟨b26, h⟩ := ck_some h
      refine gf_X9_26 cx h_c0 dX9_lay_104 ?_
      refine gf_X9_83 cx (kd_of cx.2.2.2.2.2.2.1 b26 (by decide)) dX9_lay_107 ?_
      refine gf_X9_138 cx (kq2_10 cx.2.2.2.2.2.2.1 (kd_of cx.2.2.2.2.2.2.1 b26 (by decide))) dX9_lay_110 ?_
      exact wa_iret cx h dX9_lay_113
    · rw [if_pos q7] at h
      refine wa_bipush cx dX9_lay_33 (-2 : Int32) (by decide) ?_
      exact wa_iret cx h dX9_lay_35
def rm_X9_isGiver : Room := { frames := 0, cells := 0, slots := 0, locals := 0 }
def f_X9_isGiver (c0 : Nat) (a1 : Int32) (S : St) : Option (Int32 × St) := if a1 < 0 then some ((0 : Int32), S) else ck (kdE (S.2.2 c0 2) = 2) (if (S.1 ((S.2.2 c0 2) + 1) 1) ≤ a1 then some ((0 : Int32), S) else some ((1 : Int32), S))
set_option maxHeartbeats 4000000 in
set_option maxRecDepth 100000 in
theorem m_X9_isGiver (l : Launch) {g : Gl} (hg : GOK g) {c0 : Nat} {a1 : Int32} {S : St} {r : Int32 × St} (h_c0 : kd g c0 = 9) (h : f_X9_isGiver c0 a1 S = some r) : MW l yX9_isGiver cX9_isGiver 2 (some .boolean) rm_X9_isGiver g S [.ref (ad g c0), .int a1] (QWi g r) := by
  refine startW [(0, .ref (ad g c0)), (1, .int a1)] (by decide +kernel) (Nat.le_of_ble_eq_true rfl) rfl hg (fun p e s m args below meth c cx => ?_)
  have cx : Cx p s m args meth c cX9_isGiver 2 (some .boolean) RX9 g (Ap g) := cx
  rw [f_X9_isGiver] at h
  refine wa_iload_n cx (i := 1) dX9_isGiver_0 rfl rfl ?_
  refine wa_if_lt cx dX9_isGiver_1 22 (by decide) (fun q1 => ?_) (fun q1 => ?_)
  · rw [if_pos q1] at h
    refine wa_iconst cx dX9_isGiver_22 (0 : Int32) (by decide) ?_
    exact wa_zret cx (by decide) h dX9_isGiver_23
  · rw [if_neg q1] at h
    refine wa_iload_n cx (i := 1) dX9_isGiver_4 rfl rfl ?_
    refine wa_aload_n cx (i := 0) dX9_isGiver_5 rfl rfl ?_
    obtain ⟨b2, h⟩ := ck_some h
    refine gf_X9_26 cx h_c0 dX9_isGiver_6 ?_
    refine gf_X9_83 cx (kd_of cx.2.2.2.2.2.2.1 b2 (by decide)) dX9_isGiver_9 ?_
    refine gf_X9_138 cx (kq2_10 cx.2.2.2.2.2.2.1 (kd_of cx.2.2.2.2.2.2.1 b2 (by decide))) dX9_isGiver_12 ?_
    refine wa_icmp_ge cx dX9_isGiver_15 22 (by decide) (fun q3 => ?_) (fun q3 => ?_)
    · rw [if_pos q3] at h
      refine wa_iconst cx dX9_isGiver_22 (0 : Int32) (by decide) ?_
      exact wa_zret cx (by decide) h dX9_isGiver_23
    · rw [if_neg q3] at h
      refine wa_iconst cx dX9_isGiver_18 (1 : Int32) (by decide) ?_
      refine wa_goto cx dX9_isGiver_19 23 (by decide) ?_
      exact wa_zret cx (by decide) h dX9_isGiver_23
def rm_X9_giver : Room := { frames := 1, cells := 0, slots := 0, locals := 22 }
def f_X9_giver (c0 : Nat) (a1 : Int32) (a2 : Int32) (S : St) : Option (Int32 × St) := bd (f_X9_isGiver c0 a1 S) fun x1 S2 => if x1 = 0 then some ((-1 : Int32), S2) else bd (f_X9_isWithin a2 (0 : Int32) (3 : Int32) S2) fun x5 S6 => if x5 = 0 then some ((-1 : Int32), S6) else bd (f_X0_placeOf (c0 + 25) a1 S6) fun x9 S10 => if a2 = (0 : Int32) then ck (kdE (S10.2.2 c0 2) = 2) (bd (f_X6_sortOf ((S10.2.2 c0 2) + 1) a1 S10) fun x14 S15 => some (x14, S15)) else if a2 = (1 : Int32) then ck (kdE (S10.2.2 c0 2) = 2) (ck (kdE (S10.2.2 c0 2) = 2) (bd (f_X6_sortOf ((S10.2.2 c0 2) + 1) a1 S10) fun x20 S21 => ob x20 6 (some ((S21.1 (((S10.2.2 c0 2) + 1) + 1) (Int32.toNatClampNeg x20)), S21)))) else if a2 = (2 : Int32) then if x9 = (-4 : Int32) then some ((-4 : Int32), S10) else ob x9 8 (some ((S10.1 ((c0 + 25) + 2) (Int32.toNatClampNeg x9)), S10)) else some (x9, S10)
set_option maxHeartbeats 4000000 in
set_option maxRecDepth 100000 in
theorem m_X9_giver (l : Launch) {g : Gl} (hg : GOK g) {c0 : Nat} {a1 : Int32} {a2 : Int32} {S : St} {r : Int32 × St} (h_c0 : kd g c0 = 9) (h : f_X9_giver c0 a1 a2 S = some r) : MW l yX9_giver cX9_giver 4 (some .int) rm_X9_giver g S [.ref (ad g c0), .int a1, .int a2] (QWi g r) := by
  refine startW [(0, .ref (ad g c0)), (1, .int a1), (2, .int a2)] (by decide +kernel) (Nat.le_of_ble_eq_true rfl) rfl hg (fun p e s m args below meth c cx => ?_)
  have cx : Cx p s m args meth c cX9_giver 4 (some .int) RX9 g (Ap g) := cx
  rw [f_X9_giver] at h
  refine wa_aload_n cx (i := 0) dX9_giver_0 rfl rfl ?_
  refine wa_iload_n cx (i := 1) dX9_giver_1 rfl rfl ?_
  obtain ⟨x1, S2, e3, h⟩ := bd_some h
  refine wa_callVi cx (m_X9_isGiver l cx.2.2.2.2.2.2.1 h_c0 e3) vl_X9_141 h_c0 (by decide) rfl rfl ⟨_, cell_eq9 (kd_lt h_c0 (by decide)).2⟩ ⟨Nat.le_of_ble_eq_true rfl, Nat.le_of_ble_eq_true rfl⟩ ⟨rfl, rfl⟩ ⟨Nat.zero_le _, Nat.zero_le _⟩ rfl (Nat.le_of_ble_eq_true rfl) dX9_giver_2 rfl ?_
  refine wa_if_eq cx dX9_giver_5 17 (by decide) (fun q4 => ?_) (fun q4 => ?_)
  · rw [if_pos q4] at h
    refine wa_iconst cx dX9_giver_17 (-1 : Int32) (by decide) ?_
    exact wa_iret cx h dX9_giver_18
  · rw [if_neg q4] at h
    refine wa_iload_n cx (i := 2) dX9_giver_8 rfl rfl ?_
    refine wa_iconst cx dX9_giver_9 (0 : Int32) (by decide) ?_
    refine wa_iconst cx dX9_giver_10 (3 : Int32) (by decide) ?_
    obtain ⟨x5, S6, e7, h⟩ := bd_some h
    refine wa_callSi cx (m_X9_isWithin l cx.2.2.2.2.2.2.1  e7) vl_X9_103 ⟨Nat.le_of_ble_eq_true rfl, Nat.le_of_ble_eq_true rfl⟩ ⟨rfl, rfl⟩ ⟨Nat.zero_le _, Nat.zero_le _⟩ rfl (Nat.le_of_ble_eq_true rfl) dX9_giver_11 rfl ?_
    refine wa_if_ne cx dX9_giver_14 19 (by decide) (fun q8 => ?_) (fun q8 => ?_)
    · rw [if_neg q8] at h
      refine wa_aload_n cx (i := 0) dX9_giver_19 rfl rfl ?_
      refine gf_X9_36 cx h_c0 dX9_giver_20 ?_
      refine wa_iload_n cx (i := 1) dX9_giver_23 rfl rfl ?_
      obtain ⟨x9, S10, e11, h⟩ := bd_some h
      refine wa_callVi cx (m_X0_placeOf l cx.2.2.2.2.2.2.1 (kq9_4 cx.2.2.2.2.2.2.1 h_c0) e11) vl_X9_145 (kq9_4 cx.2.2.2.2.2.2.1 h_c0) (by decide) rfl rfl ⟨_, cell_eq0 (kd_lt (kq9_4 cx.2.2.2.2.2.2.1 h_c0) (by decide)).2⟩ ⟨Nat.le_of_ble_eq_true rfl, Nat.le_of_ble_eq_true rfl⟩ ⟨rfl, rfl⟩ ⟨Nat.zero_le _, Nat.zero_le _⟩ rfl (Nat.le_of_ble_eq_true rfl) dX9_giver_24 rfl ?_
      refine wa_istore_n cx (i := 3) dX9_giver_27 [(0, .ref (ad g c0)), (1, .int a1), (2, .int a2), (3, .int x9)] rfl (Nat.le_of_ble_eq_true rfl) rfl (lvs_c rfl (lvs_c rfl (lvs_c rfl (lvs_c rfl (lvs_n))))) ?_
      refine wa_iload_n cx (i := 2) dX9_giver_28 rfl rfl ?_
      by_cases q12 : a2 = (0 : Int32)
      · rw [if_pos q12] at h
        refine wa_tabIn cx dX9_giver_29 56 (by rw [q12]; decide) (by rw [q12]; decide) (by rw [q12] <;> rfl) (by decide) ?_
        refine wa_aload_n cx (i := 0) dX9_giver_56 rfl rfl ?_
        obtain ⟨b13, h⟩ := ck_some h
        refine gf_X9_26 cx h_c0 dX9_giver_57 ?_
        refine gf_X9_83 cx (kd_of cx.2.2.2.2.2.2.1 b13 (by decide)) dX9_giver_60 ?_
        refine wa_iload_n cx (i := 1) dX9_giver_63 rfl rfl ?_
        obtain ⟨x14, S15, e16, h⟩ := bd_some h
        refine wa_callVi cx (m_X6_sortOf l cx.2.2.2.2.2.2.1 (kq2_10 cx.2.2.2.2.2.2.1 (kd_of cx.2.2.2.2.2.2.1 b13 (by decide))) e16) vl_X9_149 (kq2_10 cx.2.2.2.2.2.2.1 (kd_of cx.2.2.2.2.2.2.1 b13 (by decide))) (by decide) rfl rfl ⟨_, cell_eq6 (kd_lt (kq2_10 cx.2.2.2.2.2.2.1 (kd_of cx.2.2.2.2.2.2.1 b13 (by decide))) (by decide)).2⟩ ⟨Nat.le_of_ble_eq_true rfl, Nat.le_of_ble_eq_true rfl⟩ ⟨rfl, rfl⟩ ⟨Nat.zero_le _, Nat.zero_le _⟩ rfl (Nat.le_of_ble_eq_true rfl) dX9_giver_64 rfl ?_
        exact wa_iret cx h dX9_giver_67
      rw [if_neg q12] at h
      by_cases q17 : a2 = (1 : Int32)
      · rw [if_pos q17] at h
        refine wa_tabIn cx dX9_giver_29 68 (by rw [q17]; decide) (by rw [q17]; decide) (by rw [q17] <;> rfl) (by decide) ?_
        refine wa_aload_n cx (i := 0) dX9_giver_68 rfl rfl ?_
        obtain ⟨b18, h⟩ := ck_some h
        refine gf_X9_26 cx h_c0 dX9_giver_69 ?_
        refine gf_X9_83 cx (kd_of cx.2.2.2.2.2.2.1 b18 (by decide)) dX9_giver_72 ?_
        refine gf_X9_152 cx (kq2_10 cx.2.2.2.2.2.2.1 (kd_of cx.2.2.2.2.2.2.1 b18 (by decide))) dX9_giver_75 ?_
        refine wa_aload_n cx (i := 0) dX9_giver_78 rfl rfl ?_
        obtain ⟨b19, h⟩ := ck_some h
        refine gf_X9_26 cx h_c0 dX9_giver_79 ?_
        refine gf_X9_83 cx (kd_of cx.2.2.2.2.2.2.1 b19 (by decide)) dX9_giver_82 ?_
        refine wa_iload_n cx (i := 1) dX9_giver_85 rfl rfl ?_
        obtain ⟨x20, S21, e22, h⟩ := bd_some h
        refine wa_callVi cx (m_X6_sortOf l cx.2.2.2.2.2.2.1 (kq2_10 cx.2.2.2.2.2.2.1 (kd_of cx.2.2.2.2.2.2.1 b19 (by decide))) e22) vl_X9_149 (kq2_10 cx.2.2.2.2.2.2.1 (kd_of cx.2.2.2.2.2.2.1 b19 (by decide))) (by decide) rfl rfl ⟨_, cell_eq6 (kd_lt (kq2_10 cx.2.2.2.2.2.2.1 (kd_of cx.2.2.2.2.2.2.1 b19 (by decide))) (by decide)).2⟩ ⟨Nat.le_of_ble_eq_true rfl, Nat.le_of_ble_eq_true rfl⟩ ⟨rfl, rfl⟩ ⟨Nat.zero_le _, Nat.zero_le _⟩ rfl (Nat.le_of_ble_eq_true rfl) dX9_giver_86 rfl ?_
        obtain ⟨b23, h⟩ := ob_some h
        refine wa_iald cx dX9_giver_89 (kq6_2 cx.2.2.2.2.2.2.1 (kq2_10 cx.2.2.2.2.2.2.1 (kd_of cx.2.2.2.2.2.2.1 b18 (by decide)))) b23 ?_
        exact wa_iret cx h dX9_giver_90
      rw [if_neg q17] at h
      by_cases q24 : a2 = (2 : Int32)
      · rw [if_pos q24] at h
        refine wa_tabIn cx dX9_giver_29 91 (by rw [q24]; decide) (by rw [q24]; decide) (by rw [q24] <;> rfl) (by decide) ?_
        refine wa_iload_n cx (i := 3) dX9_giver_91 rfl rfl ?_
        refine wa_bipush cx dX9_giver_92 (-4 : Int32) (by decide) ?_
        refine wa_icmp_ne cx dX9_giver_94 102 (by decide) (fun q25 => ?_) (fun q25 => ?_)
        · rw [if_neg q25] at h
          refine wa_aload_n cx (i := 0) dX9_giver_102 rfl rfl ?_
          refine gf_X9_36 cx h_c0 dX9_giver_103 ?_
          refine gf_X9_155 cx (kq9_4 cx.2.2.2.2.2.2.1 h_c0) dX9_giver_106 ?_
          refine wa_iload_n cx (i := 3) dX9_giver_109 rfl rfl ?_
          obtain ⟨b26, h⟩ := ob_some h
          refine wa_iald cx dX9_giver_110 (kq0_2 cx.2.2.2.2.2.2.1 (kq9_4 cx.2.2.2.2.2.2.1 h_c0)) b26 ?_
          exact wa_iret cx h dX9_giver_111
        · rw [if_pos q25] at h
          refine wa_bipush cx dX9_giver_97 (-4 : Int32) (by decide) ?_
          refine wa_goto cx dX9_giver_99 111 (by decide) ?_
          exact wa_iret cx h dX9_giver_111
      rw [if_neg q24] at h
      refine wa_tabDef cx dX9_giver_29 112 [0, 1, 2] (by decide) (by decide) (show allne _ _ from ⟨ne_toInt q12, ne_toInt q17, ne_toInt q24, trivial⟩) (by decide) ?_
      refine wa_iload_n cx (i := 3) dX9_giver_112 rfl rfl ?_
      exact wa_iret cx h dX9_giver_113
    · rw [if_pos q8] at h
      refine wa_iconst cx dX9_giver_17 (-1 : Int32) (by decide) ?_
      exact wa_iret cx h dX9_giver_18
def rm_X9_show : Room := { frames := 1, cells := 0, slots := 0, locals := 22 }
def f_X9_show (c0 : Nat) (a1 : Int32) (S : St) : Option (Int32 × St) := bd (f_X9_isWithin a1 (0 : Int32) (2 : Int32) S) fun x1 S2 => if x1 = 0 then some ((-1 : Int32), S2) else sq (S2.1 c0 11) fun x5 => sq (pI S2 c0 11 a1) fun S6 => bd (f_X9_forgetWays c0 S6) fun _ S7 => some (x5, S7)
set_option maxHeartbeats 4000000 in
set_option maxRecDepth 100000 in
theorem m_X9_show (l : Launch) {g : Gl} (hg : GOK g) {c0 : Nat} {a1 : Int32} {S : St} {r : Int32 × St} (h_c0 : kd g c0 = 9) (h : f_X9_show c0 a1 S = some r) : MW l yX9_show cX9_show 3 (some .int) rm_X9_show g S [.ref (ad g c0), .int a1] (QWi g r) := by
  refine startW [(0, .ref (ad g c0)), (1, .int a1)] (by decide +kernel) (Nat.le_of_ble_eq_true rfl) rfl hg (fun p e s m args below meth c cx => ?_)
  have cx : Cx p s m args meth c cX9_show 3 (some .int) RX9 g (Ap g) := cx
  rw [f_X9_show] at h
  refine wa_iload_n cx (i := 1) dX9_show_0 rfl rfl ?_
  refine wa_iconst cx dX9_show_1 (0 : Int32) (by decide) ?_
  refine wa_iconst cx dX9_show_2 (2 : Int32) (by decide) ?_
  obtain ⟨x1, S2, e3, h⟩ := bd_some h
  refine wa_callSi cx (m_X9_isWithin l cx.2.2.2.2.2.2.1  e3) vl_X9_103 ⟨Nat.le_of_ble_eq_true rfl, Nat.le_of_ble_eq_true rfl⟩ ⟨rfl, rfl⟩ ⟨Nat.zero_le _, Nat.zero_le _⟩ rfl (Nat.le_of_ble_eq_true rfl) dX9_show_3 rfl ?_
  refine wa_if_ne cx dX9_show_6 11 (by decide) (fun q4 => ?_) (fun q4 => ?_)
  · rw [if_neg q4] at h
    refine wa_aload_n cx (i := 0) dX9_show_11 rfl rfl ?_
    refine gf_X9_125 cx h_c0 dX9_show_12 ?_
    replace h := sq_eq h
    generalize (S2.1 c0 11) = x5 at h ⊢
    refine wa_istore_n cx (i := 2) dX9_show_15 [(0, .ref (ad g c0)), (1, .int a1), (2, .int x5)] rfl (Nat.le_of_ble_eq_true rfl) rfl (lvs_c rfl (lvs_c rfl (lvs_c rfl (lvs_n)))) ?_
    refine wa_aload_n cx (i := 0) dX9_show_16 rfl rfl ?_
    refine wa_iload_n cx (i := 1) dX9_show_17 rfl rfl ?_
    refine pf_X9_125 cx h_c0 dX9_show_18 ?_
    replace h := sq_eq h
    generalize (pI S2 c0 11 a1) = S6 at h ⊢
    refine wa_aload_n cx (i := 0) dX9_show_21 rfl rfl ?_
    obtain ⟨u9, S7, e8, h⟩ := bd_some h
    refine wa_callVv cx (m_X9_forgetWays l cx.2.2.2.2.2.2.1 h_c0 e8) vl_X9_135 h_c0 (by decide) rfl rfl ⟨_, cell_eq9 (kd_lt h_c0 (by decide)).2⟩ ⟨Nat.le_of_ble_eq_true rfl, Nat.le_of_ble_eq_true rfl⟩ ⟨rfl, rfl⟩ ⟨Nat.zero_le _, Nat.zero_le _⟩ rfl (Nat.le_of_ble_eq_true rfl) dX9_show_22 rfl ?_
    refine wa_iload_n cx (i := 2) dX9_show_25 rfl rfl ?_
    exact wa_iret cx h dX9_show_26
  · rw [if_pos q4] at h
    refine wa_iconst cx dX9_show_9 (-1 : Int32) (by decide) ?_
    exact wa_iret cx h dX9_show_10
def rm_X9_setGame : Room := { frames := 1, cells := 0, slots := 0, locals := 23 }
def f_X9_setGame (c0 : Nat) (S : St) : Option (Unit × St) := ck (kdE (S.2.2 c0 2) = 2) (bd (f_X1_set (c0 + 47) (S.2.2 c0 2) (c0 + 25) (S.1 c0 11) S) fun _ S2 => some ((), S2))
set_option maxHeartbeats 4000000 in
set_option maxRecDepth 100000 in
theorem m_X9_setGame (l : Launch) {g : Gl} (hg : GOK g) {c0 : Nat} {S : St} {r : Unit × St} (h_c0 : kd g c0 = 9) (h : f_X9_setGame c0 S = some r) : MW l yX9_setGame cX9_setGame 1 none rm_X9_setGame g S [.ref (ad g c0)] (QWv g r) := by
  refine startW [(0, .ref (ad g c0))] (by decide +kernel) (Nat.le_of_ble_eq_true rfl) rfl hg (fun p e s m args below meth c cx => ?_)
  have cx : Cx p s m args meth c cX9_setGame 1 none RX9 g (Ap g) := cx
  rw [f_X9_setGame] at h
  refine wa_aload_n cx (i := 0) dX9_setGame_0 rfl rfl ?_
  refine gf_X9_46 cx h_c0 dX9_setGame_1 ?_
  refine wa_aload_n cx (i := 0) dX9_setGame_4 rfl rfl ?_
  obtain ⟨b1, h⟩ := ck_some h
  refine gf_X9_26 cx h_c0 dX9_setGame_5 ?_
  refine wa_aload_n cx (i := 0) dX9_setGame_8 rfl rfl ?_
  refine gf_X9_36 cx h_c0 dX9_setGame_9 ?_
  refine wa_aload_n cx (i := 0) dX9_setGame_12 rfl rfl ?_
  refine gf_X9_125 cx h_c0 dX9_setGame_13 ?_
  obtain ⟨u4, S2, e3, h⟩ := bd_some h
  refine wa_callVv cx (m_X1_set l cx.2.2.2.2.2.2.1 (kq9_6 cx.2.2.2.2.2.2.1 h_c0) (kd_of cx.2.2.2.2.2.2.1 b1 (by decide)) (kq9_4 cx.2.2.2.2.2.2.1 h_c0) e3) vl_X9_243 (kq9_6 cx.2.2.2.2.2.2.1 h_c0) (by decide) rfl rfl ⟨_, cell_eq1 (kd_lt (kq9_6 cx.2.2.2.2.2.2.1 h_c0) (by decide)).2⟩ ⟨Nat.le_of_ble_eq_true rfl, Nat.le_of_ble_eq_true rfl⟩ ⟨rfl, rfl⟩ ⟨Nat.zero_le _, Nat.zero_le _⟩ rfl (Nat.le_of_ble_eq_true rfl) dX9_setGame_16 rfl ?_
  exact wa_vret cx h dX9_setGame_19
def rm_X9_waysAsTheyStand : Room := { frames := 5, cells := 0, slots := 0, locals := 121 }
def f_X9_waysAsTheyStand (c0 : Nat) (S : St) : Option (Nat × St) := if (S.1 c0 13) = 0 then bd (f_X9_setGame c0 S) fun _ S2 => bd (f_X8_goThrough (c0 + 73) (c0 + 47) (1 : Int32) S2) fun _ S5 => sq (pI S5 c0 13 (1 : Int32)) fun S8 => some ((c0 + 73), S8) else some ((c0 + 73), S)
set_option maxHeartbeats 4000000 in
set_option maxRecDepth 100000 in
theorem m_X9_waysAsTheyStand (l : Launch) {g : Gl} (hg : GOK g) {c0 : Nat} {S : St} {r : Nat × St} (h_c0 : kd g c0 = 9) (h : f_X9_waysAsTheyStand c0 S = some r) : MW l yX9_waysAsTheyStand cX9_waysAsTheyStand 1 (some (.object "EnoughGive$Ways")) rm_X9_waysAsTheyStand g S [.ref (ad g c0)] (QWr g r) := by
  refine startW [(0, .ref (ad g c0))] (by decide +kernel) (Nat.le_of_ble_eq_true rfl) rfl hg (fun p e s m args below meth c cx => ?_)
  have cx : Cx p s m args meth c cX9_waysAsTheyStand 1 (some (.object "EnoughGive$Ways")) RX9 g (Ap g) := cx
  rw [f_X9_waysAsTheyStand] at h
  refine wa_aload_n cx (i := 0) dX9_waysAsTheyStand_0 rfl rfl ?_
  refine gf_X9_305 cx h_c0 dX9_waysAsTheyStand_1 ?_
  refine wa_if_ne cx dX9_waysAsTheyStand_4 28 (by decide) (fun q1 => ?_) (fun q1 => ?_)
  · rw [if_neg q1] at h
    refine wa_aload_n cx (i := 0) dX9_waysAsTheyStand_28 rfl rfl ?_
    refine gf_X9_53 cx h_c0 dX9_waysAsTheyStand_29 ?_
    exact wa_aret cx h dX9_waysAsTheyStand_32
  · rw [if_pos q1] at h
    refine wa_aload_n cx (i := 0) dX9_waysAsTheyStand_7 rfl rfl ?_
    obtain ⟨u4, S2, e3, h⟩ := bd_some h
    refine wa_callVv cx (m_X9_setGame l cx.2.2.2.2.2.2.1 h_c0 e3) vl_X9_195 h_c0 (by decide) rfl rfl ⟨_, cell_eq9 (kd_lt h_c0 (by decide)).2⟩ ⟨Nat.le_of_ble_eq_true rfl, Nat.le_of_ble_eq_true rfl⟩ ⟨rfl, rfl⟩ ⟨Nat.zero_le _, Nat.zero_le _⟩ rfl (Nat.le_of_ble_eq_true rfl) dX9_waysAsTheyStand_8 rfl ?_
    refine wa_aload_n cx (i := 0) dX9_waysAsTheyStand_11 rfl rfl ?_
    refine gf_X9_53 cx h_c0 dX9_waysAsTheyStand_12 ?_
    refine wa_aload_n cx (i := 0) dX9_waysAsTheyStand_15 rfl rfl ?_
    refine gf_X9_46 cx h_c0 dX9_waysAsTheyStand_16 ?_
    refine wa_iconst cx dX9_waysAsTheyStand_19 (1 : Int32) (by decide) ?_
    obtain ⟨u7, S5, e6, h⟩ := bd_some h
    refine wa_callVv cx (m_X8_goThrough l cx.2.2.2.2.2.2.1 (kq9_7 cx.2.2.2.2.2.2.1 h_c0) (kq9_6 cx.2.2.2.2.2.2.1 h_c0) e6) vl_X9_247 (kq9_7 cx.2.2.2.2.2.2.1 h_c0) (by decide) rfl rfl ⟨_, cell_eq8 (kd_lt (kq9_7 cx.2.2.2.2.2.2.1 h_c0) (by decide)).2⟩ ⟨Nat.le_of_ble_eq_true rfl, Nat.le_of_ble_eq_true rfl⟩ ⟨rfl, rfl⟩ ⟨Nat.zero_le _, Nat.zero_le _⟩ rfl (Nat.le_of_ble_eq_true rfl) dX9_waysAsTheyStand_20 rfl ?_
    refine wa_aload_n cx (i := 0) dX9_waysAsTheyStand_23 rfl rfl ?_
    refine wa_iconst cx dX9_waysAsTheyStand_24 (1 : Int32) (by decide) ?_
    refine pf_X9_305 cx (by decide) h_c0 dX9_waysAsTheyStand_25 ?_
    replace h := sq_eq h
    generalize (pI S5 c0 13 (1 : Int32)) = S8 at h ⊢
    refine wa_aload_n cx (i := 0) dX9_waysAsTheyStand_28 rfl rfl ?_
    refine gf_X9_53 cx h_c0 dX9_waysAsTheyStand_29 ?_
    exact wa_aret cx h dX9_waysAsTheyStand_32
def rm_X9_greatestPart : Room := { frames := 0, cells := 0, slots := 0, locals := 0 }
def f_X9_greatestPart_J32 (l0 : Int64) (S : St) : Option (Int64 × St) := if l0 = (0 : Int64) then some ((1 : Int64), S) else some (l0, S)
set_option maxHeartbeats 4000000 in
set_option maxRecDepth 100000 in
theorem w_X9_greatestPart_J32 {p : Program} {l : Launch} {e : Env} {s : State} {m : MethodId} {args : Array Value} {below : List Frame} {meth : Method} {c : Code} {g : Gl} {r : Int64 × St} (cx : Cx p s m args meth c cX9_greatestPart 7 (some .long) RX9 g (Ap g))  : ∀ (l0 : Int64) (S : St), f_X9_greatestPart_J32 l0 S = some r → WA p l e rm_X9_greatestPart s m args below meth c 0 0 (MQ below (QWl g r) args s 0 0 (Ap g)) 7 g (Ap g) S 32 [(0, .long l0)] [] := by
  intro l0 S h
  rw [f_X9_greatestPart_J32] at h
  refine wa_lload_n cx (i := 0) dX9_greatestPart_32 rfl rfl ?_
  refine wa_lconst cx dX9_greatestPart_33 (0 : Int64) (by decide) ?_
  refine wa_lcmp_ne cx dX9_greatestPart_34 dX9_greatestPart_35 42 (by decide) (fun q1 => ?_) (fun q1 => ?_)
  · rw [if_neg q1] at h
    refine wa_lload_n cx (i := 0) dX9_greatestPart_42 rfl rfl ?_
    exact wa_lret cx h dX9_greatestPart_43
  · rw [if_pos q1] at h
    refine wa_lconst cx dX9_greatestPart_38 (1 : Int64) (by decide) ?_
    refine wa_goto cx dX9_greatestPart_39 43 (by decide) ?_
    exact wa_lret cx h dX9_greatestPart_43
def f_X9_greatestPart_L3 : Nat → Int64 → Int64 → Int32 → St → Option (Int64 × St)
  | 0, _, _, _, _ => none
  | n + 1, l0, l2, l4, S => if (100 : Int32) ≤ l4 then f_X9_greatestPart_J32 l0 S else if l2 = (0 : Int64) then f_X9_greatestPart_J32 l0 S else ck (¬ l2 = 0) (sq (l0 - l0 / l2 * l2) fun x5 => f_X9_greatestPart_L3 n l2 x5 (l4 + (1 : Int32)) S)
set_option maxHeartbeats 4000000 in
set_option maxRecDepth 100000 in
theorem w_X9_greatestPart_L3 {p : Program} {l : Launch} {e : Env} {s : State} {m : MethodId} {args : Array Value} {below : List Frame} {meth : Method} {c : Code} {g : Gl} {r : Int64 × St} (cx : Cx p s m args meth c cX9_greatestPart 7 (some .long) RX9 g (Ap g))  : ∀ n : Nat, ∀ (l0 : Int64) (l2 : Int64) (l4 : Int32) (S : St), f_X9_greatestPart_L3 n l0 l2 l4 S = some r → WA p l e rm_X9_greatestPart s m args below meth c 0 0 (MQ below (QWl g r) args s 0 0 (Ap g)) 7 g (Ap g) S 3 [(0, .long l0), (2, .long l2), (4, .int l4)] [] := by
  intro n
  induction n with
  | zero => intro l0 l2 l4 S h; rw [f_X9_greatestPart_L3] at h; cases h
  | succ n ih =>
    intro l0 l2 l4 S h
    rw [f_X9_greatestPart_L3] at h
    refine wa_iload cx dX9_greatestPart_3 rfl ?_
    refine wa_bipush cx dX9_greatestPart_5 (100 : Int32) (by decide) ?_
    refine wa_icmp_ge cx dX9_greatestPart_7 32 (by decide) (fun q2 => ?_) (fun q2 => ?_)
    · rw [if_pos q2] at h
      refine wa_sub (lv' := [(0, .long l0)]) (lvs_c rfl (lvs_n)) ?_
      exact w_X9_greatestPart_J32 cx    l0 S  h
    · rw [if_neg q2] at h
      refine wa_lload_n cx (i := 2) dX9_greatestPart_10 rfl rfl ?_
      refine wa_lconst cx dX9_greatestPart_11 (0 : Int64) (by decide) ?_
      refine wa_lcmp_eq cx dX9_greatestPart_12 dX9_greatestPart_13 32 (by decide) (fun q3 => ?_) (fun q3 => ?_)
      · rw [if_pos q3] at h
        refine wa_sub (lv' := [(0, .long l0)]) (lvs_c rfl (lvs_n)) ?_
        exact w_X9_greatestPart_J32 cx    l0 S  h
      · rw [if_neg q3] at h
        refine wa_lload_n cx (i := 0) dX9_greatestPart_16 rfl rfl ?_
        refine wa_lload_n cx (i := 2) dX9_greatestPart_17 rfl rfl ?_
        obtain ⟨b4, h⟩ := ck_some h
        refine wa_lrem cx dX9_greatestPart_18 b4 ?_
        replace h := sq_eq h
        generalize (l0 - l0 / l2 * l2) = x5 at h ⊢
        refine wa_lstore cx dX9_greatestPart_19 [(2, .long l2), (4, .int l4), (5, .long x5)] (Nat.le_of_ble_eq_true rfl) rfl (lvs_c rfl (lvs_c rfl (lvs_c rfl (lvs_n)))) ?_
        refine wa_lload_n cx (i := 2) dX9_greatestPart_21 rfl rfl ?_
        refine wa_lstore_n cx (i := 0) dX9_greatestPart_22 [(0, .long l2), (4, .int l4), (5, .long x5)] rfl (Nat.le_of_ble_eq_true rfl) rfl (lvs_c rfl (lvs_c rfl (lvs_c rfl (lvs_n)))) ?_
        refine wa_lload cx dX9_greatestPart_23 rfl ?_
        refine wa_lstore_n cx (i := 2) dX9_greatestPart_25 [(0, .long l2), (2, .long x5), (4, .int l4)] rfl (Nat.le_of_ble_eq_true rfl) rfl (lvs_c rfl (lvs_c rfl (lvs_c rfl (lvs_n)))) ?_
        refine wa_iinc cx dX9_greatestPart_26 (l4 + (1 : Int32)) [(0, .long l2), (2, .long x5), (4, .int (l4 + (1 : Int32)))] rfl rfl (Nat.le_of_ble_eq_true rfl) rfl (lvs_c rfl (lvs_c rfl (lvs_c rfl (lvs_n)))) ?_
        refine wa_goto cx dX9_greatestPart_29 3 (by decide) ?_
        refine wa_sub (lv' := [(0, .long l2), (2, .long x5), (4, .int (l4 + (1 : Int32)))]) (lvs_c rfl (lvs_c rfl (lvs_c rfl (lvs_n)))) ?_
        exact ih l2 x5 (l4 + (1 : Int32)) S  h
def f_X9_greatestPart (a0 : Int64) (a2 : Int64) (S : St) : Option (Int64 × St) := f_X9_greatestPart_L3 FU a0 a2 (0 : Int32) S
set_option maxHeartbeats 4000000 in
set_option maxRecDepth 100000 in
theorem m_X9_greatestPart (l : Launch) {g : Gl} (hg : GOK g) {a0 : Int64} {a2 : Int64} {S : St} {r : Int64 × St}  (h : f_X9_greatestPart a0 a2 S = some r) : MW l yX9_greatestPart cX9_greatestPart 7 (some .long) rm_X9_greatestPart g S [.long a0, .long a2] (QWl g r) := by
  refine startW [(0, .long a0), (2, .long a2)] (by decide +kernel) (Nat.le_of_ble_eq_true rfl) rfl hg (fun p e s m args below meth c cx => ?_)
  have cx : Cx p s m args meth c cX9_greatestPart 7 (some .long) RX9 g (Ap g) := cx
  rw [f_X9_greatestPart] at h
  refine wa_iconst cx dX9_greatestPart_0 (0 : Int32) (by decide) ?_
  refine wa_istore cx dX9_greatestPart_1 [(0, .long a0), (2, .long a2), (4, .int (0 : Int32))] (Nat.le_of_ble_eq_true rfl) rfl (lvs_c rfl (lvs_c rfl (lvs_c rfl (lvs_n)))) ?_
  refine wa_sub (lv' := [(0, .long a0), (2, .long a2), (4, .int (0 : Int32))]) (lvs_c rfl (lvs_c rfl (lvs_c rfl (lvs_n)))) ?_
  exact w_X9_greatestPart_L3 cx   FU a0 a2 (0 : Int32) S  h
def rm_X9_odds : Room := { frames := 6, cells := 0, slots := 0, locals := 141 }
def f_X9_odds (c0 : Nat) (a1 : Int32) (S : St) : Option (Int64 × St) := bd (f_X9_isWithin a1 (0 : Int32) (2 : Int32) S) fun x1 S2 => if x1 = 0 then some ((-1 : Int64), S2) else bd (f_X9_waysAsTheyStand c0 S2) fun x5 S6 => ck (kdE x5 = 8) (sq (S6.2.1 x5 0) fun x9 => if a1 = 0 then some (x9, S6) else bd (f_X0_allWays (c0 + 25) S6) fun x11 S12 => bd (f_X9_greatestPart x9 x11 S12) fun x14 S15 => if a1 = (1 : Int32) then ck (¬ x14 = 0) (some ((x9 / x14), S15)) else ck (¬ x14 = 0) (some ((x11 / x14), S15)))
set_option maxHeartbeats 4000000 in
set_option maxRecDepth 100000 in
theorem m_X9_odds (l : Launch) {g : Gl} (hg : GOK g) {c0 : Nat} {a1 : Int32} {S : St} {r : Int64 × St} (h_c0 : kd g c0 = 9) (h : f_X9_odds c0 a1 S = some r) : MW l yX9_odds cX9_odds 8 (some .long) rm_X9_odds g S [.ref (ad g c0), .int a1] (QWl g r) := by
  refine startW [(0, .ref (ad g c0)), (1, .int a1)] (by decide +kernel) (Nat.le_of_ble_eq_true rfl) rfl hg (fun p e s m args below meth c cx => ?_)
  have cx : Cx p s m args meth c cX9_odds 8 (some .long) RX9 g (Ap g) := cx
  rw [f_X9_odds] at h
  refine wa_iload_n cx (i := 1) dX9_odds_0 rfl rfl ?_
  refine wa_iconst cx dX9_odds_1 (0 : Int32) (by decide) ?_
  refine wa_iconst cx dX9_odds_2 (2 : Int32) (by decide) ?_
  obtain ⟨x1, S2, e3, h⟩ := bd_some h
  refine wa_callSi cx (m_X9_isWithin l cx.2.2.2.2.2.2.1  e3) vl_X9_103 ⟨Nat.le_of_ble_eq_true rfl, Nat.le_of_ble_eq_true rfl⟩ ⟨rfl, rfl⟩ ⟨Nat.zero_le _, Nat.zero_le _⟩ rfl (Nat.le_of_ble_eq_true rfl) dX9_odds_3 rfl ?_
  refine wa_if_ne cx dX9_odds_6 13 (by decide) (fun q4 => ?_) (fun q4 => ?_)
  · rw [if_neg q4] at h
    refine wa_aload_n cx (i := 0) dX9_odds_13 rfl rfl ?_
    obtain ⟨x5, S6, e7, h⟩ := bd_some h
    refine wa_callVr cx (m_X9_waysAsTheyStand l cx.2.2.2.2.2.2.1 h_c0 e7) vl_X9_160 h_c0 (by decide) rfl rfl ⟨_, cell_eq9 (kd_lt h_c0 (by decide)).2⟩ ⟨Nat.le_of_ble_eq_true rfl, Nat.le_of_ble_eq_true rfl⟩ ⟨rfl, rfl⟩ ⟨Nat.zero_le _, Nat.zero_le _⟩ rfl (Nat.le_of_ble_eq_true rfl) dX9_odds_14 rfl ?_
    obtain ⟨b8, h⟩ := ck_some h
    refine gf_X9_164 cx (kd_of cx.2.2.2.2.2.2.1 b8 (by decide)) dX9_odds_17 ?_
    replace h := sq_eq h
    generalize (S6.2.1 x5 0) = x9 at h ⊢
    refine wa_lstore_n cx (i := 2) dX9_odds_20 [(0, .ref (ad g c0)), (1, .int a1), (2, .long x9)] rfl (Nat.le_of_ble_eq_true rfl) rfl (lvs_c rfl (lvs_c rfl (lvs_c rfl (lvs_n)))) ?_
    refine wa_iload_n cx (i := 1) dX9_odds_21 rfl rfl ?_
    refine wa_if_ne cx dX9_odds_22 27 (by decide) (fun q10 => ?_) (fun q10 => ?_)
    · rw [if_neg q10] at h
      refine wa_aload_n cx (i := 0) dX9_odds_27 rfl rfl ?_
      refine gf_X9_36 cx h_c0 dX9_odds_28 ?_
      obtain ⟨x11, S12, e13, h⟩ := bd_some h
      refine wa_callVl cx (m_X0_allWays l cx.2.2.2.2.2.2.1 (kq9_4 cx.2.2.2.2.2.2.1 h_c0) e13) vl_X9_168 (kq9_4 cx.2.2.2.2.2.2.1 h_c0) (by decide) rfl rfl ⟨_, cell_eq0 (kd_lt (kq9_4 cx.2.2.2.2.2.2.1 h_c0) (by decide)).2⟩ ⟨Nat.le_of_ble_eq_true rfl, Nat.le_of_ble_eq_true rfl⟩ ⟨rfl, rfl⟩ ⟨Nat.zero_le _, Nat.zero_le _⟩ rfl (Nat.le_of_ble_eq_true rfl) dX9_odds_31 rfl ?_
      refine wa_lstore cx dX9_odds_34 [(1, .int a1), (2, .long x9), (4, .long x11)] (Nat.le_of_ble_eq_true rfl) rfl (lvs_c rfl (lvs_c rfl (lvs_c rfl (lvs_n)))) ?_
      refine wa_lload_n cx (i := 2) dX9_odds_36 rfl rfl ?_
      refine wa_lload cx dX9_odds_37 rfl ?_
      obtain ⟨x14, S15, e16, h⟩ := bd_some h
      refine wa_callSl cx (m_X9_greatestPart l cx.2.2.2.2.2.2.1  e16) vl_X9_172 ⟨Nat.le_of_ble_eq_true rfl, Nat.le_of_ble_eq_true rfl⟩ ⟨rfl, rfl⟩ ⟨Nat.zero_le _, Nat.zero_le _⟩ rfl (Nat.le_of_ble_eq_true rfl) dX9_odds_39 rfl ?_
      refine wa_lstore cx dX9_odds_42 [(1, .int a1), (2, .long x9), (4, .long x11), (6, .long x14)] (Nat.le_of_ble_eq_true rfl) rfl (lvs_c rfl (lvs_c rfl (lvs_c rfl (lvs_c rfl (lvs_n))))) ?_
      refine wa_iload_n cx (i := 1) dX9_odds_44 rfl rfl ?_
      refine wa_iconst cx dX9_odds_45 (1 : Int32) (by decide) ?_
      refine wa_icmp_ne cx dX9_odds_46 53 (by decide) (fun q17 => ?_) (fun q17 => ?_)
      · rw [if_neg q17] at h
        refine wa_lload cx dX9_odds_53 rfl ?_
        refine wa_lload cx dX9_odds_55 rfl ?_
        obtain ⟨b18, h⟩ := ck_some h
        refine wa_ldiv cx dX9_odds_57 b18 ?_
        exact wa_lret cx h dX9_odds_58
      · rw [if_pos q17] at h
        refine wa_lload_n cx (i := 2) dX9_odds_49 rfl rfl ?_
        refine wa_goto cx dX9_odds_50 55 (by decide) ?_
        refine wa_lload cx dX9_odds_55 rfl ?_
        obtain ⟨b19, h⟩ := ck_some h
        refine wa_ldiv cx dX9_odds_57 b19 ?_
        exact wa_lret cx h dX9_odds_58
    · rw [if_pos q10] at h
      refine wa_lload_n cx (i := 2) dX9_odds_25 rfl rfl ?_
      exact wa_lret cx h dX9_odds_26
  · rw [if_pos q4] at h
    refine wa_ldc2 cx dX9_odds_9 (-1 : Int64) kc_X9_158 ?_
    exact wa_lret cx h dX9_odds_12
def rm_X9_mean : Room := { frames := 6, cells := 0, slots := 0, locals := 141 }
def f_X9_mean (c0 : Nat) (a1 : Int32) (a2 : Int32) (S : St) : Option (Int64 × St) := bd (f_X9_isGiver c0 a1 S) fun x1 S2 => if x1 = 0 then some ((-9223372036854775808 : Int64), S2) else bd (f_X9_isWithin a2 (0 : Int32) (1 : Int32) S2) fun x5 S6 => if x5 = 0 then some ((-9223372036854775808 : Int64), S6) else bd (f_X0_placeOf (c0 + 25) a1 S6) fun x9 S10 => if x9 = (-4 : Int32) then some ((-4 : Int64), S10) else bd (f_X9_waysAsTheyStand c0 S10) fun x13 S14 => ck (kdE x13 = 8) (if a2 = 0 then ob x9 8 (some ((S14.2.1 (x13 + 1) (Int32.toNatClampNeg x9)), S14)) else ob x9 8 (some ((S14.2.1 (x13 + 2) (Int32.toNatClampNeg x9)), S14)))
set_option maxHeartbeats 4000000 in
set_option maxRecDepth 100000 in
theorem m_X9_mean (l : Launch) {g : Gl} (hg : GOK g) {c0 : Nat} {a1 : Int32} {a2 : Int32} {S : St} {r : Int64 × St} (h_c0 : kd g c0 = 9) (h : f_X9_mean c0 a1 a2 S = some r) : MW l yX9_mean cX9_mean 5 (some .long) rm_X9_mean g S [.ref (ad g c0), .int a1, .int a2] (QWl g r) := by
  refine startW [(0, .ref (ad g c0)), (1, .int a1), (2, .int a2)] (by decide +kernel) (Nat.le_of_ble_eq_true rfl) rfl hg (fun p e s m args below meth c cx => ?_)
  have cx : Cx p s m args meth c cX9_mean 5 (some .long) RX9 g (Ap g) := cx
  rw [f_X9_mean] at h
  refine wa_aload_n cx (i := 0) dX9_mean_0 rfl rfl ?_
  refine wa_iload_n cx (i := 1) dX9_mean_1 rfl rfl ?_
  obtain ⟨x1, S2, e3, h⟩ := bd_some h
  refine wa_callVi cx (m_X9_isGiver l cx.2.2.2.2.2.2.1 h_c0 e3) vl_X9_141 h_c0 (by decide) rfl rfl ⟨_, cell_eq9 (kd_lt h_c0 (by decide)).2⟩ ⟨Nat.le_of_ble_eq_true rfl, Nat.le_of_ble_eq_true rfl⟩ ⟨rfl, rfl⟩ ⟨Nat.zero_le _, Nat.zero_le _⟩ rfl (Nat.le_of_ble_eq_true rfl) dX9_mean_2 rfl ?_
  refine wa_if_eq cx dX9_mean_5 17 (by decide) (fun q4 => ?_) (fun q4 => ?_)
  · rw [if_pos q4] at h
    refine wa_ldc2 cx dX9_mean_17 (-9223372036854775808 : Int64) kc_X9_178 ?_
    exact wa_lret cx h dX9_mean_20
  · rw [if_neg q4] at h
    refine wa_iload_n cx (i := 2) dX9_mean_8 rfl rfl ?_
    refine wa_iconst cx dX9_mean_9 (0 : Int32) (by decide) ?_
    refine wa_iconst cx dX9_mean_10 (1 : Int32) (by decide) ?_
    obtain ⟨x5, S6, e7, h⟩ := bd_some h
    refine wa_callSi cx (m_X9_isWithin l cx.2.2.2.2.2.2.1  e7) vl_X9_103 ⟨Nat.le_of_ble_eq_true rfl, Nat.le_of_ble_eq_true rfl⟩ ⟨rfl, rfl⟩ ⟨Nat.zero_le _, Nat.zero_le _⟩ rfl (Nat.le_of_ble_eq_true rfl) dX9_mean_11 rfl ?_
    refine wa_if_ne cx dX9_mean_14 21 (by decide) (fun q8 => ?_) (fun q8 => ?_)
    · rw [if_neg q8] at h
      refine wa_aload_n cx (i := 0) dX9_mean_21 rfl rfl ?_
      refine gf_X9_36 cx h_c0 dX9_mean_22 ?_
      refine wa_iload_n cx (i := 1) dX9_mean_25 rfl rfl ?_
      obtain ⟨x9, S10, e11, h⟩ := bd_some h
      refine wa_callVi cx (m_X0_placeOf l cx.2.2.2.2.2.2.1 (kq9_4 cx.2.2.2.2.2.2.1 h_c0) e11) vl_X9_145 (kq9_4 cx.2.2.2.2.2.2.1 h_c0) (by decide) rfl rfl ⟨_, cell_eq0 (kd_lt (kq9_4 cx.2.2.2.2.2.2.1 h_c0) (by decide)).2⟩ ⟨Nat.le_of_ble_eq_true rfl, Nat.le_of_ble_eq_true rfl⟩ ⟨rfl, rfl⟩ ⟨Nat.zero_le _, Nat.zero_le _⟩ rfl (Nat.le_of_ble_eq_true rfl) dX9_mean_26 rfl ?_
      refine wa_istore_n cx (i := 3) dX9_mean_29 [(0, .ref (ad g c0)), (2, .int a2), (3, .int x9)] rfl (Nat.le_of_ble_eq_true rfl) rfl (lvs_c rfl (lvs_c rfl (lvs_c rfl (lvs_n)))) ?_
      refine wa_iload_n cx (i := 3) dX9_mean_30 rfl rfl ?_
      refine wa_bipush cx dX9_mean_31 (-4 : Int32) (by decide) ?_
      refine wa_icmp_ne cx dX9_mean_33 40 (by decide) (fun q12 => ?_) (fun q12 => ?_)
      · rw [if_neg q12] at h
        refine wa_aload_n cx (i := 0) dX9_mean_40 rfl rfl ?_
        obtain ⟨x13, S14, e15, h⟩ := bd_some h
        refine wa_callVr cx (m_X9_waysAsTheyStand l cx.2.2.2.2.2.2.1 h_c0 e15) vl_X9_160 h_c0 (by decide) rfl rfl ⟨_, cell_eq9 (kd_lt h_c0 (by decide)).2⟩ ⟨Nat.le_of_ble_eq_true rfl, Nat.le_of_ble_eq_true rfl⟩ ⟨rfl, rfl⟩ ⟨Nat.zero_le _, Nat.zero_le _⟩ rfl (Nat.le_of_ble_eq_true rfl) dX9_mean_41 rfl ?_
        obtain ⟨b16, h⟩ := ck_some h
        refine wa_astore cx dX9_mean_44 [(2, .int a2), (3, .int x9), (4, .ref (ad g x13))] (Nat.le_of_ble_eq_true rfl) rfl (lvs_c rfl (lvs_c rfl (lvs_c rfl (lvs_n)))) ?_
        refine wa_iload_n cx (i := 2) dX9_mean_46 rfl rfl ?_
        refine wa_if_ne cx dX9_mean_47 60 (by decide) (fun q17 => ?_) (fun q17 => ?_)
        · rw [if_neg q17] at h
          refine wa_aload cx dX9_mean_60 rfl ?_
          refine gf_X9_186 cx (kd_of cx.2.2.2.2.2.2.1 b16 (by decide)) dX9_mean_62 ?_
          refine wa_iload_n cx (i := 3) dX9_mean_65 rfl rfl ?_
          obtain ⟨b18, h⟩ := ob_some h
          refine wa_lald cx dX9_mean_66 (kq8_6 cx.2.2.2.2.2.2.1 (kd_of cx.2.2.2.2.2.2.1 b16 (by decide))) b18 ?_
          exact wa_lret cx h dX9_mean_67
        · rw [if_pos q17] at h
          refine wa_aload cx dX9_mean_50 rfl ?_
          refine gf_X9_182 cx (kd_of cx.2.2.2.2.2.2.1 b16 (by decide)) dX9_mean_52 ?_
          refine wa_iload_n cx (i := 3) dX9_mean_55 rfl rfl ?_
          obtain ⟨b19, h⟩ := ob_some h
          refine wa_lald cx dX9_mean_56 (kq8_5 cx.2.2.2.2.2.2.1 (kd_of cx.2.2.2.2.2.2.1 b16 (by decide))) b19 ?_
          refine wa_goto cx dX9_mean_57 67 (by decide) ?_
          exact wa_lret cx h dX9_mean_67
      · rw [if_pos q12] at h
        refine wa_ldc2 cx dX9_mean_36 (-4 : Int64) kc_X9_180 ?_
        exact wa_lret cx h dX9_mean_39
    · rw [if_pos q8] at h
      refine wa_ldc2 cx dX9_mean_17 (-9223372036854775808 : Int64) kc_X9_178 ?_
      exact wa_lret cx h dX9_mean_20
def rm_X9_wrong : Room := { frames := 6, cells := 0, slots := 0, locals := 141 }
def f_X9_wrong (c0 : Nat) (a1 : Int32) (S : St) : Option (Int64 × St) := bd (f_X9_isWithin a1 (0 : Int32) (1 : Int32) S) fun x1 S2 => if x1 = 0 then some ((-1 : Int64), S2) else bd (f_X9_waysAsTheyStand c0 S2) fun x5 S6 => ck (kdE x5 = 8) (if a1 = 0 then some ((S6.2.1 x5 1), S6) else some ((S6.2.1 x5 2), S6))
set_option maxHeartbeats 4000000 in
set_option maxRecDepth 100000 in
theorem m_X9_wrong (l : Launch) {g : Gl} (hg : GOK g) {c0 : Nat} {a1 : Int32} {S : St} {r : Int64 × St} (h_c0 : kd g c0 = 9) (h : f_X9_wrong c0 a1 S = some r) : MW l yX9_wrong cX9_wrong 3 (some .long) rm_X9_wrong g S [.ref (ad g c0), .int a1] (QWl g r) := by
  refine startW [(0, .ref (ad g c0)), (1, .int a1)] (by decide +kernel) (Nat.le_of_ble_eq_true rfl) rfl hg (fun p e s m args below meth c cx => ?_)
  have cx : Cx p s m args meth c cX9_wrong 3 (some .long) RX9 g (Ap g) := cx
  rw [f_X9_wrong] at h
  refine wa_iload_n cx (i := 1) dX9_wrong_0 rfl rfl ?_
  refine wa_iconst cx dX9_wrong_1 (0 : Int32) (by decide) ?_
  refine wa_iconst cx dX9_wrong_2 (1 : Int32) (by decide) ?_
  obtain ⟨x1, S2, e3, h⟩ := bd_some h
  refine wa_callSi cx (m_X9_isWithin l cx.2.2.2.2.2.2.1  e3) vl_X9_103 ⟨Nat.le_of_ble_eq_true rfl, Nat.le_of_ble_eq_true rfl⟩ ⟨rfl, rfl⟩ ⟨Nat.zero_le _, Nat.zero_le _⟩ rfl (Nat.le_of_ble_eq_true rfl) dX9_wrong_3 rfl ?_
  refine wa_if_ne cx dX9_wrong_6 13 (by decide) (fun q4 => ?_) (fun q4 => ?_)
  · rw [if_neg q4] at h
    refine wa_aload_n cx (i := 0) dX9_wrong_13 rfl rfl ?_
    obtain ⟨x5, S6, e7, h⟩ := bd_some h
    refine wa_callVr cx (m_X9_waysAsTheyStand l cx.2.2.2.2.2.2.1 h_c0 e7) vl_X9_160 h_c0 (by decide) rfl rfl ⟨_, cell_eq9 (kd_lt h_c0 (by decide)).2⟩ ⟨Nat.le_of_ble_eq_true rfl, Nat.le_of_ble_eq_true rfl⟩ ⟨rfl, rfl⟩ ⟨Nat.zero_le _, Nat.zero_le _⟩ rfl (Nat.le_of_ble_eq_true rfl) dX9_wrong_14 rfl ?_
    obtain ⟨b8, h⟩ := ck_some h
    refine wa_astore_n cx (i := 2) dX9_wrong_17 [(1, .int a1), (2, .ref (ad g x5))] rfl (Nat.le_of_ble_eq_true rfl) rfl (lvs_c rfl (lvs_c rfl (lvs_n))) ?_
    refine wa_iload_n cx (i := 1) dX9_wrong_18 rfl rfl ?_
    refine wa_if_ne cx dX9_wrong_19 29 (by decide) (fun q9 => ?_) (fun q9 => ?_)
    · rw [if_neg q9] at h
      refine wa_aload_n cx (i := 2) dX9_wrong_29 rfl rfl ?_
      refine gf_X9_192 cx (kd_of cx.2.2.2.2.2.2.1 b8 (by decide)) dX9_wrong_30 ?_
      exact wa_lret cx h dX9_wrong_33
    · rw [if_pos q9] at h
      refine wa_aload_n cx (i := 2) dX9_wrong_22 rfl rfl ?_
      refine gf_X9_189 cx (kd_of cx.2.2.2.2.2.2.1 b8 (by decide)) dX9_wrong_23 ?_
      refine wa_goto cx dX9_wrong_26 33 (by decide) ?_
      exact wa_lret cx h dX9_wrong_33
  · rw [if_pos q4] at h
    refine wa_ldc2 cx dX9_wrong_9 (-1 : Int64) kc_X9_158 ?_
    exact wa_lret cx h dX9_wrong_12
def rm_X9_row : Room := { frames := 1, cells := 0, slots := 0, locals := 22 }
def f_X9_row (c0 : Nat) (a1 : Int32) (a2 : Int32) (S : St) : Option (Int32 × St) := bd (f_X9_isGiver c0 a1 S) fun x1 S2 => if x1 = 0 then some ((-1 : Int32), S2) else bd (f_X9_isWithin a2 (0 : Int32) (30 : Int32) S2) fun x5 S6 => if x5 = 0 then some ((-1 : Int32), S6) else ob a1 8 (sq (S6.1 (c0 + 99) (Int32.toNatClampNeg a1)) fun x10 => ob a1 8 (sq (pI S6 (c0 + 99) (Int32.toNatClampNeg a1) a2) fun S12 => some (x10, S12)))
set_option maxHeartbeats 4000000 in
set_option maxRecDepth 100000 in
theorem m_X9_row (l : Launch) {g : Gl} (hg : GOK g) {c0 : Nat} {a1 : Int32} {a2 : Int32} {S : St} {r : Int32 × St} (h_c0 : kd g c0 = 9) (h : f_X9_row c0 a1 a2 S = some r) : MW l yX9_row cX9_row 4 (some .int) rm_X9_row g S [.ref (ad g c0), .int a1, .int a2] (QWi g r) := by
  refine startW [(0, .ref (ad g c0)), (1, .int a1), (2, .int a2)] (by decide +kernel) (Nat.le_of_ble_eq_true rfl) rfl hg (fun p e s m args below meth c cx => ?_)
  have cx : Cx p s m args meth c cX9_row 4 (some .int) RX9 g (Ap g) := cx
  rw [f_X9_row] at h
  refine wa_aload_n cx (i := 0) dX9_row_0 rfl rfl ?_
  refine wa_iload_n cx (i := 1) dX9_row_1 rfl rfl ?_
  obtain ⟨x1, S2, e3, h⟩ := bd_some h
  refine wa_callVi cx (m_X9_isGiver l cx.2.2.2.2.2.2.1 h_c0 e3) vl_X9_141 h_c0 (by decide) rfl rfl ⟨_, cell_eq9 (kd_lt h_c0 (by decide)).2⟩ ⟨Nat.le_of_ble_eq_true rfl, Nat.le_of_ble_eq_true rfl⟩ ⟨rfl, rfl⟩ ⟨Nat.zero_le _, Nat.zero_le _⟩ rfl (Nat.le_of_ble_eq_true rfl) dX9_row_2 rfl ?_
  refine wa_if_eq cx dX9_row_5 18 (by decide) (fun q4 => ?_) (fun q4 => ?_)
  · rw [if_pos q4] at h
    refine wa_iconst cx dX9_row_18 (-1 : Int32) (by decide) ?_
    exact wa_iret cx h dX9_row_19
  · rw [if_neg q4] at h
    refine wa_iload_n cx (i := 2) dX9_row_8 rfl rfl ?_
    refine wa_iconst cx dX9_row_9 (0 : Int32) (by decide) ?_
    refine wa_bipush cx dX9_row_10 (30 : Int32) (by decide) ?_
    obtain ⟨x5, S6, e7, h⟩ := bd_some h
    refine wa_callSi cx (m_X9_isWithin l cx.2.2.2.2.2.2.1  e7) vl_X9_103 ⟨Nat.le_of_ble_eq_true rfl, Nat.le_of_ble_eq_true rfl⟩ ⟨rfl, rfl⟩ ⟨Nat.zero_le _, Nat.zero_le _⟩ rfl (Nat.le_of_ble_eq_true rfl) dX9_row_12 rfl ?_
    refine wa_if_ne cx dX9_row_15 20 (by decide) (fun q8 => ?_) (fun q8 => ?_)
    · rw [if_neg q8] at h
      refine wa_aload_n cx (i := 0) dX9_row_20 rfl rfl ?_
      refine gf_X9_69 cx h_c0 dX9_row_21 ?_
      refine wa_iload_n cx (i := 1) dX9_row_24 rfl rfl ?_
      obtain ⟨b9, h⟩ := ob_some h
      refine wa_iald cx dX9_row_25 (kq9_10 cx.2.2.2.2.2.2.1 h_c0) b9 ?_
      replace h := sq_eq h
      generalize (S6.1 (c0 + 99) (Int32.toNatClampNeg a1)) = x10 at h ⊢
      refine wa_istore_n cx (i := 3) dX9_row_26 [(0, .ref (ad g c0)), (1, .int a1), (2, .int a2), (3, .int x10)] rfl (Nat.le_of_ble_eq_true rfl) rfl (lvs_c rfl (lvs_c rfl (lvs_c rfl (lvs_c rfl (lvs_n))))) ?_
      refine wa_aload_n cx (i := 0) dX9_row_27 rfl rfl ?_
      refine gf_X9_69 cx h_c0 dX9_row_28 ?_
      refine wa_iload_n cx (i := 1) dX9_row_31 rfl rfl ?_
      refine wa_iload_n cx (i := 2) dX9_row_32 rfl rfl ?_
      obtain ⟨b11, h⟩ := ob_some h
      refine wa_iast cx dX9_row_33 (kq9_10 cx.2.2.2.2.2.2.1 h_c0) b11 ?_
      replace h := sq_eq h
      generalize (pI S6 (c0 + 99) (Int32.toNatClampNeg a1) a2) = S12 at h ⊢
      refine wa_iload_n cx (i := 3) dX9_row_34 rfl rfl ?_
      exact wa_iret cx h dX9_row_35
    · rw [if_pos q8] at h
      refine wa_iconst cx dX9_row_18 (-1 : Int32) (by decide) ?_
      exact wa_iret cx h dX9_row_19
def rm_X9_judge : Room := { frames := 3, cells := 0, slots := 0, locals := 71 }
def f_X9_judge_L8 : Nat → Nat → Int32 → Int32 → St → Option (Int32 × St)
  | 0, _, _, _, _ => none
  | n + 1, c0, l1, l2, S => if (S.1 (c0 + 25) 0) ≤ l2 then some ((-4 : Int32), S) else ob l2 8 (sq (S.1 ((c0 + 25) + 1) (Int32.toNatClampNeg l2)) fun x3 => ob l2 8 (bd (f_X1_giftAt (c0 + 47) l2 (S.1 ((c0 + 25) + 6) (Int32.toNatClampNeg l2)) l1 S) fun x5 S6 => ob x3 8 (if x5 = (S6.1 (c0 + 99) (Int32.toNatClampNeg x3)) then ob x3 8 (sq (l1 + (S6.1 (c0 + 99) (Int32.toNatClampNeg x3))) fun x11 => f_X9_judge_L8 n c0 x11 (l2 + (1 : Int32)) S6) else some (x3, S6))))
set_option maxHeartbeats 4000000 in
set_option maxRecDepth 100000 in
theorem w_X9_judge_L8 {p : Program} {l : Launch} {e : Env} {s : State} {m : MethodId} {args : Array Value} {below : List Frame} {meth : Method} {c : Code} {g : Gl} {r : Int32 × St} {c0 : Nat} (cx : Cx p s m args meth c cX9_judge 4 (some .int) RX9 g (Ap g)) (h_c0 : kd g c0 = 9) : ∀ n : Nat, ∀ (l1 : Int32) (l2 : Int32) (S : St), f_X9_judge_L8 n c0 l1 l2 S = some r → WA p l e rm_X9_judge s m args below meth c 0 0 (MQ below (QWi g r) args s 0 0 (Ap g)) 4 g (Ap g) S 8 [(0, .ref (ad g c0)), (1, .int l1), (2, .int l2)] [] := by
  intro n
  induction n with
  | zero => intro l1 l2 S h; rw [f_X9_judge_L8] at h; cases h
  | succ n ih =>
    intro l1 l2 S h
    rw [f_X9_judge_L8] at h
    refine wa_iload_n cx (i := 2) dX9_judge_8 rfl rfl ?_
    refine wa_aload_n cx (i := 0) dX9_judge_9 rfl rfl ?_
    refine gf_X9_36 cx h_c0 dX9_judge_10 ?_
    refine gf_X9_198 cx (kq9_4 cx.2.2.2.2.2.2.1 h_c0) dX9_judge_13 ?_
    refine wa_icmp_ge cx dX9_judge_16 73 (by decide) (fun q1 => ?_) (fun q1 => ?_)
    · rw [if_pos q1] at h
      refine wa_bipush cx dX9_judge_73 (-4 : Int32) (by decide) ?_
      exact wa_iret cx h dX9_judge_75
    · rw [if_neg q1] at h
      refine wa_aload_n cx (i := 0) dX9_judge_19 rfl rfl ?_
      refine gf_X9_36 cx h_c0 dX9_judge_20 ?_
      refine gf_X9_199 cx (kq9_4 cx.2.2.2.2.2.2.1 h_c0) dX9_judge_23 ?_
      refine wa_iload_n cx (i := 2) dX9_judge_26 rfl rfl ?_
      obtain ⟨b2, h⟩ := ob_some h
      refine wa_iald cx dX9_judge_27 (kq0_1 cx.2.2.2.2.2.2.1 (kq9_4 cx.2.2.2.2.2.2.1 h_c0)) b2 ?_
      replace h := sq_eq h
      generalize (S.1 ((c0 + 25) + 1) (Int32.toNatClampNeg l2)) = x3 at h ⊢
      refine wa_istore_n cx (i := 3) dX9_judge_28 [(0, .ref (ad g c0)), (1, .int l1), (2, .int l2), (3, .int x3)] rfl (Nat.le_of_ble_eq_true rfl) rfl (lvs_c rfl (lvs_c rfl (lvs_c rfl (lvs_c rfl (lvs_n))))) ?_
      refine wa_aload_n cx (i := 0) dX9_judge_29 rfl rfl ?_
      refine gf_X9_46 cx h_c0 dX9_judge_30 ?_
      refine wa_iload_n cx (i := 2) dX9_judge_33 rfl rfl ?_
      refine wa_aload_n cx (i := 0) dX9_judge_34 rfl rfl ?_
      refine gf_X9_36 cx h_c0 dX9_judge_35 ?_
      refine gf_X9_202 cx (kq9_4 cx.2.2.2.2.2.2.1 h_c0) dX9_judge_38 ?_
      refine wa_iload_n cx (i := 2) dX9_judge_41 rfl rfl ?_
      obtain ⟨b4, h⟩ := ob_some h
      refine wa_iald cx dX9_judge_42 (kq0_6 cx.2.2.2.2.2.2.1 (kq9_4 cx.2.2.2.2.2.2.1 h_c0)) b4 ?_
      refine wa_iload_n cx (i := 1) dX9_judge_43 rfl rfl ?_
      obtain ⟨x5, S6, e7, h⟩ := bd_some h
      refine wa_callVi cx (m_X1_giftAt l cx.2.2.2.2.2.2.1 (kq9_6 cx.2.2.2.2.2.2.1 h_c0) e7) vl_X9_205 (kq9_6 cx.2.2.2.2.2.2.1 h_c0) (by decide) rfl rfl ⟨_, cell_eq1 (kd_lt (kq9_6 cx.2.2.2.2.2.2.1 h_c0) (by decide)).2⟩ ⟨Nat.le_of_ble_eq_true rfl, Nat.le_of_ble_eq_true rfl⟩ ⟨rfl, rfl⟩ ⟨Nat.zero_le _, Nat.zero_le _⟩ rfl (Nat.le_of_ble_eq_true rfl) dX9_judge_44 rfl ?_
      refine wa_aload_n cx (i := 0) dX9_judge_47 rfl rfl ?_
      refine gf_X9_69 cx h_c0 dX9_judge_48 ?_
      refine wa_iload_n cx (i := 3) dX9_judge_51 rfl rfl ?_
      obtain ⟨b8, h⟩ := ob_some h
      refine wa_iald cx dX9_judge_52 (kq9_10 cx.2.2.2.2.2.2.1 h_c0) b8 ?_
      refine wa_icmp_eq cx dX9_judge_53 58 (by decide) (fun q9 => ?_) (fun q9 => ?_)
      · rw [if_pos q9] at h
        refine wa_iload_n cx (i := 1) dX9_judge_58 rfl rfl ?_
        refine wa_aload_n cx (i := 0) dX9_judge_59 rfl rfl ?_
        refine gf_X9_69 cx h_c0 dX9_judge_60 ?_
        refine wa_iload_n cx (i := 3) dX9_judge_63 rfl rfl ?_
        obtain ⟨b10, h⟩ := ob_some h
        refine wa_iald cx dX9_judge_64 (kq9_10 cx.2.2.2.2.2.2.1 h_c0) b10 ?_
        refine wa_iadd cx dX9_judge_65 ?_
        replace h := sq_eq h
        generalize (l1 + (S6.1 (c0 + 99) (Int32.toNatClampNeg x3))) = x11 at h ⊢
        refine wa_istore_n cx (i := 1) dX9_judge_66 [(0, .ref (ad g c0)), (1, .int x11), (2, .int l2)] rfl (Nat.le_of_ble_eq_true rfl) rfl (lvs_c rfl (lvs_c rfl (lvs_c rfl (lvs_n)))) ?_
        refine wa_iinc cx dX9_judge_67 (l2 + (1 : Int32)) [(0, .ref (ad g c0)), (1, .int x11), (2, .int (l2 + (1 : Int32)))] rfl rfl (Nat.le_of_ble_eq_true rfl) rfl (lvs_c rfl (lvs_c rfl (lvs_c rfl (lvs_n)))) ?_
        refine wa_goto cx dX9_judge_70 8 (by decide) ?_
        refine wa_sub (lv' := [(0, .ref (ad g c0)), (1, .int x11), (2, .int (l2 + (1 : Int32)))]) (lvs_c rfl (lvs_c rfl (lvs_c rfl (lvs_n)))) ?_
        exact ih x11 (l2 + (1 : Int32)) S6  h
      · rw [if_neg q9] at h
        refine wa_iload_n cx (i := 3) dX9_judge_56 rfl rfl ?_
        exact wa_iret cx h dX9_judge_57
def f_X9_judge (c0 : Nat) (S : St) : Option (Int32 × St) := bd (f_X9_setGame c0 S) fun _ S12 => f_X9_judge_L8 FU c0 (0 : Int32) (0 : Int32) S12
set_option maxHeartbeats 4000000 in
set_option maxRecDepth 100000 in
theorem m_X9_judge (l : Launch) {g : Gl} (hg : GOK g) {c0 : Nat} {S : St} {r : Int32 × St} (h_c0 : kd g c0 = 9) (h : f_X9_judge c0 S = some r) : MW l yX9_judge cX9_judge 4 (some .int) rm_X9_judge g S [.ref (ad g c0)] (QWi g r) := by
  refine startW [(0, .ref (ad g c0))] (by decide +kernel) (Nat.le_of_ble_eq_true rfl) rfl hg (fun p e s m args below meth c cx => ?_)
  have cx : Cx p s m args meth c cX9_judge 4 (some .int) RX9 g (Ap g) := cx
  rw [f_X9_judge] at h
  refine wa_aload_n cx (i := 0) dX9_judge_0 rfl rfl ?_
  obtain ⟨u14, S12, e13, h⟩ := bd_some h
  refine wa_callVv cx (m_X9_setGame l cx.2.2.2.2.2.2.1 h_c0 e13) vl_X9_195 h_c0 (by decide) rfl rfl ⟨_, cell_eq9 (kd_lt h_c0 (by decide)).2⟩ ⟨Nat.le_of_ble_eq_true rfl, Nat.le_of_ble_eq_true rfl⟩ ⟨rfl, rfl⟩ ⟨Nat.zero_le _, Nat.zero_le _⟩ rfl (Nat.le_of_ble_eq_true rfl) dX9_judge_1 rfl ?_
  refine wa_iconst cx dX9_judge_4 (0 : Int32) (by decide) ?_
  refine wa_istore_n cx (i := 1) dX9_judge_5 [(0, .ref (ad g c0)), (1, .int (0 : Int32))] rfl (Nat.le_of_ble_eq_true rfl) rfl (lvs_c rfl (lvs_c rfl (lvs_n))) ?_
  refine wa_iconst cx dX9_judge_6 (0 : Int32) (by decide) ?_
  refine wa_istore_n cx (i := 2) dX9_judge_7 [(0, .ref (ad g c0)), (1, .int (0 : Int32)), (2, .int (0 : Int32))] rfl (Nat.le_of_ble_eq_true rfl) rfl (lvs_c rfl (lvs_c rfl (lvs_c rfl (lvs_n)))) ?_
  refine wa_sub (lv' := [(0, .ref (ad g c0)), (1, .int (0 : Int32)), (2, .int (0 : Int32))]) (lvs_c rfl (lvs_c rfl (lvs_c rfl (lvs_n)))) ?_
  exact w_X9_judge_L8 cx h_c0  FU (0 : Int32) (0 : Int32) S12  h
def rm_X9_made : Room := { frames := 1, cells := 0, slots := 0, locals := 22 }
def f_X9_made_L18 : Nat → Nat → Int32 → Int32 → Int32 → Int32 → St → Option (Int32 × St)
  | 0, _, _, _, _, _, _ => none
  | n + 1, c0, a1, l2, l3, l4, S => if (S.1 (c0 + 25) 0) ≤ l4 then if a1 = 0 then some (l2, S) else ck (kdE (S.2.2 c0 2) = 2) (if l2 < (S.1 (S.2.2 c0 2) 0) then some ((0 : Int32), S) else ck (kdE (S.2.2 c0 2) = 2) (if l3 < (S.1 (S.2.2 c0 2) 1) then some ((0 : Int32), S) else some ((1 : Int32), S))) else ob l4 8 (ob (S.1 ((c0 + 25) + 1) (Int32.toNatClampNeg l4)) 8 (sq (S.1 (c0 + 99) (Int32.toNatClampNeg (S.1 ((c0 + 25) + 1) (Int32.toNatClampNeg l4)))) fun x9 => sq (l2 + x9) fun x10 => if x9 ≤ 0 then f_X9_made_L18 n c0 a1 x10 l3 (l4 + (1 : Int32)) S else f_X9_made_L18 n c0 a1 x10 (l3 + (1 : Int32)) (l4 + (1 : Int32)) S))
set_option maxHeartbeats 4000000 in
set_option maxRecDepth 100000 in
theorem w_X9_made_L18 {p : Program} {l : Launch} {e : Env} {s : State} {m : MethodId} {args : Array Value} {below : List Frame} {meth : Method} {c : Code} {g : Gl} {r : Int32 × St} {c0 : Nat} {a1 : Int32} (cx : Cx p s m args meth c cX9_made 6 (some .int) RX9 g (Ap g)) (h_c0 : kd g c0 = 9) : ∀ n : Nat, ∀ (l2 : Int32) (l3 : Int32) (l4 : Int32) (S : St), f_X9_made_L18 n c0 a1 l2 l3 l4 S = some r → WA p l e rm_X9_made s m args below meth c 0 0 (MQ below (QWi g r) args s 0 0 (Ap g)) 6 g (Ap g) S 18 [(0, .ref (ad g c0)), (1, .int a1), (2, .int l2), (3, .int l3), (4, .int l4)] [] := by
  intro n
  induction n with
  | zero => intro l2 l3 l4 S h; rw [f_X9_made_L18] at h; cases h
  | succ n ih =>
    intro l2 l3 l4 S h
    rw [f_X9_made_L18] at h
    refine wa_iload cx dX9_made_18 rfl ?_
    refine wa_aload_n cx (i := 0) dX9_made_20 rfl rfl ?_
    refine gf_X9_36 cx h_c0 dX9_made_21 ?_
    refine gf_X9_198 cx (kq9_4 cx.2.2.2.2.2.2.1 h_c0) dX9_made_24 ?_
    refine wa_icmp_ge cx dX9_made_27 66 (by decide) (fun q1 => ?_) (fun q1 => ?_)
    · rw [if_pos q1] at h
      refine wa_iload_n cx (i := 1) dX9_made_66 rfl rfl ?_
      refine wa_if_ne cx dX9_made_67 72 (by decide) (fun q2 => ?_) (fun q2 => ?_)
      · rw [if_neg q2] at h
        refine wa_iload_n cx (i := 2) dX9_made_72 rfl rfl ?_
        refine wa_aload_n cx (i := 0) dX9_made_73 rfl rfl ?_
        obtain ⟨b3, h⟩ := ck_some h
        refine gf_X9_26 cx h_c0 dX9_made_74 ?_
        refine gf_X9_209 cx (kd_of cx.2.2.2.2.2.2.1 b3 (by decide)) dX9_made_77 ?_
        refine wa_icmp_lt cx dX9_made_80 98 (by decide) (fun q4 => ?_) (fun q4 => ?_)
        · rw [if_pos q4] at h
          refine wa_iconst cx dX9_made_98 (0 : Int32) (by decide) ?_
          exact wa_iret cx h dX9_made_99
        · rw [if_neg q4] at h
          refine wa_iload_n cx (i := 3) dX9_made_83 rfl rfl ?_
          refine wa_aload_n cx (i := 0) dX9_made_84 rfl rfl ?_
          obtain ⟨b5, h⟩ := ck_some h
          refine gf_X9_26 cx h_c0 dX9_made_85 ?_
          refine gf_X9_212 cx (kd_of cx.2.2.2.2.2.2.1 b5 (by decide)) dX9_made_88 ?_
          refine wa_icmp_lt cx dX9_made_91 98 (by decide) (fun q6 => ?_) (fun q6 => ?_)
          · rw [if_pos q6] at h
            refine wa_iconst cx dX9_made_98 (0 : Int32) (by decide) ?_
            exact wa_iret cx h dX9_made_99
          · rw [if_neg q6] at h
            refine wa_iconst cx dX9_made_94 (1 : Int32) (by decide) ?_
            refine wa_goto cx dX9_made_95 99 (by decide) ?_
            exact wa_iret cx h dX9_made_99
      · rw [if_pos q2] at h
        refine wa_iload_n cx (i := 2) dX9_made_70 rfl rfl ?_
        exact wa_iret cx h dX9_made_71
    · rw [if_neg q1] at h
      refine wa_aload_n cx (i := 0) dX9_made_30 rfl rfl ?_
      refine gf_X9_69 cx h_c0 dX9_made_31 ?_
      refine wa_aload_n cx (i := 0) dX9_made_34 rfl rfl ?_
      refine gf_X9_36 cx h_c0 dX9_made_35 ?_
      refine gf_X9_199 cx (kq9_4 cx.2.2.2.2.2.2.1 h_c0) dX9_made_38 ?_
      refine wa_iload cx dX9_made_41 rfl ?_
      obtain ⟨b7, h⟩ := ob_some h
      refine wa_iald cx dX9_made_43 (kq0_1 cx.2.2.2.2.2.2.1 (kq9_4 cx.2.2.2.2.2.2.1 h_c0)) b7 ?_
      obtain ⟨b8, h⟩ := ob_some h
      refine wa_iald cx dX9_made_44 (kq9_10 cx.2.2.2.2.2.2.1 h_c0) b8 ?_
      replace h := sq_eq h
      generalize (S.1 (c0 + 99) (Int32.toNatClampNeg (S.1 ((c0 + 25) + 1) (Int32.toNatClampNeg l4)))) = x9 at h ⊢
      refine wa_istore cx dX9_made_45 [(0, .ref (ad g c0)), (1, .int a1), (2, .int l2), (3, .int l3), (4, .int l4), (5, .int x9)] (Nat.le_of_ble_eq_true rfl) rfl (lvs_c rfl (lvs_c rfl (lvs_c rfl (lvs_c rfl (lvs_c rfl (lvs_c rfl (lvs_n))))))) ?_
      refine wa_iload_n cx (i := 2) dX9_made_47 rfl rfl ?_
      refine wa_iload cx dX9_made_48 rfl ?_
      refine wa_iadd cx dX9_made_50 ?_
      replace h := sq_eq h
      generalize (l2 + x9) = x10 at h ⊢
      refine wa_istore_n cx (i := 2) dX9_made_51 [(0, .ref (ad g c0)), (1, .int a1), (2, .int x10), (3, .int l3), (4, .int l4), (5, .int x9)] rfl (Nat.le_of_ble_eq_true rfl) rfl (lvs_c rfl (lvs_c rfl (lvs_c rfl (lvs_c rfl (lvs_c rfl (lvs_c rfl (lvs_n))))))) ?_
      refine wa_iload cx dX9_made_52 rfl ?_
      refine wa_if_le cx dX9_made_54 60 (by decide) (fun q11 => ?_) (fun q11 => ?_)
      · rw [if_pos q11] at h
        refine wa_iinc cx dX9_made_60 (l4 + (1 : Int32)) [(0, .ref (ad g c0)), (1, .int a1), (2, .int x10), (3, .int l3), (4, .int (l4 + (1 : Int32)))] rfl rfl (Nat.le_of_ble_eq_true rfl) rfl (lvs_c rfl (lvs_c rfl (lvs_c rfl (lvs_c rfl (lvs_c rfl (lvs_n)))))) ?_
        refine wa_goto cx dX9_made_63 18 (by decide) ?_
        refine wa_sub (lv' := [(0, .ref (ad g c0)), (1, .int a1), (2, .int x10), (3, .int l3), (4, .int (l4 + (1 : Int32)))]) (lvs_c rfl (lvs_c rfl (lvs_c rfl (lvs_c rfl (lvs_c rfl (lvs_n)))))) ?_
        exact ih x10 l3 (l4 + (1 : Int32)) S  h
      · rw [if_neg q11] at h
        refine wa_iinc cx dX9_made_57 (l3 + (1 : Int32)) [(0, .ref (ad g c0)), (1, .int a1), (2, .int x10), (3, .int (l3 + (1 : Int32))), (4, .int l4)] rfl rfl (Nat.le_of_ble_eq_true rfl) rfl (lvs_c rfl (lvs_c rfl (lvs_c rfl (lvs_c rfl (lvs_c rfl (lvs_n)))))) ?_
        refine wa_iinc cx dX9_made_60 (l4 + (1 : Int32)) [(0, .ref (ad g c0)), (1, .int a1), (2, .int x10), (3, .int (l3 + (1 : Int32))), (4, .int (l4 + (1 : Int32)))] rfl rfl (Nat.le_of_ble_eq_true rfl) rfl (lvs_c rfl (lvs_c rfl (lvs_c rfl (lvs_c rfl (lvs_c rfl (lvs_n)))))) ?_
        refine wa_goto cx dX9_made_63 18 (by decide) ?_
        refine wa_sub (lv' := [(0, .ref (ad g c0)), (1, .int a1), (2, .int x10), (3, .int (l3 + (1 : Int32))), (4, .int (l4 + (1 : Int32)))]) (lvs_c rfl (lvs_c rfl (lvs_c rfl (lvs_c rfl (lvs_c rfl (lvs_n)))))) ?_
        exact ih x10 (l3 + (1 : Int32)) (l4 + (1 : Int32)) S  h
def f_X9_made (c0 : Nat) (a1 : Int32) (S : St) : Option (Int32 × St) := bd (f_X9_isWithin a1 (0 : Int32) (1 : Int32) S) fun x12 S13 => if x12 = 0 then some ((-1 : Int32), S13) else f_X9_made_L18 FU c0 a1 (0 : Int32) (0 : Int32) (0 : Int32) S13
set_option maxHeartbeats 4000000 in
set_option maxRecDepth 100000 in
theorem m_X9_made (l : Launch) {g : Gl} (hg : GOK g) {c0 : Nat} {a1 : Int32} {S : St} {r : Int32 × St} (h_c0 : kd g c0 = 9) (h : f_X9_made c0 a1 S = some r) : MW l yX9_made cX9_made 6 (some .int) rm_X9_made g S [.ref (ad g c0), .int a1] (QWi g r) := by
  refine startW [(0, .ref (ad g c0)), (1, .int a1)] (by decide +kernel) (Nat.le_of_ble_eq_true rfl) rfl hg (fun p e s m args below meth c cx => ?_)
  have cx : Cx p s m args meth c cX9_made 6 (some .int) RX9 g (Ap g) := cx
  rw [f_X9_made] at h
  refine wa_iload_n cx (i := 1) dX9_made_0 rfl rfl ?_
  refine wa_iconst cx dX9_made_1 (0 : Int32) (by decide) ?_
  refine wa_iconst cx dX9_made_2 (1 : Int32) (by decide) ?_
  obtain ⟨x12, S13, e14, h⟩ := bd_some h
  refine wa_callSi cx (m_X9_isWithin l cx.2.2.2.2.2.2.1  e14) vl_X9_103 ⟨Nat.le_of_ble_eq_true rfl, Nat.le_of_ble_eq_true rfl⟩ ⟨rfl, rfl⟩ ⟨Nat.zero_le _, Nat.zero_le _⟩ rfl (Nat.le_of_ble_eq_true rfl) dX9_made_3 rfl ?_
  refine wa_if_ne cx dX9_made_6 11 (by decide) (fun q15 => ?_) (fun q15 => ?_)
  · rw [if_neg q15] at h
    refine wa_iconst cx dX9_made_11 (0 : Int32) (by decide) ?_
    refine wa_istore_n cx (i := 2) dX9_made_12 [(0, .ref (ad g c0)), (1, .int a1), (2, .int (0 : Int32))] rfl (Nat.le_of_ble_eq_true rfl) rfl (lvs_c rfl (lvs_c rfl (lvs_c rfl (lvs_n)))) ?_
    refine wa_iconst cx dX9_made_13 (0 : Int32) (by decide) ?_
    refine wa_istore_n cx (i := 3) dX9_made_14 [(0, .ref (ad g c0)), (1, .int a1), (2, .int (0 : Int32)), (3, .int (0 : Int32))] rfl (Nat.le_of_ble_eq_true rfl) rfl (lvs_c rfl (lvs_c rfl (lvs_c rfl (lvs_c rfl (lvs_n))))) ?_
    refine wa_iconst cx dX9_made_15 (0 : Int32) (by decide) ?_
    refine wa_istore cx dX9_made_16 [(0, .ref (ad g c0)), (1, .int a1), (2, .int (0 : Int32)), (3, .int (0 : Int32)), (4, .int (0 : Int32))] (Nat.le_of_ble_eq_true rfl) rfl (lvs_c rfl (lvs_c rfl (lvs_c rfl (lvs_c rfl (lvs_c rfl (lvs_n)))))) ?_
    refine wa_sub (lv' := [(0, .ref (ad g c0)), (1, .int a1), (2, .int (0 : Int32)), (3, .int (0 : Int32)), (4, .int (0 : Int32))]) (lvs_c rfl (lvs_c rfl (lvs_c rfl (lvs_c rfl (lvs_c rfl (lvs_n)))))) ?_
    exact w_X9_made_L18 cx h_c0  FU (0 : Int32) (0 : Int32) (0 : Int32) S13  h
  · rw [if_pos q15] at h
    refine wa_iconst cx dX9_made_9 (-1 : Int32) (by decide) ?_
    exact wa_iret cx h dX9_made_10
def rm_X9_just : Room := { frames := 3, cells := 0, slots := 0, locals := 76 }
def f_X9_just_J30 (c0 : Nat) (a1 : Int32) (S : St) : Option (Int64 × St) := ck (kdE (S.2.2 c0 2) = 2) (bd (f_X4_take (c0 + 85) (S.2.2 c0 2) (c0 + 25) S) fun _ S2 => bd (f_X4_justWays (c0 + 85) S2) fun x5 S6 => if a1 = (-1 : Int32) then some (x5, S6) else if x5 = (0 : Int64) then some ((-4 : Int64), S6) else bd (f_X4_firstGift (c0 + 85) a1 S6) fun x10 S11 => some ((Int32.toInt64 x10), S11))
set_option maxHeartbeats 4000000 in
set_option maxRecDepth 100000 in
theorem w_X9_just_J30 {p : Program} {l : Launch} {e : Env} {s : State} {m : MethodId} {args : Array Value} {below : List Frame} {meth : Method} {c : Code} {g : Gl} {r : Int64 × St} {c0 : Nat} {a1 : Int32} (cx : Cx p s m args meth c cX9_just 4 (some .long) RX9 g (Ap g)) (h_c0 : kd g c0 = 9) : ∀ (S : St), f_X9_just_J30 c0 a1 S = some r → WA p l e rm_X9_just s m args below meth c 0 0 (MQ below (QWl g r) args s 0 0 (Ap g)) 4 g (Ap g) S 30 [(0, .ref (ad g c0)), (1, .int a1)] [] := by
  intro S h
  rw [f_X9_just_J30] at h
  refine wa_aload_n cx (i := 0) dX9_just_30 rfl rfl ?_
  refine gf_X9_63 cx h_c0 dX9_just_31 ?_
  refine wa_aload_n cx (i := 0) dX9_just_34 rfl rfl ?_
  obtain ⟨b1, h⟩ := ck_some h
  refine gf_X9_26 cx h_c0 dX9_just_35 ?_
  refine wa_aload_n cx (i := 0) dX9_just_38 rfl rfl ?_
  refine gf_X9_36 cx h_c0 dX9_just_39 ?_
  obtain ⟨u4, S2, e3, h⟩ := bd_some h
  refine wa_callVv cx (m_X4_take l cx.2.2.2.2.2.2.1 (kq9_9 cx.2.2.2.2.2.2.1 h_c0) (kd_of cx.2.2.2.2.2.2.1 b1 (by decide)) (kq9_4 cx.2.2.2.2.2.2.1 h_c0) e3) vl_X9_215 (kq9_9 cx.2.2.2.2.2.2.1 h_c0) (by decide) rfl rfl ⟨_, cell_eq4 (kd_lt (kq9_9 cx.2.2.2.2.2.2.1 h_c0) (by decide)).2⟩ ⟨Nat.le_of_ble_eq_true rfl, Nat.le_of_ble_eq_true rfl⟩ ⟨rfl, rfl⟩ ⟨Nat.zero_le _, Nat.zero_le _⟩ rfl (Nat.le_of_ble_eq_true rfl) dX9_just_42 rfl ?_
  refine wa_aload_n cx (i := 0) dX9_just_45 rfl rfl ?_
  refine gf_X9_63 cx h_c0 dX9_just_46 ?_
  obtain ⟨x5, S6, e7, h⟩ := bd_some h
  refine wa_callVl cx (m_X4_justWays l cx.2.2.2.2.2.2.1 (kq9_9 cx.2.2.2.2.2.2.1 h_c0) e7) vl_X9_219 (kq9_9 cx.2.2.2.2.2.2.1 h_c0) (by decide) rfl rfl ⟨_, cell_eq4 (kd_lt (kq9_9 cx.2.2.2.2.2.2.1 h_c0) (by decide)).2⟩ ⟨Nat.le_of_ble_eq_true rfl, Nat.le_of_ble_eq_true rfl⟩ ⟨rfl, rfl⟩ ⟨Nat.zero_le _, Nat.zero_le _⟩ rfl (Nat.le_of_ble_eq_true rfl) dX9_just_49 rfl ?_
  refine wa_lstore_n cx (i := 2) dX9_just_52 [(0, .ref (ad g c0)), (1, .int a1), (2, .long x5)] rfl (Nat.le_of_ble_eq_true rfl) rfl (lvs_c rfl (lvs_c rfl (lvs_c rfl (lvs_n)))) ?_
  refine wa_iload_n cx (i := 1) dX9_just_53 rfl rfl ?_
  refine wa_iconst cx dX9_just_54 (-1 : Int32) (by decide) ?_
  refine wa_icmp_ne cx dX9_just_55 60 (by decide) (fun q8 => ?_) (fun q8 => ?_)
  · rw [if_neg q8] at h
    refine wa_lload_n cx (i := 2) dX9_just_60 rfl rfl ?_
    refine wa_lconst cx dX9_just_61 (0 : Int64) (by decide) ?_
    refine wa_lcmp_ne cx dX9_just_62 dX9_just_63 72 (by decide) (fun q9 => ?_) (fun q9 => ?_)
    · rw [if_neg q9] at h
      refine wa_aload_n cx (i := 0) dX9_just_72 rfl rfl ?_
      refine gf_X9_63 cx h_c0 dX9_just_73 ?_
      refine wa_iload_n cx (i := 1) dX9_just_76 rfl rfl ?_
      obtain ⟨x10, S11, e12, h⟩ := bd_some h
      refine wa_callVi cx (m_X4_firstGift l cx.2.2.2.2.2.2.1 (kq9_9 cx.2.2.2.2.2.2.1 h_c0) e12) vl_X9_222 (kq9_9 cx.2.2.2.2.2.2.1 h_c0) (by decide) rfl rfl ⟨_, cell_eq4 (kd_lt (kq9_9 cx.2.2.2.2.2.2.1 h_c0) (by decide)).2⟩ ⟨Nat.le_of_ble_eq_true rfl, Nat.le_of_ble_eq_true rfl⟩ ⟨rfl, rfl⟩ ⟨Nat.zero_le _, Nat.zero_le _⟩ rfl (Nat.le_of_ble_eq_true rfl) dX9_just_77 rfl ?_
      refine wa_i2l cx dX9_just_80 ?_
      exact wa_lret cx h dX9_just_81
    · rw [if_pos q9] at h
      refine wa_ldc2 cx dX9_just_66 (-4 : Int64) kc_X9_180 ?_
      refine wa_goto cx dX9_just_69 81 (by decide) ?_
      exact wa_lret cx h dX9_just_81
  · rw [if_pos q8] at h
    refine wa_lload_n cx (i := 2) dX9_just_58 rfl rfl ?_
    exact wa_lret cx h dX9_just_59
def f_X9_just (c0 : Nat) (a1 : Int32) (S : St) : Option (Int64 × St) := if a1 = (-1 : Int32) then f_X9_just_J30 c0 a1 S else bd (f_X9_isGiver c0 a1 S) fun x14 S15 => if x14 = 0 then some ((-1 : Int64), S15) else bd (f_X0_placeOf (c0 + 25) a1 S15) fun x18 S19 => if x18 = (-4 : Int32) then some ((-1 : Int64), S19) else f_X9_just_J30 c0 a1 S19
set_option maxHeartbeats 4000000 in
set_option maxRecDepth 100000 in
theorem m_X9_just (l : Launch) {g : Gl} (hg : GOK g) {c0 : Nat} {a1 : Int32} {S : St} {r : Int64 × St} (h_c0 : kd g c0 = 9) (h : f_X9_just c0 a1 S = some r) : MW l yX9_just cX9_just 4 (some .long) rm_X9_just g S [.ref (ad g c0), .int a1] (QWl g r) := by
  refine startW [(0, .ref (ad g c0)), (1, .int a1)] (by decide +kernel) (Nat.le_of_ble_eq_true rfl) rfl hg (fun p e s m args below meth c cx => ?_)
  have cx : Cx p s m args meth c cX9_just 4 (some .long) RX9 g (Ap g) := cx
  rw [f_X9_just] at h
  refine wa_iload_n cx (i := 1) dX9_just_0 rfl rfl ?_
  refine wa_iconst cx dX9_just_1 (-1 : Int32) (by decide) ?_
  refine wa_icmp_eq cx dX9_just_2 30 (by decide) (fun q13 => ?_) (fun q13 => ?_)
  · rw [if_pos q13] at h
    refine wa_sub (lv' := [(0, .ref (ad g c0)), (1, .int a1)]) (lvs_c rfl (lvs_c rfl (lvs_n))) ?_
    exact w_X9_just_J30 cx h_c0   S  h
  · rw [if_neg q13] at h
    refine wa_aload_n cx (i := 0) dX9_just_5 rfl rfl ?_
    refine wa_iload_n cx (i := 1) dX9_just_6 rfl rfl ?_
    obtain ⟨x14, S15, e16, h⟩ := bd_some h
    refine wa_callVi cx (m_X9_isGiver l cx.2.2.2.2.2.2.1 h_c0 e16) vl_X9_141 h_c0 (by decide) rfl rfl ⟨_, cell_eq9 (kd_lt h_c0 (by decide)).2⟩ ⟨Nat.le_of_ble_eq_true rfl, Nat.le_of_ble_eq_true rfl⟩ ⟨rfl, rfl⟩ ⟨Nat.zero_le _, Nat.zero_le _⟩ rfl (Nat.le_of_ble_eq_true rfl) dX9_just_7 rfl ?_
    refine wa_if_eq cx dX9_just_10 26 (by decide) (fun q17 => ?_) (fun q17 => ?_)
    · rw [if_pos q17] at h
      refine wa_ldc2 cx dX9_just_26 (-1 : Int64) kc_X9_158 ?_
      exact wa_lret cx h dX9_just_29
    · rw [if_neg q17] at h
      refine wa_aload_n cx (i := 0) dX9_just_13 rfl rfl ?_
      refine gf_X9_36 cx h_c0 dX9_just_14 ?_
      refine wa_iload_n cx (i := 1) dX9_just_17 rfl rfl ?_
      obtain ⟨x18, S19, e20, h⟩ := bd_some h
      refine wa_callVi cx (m_X0_placeOf l cx.2.2.2.2.2.2.1 (kq9_4 cx.2.2.2.2.2.2.1 h_c0) e20) vl_X9_145 (kq9_4 cx.2.2.2.2.2.2.1 h_c0) (by decide) rfl rfl ⟨_, cell_eq0 (kd_lt (kq9_4 cx.2.2.2.2.2.2.1 h_c0) (by decide)).2⟩ ⟨Nat.le_of_ble_eq_true rfl, Nat.le_of_ble_eq_true rfl⟩ ⟨rfl, rfl⟩ ⟨Nat.zero_le _, Nat.zero_le _⟩ rfl (Nat.le_of_ble_eq_true rfl) dX9_just_18 rfl ?_
      refine wa_bipush cx dX9_just_21 (-4 : Int32) (by decide) ?_
      refine wa_icmp_ne cx dX9_just_23 30 (by decide) (fun q21 => ?_) (fun q21 => ?_)
      · rw [if_neg q21] at h
        refine wa_sub (lv' := [(0, .ref (ad g c0)), (1, .int a1)]) (lvs_c rfl (lvs_c rfl (lvs_n))) ?_
        exact w_X9_just_J30 cx h_c0   S19  h
      · rw [if_pos q21] at h
        refine wa_ldc2 cx dX9_just_26 (-1 : Int64) kc_X9_158 ?_
        exact wa_lret cx h dX9_just_29
def rm_X9_fails : Room := { frames := 4, cells := 0, slots := 0, locals := 95 }
def f_X9_fails (c0 : Nat) (S : St) : Option (Int64 × St) := if (S.1 c0 15) = 0 then ck (kdE (S.2.2 c0 2) = 2) (bd (f_X4_take (c0 + 85) (S.2.2 c0 2) (c0 + 25) S) fun _ S3 => bd (f_X4_failingWays (c0 + 85) S3) fun x6 S7 => sq (pJ S7 c0 18 x6) fun S9 => sq (pI S9 c0 15 (1 : Int32)) fun S10 => some ((S10.2.1 c0 18), S10)) else some ((S.2.1 c0 18), S)
set_option maxHeartbeats 4000000 in
set_option maxRecDepth 100000 in
theorem m_X9_fails (l : Launch) {g : Gl} (hg : GOK g) {c0 : Nat} {S : St} {r : Int64 × St} (h_c0 : kd g c0 = 9) (h : f_X9_fails c0 S = some r) : MW l yX9_fails cX9_fails 1 (some .long) rm_X9_fails g S [.ref (ad g c0)] (QWl g r) := by
  refine startW [(0, .ref (ad g c0))] (by decide +kernel) (Nat.le_of_ble_eq_true rfl) rfl hg (fun p e s m args below meth c cx => ?_)
  have cx : Cx p s m args meth c cX9_fails 1 (some .long) RX9 g (Ap g) := cx
  rw [f_X9_fails] at h
  refine wa_aload_n cx (i := 0) dX9_fails_0 rfl rfl ?_
  refine gf_X9_131 cx h_c0 dX9_fails_1 ?_
  refine wa_if_ne cx dX9_fails_4 38 (by decide) (fun q1 => ?_) (fun q1 => ?_)
  · rw [if_neg q1] at h
    refine wa_aload_n cx (i := 0) dX9_fails_38 rfl rfl ?_
    refine gf_X9_228 cx h_c0 dX9_fails_39 ?_
    exact wa_lret cx h dX9_fails_42
  · rw [if_pos q1] at h
    refine wa_aload_n cx (i := 0) dX9_fails_7 rfl rfl ?_
    refine gf_X9_63 cx h_c0 dX9_fails_8 ?_
    refine wa_aload_n cx (i := 0) dX9_fails_11 rfl rfl ?_
    obtain ⟨b2, h⟩ := ck_some h
    refine gf_X9_26 cx h_c0 dX9_fails_12 ?_
    refine wa_aload_n cx (i := 0) dX9_fails_15 rfl rfl ?_
    refine gf_X9_36 cx h_c0 dX9_fails_16 ?_
    obtain ⟨u5, S3, e4, h⟩ := bd_some h
    refine wa_callVv cx (m_X4_take l cx.2.2.2.2.2.2.1 (kq9_9 cx.2.2.2.2.2.2.1 h_c0) (kd_of cx.2.2.2.2.2.2.1 b2 (by decide)) (kq9_4 cx.2.2.2.2.2.2.1 h_c0) e4) vl_X9_215 (kq9_9 cx.2.2.2.2.2.2.1 h_c0) (by decide) rfl rfl ⟨_, cell_eq4 (kd_lt (kq9_9 cx.2.2.2.2.2.2.1 h_c0) (by decide)).2⟩ ⟨Nat.le_of_ble_eq_true rfl, Nat.le_of_ble_eq_true rfl⟩ ⟨rfl, rfl⟩ ⟨Nat.zero_le _, Nat.zero_le _⟩ rfl (Nat.le_of_ble_eq_true rfl) dX9_fails_19 rfl ?_
    refine wa_aload_n cx (i := 0) dX9_fails_22 rfl rfl ?_
    refine wa_aload_n cx (i := 0) dX9_fails_23 rfl rfl ?_
    refine gf_X9_63 cx h_c0 dX9_fails_24 ?_
    obtain ⟨x6, S7, e8, h⟩ := bd_some h
    refine wa_callVl cx (m_X4_failingWays l cx.2.2.2.2.2.2.1 (kq9_9 cx.2.2.2.2.2.2.1 h_c0) e8) vl_X9_225 (kq9_9 cx.2.2.2.2.2.2.1 h_c0) (by decide) rfl rfl ⟨_, cell_eq4 (kd_lt (kq9_9 cx.2.2.2.2.2.2.1 h_c0) (by decide)).2⟩ ⟨Nat.le_of_ble_eq_true rfl, Nat.le_of_ble_eq_true rfl⟩ ⟨rfl, rfl⟩ ⟨Nat.zero_le _, Nat.zero_le _⟩ rfl (Nat.le_of_ble_eq_true rfl) dX9_fails_27 rfl ?_
    refine pf_X9_228 cx h_c0 dX9_fails_30 ?_
    replace h := sq_eq h
    generalize (pJ S7 c0 18 x6) = S9 at h ⊢
    refine wa_aload_n cx (i := 0) dX9_fails_33 rfl rfl ?_
    refine wa_iconst cx dX9_fails_34 (1 : Int32) (by decide) ?_
    refine pf_X9_131 cx (by decide) h_c0 dX9_fails_35 ?_
    replace h := sq_eq h
    generalize (pI S9 c0 15 (1 : Int32)) = S10 at h ⊢
    refine wa_aload_n cx (i := 0) dX9_fails_38 rfl rfl ?_
    refine gf_X9_228 cx h_c0 dX9_fails_39 ?_
    exact wa_lret cx h dX9_fails_42
def rm_X9_findBestBar : Room := { frames := 5, cells := 0, slots := 0, locals := 121 }
def f_X9_findBestBar_J62 (c0 : Nat) (kb2 : Int32 → St → Option (Unit × St)) (l1 : Int32) (l2 : Int64) (S : St) : Option (Unit × St) := sq (pI S c0 16 l1) fun S1 => sq (pJ S1 c0 17 l2) fun S2 => kb2 (l1 + (1 : Int32)) S2
set_option maxHeartbeats 4000000 in
set_option maxRecDepth 100000 in
theorem w_X9_findBestBar_J62 {p : Program} {l : Launch} {e : Env} {s : State} {m : MethodId} {args : Array Value} {below : List Frame} {meth : Method} {c : Code} {g : Gl} {r : Unit × St} {c0 : Nat} {kb2 : Int32 → St → Option (Unit × St)} (cx : Cx p s m args meth c cX9_findBestBar 4 none RX9 g (Ap g)) (h_c0 : kd g c0 = 9) (hkb2 : ∀ (l1 : Int32) (S : St), kb2 l1 S = some r → WA p l e rm_X9_findBestBar s m args below meth c 0 0 (MQ below (QWv g r) args s 0 0 (Ap g)) 4 g (Ap g) S 2 [(0, .ref (ad g c0)), (1, .int l1)] []) : ∀ (l1 : Int32) (l2 : Int64) (S : St), f_X9_findBestBar_J62 c0 kb2 l1 l2 S = some r → WA p l e rm_X9_findBestBar s m args below meth c 0 0 (MQ below (QWv g r) args s 0 0 (Ap g)) 4 g (Ap g) S 62 [(0, .ref (ad g c0)), (1, .int l1), (2, .long l2)] [] := by
  intro l1 l2 S h
  rw [f_X9_findBestBar_J62] at h
  refine wa_aload_n cx (i := 0) dX9_findBestBar_62 rfl rfl ?_
  refine wa_iload_n cx (i := 1) dX9_findBestBar_63 rfl rfl ?_
  refine pf_X9_237 cx h_c0 dX9_findBestBar_64 ?_
  replace h := sq_eq h
  generalize (pI S c0 16 l1) = S1 at h ⊢
  refine wa_aload_n cx (i := 0) dX9_findBestBar_67 rfl rfl ?_
  refine wa_lload_n cx (i := 2) dX9_findBestBar_68 rfl rfl ?_
  refine pf_X9_240 cx h_c0 dX9_findBestBar_69 ?_
  replace h := sq_eq h
  generalize (pJ S1 c0 17 l2) = S2 at h ⊢
  refine wa_iinc cx dX9_findBestBar_72 (l1 + (1 : Int32)) [(0, .ref (ad g c0)), (1, .int (l1 + (1 : Int32)))] rfl rfl (Nat.le_of_ble_eq_true rfl) rfl (lvs_c rfl (lvs_c rfl (lvs_n))) ?_
  refine wa_goto cx dX9_findBestBar_75 2 (by decide) ?_
  refine wa_sub (lv' := [(0, .ref (ad g c0)), (1, .int (l1 + (1 : Int32)))]) (lvs_c rfl (lvs_c rfl (lvs_n))) ?_
  exact hkb2 (l1 + (1 : Int32)) S2  h
def f_X9_findBestBar_L2 : Nat → Nat → Int32 → St → Option (Unit × St)
  | 0, _, _, _ => none
  | n + 1, c0, l1, S => if (60 : Int32) < l1 then some ((), S) else bd (f_X9_setGame c0 S) fun _ S4 => sq (pI S4 (c0 + 47) 3 l1) fun S7 => bd (f_X8_goThrough (c0 + 79) (c0 + 47) (0 : Int32) S7) fun _ S8 => sq ((S8.2.1 (c0 + 79) 1) + (S8.2.1 (c0 + 79) 2)) fun x11 => if l1 = (1 : Int32) then f_X9_findBestBar_J62 c0 (fun l1 S => f_X9_findBestBar_L2 n c0 l1 S) l1 x11 S8 else if (S8.2.1 c0 17) ≤ x11 then f_X9_findBestBar_L2 n c0 (l1 + (1 : Int32)) S8 else f_X9_findBestBar_J62 c0 (fun l1 S => f_X9_findBestBar_L2 n c0 l1 S) l1 x11 S8
set_option maxHeartbeats 4000000 in
set_option maxRecDepth 100000 in
theorem w_X9_findBestBar_L2 {p : Program} {l : Launch} {e : Env} {s : State} {m : MethodId} {args : Array Value} {below : List Frame} {meth : Method} {c : Code} {g : Gl} {r : Unit × St} {c0 : Nat} (cx : Cx p s m args meth c cX9_findBestBar 4 none RX9 g (Ap g)) (h_c0 : kd g c0 = 9) : ∀ n : Nat, ∀ (l1 : Int32) (S : St), f_X9_findBestBar_L2 n c0 l1 S = some r → WA p l e rm_X9_findBestBar s m args below meth c 0 0 (MQ below (QWv g r) args s 0 0 (Ap g)) 4 g (Ap g) S 2 [(0, .ref (ad g c0)), (1, .int l1)] [] := by
  intro n
  induction n with
  | zero => intro l1 S h; rw [f_X9_findBestBar_L2] at h; cases h
  | succ n ih =>
    intro l1 S h
    rw [f_X9_findBestBar_L2] at h
    refine wa_iload_n cx (i := 1) dX9_findBestBar_2 rfl rfl ?_
    refine wa_bipush cx dX9_findBestBar_3 (60 : Int32) (by decide) ?_
    refine wa_icmp_gt cx dX9_findBestBar_5 78 (by decide) (fun q3 => ?_) (fun q3 => ?_)
    · rw [if_pos q3] at h
      exact wa_vret cx h dX9_findBestBar_78
    · rw [if_neg q3] at h
      refine wa_aload_n cx (i := 0) dX9_findBestBar_8 rfl rfl ?_
      obtain ⟨u6, S4, e5, h⟩ := bd_some h
      refine wa_callVv cx (m_X9_setGame l cx.2.2.2.2.2.2.1 h_c0 e5) vl_X9_195 h_c0 (by decide) rfl rfl ⟨_, cell_eq9 (kd_lt h_c0 (by decide)).2⟩ ⟨Nat.le_of_ble_eq_true rfl, Nat.le_of_ble_eq_true rfl⟩ ⟨rfl, rfl⟩ ⟨Nat.zero_le _, Nat.zero_le _⟩ rfl (Nat.le_of_ble_eq_true rfl) dX9_findBestBar_9 rfl ?_
      refine wa_aload_n cx (i := 0) dX9_findBestBar_12 rfl rfl ?_
      refine gf_X9_46 cx h_c0 dX9_findBestBar_13 ?_
      refine wa_iload_n cx (i := 1) dX9_findBestBar_16 rfl rfl ?_
      refine pf_X9_308 cx (kq9_6 cx.2.2.2.2.2.2.1 h_c0) dX9_findBestBar_17 ?_
      replace h := sq_eq h
      generalize (pI S4 (c0 + 47) 3 l1) = S7 at h ⊢
      refine wa_aload_n cx (i := 0) dX9_findBestBar_20 rfl rfl ?_
      refine gf_X9_57 cx h_c0 dX9_findBestBar_21 ?_
      refine wa_aload_n cx (i := 0) dX9_findBestBar_24 rfl rfl ?_
      refine gf_X9_46 cx h_c0 dX9_findBestBar_25 ?_
      refine wa_iconst cx dX9_findBestBar_28 (0 : Int32) (by decide) ?_
      obtain ⟨u10, S8, e9, h⟩ := bd_some h
      refine wa_callVv cx (m_X8_goThrough l cx.2.2.2.2.2.2.1 (kq9_8 cx.2.2.2.2.2.2.1 h_c0) (kq9_6 cx.2.2.2.2.2.2.1 h_c0) e9) vl_X9_247 (kq9_8 cx.2.2.2.2.2.2.1 h_c0) (by decide) rfl rfl ⟨_, cell_eq8 (kd_lt (kq9_8 cx.2.2.2.2.2.2.1 h_c0) (by decide)).2⟩ ⟨Nat.le_of_ble_eq_true rfl, Nat.le_of_ble_eq_true rfl⟩ ⟨rfl, rfl⟩ ⟨Nat.zero_le _, Nat.zero_le _⟩ rfl (Nat.le_of_ble_eq_true rfl) dX9_findBestBar_29 rfl ?_
      refine wa_aload_n cx (i := 0) dX9_findBestBar_32 rfl rfl ?_
      refine gf_X9_57 cx h_c0 dX9_findBestBar_33 ?_
      refine gf_X9_189 cx (kq9_8 cx.2.2.2.2.2.2.1 h_c0) dX9_findBestBar_36 ?_
      refine wa_aload_n cx (i := 0) dX9_findBestBar_39 rfl rfl ?_
      refine gf_X9_57 cx h_c0 dX9_findBestBar_40 ?_
      refine gf_X9_192 cx (kq9_8 cx.2.2.2.2.2.2.1 h_c0) dX9_findBestBar_43 ?_
      refine wa_ladd cx dX9_findBestBar_46 ?_
      replace h := sq_eq h
      generalize ((S8.2.1 (c0 + 79) 1) + (S8.2.1 (c0 + 79) 2)) = x11 at h ⊢
      refine wa_lstore_n cx (i := 2) dX9_findBestBar_47 [(0, .ref (ad g c0)), (1, .int l1), (2, .long x11)] rfl (Nat.le_of_ble_eq_true rfl) rfl (lvs_c rfl (lvs_c rfl (lvs_c rfl (lvs_n)))) ?_
      refine wa_iload_n cx (i := 1) dX9_findBestBar_48 rfl rfl ?_
      refine wa_iconst cx dX9_findBestBar_49 (1 : Int32) (by decide) ?_
      refine wa_icmp_eq cx dX9_findBestBar_50 62 (by decide) (fun q12 => ?_) (fun q12 => ?_)
      · rw [if_pos q12] at h
        refine wa_sub (lv' := [(0, .ref (ad g c0)), (1, .int l1), (2, .long x11)]) (lvs_c rfl (lvs_c rfl (lvs_c rfl (lvs_n)))) ?_
        exact w_X9_findBestBar_J62 cx h_c0 ih  l1 x11 S8  h
      · rw [if_neg q12] at h
        refine wa_lload_n cx (i := 2) dX9_findBestBar_53 rfl rfl ?_
        refine wa_aload_n cx (i := 0) dX9_findBestBar_54 rfl rfl ?_
        refine gf_X9_240 cx h_c0 dX9_findBestBar_55 ?_
        refine wa_lcmp_ge cx dX9_findBestBar_58 dX9_findBestBar_59 72 (by decide) (fun q13 => ?_) (fun q13 => ?_)
        · rw [if_pos q13] at h
          refine wa_iinc cx dX9_findBestBar_72 (l1 + (1 : Int32)) [(0, .ref (ad g c0)), (1, .int (l1 + (1 : Int32)))] rfl rfl (Nat.le_of_ble_eq_true rfl) rfl (lvs_c rfl (lvs_c rfl (lvs_n))) ?_
          refine wa_goto cx dX9_findBestBar_75 2 (by decide) ?_
          refine wa_sub (lv' := [(0, .ref (ad g c0)), (1, .int (l1 + (1 : Int32)))]) (lvs_c rfl (lvs_c rfl (lvs_n))) ?_
          exact ih (l1 + (1 : Int32)) S8  h
        · rw [if_neg q13] at h
          refine wa_sub (lv' := [(0, .ref (ad g c0)), (1, .int l1), (2, .long x11)]) (lvs_c rfl (lvs_c rfl (lvs_c rfl (lvs_n)))) ?_
          exact w_X9_findBestBar_J62 cx h_c0 ih  l1 x11 S8  h
def f_X9_findBestBar (c0 : Nat) (S : St) : Option (Unit × St) := f_X9_findBestBar_L2 FU c0 (1 : Int32) S
set_option maxHeartbeats 4000000 in
set_option maxRecDepth 100000 in
theorem m_X9_findBestBar (l : Launch) {g : Gl} (hg : GOK g) {c0 : Nat} {S : St} {r : Unit × St} (h_c0 : kd g c0 = 9) (h : f_X9_findBestBar c0 S = some r) : MW l yX9_findBestBar cX9_findBestBar 4 none rm_X9_findBestBar g S [.ref (ad g c0)] (QWv g r) := by
  refine startW [(0, .ref (ad g c0))] (by decide +kernel) (Nat.le_of_ble_eq_true rfl) rfl hg (fun p e s m args below meth c cx => ?_)
  have cx : Cx p s m args meth c cX9_findBestBar 4 none RX9 g (Ap g) := cx
  rw [f_X9_findBestBar] at h
  refine wa_iconst cx dX9_findBestBar_0 (1 : Int32) (by decide) ?_
  refine wa_istore_n cx (i := 1) dX9_findBestBar_1 [(0, .ref (ad g c0)), (1, .int (1 : Int32))] rfl (Nat.le_of_ble_eq_true rfl) rfl (lvs_c rfl (lvs_c rfl (lvs_n))) ?_
  refine wa_sub (lv' := [(0, .ref (ad g c0)), (1, .int (1 : Int32))]) (lvs_c rfl (lvs_c rfl (lvs_n))) ?_
  exact w_X9_findBestBar_L2 cx h_c0  FU (1 : Int32) S  h
def rm_X9_bestBar : Room := { frames := 6, cells := 0, slots := 0, locals := 144 }
def f_X9_bestBar_J29 (c0 : Nat) (a1 : Int32) (S : St) : Option (Int64 × St) := if a1 = 0 then some ((Int32.toInt64 (S.1 c0 16)), S) else some ((S.2.1 c0 17), S)
set_option maxHeartbeats 4000000 in
set_option maxRecDepth 100000 in
theorem w_X9_bestBar_J29 {p : Program} {l : Launch} {e : Env} {s : State} {m : MethodId} {args : Array Value} {below : List Frame} {meth : Method} {c : Code} {g : Gl} {r : Int64 × St} {c0 : Nat} {a1 : Int32} (cx : Cx p s m args meth c cX9_bestBar 2 (some .long) RX9 g (Ap g)) (h_c0 : kd g c0 = 9) : ∀ (S : St), f_X9_bestBar_J29 c0 a1 S = some r → WA p l e rm_X9_bestBar s m args below meth c 0 0 (MQ below (QWl g r) args s 0 0 (Ap g)) 2 g (Ap g) S 29 [(0, .ref (ad g c0)), (1, .int a1)] [] := by
  intro S h
  rw [f_X9_bestBar_J29] at h
  refine wa_iload_n cx (i := 1) dX9_bestBar_29 rfl rfl ?_
  refine wa_if_ne cx dX9_bestBar_30 41 (by decide) (fun q1 => ?_) (fun q1 => ?_)
  · rw [if_neg q1] at h
    refine wa_aload_n cx (i := 0) dX9_bestBar_41 rfl rfl ?_
    refine gf_X9_240 cx h_c0 dX9_bestBar_42 ?_
    exact wa_lret cx h dX9_bestBar_45
  · rw [if_pos q1] at h
    refine wa_aload_n cx (i := 0) dX9_bestBar_33 rfl rfl ?_
    refine gf_X9_237 cx h_c0 dX9_bestBar_34 ?_
    refine wa_i2l cx dX9_bestBar_37 ?_
    refine wa_goto cx dX9_bestBar_38 45 (by decide) ?_
    exact wa_lret cx h dX9_bestBar_45
def f_X9_bestBar (c0 : Nat) (a1 : Int32) (S : St) : Option (Int64 × St) := bd (f_X9_isWithin a1 (0 : Int32) (1 : Int32) S) fun x2 S3 => if x2 = 0 then some ((-1 : Int64), S3) else if (S3.1 c0 14) = 0 then bd (f_X9_findBestBar c0 S3) fun _ S7 => sq (pI S7 c0 14 (1 : Int32)) fun S10 => f_X9_bestBar_J29 c0 a1 S10 else f_X9_bestBar_J29 c0 a1 S3
set_option maxHeartbeats 4000000 in
set_option maxRecDepth 100000 in
theorem m_X9_bestBar (l : Launch) {g : Gl} (hg : GOK g) {c0 : Nat} {a1 : Int32} {S : St} {r : Int64 × St} (h_c0 : kd g c0 = 9) (h : f_X9_bestBar c0 a1 S = some r) : MW l yX9_bestBar cX9_bestBar 2 (some .long) rm_X9_bestBar g S [.ref (ad g c0), .int a1] (QWl g r) := by
  refine startW [(0, .ref (ad g c0)), (1, .int a1)] (by decide +kernel) (Nat.le_of_ble_eq_true rfl) rfl hg (fun p e s m args below meth c cx => ?_)
  have cx : Cx p s m args meth c cX9_bestBar 2 (some .long) RX9 g (Ap g) := cx
  rw [f_X9_bestBar] at h
  refine wa_iload_n cx (i := 1) dX9_bestBar_0 rfl rfl ?_
  refine wa_iconst cx dX9_bestBar_1 (0 : Int32) (by decide) ?_
  refine wa_iconst cx dX9_bestBar_2 (1 : Int32) (by decide) ?_
  obtain ⟨x2, S3, e4, h⟩ := bd_some h
  refine wa_callSi cx (m_X9_isWithin l cx.2.2.2.2.2.2.1  e4) vl_X9_103 ⟨Nat.le_of_ble_eq_true rfl, Nat.le_of_ble_eq_true rfl⟩ ⟨rfl, rfl⟩ ⟨Nat.zero_le _, Nat.zero_le _⟩ rfl (Nat.le_of_ble_eq_true rfl) dX9_bestBar_3 rfl ?_
  refine wa_if_ne cx dX9_bestBar_6 13 (by decide) (fun q5 => ?_) (fun q5 => ?_)
  · rw [if_neg q5] at h
    refine wa_aload_n cx (i := 0) dX9_bestBar_13 rfl rfl ?_
    refine gf_X9_231 cx h_c0 dX9_bestBar_14 ?_
    refine wa_if_ne cx dX9_bestBar_17 29 (by decide) (fun q6 => ?_) (fun q6 => ?_)
    · rw [if_neg q6] at h
      refine wa_sub (lv' := [(0, .ref (ad g c0)), (1, .int a1)]) (lvs_c rfl (lvs_c rfl (lvs_n))) ?_
      exact w_X9_bestBar_J29 cx h_c0   S3  h
    · rw [if_pos q6] at h
      refine wa_aload_n cx (i := 0) dX9_bestBar_20 rfl rfl ?_
      obtain ⟨u9, S7, e8, h⟩ := bd_some h
      refine wa_callVv cx (m_X9_findBestBar l cx.2.2.2.2.2.2.1 h_c0 e8) vl_X9_234 h_c0 (by decide) rfl rfl ⟨_, cell_eq9 (kd_lt h_c0 (by decide)).2⟩ ⟨Nat.le_of_ble_eq_true rfl, Nat.le_of_ble_eq_true rfl⟩ ⟨rfl, rfl⟩ ⟨Nat.zero_le _, Nat.zero_le _⟩ rfl (Nat.le_of_ble_eq_true rfl) dX9_bestBar_21 rfl ?_
      refine wa_aload_n cx (i := 0) dX9_bestBar_24 rfl rfl ?_
      refine wa_iconst cx dX9_bestBar_25 (1 : Int32) (by decide) ?_
      refine pf_X9_231 cx (by decide) h_c0 dX9_bestBar_26 ?_
      replace h := sq_eq h
      generalize (pI S7 c0 14 (1 : Int32)) = S10 at h ⊢
      refine wa_sub (lv' := [(0, .ref (ad g c0)), (1, .int a1)]) (lvs_c rfl (lvs_c rfl (lvs_n))) ?_
      exact w_X9_bestBar_J29 cx h_c0   S10  h
  · rw [if_pos q5] at h
    refine wa_ldc2 cx dX9_bestBar_9 (-1 : Int64) kc_X9_158 ?_
    exact wa_lret cx h dX9_bestBar_12
