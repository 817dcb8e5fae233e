def rm_X10_layLays : Room := { frames := 3, cells := 0, slots := 0, locals := 64 }
def f_X10_layLays_J126 (c0 : Nat) (kb5 : Int32 → St → Option (Unit × St)) (kb11 : Int32 → Int32 → St → Option (Unit × St)) (kb19 : Int32 → Int32 → Int32 → St → Option (Unit × St)) (l1 : Int32) (l2 : Int32) (l3 : Int32) (l4 : Int64) (S : St) : Option (Unit × St) := bd (f_X10_spot l1 l2 l3 S) fun x1 S2 => ob x1 8100 (sq (pJ S2 (c0 + 23) (Int32.toNatClampNeg x1) l4) fun S5 => kb19 l1 l2 (l3 + (1 : Int32)) S5)
set_option maxHeartbeats 4000000 in
set_option maxRecDepth 100000 in
theorem w_X10_layLays_J126 {p : Program} {l : Launch} {e : Env} {s : State} {m : MethodId} {args : Array Value} {below : List Frame} {meth : Method} {c : Code} {g : Gl} {r : Unit × St} {c0 : Nat} {kb5 : Int32 → St → Option (Unit × St)} {kb11 : Int32 → Int32 → St → Option (Unit × St)} {kb19 : Int32 → Int32 → Int32 → St → Option (Unit × St)} (cx : Cx p s m args meth c cX10_layLays 8 none RX10 g (Ap g)) (h_c0 : kd g c0 = 10) (hkb5 : ∀ (l1 : Int32) (S : St), kb5 l1 S = some r → WA p l e rm_X10_layLays s m args below meth c 0 0 (MQ below (QWv g r) args s 0 0 (Ap g)) 8 g (Ap g) S 5 [(0, .ref (ad g c0)), (1, .int l1)] []) (hkb11 : ∀ (l1 : Int32) (l2 : Int32) (S : St), kb11 l1 l2 S = some r → WA p l e rm_X10_layLays s m args below meth c 0 0 (MQ below (QWv g r) args s 0 0 (Ap g)) 8 g (Ap g) S 11 [(0, .ref (ad g c0)), (1, .int l1), (2, .int l2)] []) (hkb19 : ∀ (l1 : Int32) (l2 : Int32) (l3 : Int32) (S : St), kb19 l1 l2 l3 S = some r → WA p l e rm_X10_layLays s m args below meth c 0 0 (MQ below (QWv g r) args s 0 0 (Ap g)) 8 g (Ap g) S 19 [(0, .ref (ad g c0)), (1, .int l1), (2, .int l2), (3, .int l3)] []) : ∀ (l1 : Int32) (l2 : Int32) (l3 : Int32) (l4 : Int64) (S : St), f_X10_layLays_J126 c0 kb5 kb11 kb19 l1 l2 l3 l4 S = some r → WA p l e rm_X10_layLays s m args below meth c 0 0 (MQ below (QWv g r) args s 0 0 (Ap g)) 8 g (Ap g) S 126 [(0, .ref (ad g c0)), (1, .int l1), (2, .int l2), (3, .int l3), (4, .long l4)] [] := by
  intro l1 l2 l3 l4 S h
  rw [f_X10_layLays_J126] at h
  refine wa_aload_n cx (i := 0) dX10_layLays_126 rfl rfl ?_
  refine gf_X10_76 cx h_c0 dX10_layLays_127 ?_
  refine wa_iload_n cx (i := 1) dX10_layLays_130 rfl rfl ?_
  refine wa_iload_n cx (i := 2) dX10_layLays_131 rfl rfl ?_
  refine wa_iload_n cx (i := 3) dX10_layLays_132 rfl rfl ?_
  obtain ⟨x1, S2, e3, h⟩ := bd_some h
  refine wa_callSi cx (m_X10_spot l cx.2.2.2.2.2.2.1  e3) vl_X10_262 ⟨Nat.le_of_ble_eq_true rfl, Nat.le_of_ble_eq_true rfl⟩ ⟨rfl, rfl⟩ ⟨Nat.zero_le _, Nat.zero_le _⟩ rfl (Nat.le_of_ble_eq_true rfl) dX10_layLays_133 rfl ?_
  refine wa_lload cx dX10_layLays_136 rfl ?_
  obtain ⟨b4, h⟩ := ob_some h
  refine wa_last cx dX10_layLays_138 (kq10_36 cx.2.2.2.2.2.2.1 h_c0) b4 ?_
  replace h := sq_eq h
  generalize (pJ S2 (c0 + 23) (Int32.toNatClampNeg x1) l4) = S5 at h ⊢
  refine wa_iinc cx dX10_layLays_139 (l3 + (1 : Int32)) [(0, .ref (ad g c0)), (1, .int l1), (2, .int l2), (3, .int (l3 + (1 : Int32)))] rfl rfl (Nat.le_of_ble_eq_true rfl) rfl (lvs_c rfl (lvs_c rfl (lvs_c rfl (lvs_c rfl (lvs_n))))) ?_
  refine wa_goto cx dX10_layLays_142 19 (by decide) ?_
  refine wa_sub (lv' := [(0, .ref (ad g c0)), (1, .int l1), (2, .int l2), (3, .int (l3 + (1 : Int32)))]) (lvs_c rfl (lvs_c rfl (lvs_c rfl (lvs_c rfl (lvs_n))))) ?_
  exact hkb19 l1 l2 (l3 + (1 : Int32)) S5  h
def f_X10_layLays_J86 (c0 : Nat) (kb5 : Int32 → St → Option (Unit × St)) (kb11 : Int32 → Int32 → St → Option (Unit × St)) (kb19 : Int32 → Int32 → Int32 → St → Option (Unit × St)) (kb51 : Int32 → Int32 → Int32 → Int64 → Int32 → St → Option (Unit × St)) (l1 : Int32) (l2 : Int32) (l3 : Int32) (l4 : Int64) (l6 : Int32) (k0 : Int32) (k1 : Int32) (S : St) : Option (Unit × St) := sq (k0 - k1) fun x6 => if 0 ≤ x6 then bd (f_X10_spot (l1 + (1 : Int32)) (l2 - l6) x6 S) fun x8 S9 => ob x8 8100 (sq (l4 + (S9.2.1 (c0 + 23) (Int32.toNatClampNeg x8))) fun x12 => kb51 l1 l2 l3 x12 (l6 + (1 : Int32)) S9) else sq (l4 + (0 : Int64)) fun x13 => kb51 l1 l2 l3 x13 (l6 + (1 : Int32)) S
set_option maxHeartbeats 4000000 in
set_option maxRecDepth 100000 in
theorem w_X10_layLays_J86 {p : Program} {l : Launch} {e : Env} {s : State} {m : MethodId} {args : Array Value} {below : List Frame} {meth : Method} {c : Code} {g : Gl} {r : Unit × St} {c0 : Nat} {kb5 : Int32 → St → Option (Unit × St)} {kb11 : Int32 → Int32 → St → Option (Unit × St)} {kb19 : Int32 → Int32 → Int32 → St → Option (Unit × St)} {kb51 : Int32 → Int32 → Int32 → Int64 → Int32 → St → Option (Unit × St)} (cx : Cx p s m args meth c cX10_layLays 8 none RX10 g (Ap g)) (h_c0 : kd g c0 = 10) (hkb5 : ∀ (l1 : Int32) (S : St), kb5 l1 S = some r → WA p l e rm_X10_layLays s m args below meth c 0 0 (MQ below (QWv g r) args s 0 0 (Ap g)) 8 g (Ap g) S 5 [(0, .ref (ad g c0)), (1, .int l1)] []) (hkb11 : ∀ (l1 : Int32) (l2 : Int32) (S : St), kb11 l1 l2 S = some r → WA p l e rm_X10_layLays s m args below meth c 0 0 (MQ below (QWv g r) args s 0 0 (Ap g)) 8 g (Ap g) S 11 [(0, .ref (ad g c0)), (1, .int l1), (2, .int l2)] []) (hkb19 : ∀ (l1 : Int32) (l2 : Int32) (l3 : Int32) (S : St), kb19 l1 l2 l3 S = some r → WA p l e rm_X10_layLays s m args below meth c 0 0 (MQ below (QWv g r) args s 0 0 (Ap g)) 8 g (Ap g) S 19 [(0, .ref (ad g c0)), (1, .int l1), (2, .int l2), (3, .int l3)] []) (hkb51 : ∀ (l1 : Int32) (l2 : Int32) (l3 : Int32) (l4 : Int64) (l6 : Int32) (S : St), kb51 l1 l2 l3 l4 l6 S = some r → WA p l e rm_X10_layLays s m args below meth c 0 0 (MQ below (QWv g r) args s 0 0 (Ap g)) 8 g (Ap g) S 51 [(0, .ref (ad g c0)), (1, .int l1), (2, .int l2), (3, .int l3), (4, .long l4), (6, .int l6)] []) : ∀ (l1 : Int32) (l2 : Int32) (l3 : Int32) (l4 : Int64) (l6 : Int32) (k0 : Int32) (k1 : Int32) (S : St), f_X10_layLays_J86 c0 kb5 kb11 kb19 kb51 l1 l2 l3 l4 l6 k0 k1 S = some r → WA p l e rm_X10_layLays s m args below meth c 0 0 (MQ below (QWv g r) args s 0 0 (Ap g)) 8 g (Ap g) S 86 [(0, .ref (ad g c0)), (1, .int l1), (2, .int l2), (3, .int l3), (4, .long l4), (6, .int l6)] [.int k1, .int k0] := by
  intro l1 l2 l3 l4 l6 k0 k1 S h
  rw [f_X10_layLays_J86] at h
  refine wa_isub cx dX10_layLays_86 ?_
  replace h := sq_eq h
  generalize (k0 - k1) = x6 at h ⊢
  refine wa_istore cx dX10_layLays_87 [(0, .ref (ad g c0)), (1, .int l1), (2, .int l2), (3, .int l3), (4, .long l4), (6, .int l6), (7, .int x6)] (Nat.le_of_ble_eq_true rfl) rfl (lvs_c rfl (lvs_c rfl (lvs_c rfl (lvs_c rfl (lvs_c rfl (lvs_c rfl (lvs_c rfl (lvs_n)))))))) ?_
  refine wa_lload cx dX10_layLays_89 rfl ?_
  refine wa_iload cx dX10_layLays_91 rfl ?_
  refine wa_if_ge cx dX10_layLays_93 100 (by decide) (fun q7 => ?_) (fun q7 => ?_)
  · rw [if_pos q7] at h
    refine wa_aload_n cx (i := 0) dX10_layLays_100 rfl rfl ?_
    refine gf_X10_76 cx h_c0 dX10_layLays_101 ?_
    refine wa_iload_n cx (i := 1) dX10_layLays_104 rfl rfl ?_
    refine wa_iconst cx dX10_layLays_105 (1 : Int32) (by decide) ?_
    refine wa_iadd cx dX10_layLays_106 ?_
    refine wa_iload_n cx (i := 2) dX10_layLays_107 rfl rfl ?_
    refine wa_iload cx dX10_layLays_108 rfl ?_
    refine wa_isub cx dX10_layLays_110 ?_
    refine wa_iload cx dX10_layLays_111 rfl ?_
    obtain ⟨x8, S9, e10, h⟩ := bd_some h
    refine wa_callSi cx (m_X10_spot l cx.2.2.2.2.2.2.1  e10) vl_X10_262 ⟨Nat.le_of_ble_eq_true rfl, Nat.le_of_ble_eq_true rfl⟩ ⟨rfl, rfl⟩ ⟨Nat.zero_le _, Nat.zero_le _⟩ rfl (Nat.le_of_ble_eq_true rfl) dX10_layLays_113 rfl ?_
    obtain ⟨b11, h⟩ := ob_some h
    refine wa_lald cx dX10_layLays_116 (kq10_36 cx.2.2.2.2.2.2.1 h_c0) b11 ?_
    refine wa_ladd cx dX10_layLays_117 ?_
    replace h := sq_eq h
    generalize (l4 + (S9.2.1 (c0 + 23) (Int32.toNatClampNeg x8))) = x12 at h ⊢
    refine wa_lstore cx dX10_layLays_118 [(0, .ref (ad g c0)), (1, .int l1), (2, .int l2), (3, .int l3), (4, .long x12), (6, .int l6)] (Nat.le_of_ble_eq_true rfl) rfl (lvs_c rfl (lvs_c rfl (lvs_c rfl (lvs_c rfl (lvs_c rfl (lvs_c rfl (lvs_n))))))) ?_
    refine wa_iinc cx dX10_layLays_120 (l6 + (1 : Int32)) [(0, .ref (ad g c0)), (1, .int l1), (2, .int l2), (3, .int l3), (4, .long x12), (6, .int (l6 + (1 : Int32)))] rfl rfl (Nat.le_of_ble_eq_true rfl) rfl (lvs_c rfl (lvs_c rfl (lvs_c rfl (lvs_c rfl (lvs_c rfl (lvs_c rfl (lvs_n))))))) ?_
    refine wa_goto cx dX10_layLays_123 51 (by decide) ?_
    refine wa_sub (lv' := [(0, .ref (ad g c0)), (1, .int l1), (2, .int l2), (3, .int l3), (4, .long x12), (6, .int (l6 + (1 : Int32)))]) (lvs_c rfl (lvs_c rfl (lvs_c rfl (lvs_c rfl (lvs_c rfl (lvs_c rfl (lvs_n))))))) ?_
    exact hkb51 l1 l2 l3 x12 (l6 + (1 : Int32)) S9  h
  · rw [if_neg q7] at h
    refine wa_lconst cx dX10_layLays_96 (0 : Int64) (by decide) ?_
    refine wa_goto cx dX10_layLays_97 117 (by decide) ?_
    refine wa_ladd cx dX10_layLays_117 ?_
    replace h := sq_eq h
    generalize (l4 + (0 : Int64)) = x13 at h ⊢
    refine wa_lstore cx dX10_layLays_118 [(0, .ref (ad g c0)), (1, .int l1), (2, .int l2), (3, .int l3), (4, .long x13), (6, .int l6)] (Nat.le_of_ble_eq_true rfl) rfl (lvs_c rfl (lvs_c rfl (lvs_c rfl (lvs_c rfl (lvs_c rfl (lvs_c rfl (lvs_n))))))) ?_
    refine wa_iinc cx dX10_layLays_120 (l6 + (1 : Int32)) [(0, .ref (ad g c0)), (1, .int l1), (2, .int l2), (3, .int l3), (4, .long x13), (6, .int (l6 + (1 : Int32)))] rfl rfl (Nat.le_of_ble_eq_true rfl) rfl (lvs_c rfl (lvs_c rfl (lvs_c rfl (lvs_c rfl (lvs_c rfl (lvs_c rfl (lvs_n))))))) ?_
    refine wa_goto cx dX10_layLays_123 51 (by decide) ?_
    refine wa_sub (lv' := [(0, .ref (ad g c0)), (1, .int l1), (2, .int l2), (3, .int l3), (4, .long x13), (6, .int (l6 + (1 : Int32)))]) (lvs_c rfl (lvs_c rfl (lvs_c rfl (lvs_c rfl (lvs_c rfl (lvs_c rfl (lvs_n))))))) ?_
    exact hkb51 l1 l2 l3 x13 (l6 + (1 : Int32)) S  h
def f_X10_layLays_L51 : Nat → Nat → (Int32 → St → Option (Unit × St)) → (Int32 → Int32 → St → Option (Unit × St)) → (Int32 → Int32 → Int32 → St → Option (Unit × St)) → Int32 → Int32 → Int32 → Int64 → Int32 → St → Option (Unit × St)
  | 0, _, _, _, _, _, _, _, _, _, _ => none
  | n + 1, c0, kb5, kb11, kb19, l1, l2, l3, l4, l6, S => if (S.1 c0 13) ≤ l1 then f_X10_layLays_J126 c0 kb5 kb11 kb19 l1 l2 l3 l4 S else bd (f_X10_mostGift c0 l1 S) fun x15 S16 => if x15 < l6 then f_X10_layLays_J126 c0 kb5 kb11 kb19 l1 l2 l3 l4 S16 else if l2 < l6 then f_X10_layLays_J126 c0 kb5 kb11 kb19 l1 l2 l3 l4 S16 else if l6 ≤ 0 then f_X10_layLays_J86 c0 kb5 kb11 kb19 (fun l1 l2 l3 l4 l6 S => f_X10_layLays_L51 n c0 kb5 kb11 kb19 l1 l2 l3 l4 l6 S) l1 l2 l3 l4 l6 l3 (0 : Int32) S16 else f_X10_layLays_J86 c0 kb5 kb11 kb19 (fun l1 l2 l3 l4 l6 S => f_X10_layLays_L51 n c0 kb5 kb11 kb19 l1 l2 l3 l4 l6 S) l1 l2 l3 l4 l6 l3 (1 : Int32) S16
set_option maxHeartbeats 4000000 in
set_option maxRecDepth 100000 in
theorem w_X10_layLays_L51 {p : Program} {l : Launch} {e : Env} {s : State} {m : MethodId} {args : Array Value} {below : List Frame} {meth : Method} {c : Code} {g : Gl} {r : Unit × St} {c0 : Nat} {kb5 : Int32 → St → Option (Unit × St)} {kb11 : Int32 → Int32 → St → Option (Unit × St)} {kb19 : Int32 → Int32 → Int32 → St → Option (Unit × St)} (cx : Cx p s m args meth c cX10_layLays 8 none RX10 g (Ap g)) (h_c0 : kd g c0 = 10) (hkb5 : ∀ (l1 : Int32) (S : St), kb5 l1 S = some r → WA p l e rm_X10_layLays s m args below meth c 0 0 (MQ below (QWv g r) args s 0 0 (Ap g)) 8 g (Ap g) S 5 [(0, .ref (ad g c0)), (1, .int l1)] []) (hkb11 : ∀ (l1 : Int32) (l2 : Int32) (S : St), kb11 l1 l2 S = some r → WA p l e rm_X10_layLays s m args below meth c 0 0 (MQ below (QWv g r) args s 0 0 (Ap g)) 8 g (Ap g) S 11 [(0, .ref (ad g c0)), (1, .int l1), (2, .int l2)] []) (hkb19 : ∀ (l1 : Int32) (l2 : Int32) (l3 : Int32) (S : St), kb19 l1 l2 l3 S = some r → WA p l e rm_X10_layLays s m args below meth c 0 0 (MQ below (QWv g r) args s 0 0 (Ap g)) 8 g (Ap g) S 19 [(0, .ref (ad g c0)), (1, .int l1), (2, .int l2), (3, .int l3)] []) : ∀ n : Nat, ∀ (l1 : Int32) (l2 : Int32) (l3 : Int32) (l4 : Int64) (l6 : Int32) (S : St), f_X10_layLays_L51 n c0 kb5 kb11 kb19 l1 l2 l3 l4 l6 S = some r → WA p l e rm_X10_layLays s m args below meth c 0 0 (MQ below (QWv g r) args s 0 0 (Ap g)) 8 g (Ap g) S 51 [(0, .ref (ad g c0)), (1, .int l1), (2, .int l2), (3, .int l3), (4, .long l4), (6, .int l6)] [] := by
  intro n
  induction n with
  | zero => intro l1 l2 l3 l4 l6 S h; rw [f_X10_layLays_L51] at h; cases h
  | succ n ih =>
    intro l1 l2 l3 l4 l6 S h
    rw [f_X10_layLays_L51] at h
    refine wa_iload_n cx (i := 1) dX10_layLays_51 rfl rfl ?_
    refine wa_aload_n cx (i := 0) dX10_layLays_52 rfl rfl ?_
    refine gf_X10_148 cx h_c0 dX10_layLays_53 ?_
    refine wa_icmp_ge cx dX10_layLays_56 126 (by decide) (fun q14 => ?_) (fun q14 => ?_)
    · rw [if_pos q14] at h
      refine wa_sub (lv' := [(0, .ref (ad g c0)), (1, .int l1), (2, .int l2), (3, .int l3), (4, .long l4)]) (lvs_c rfl (lvs_c rfl (lvs_c rfl (lvs_c rfl (lvs_c rfl (lvs_n)))))) ?_
      exact w_X10_layLays_J126 cx h_c0 hkb5 hkb11 hkb19  l1 l2 l3 l4 S  h
    · rw [if_neg q14] at h
      refine wa_iload cx dX10_layLays_59 rfl ?_
      refine wa_aload_n cx (i := 0) dX10_layLays_61 rfl rfl ?_
      refine wa_iload_n cx (i := 1) dX10_layLays_62 rfl rfl ?_
      obtain ⟨x15, S16, e17, h⟩ := bd_some h
      refine wa_callVi cx (m_X10_mostGift l cx.2.2.2.2.2.2.1 h_c0 e17) vl_X10_259 h_c0 (by decide) rfl rfl ⟨_, cell_eq10 (kd_lt h_c0 (by decide)).2⟩ ⟨Nat.le_of_ble_eq_true rfl, Nat.le_of_ble_eq_true rfl⟩ ⟨rfl, rfl⟩ ⟨Nat.zero_le _, Nat.zero_le _⟩ rfl (Nat.le_of_ble_eq_true rfl) dX10_layLays_63 rfl ?_
      refine wa_icmp_gt cx dX10_layLays_66 126 (by decide) (fun q18 => ?_) (fun q18 => ?_)
      · rw [if_pos q18] at h
        refine wa_sub (lv' := [(0, .ref (ad g c0)), (1, .int l1), (2, .int l2), (3, .int l3), (4, .long l4)]) (lvs_c rfl (lvs_c rfl (lvs_c rfl (lvs_c rfl (lvs_c rfl (lvs_n)))))) ?_
        exact w_X10_layLays_J126 cx h_c0 hkb5 hkb11 hkb19  l1 l2 l3 l4 S16  h
      · rw [if_neg q18] at h
        refine wa_iload cx dX10_layLays_69 rfl ?_
        refine wa_iload_n cx (i := 2) dX10_layLays_71 rfl rfl ?_
        refine wa_icmp_gt cx dX10_layLays_72 126 (by decide) (fun q19 => ?_) (fun q19 => ?_)
        · rw [if_pos q19] at h
          refine wa_sub (lv' := [(0, .ref (ad g c0)), (1, .int l1), (2, .int l2), (3, .int l3), (4, .long l4)]) (lvs_c rfl (lvs_c rfl (lvs_c rfl (lvs_c rfl (lvs_c rfl (lvs_n)))))) ?_
          exact w_X10_layLays_J126 cx h_c0 hkb5 hkb11 hkb19  l1 l2 l3 l4 S16  h
        · rw [if_neg q19] at h
          refine wa_iload_n cx (i := 3) dX10_layLays_75 rfl rfl ?_
          refine wa_iload cx dX10_layLays_76 rfl ?_
          refine wa_if_le cx dX10_layLays_78 85 (by decide) (fun q20 => ?_) (fun q20 => ?_)
          · rw [if_pos q20] at h
            refine wa_iconst cx dX10_layLays_85 (0 : Int32) (by decide) ?_
            refine wa_sub (lv' := [(0, .ref (ad g c0)), (1, .int l1), (2, .int l2), (3, .int l3), (4, .long l4), (6, .int l6)]) (lvs_c rfl (lvs_c rfl (lvs_c rfl (lvs_c rfl (lvs_c rfl (lvs_c rfl (lvs_n))))))) ?_
            exact w_X10_layLays_J86 cx h_c0 hkb5 hkb11 hkb19 ih  l1 l2 l3 l4 l6 l3 (0 : Int32) S16  h
          · rw [if_neg q20] at h
            refine wa_iconst cx dX10_layLays_81 (1 : Int32) (by decide) ?_
            refine wa_goto cx dX10_layLays_82 86 (by decide) ?_
            refine wa_sub (lv' := [(0, .ref (ad g c0)), (1, .int l1), (2, .int l2), (3, .int l3), (4, .long l4), (6, .int l6)]) (lvs_c rfl (lvs_c rfl (lvs_c rfl (lvs_c rfl (lvs_c rfl (lvs_c rfl (lvs_n))))))) ?_
            exact w_X10_layLays_J86 cx h_c0 hkb5 hkb11 hkb19 ih  l1 l2 l3 l4 l6 l3 (1 : Int32) S16  h
def f_X10_layLays_L19 : Nat → Nat → (Int32 → St → Option (Unit × St)) → (Int32 → Int32 → St → Option (Unit × St)) → Int32 → Int32 → Int32 → St → Option (Unit × St)
  | 0, _, _, _, _, _, _, _ => none
  | n + 1, c0, kb5, kb11, l1, l2, l3, S => if (9 : Int32) ≤ l3 then kb11 l1 (l2 + (1 : Int32)) S else if l1 = (S.1 c0 13) then if l2 = 0 then if l3 = 0 then f_X10_layLays_L51 FU c0 kb5 kb11 (fun l1 l2 l3 S => f_X10_layLays_L19 n c0 kb5 kb11 l1 l2 l3 S) l1 l2 l3 (1 : Int64) (0 : Int32) S else f_X10_layLays_L51 FU c0 kb5 kb11 (fun l1 l2 l3 S => f_X10_layLays_L19 n c0 kb5 kb11 l1 l2 l3 S) l1 l2 l3 (0 : Int64) (0 : Int32) S else f_X10_layLays_L51 FU c0 kb5 kb11 (fun l1 l2 l3 S => f_X10_layLays_L19 n c0 kb5 kb11 l1 l2 l3 S) l1 l2 l3 (0 : Int64) (0 : Int32) S else f_X10_layLays_L51 FU c0 kb5 kb11 (fun l1 l2 l3 S => f_X10_layLays_L19 n c0 kb5 kb11 l1 l2 l3 S) l1 l2 l3 (0 : Int64) (0 : Int32) S
set_option maxHeartbeats 4000000 in
set_option maxRecDepth 100000 in
theorem w_X10_layLays_L19 {p : Program} {l : Launch} {e : Env} {s : State} {m : MethodId} {args : Array Value} {below : List Frame} {meth : Method} {c : Code} {g : Gl} {r : Unit × St} {c0 : Nat} {kb5 : Int32 → St → Option (Unit × St)} {kb11 : Int32 → Int32 → St → Option (Unit × St)} (cx : Cx p s m args meth c cX10_layLays 8 none RX10 g (Ap g)) (h_c0 : kd g c0 = 10) (hkb5 : ∀ (l1 : Int32) (S : St), kb5 l1 S = some r → WA p l e rm_X10_layLays s m args below meth c 0 0 (MQ below (QWv g r) args s 0 0 (Ap g)) 8 g (Ap g) S 5 [(0, .ref (ad g c0)), (1, .int l1)] []) (hkb11 : ∀ (l1 : Int32) (l2 : Int32) (S : St), kb11 l1 l2 S = some r → WA p l e rm_X10_layLays s m args below meth c 0 0 (MQ below (QWv g r) args s 0 0 (Ap g)) 8 g (Ap g) S 11 [(0, .ref (ad g c0)), (1, .int l1), (2, .int l2)] []) : ∀ n : Nat, ∀ (l1 : Int32) (l2 : Int32) (l3 : Int32) (S : St), f_X10_layLays_L19 n c0 kb5 kb11 l1 l2 l3 S = some r → WA p l e rm_X10_layLays s m args below meth c 0 0 (MQ below (QWv g r) args s 0 0 (Ap g)) 8 g (Ap g) S 19 [(0, .ref (ad g c0)), (1, .int l1), (2, .int l2), (3, .int l3)] [] := by
  intro n
  induction n with
  | zero => intro l1 l2 l3 S h; rw [f_X10_layLays_L19] at h; cases h
  | succ n ih =>
    intro l1 l2 l3 S h
    rw [f_X10_layLays_L19] at h
    refine wa_iload_n cx (i := 3) dX10_layLays_19 rfl rfl ?_
    refine wa_bipush cx dX10_layLays_20 (9 : Int32) (by decide) ?_
    refine wa_icmp_ge cx dX10_layLays_22 145 (by decide) (fun q21 => ?_) (fun q21 => ?_)
    · rw [if_pos q21] at h
      refine wa_iinc cx dX10_layLays_145 (l2 + (1 : Int32)) [(0, .ref (ad g c0)), (1, .int l1), (2, .int (l2 + (1 : Int32)))] rfl rfl (Nat.le_of_ble_eq_true rfl) rfl (lvs_c rfl (lvs_c rfl (lvs_c rfl (lvs_n)))) ?_
      refine wa_goto cx dX10_layLays_148 11 (by decide) ?_
      refine wa_sub (lv' := [(0, .ref (ad g c0)), (1, .int l1), (2, .int (l2 + (1 : Int32)))]) (lvs_c rfl (lvs_c rfl (lvs_c rfl (lvs_n)))) ?_
      exact hkb11 l1 (l2 + (1 : Int32)) S  h
    · rw [if_neg q21] at h
      refine wa_iload_n cx (i := 1) dX10_layLays_25 rfl rfl ?_
      refine wa_aload_n cx (i := 0) dX10_layLays_26 rfl rfl ?_
      refine gf_X10_148 cx h_c0 dX10_layLays_27 ?_
      refine wa_icmp_ne cx dX10_layLays_30 45 (by decide) (fun q22 => ?_) (fun q22 => ?_)
      · rw [if_neg q22] at h
        refine wa_lconst cx dX10_layLays_45 (0 : Int64) (by decide) ?_
        refine wa_lstore cx dX10_layLays_46 [(0, .ref (ad g c0)), (1, .int l1), (2, .int l2), (3, .int l3), (4, .long (0 : Int64))] (Nat.le_of_ble_eq_true rfl) rfl (lvs_c rfl (lvs_c rfl (lvs_c rfl (lvs_c rfl (lvs_c rfl (lvs_n)))))) ?_
        refine wa_iconst cx dX10_layLays_48 (0 : Int32) (by decide) ?_
        refine wa_istore cx dX10_layLays_49 [(0, .ref (ad g c0)), (1, .int l1), (2, .int l2), (3, .int l3), (4, .long (0 : Int64)), (6, .int (0 : Int32))] (Nat.le_of_ble_eq_true rfl) rfl (lvs_c rfl (lvs_c rfl (lvs_c rfl (lvs_c rfl (lvs_c rfl (lvs_c rfl (lvs_n))))))) ?_
        refine wa_sub (lv' := [(0, .ref (ad g c0)), (1, .int l1), (2, .int l2), (3, .int l3), (4, .long (0 : Int64)), (6, .int (0 : Int32))]) (lvs_c rfl (lvs_c rfl (lvs_c rfl (lvs_c rfl (lvs_c rfl (lvs_c rfl (lvs_n))))))) ?_
        exact w_X10_layLays_L51 cx h_c0 hkb5 hkb11 ih FU l1 l2 l3 (0 : Int64) (0 : Int32) S  h
      · rw [if_pos q22] at h
        refine wa_iload_n cx (i := 2) dX10_layLays_33 rfl rfl ?_
        refine wa_if_ne cx dX10_layLays_34 45 (by decide) (fun q23 => ?_) (fun q23 => ?_)
        · rw [if_neg q23] at h
          refine wa_lconst cx dX10_layLays_45 (0 : Int64) (by decide) ?_
          refine wa_lstore cx dX10_layLays_46 [(0, .ref (ad g c0)), (1, .int l1), (2, .int l2), (3, .int l3), (4, .long (0 : Int64))] (Nat.le_of_ble_eq_true rfl) rfl (lvs_c rfl (lvs_c rfl (lvs_c rfl (lvs_c rfl (lvs_c rfl (lvs_n)))))) ?_
          refine wa_iconst cx dX10_layLays_48 (0 : Int32) (by decide) ?_
          refine wa_istore cx dX10_layLays_49 [(0, .ref (ad g c0)), (1, .int l1), (2, .int l2), (3, .int l3), (4, .long (0 : Int64)), (6, .int (0 : Int32))] (Nat.le_of_ble_eq_true rfl) rfl (lvs_c rfl (lvs_c rfl (lvs_c rfl (lvs_c rfl (lvs_c rfl (lvs_c rfl (lvs_n))))))) ?_
          refine wa_sub (lv' := [(0, .ref (ad g c0)), (1, .int l1), (2, .int l2), (3, .int l3), (4, .long (0 : Int64)), (6, .int (0 : Int32))]) (lvs_c rfl (lvs_c rfl (lvs_c rfl (lvs_c rfl (lvs_c rfl (lvs_c rfl (lvs_n))))))) ?_
          exact w_X10_layLays_L51 cx h_c0 hkb5 hkb11 ih FU l1 l2 l3 (0 : Int64) (0 : Int32) S  h
        · rw [if_pos q23] at h
          refine wa_iload_n cx (i := 3) dX10_layLays_37 rfl rfl ?_
          refine wa_if_ne cx dX10_layLays_38 45 (by decide) (fun q24 => ?_) (fun q24 => ?_)
          · rw [if_neg q24] at h
            refine wa_lconst cx dX10_layLays_45 (0 : Int64) (by decide) ?_
            refine wa_lstore cx dX10_layLays_46 [(0, .ref (ad g c0)), (1, .int l1), (2, .int l2), (3, .int l3), (4, .long (0 : Int64))] (Nat.le_of_ble_eq_true rfl) rfl (lvs_c rfl (lvs_c rfl (lvs_c rfl (lvs_c rfl (lvs_c rfl (lvs_n)))))) ?_
            refine wa_iconst cx dX10_layLays_48 (0 : Int32) (by decide) ?_
            refine wa_istore cx dX10_layLays_49 [(0, .ref (ad g c0)), (1, .int l1), (2, .int l2), (3, .int l3), (4, .long (0 : Int64)), (6, .int (0 : Int32))] (Nat.le_of_ble_eq_true rfl) rfl (lvs_c rfl (lvs_c rfl (lvs_c rfl (lvs_c rfl (lvs_c rfl (lvs_c rfl (lvs_n))))))) ?_
            refine wa_sub (lv' := [(0, .ref (ad g c0)), (1, .int l1), (2, .int l2), (3, .int l3), (4, .long (0 : Int64)), (6, .int (0 : Int32))]) (lvs_c rfl (lvs_c rfl (lvs_c rfl (lvs_c rfl (lvs_c rfl (lvs_c rfl (lvs_n))))))) ?_
            exact w_X10_layLays_L51 cx h_c0 hkb5 hkb11 ih FU l1 l2 l3 (0 : Int64) (0 : Int32) S  h
          · rw [if_pos q24] at h
            refine wa_lconst cx dX10_layLays_41 (1 : Int64) (by decide) ?_
            refine wa_goto cx dX10_layLays_42 46 (by decide) ?_
            refine wa_lstore cx dX10_layLays_46 [(0, .ref (ad g c0)), (1, .int l1), (2, .int l2), (3, .int l3), (4, .long (1 : Int64))] (Nat.le_of_ble_eq_true rfl) rfl (lvs_c rfl (lvs_c rfl (lvs_c rfl (lvs_c rfl (lvs_c rfl (lvs_n)))))) ?_
            refine wa_iconst cx dX10_layLays_48 (0 : Int32) (by decide) ?_
            refine wa_istore cx dX10_layLays_49 [(0, .ref (ad g c0)), (1, .int l1), (2, .int l2), (3, .int l3), (4, .long (1 : Int64)), (6, .int (0 : Int32))] (Nat.le_of_ble_eq_true rfl) rfl (lvs_c rfl (lvs_c rfl (lvs_c rfl (lvs_c rfl (lvs_c rfl (lvs_c rfl (lvs_n))))))) ?_
            refine wa_sub (lv' := [(0, .ref (ad g c0)), (1, .int l1), (2, .int l2), (3, .int l3), (4, .long (1 : Int64)), (6, .int (0 : Int32))]) (lvs_c rfl (lvs_c rfl (lvs_c rfl (lvs_c rfl (lvs_c rfl (lvs_c rfl (lvs_n))))))) ?_
            exact w_X10_layLays_L51 cx h_c0 hkb5 hkb11 ih FU l1 l2 l3 (1 : Int64) (0 : Int32) S  h
def f_X10_layLays_L11 : Nat → Nat → (Int32 → St → Option (Unit × St)) → Int32 → Int32 → St → Option (Unit × St)
  | 0, _, _, _, _, _ => none
  | n + 1, c0, kb5, l1, l2, S => if (100 : Int32) ≤ l2 then kb5 (l1 + (-1 : Int32)) S else f_X10_layLays_L19 FU c0 kb5 (fun l1 l2 S => f_X10_layLays_L11 n c0 kb5 l1 l2 S) l1 l2 (0 : Int32) S
set_option maxHeartbeats 4000000 in
set_option maxRecDepth 100000 in
theorem w_X10_layLays_L11 {p : Program} {l : Launch} {e : Env} {s : State} {m : MethodId} {args : Array Value} {below : List Frame} {meth : Method} {c : Code} {g : Gl} {r : Unit × St} {c0 : Nat} {kb5 : Int32 → St → Option (Unit × St)} (cx : Cx p s m args meth c cX10_layLays 8 none RX10 g (Ap g)) (h_c0 : kd g c0 = 10) (hkb5 : ∀ (l1 : Int32) (S : St), kb5 l1 S = some r → WA p l e rm_X10_layLays s m args below meth c 0 0 (MQ below (QWv g r) args s 0 0 (Ap g)) 8 g (Ap g) S 5 [(0, .ref (ad g c0)), (1, .int l1)] []) : ∀ n : Nat, ∀ (l1 : Int32) (l2 : Int32) (S : St), f_X10_layLays_L11 n c0 kb5 l1 l2 S = some r → WA p l e rm_X10_layLays s m args below meth c 0 0 (MQ below (QWv g r) args s 0 0 (Ap g)) 8 g (Ap g) S 11 [(0, .ref (ad g c0)), (1, .int l1), (2, .int l2)] [] := by
  intro n
  induction n with
  | zero => intro l1 l2 S h; rw [f_X10_layLays_L11] at h; cases h
  | succ n ih =>
    intro l1 l2 S h
    rw [f_X10_layLays_L11] at h
    refine wa_iload_n cx (i := 2) dX10_layLays_11 rfl rfl ?_
    refine wa_bipush cx dX10_layLays_12 (100 : Int32) (by decide) ?_
    refine wa_icmp_ge cx dX10_layLays_14 151 (by decide) (fun q25 => ?_) (fun q25 => ?_)
    · rw [if_pos q25] at h
      refine wa_iinc cx dX10_layLays_151 (l1 + (-1 : Int32)) [(0, .ref (ad g c0)), (1, .int (l1 + (-1 : Int32)))] rfl rfl (Nat.le_of_ble_eq_true rfl) rfl (lvs_c rfl (lvs_c rfl (lvs_n))) ?_
      refine wa_goto cx dX10_layLays_154 5 (by decide) ?_
      refine wa_sub (lv' := [(0, .ref (ad g c0)), (1, .int (l1 + (-1 : Int32)))]) (lvs_c rfl (lvs_c rfl (lvs_n))) ?_
      exact hkb5 (l1 + (-1 : Int32)) S  h
    · rw [if_neg q25] at h
      refine wa_iconst cx dX10_layLays_17 (0 : Int32) (by decide) ?_
      refine wa_istore_n cx (i := 3) dX10_layLays_18 [(0, .ref (ad g c0)), (1, .int l1), (2, .int l2), (3, .int (0 : Int32))] rfl (Nat.le_of_ble_eq_true rfl) rfl (lvs_c rfl (lvs_c rfl (lvs_c rfl (lvs_c rfl (lvs_n))))) ?_
      refine wa_sub (lv' := [(0, .ref (ad g c0)), (1, .int l1), (2, .int l2), (3, .int (0 : Int32))]) (lvs_c rfl (lvs_c rfl (lvs_c rfl (lvs_c rfl (lvs_n))))) ?_
      exact w_X10_layLays_L19 cx h_c0 hkb5 ih FU l1 l2 (0 : Int32) S  h
def f_X10_layLays_L5 : Nat → Nat → Int32 → St → Option (Unit × St)
  | 0, _, _, _ => none
  | n + 1, c0, l1, S => if l1 < 0 then some ((), S) else f_X10_layLays_L11 FU c0 (fun l1 S => f_X10_layLays_L5 n c0 l1 S) l1 (0 : Int32) S
set_option maxHeartbeats 4000000 in
set_option maxRecDepth 100000 in
theorem w_X10_layLays_L5 {p : Program} {l : Launch} {e : Env} {s : State} {m : MethodId} {args : Array Value} {below : List Frame} {meth : Method} {c : Code} {g : Gl} {r : Unit × St} {c0 : Nat} (cx : Cx p s m args meth c cX10_layLays 8 none RX10 g (Ap g)) (h_c0 : kd g c0 = 10) : ∀ n : Nat, ∀ (l1 : Int32) (S : St), f_X10_layLays_L5 n c0 l1 S = some r → WA p l e rm_X10_layLays s m args below meth c 0 0 (MQ below (QWv g r) args s 0 0 (Ap g)) 8 g (Ap g) S 5 [(0, .ref (ad g c0)), (1, .int l1)] [] := by
  intro n
  induction n with
  | zero => intro l1 S h; rw [f_X10_layLays_L5] at h; cases h
  | succ n ih =>
    intro l1 S h
    rw [f_X10_layLays_L5] at h
    refine wa_iload_n cx (i := 1) dX10_layLays_5 rfl rfl ?_
    refine wa_if_lt cx dX10_layLays_6 157 (by decide) (fun q26 => ?_) (fun q26 => ?_)
    · rw [if_pos q26] at h
      exact wa_vret cx h dX10_layLays_157
    · rw [if_neg q26] at h
      refine wa_iconst cx dX10_layLays_9 (0 : Int32) (by decide) ?_
      refine wa_istore_n cx (i := 2) dX10_layLays_10 [(0, .ref (ad g c0)), (1, .int l1), (2, .int (0 : Int32))] rfl (Nat.le_of_ble_eq_true rfl) rfl (lvs_c rfl (lvs_c rfl (lvs_c rfl (lvs_n)))) ?_
      refine wa_sub (lv' := [(0, .ref (ad g c0)), (1, .int l1), (2, .int (0 : Int32))]) (lvs_c rfl (lvs_c rfl (lvs_c rfl (lvs_n)))) ?_
      exact w_X10_layLays_L11 cx h_c0 ih FU l1 (0 : Int32) S  h
def f_X10_layLays (c0 : Nat) (S : St) : Option (Unit × St) := sq (S.1 c0 13) fun x27 => f_X10_layLays_L5 FU c0 x27 S
set_option maxHeartbeats 4000000 in
set_option maxRecDepth 100000 in
theorem m_X10_layLays (l : Launch) {g : Gl} (hg : GOK g) {c0 : Nat} {S : St} {r : Unit × St} (h_c0 : kd g c0 = 10) (h : f_X10_layLays c0 S = some r) : MW l yX10_layLays cX10_layLays 8 none rm_X10_layLays g S [.ref (ad g c0)] (QWv g r) := by
  refine startW [(0, .ref (ad g c0))] (by decide +kernel) (Nat.le_of_ble_eq_true rfl) rfl hg (fun p e s m args below meth c cx => ?_)
  have cx : Cx p s m args meth c cX10_layLays 8 none RX10 g (Ap g) := cx
  rw [f_X10_layLays] at h
  refine wa_aload_n cx (i := 0) dX10_layLays_0 rfl rfl ?_
  refine gf_X10_148 cx h_c0 dX10_layLays_1 ?_
  replace h := sq_eq h
  generalize (S.1 c0 13) = x27 at h ⊢
  refine wa_istore_n cx (i := 1) dX10_layLays_4 [(0, .ref (ad g c0)), (1, .int x27)] rfl (Nat.le_of_ble_eq_true rfl) rfl (lvs_c rfl (lvs_c rfl (lvs_n))) ?_
  refine wa_sub (lv' := [(0, .ref (ad g c0)), (1, .int x27)]) (lvs_c rfl (lvs_c rfl (lvs_n))) ?_
  exact w_X10_layLays_L5 cx h_c0  FU x27 S  h
def rm_X10_laysFrom : Room := { frames := 1, cells := 0, slots := 0, locals := 22 }
def f_X10_laysFrom_L14 : Nat → Nat → Int32 → Int32 → Int32 → Int64 → Int32 → St → Option (Int64 × St)
  | 0, _, _, _, _, _, _, _ => none
  | n + 1, c0, a1, a2, a3, l4, l6, S => if (9 : Int32) ≤ l6 then some (l4, S) else bd (f_X10_spot a1 a2 l6 S) fun x2 S3 => ob x2 8100 (sq (l4 + (S3.2.1 (c0 + 23) (Int32.toNatClampNeg x2))) fun x6 => f_X10_laysFrom_L14 n c0 a1 a2 a3 x6 (l6 + (1 : Int32)) S3)
set_option maxHeartbeats 4000000 in
set_option maxRecDepth 100000 in
theorem w_X10_laysFrom_L14 {p : Program} {l : Launch} {e : Env} {s : State} {m : MethodId} {args : Array Value} {below : List Frame} {meth : Method} {c : Code} {g : Gl} {r : Int64 × St} {c0 : Nat} {a1 : Int32} {a2 : Int32} {a3 : Int32} (cx : Cx p s m args meth c cX10_laysFrom 7 (some .long) RX10 g (Ap g)) (h_c0 : kd g c0 = 10) : ∀ n : Nat, ∀ (l4 : Int64) (l6 : Int32) (S : St), f_X10_laysFrom_L14 n c0 a1 a2 a3 l4 l6 S = some r → WA p l e rm_X10_laysFrom s m args below meth c 0 0 (MQ below (QWl g r) args s 0 0 (Ap g)) 7 g (Ap g) S 14 [(0, .ref (ad g c0)), (1, .int a1), (2, .int a2), (4, .long l4), (6, .int l6)] [] := by
  intro n
  induction n with
  | zero => intro l4 l6 S h; rw [f_X10_laysFrom_L14] at h; cases h
  | succ n ih =>
    intro l4 l6 S h
    rw [f_X10_laysFrom_L14] at h
    refine wa_iload cx dX10_laysFrom_14 rfl ?_
    refine wa_bipush cx dX10_laysFrom_16 (9 : Int32) (by decide) ?_
    refine wa_icmp_ge cx dX10_laysFrom_18 44 (by decide) (fun q1 => ?_) (fun q1 => ?_)
    · rw [if_pos q1] at h
      refine wa_lload cx dX10_laysFrom_44 rfl ?_
      exact wa_lret cx h dX10_laysFrom_46
    · rw [if_neg q1] at h
      refine wa_lload cx dX10_laysFrom_21 rfl ?_
      refine wa_aload_n cx (i := 0) dX10_laysFrom_23 rfl rfl ?_
      refine gf_X10_76 cx h_c0 dX10_laysFrom_24 ?_
      refine wa_iload_n cx (i := 1) dX10_laysFrom_27 rfl rfl ?_
      refine wa_iload_n cx (i := 2) dX10_laysFrom_28 rfl rfl ?_
      refine wa_iload cx dX10_laysFrom_29 rfl ?_
      obtain ⟨x2, S3, e4, h⟩ := bd_some h
      refine wa_callSi cx (m_X10_spot l cx.2.2.2.2.2.2.1  e4) vl_X10_262 ⟨Nat.le_of_ble_eq_true rfl, Nat.le_of_ble_eq_true rfl⟩ ⟨rfl, rfl⟩ ⟨Nat.zero_le _, Nat.zero_le _⟩ rfl (Nat.le_of_ble_eq_true rfl) dX10_laysFrom_31 rfl ?_
      obtain ⟨b5, h⟩ := ob_some h
      refine wa_lald cx dX10_laysFrom_34 (kq10_36 cx.2.2.2.2.2.2.1 h_c0) b5 ?_
      refine wa_ladd cx dX10_laysFrom_35 ?_
      replace h := sq_eq h
      generalize (l4 + (S3.2.1 (c0 + 23) (Int32.toNatClampNeg x2))) = x6 at h ⊢
      refine wa_lstore cx dX10_laysFrom_36 [(0, .ref (ad g c0)), (1, .int a1), (2, .int a2), (4, .long x6), (6, .int l6)] (Nat.le_of_ble_eq_true rfl) rfl (lvs_c rfl (lvs_c rfl (lvs_c rfl (lvs_c rfl (lvs_c rfl (lvs_n)))))) ?_
      refine wa_iinc cx dX10_laysFrom_38 (l6 + (1 : Int32)) [(0, .ref (ad g c0)), (1, .int a1), (2, .int a2), (4, .long x6), (6, .int (l6 + (1 : Int32)))] rfl rfl (Nat.le_of_ble_eq_true rfl) rfl (lvs_c rfl (lvs_c rfl (lvs_c rfl (lvs_c rfl (lvs_c rfl (lvs_n)))))) ?_
      refine wa_goto cx dX10_laysFrom_41 14 (by decide) ?_
      refine wa_sub (lv' := [(0, .ref (ad g c0)), (1, .int a1), (2, .int a2), (4, .long x6), (6, .int (l6 + (1 : Int32)))]) (lvs_c rfl (lvs_c rfl (lvs_c rfl (lvs_c rfl (lvs_c rfl (lvs_n)))))) ?_
      exact ih x6 (l6 + (1 : Int32)) S3  h
def f_X10_laysFrom (c0 : Nat) (a1 : Int32) (a2 : Int32) (a3 : Int32) (S : St) : Option (Int64 × St) := if 0 ≤ a3 then f_X10_laysFrom_L14 FU c0 a1 a2 a3 (0 : Int64) a3 S else f_X10_laysFrom_L14 FU c0 a1 a2 a3 (0 : Int64) (0 : Int32) S
set_option maxHeartbeats 4000000 in
set_option maxRecDepth 100000 in
theorem m_X10_laysFrom (l : Launch) {g : Gl} (hg : GOK g) {c0 : Nat} {a1 : Int32} {a2 : Int32} {a3 : Int32} {S : St} {r : Int64 × St} (h_c0 : kd g c0 = 10) (h : f_X10_laysFrom c0 a1 a2 a3 S = some r) : MW l yX10_laysFrom cX10_laysFrom 7 (some .long) rm_X10_laysFrom g S [.ref (ad g c0), .int a1, .int a2, .int a3] (QWl g r) := by
  refine startW [(0, .ref (ad g c0)), (1, .int a1), (2, .int a2), (3, .int a3)] (by decide +kernel) (Nat.le_of_ble_eq_true rfl) rfl hg (fun p e s m args below meth c cx => ?_)
  have cx : Cx p s m args meth c cX10_laysFrom 7 (some .long) RX10 g (Ap g) := cx
  rw [f_X10_laysFrom] at h
  refine wa_lconst cx dX10_laysFrom_0 (0 : Int64) (by decide) ?_
  refine wa_lstore cx dX10_laysFrom_1 [(0, .ref (ad g c0)), (1, .int a1), (2, .int a2), (3, .int a3), (4, .long (0 : Int64))] (Nat.le_of_ble_eq_true rfl) rfl (lvs_c rfl (lvs_c rfl (lvs_c rfl (lvs_c rfl (lvs_c rfl (lvs_n)))))) ?_
  refine wa_iload_n cx (i := 3) dX10_laysFrom_3 rfl rfl ?_
  refine wa_if_ge cx dX10_laysFrom_4 11 (by decide) (fun q7 => ?_) (fun q7 => ?_)
  · rw [if_pos q7] at h
    refine wa_iload_n cx (i := 3) dX10_laysFrom_11 rfl rfl ?_
    refine wa_istore cx dX10_laysFrom_12 [(0, .ref (ad g c0)), (1, .int a1), (2, .int a2), (4, .long (0 : Int64)), (6, .int a3)] (Nat.le_of_ble_eq_true rfl) rfl (lvs_c rfl (lvs_c rfl (lvs_c rfl (lvs_c rfl (lvs_c rfl (lvs_n)))))) ?_
    refine wa_sub (lv' := [(0, .ref (ad g c0)), (1, .int a1), (2, .int a2), (4, .long (0 : Int64)), (6, .int a3)]) (lvs_c rfl (lvs_c rfl (lvs_c rfl (lvs_c rfl (lvs_c rfl (lvs_n)))))) ?_
    exact w_X10_laysFrom_L14 cx h_c0  FU (0 : Int64) a3 S  h
  · rw [if_neg q7] at h
    refine wa_iconst cx dX10_laysFrom_7 (0 : Int32) (by decide) ?_
    refine wa_goto cx dX10_laysFrom_8 12 (by decide) ?_
    refine wa_istore cx dX10_laysFrom_12 [(0, .ref (ad g c0)), (1, .int a1), (2, .int a2), (4, .long (0 : Int64)), (6, .int (0 : Int32))] (Nat.le_of_ble_eq_true rfl) rfl (lvs_c rfl (lvs_c rfl (lvs_c rfl (lvs_c rfl (lvs_c rfl (lvs_n)))))) ?_
    refine wa_sub (lv' := [(0, .ref (ad g c0)), (1, .int a1), (2, .int a2), (4, .long (0 : Int64)), (6, .int (0 : Int32))]) (lvs_c rfl (lvs_c rfl (lvs_c rfl (lvs_c rfl (lvs_c rfl (lvs_n)))))) ?_
    exact w_X10_laysFrom_L14 cx h_c0  FU (0 : Int64) (0 : Int32) S  h
def rm_X10_just : Room := { frames := 4, cells := 0, slots := 0, locals := 91 }
def f_X10_just_J126 (c0 : Nat) (a1 : Int32) (kb95 : Int32 → Int32 → Int32 → Int32 → St → Option (Int64 × St)) (kb104 : Int32 → Int32 → Int32 → Int32 → St → Option (Int64 × St)) (l4 : Int32) (l5 : Int32) (l6 : Int32) (l7 : Int32) (k0 : Nat) (k1 : Int32) (k2 : Int32) (k3 : Int32) (k4 : Int32) (S : St) : Option (Int64 × St) := bd (f_X10_laysFrom k0 k1 k2 (k3 - k4) S) fun x1 S2 => if x1 = (0 : Int64) then kb104 l4 l5 (l6 + (1 : Int32)) l7 S2 else sq (l4 - l6) fun x5 => if l6 ≤ 0 then sq (l5 - (0 : Int32)) fun x7 => kb95 x5 x7 l6 (l7 + (1 : Int32)) S2 else sq (l5 - (1 : Int32)) fun x8 => kb95 x5 x8 l6 (l7 + (1 : Int32)) S2
set_option maxHeartbeats 4000000 in
set_option maxRecDepth 100000 in
theorem w_X10_just_J126 {p : Program} {l : Launch} {e : Env} {s : State} {m : MethodId} {args : Array Value} {below : List Frame} {meth : Method} {c : Code} {g : Gl} {r : Int64 × St} {c0 : Nat} {a1 : Int32} {kb95 : Int32 → Int32 → Int32 → Int32 → St → Option (Int64 × St)} {kb104 : Int32 → Int32 → Int32 → Int32 → St → Option (Int64 × St)} (cx : Cx p s m args meth c cX10_just 8 (some .long) RX10 g (Ap g)) (h_c0 : kd g c0 = 10) (hkb95 : ∀ (l4 : Int32) (l5 : Int32) (l6 : Int32) (l7 : Int32) (S : St), kb95 l4 l5 l6 l7 S = some r → WA p l e rm_X10_just s m args below meth c 0 0 (MQ below (QWl g r) args s 0 0 (Ap g)) 8 g (Ap g) S 95 [(0, .ref (ad g c0)), (1, .int a1), (4, .int l4), (5, .int l5), (6, .int l6), (7, .int l7)] []) (hkb104 : ∀ (l4 : Int32) (l5 : Int32) (l6 : Int32) (l7 : Int32) (S : St), kb104 l4 l5 l6 l7 S = some r → WA p l e rm_X10_just s m args below meth c 0 0 (MQ below (QWl g r) args s 0 0 (Ap g)) 8 g (Ap g) S 104 [(0, .ref (ad g c0)), (1, .int a1), (4, .int l4), (5, .int l5), (6, .int l6), (7, .int l7)] []) : ∀ (l4 : Int32) (l5 : Int32) (l6 : Int32) (l7 : Int32) (k0 : Nat) (k1 : Int32) (k2 : Int32) (k3 : Int32) (k4 : Int32) (S : St), kd g k0 = 10 → f_X10_just_J126 c0 a1 kb95 kb104 l4 l5 l6 l7 k0 k1 k2 k3 k4 S = some r → WA p l e rm_X10_just s m args below meth c 0 0 (MQ below (QWl g r) args s 0 0 (Ap g)) 8 g (Ap g) S 126 [(0, .ref (ad g c0)), (1, .int a1), (4, .int l4), (5, .int l5), (6, .int l6), (7, .int l7)] [.int k4, .int k3, .int k2, .int k1, .ref (ad g k0)] := by
  intro l4 l5 l6 l7 k0 k1 k2 k3 k4 S h_k0 h
  rw [f_X10_just_J126] at h
  refine wa_isub cx dX10_just_126 ?_
  obtain ⟨x1, S2, e3, h⟩ := bd_some h
  refine wa_callVl cx (m_X10_laysFrom l cx.2.2.2.2.2.2.1 h_k0 e3) vl_X10_269 h_k0 (by decide) rfl rfl ⟨_, cell_eq10 (kd_lt h_k0 (by decide)).2⟩ ⟨Nat.le_of_ble_eq_true rfl, Nat.le_of_ble_eq_true rfl⟩ ⟨rfl, rfl⟩ ⟨Nat.zero_le _, Nat.zero_le _⟩ rfl (Nat.le_of_ble_eq_true rfl) dX10_just_127 rfl ?_
  refine wa_lconst cx dX10_just_130 (0 : Int64) (by decide) ?_
  refine wa_lcmp_ne cx dX10_just_131 dX10_just_132 141 (by decide) (fun q4 => ?_) (fun q4 => ?_)
  · rw [if_neg q4] at h
    refine wa_iload cx dX10_just_141 rfl ?_
    refine wa_iload cx dX10_just_143 rfl ?_
    refine wa_isub cx dX10_just_145 ?_
    replace h := sq_eq h
    generalize (l4 - l6) = x5 at h ⊢
    refine wa_istore cx dX10_just_146 [(0, .ref (ad g c0)), (1, .int a1), (4, .int x5), (5, .int l5), (6, .int l6), (7, .int l7)] (Nat.le_of_ble_eq_true rfl) rfl (lvs_c rfl (lvs_c rfl (lvs_c rfl (lvs_c rfl (lvs_c rfl (lvs_c rfl (lvs_n))))))) ?_
    refine wa_iload cx dX10_just_148 rfl ?_
    refine wa_iload cx dX10_just_150 rfl ?_
    refine wa_if_le cx dX10_just_152 159 (by decide) (fun q6 => ?_) (fun q6 => ?_)
    · rw [if_pos q6] at h
      refine wa_iconst cx dX10_just_159 (0 : Int32) (by decide) ?_
      refine wa_isub cx dX10_just_160 ?_
      replace h := sq_eq h
      generalize (l5 - (0 : Int32)) = x7 at h ⊢
      refine wa_istore cx dX10_just_161 [(0, .ref (ad g c0)), (1, .int a1), (4, .int x5), (5, .int x7), (6, .int l6), (7, .int l7)] (Nat.le_of_ble_eq_true rfl) rfl (lvs_c rfl (lvs_c rfl (lvs_c rfl (lvs_c rfl (lvs_c rfl (lvs_c rfl (lvs_n))))))) ?_
      refine wa_iinc cx dX10_just_163 (l7 + (1 : Int32)) [(0, .ref (ad g c0)), (1, .int a1), (4, .int x5), (5, .int x7), (6, .int l6), (7, .int (l7 + (1 : Int32)))] rfl rfl (Nat.le_of_ble_eq_true rfl) rfl (lvs_c rfl (lvs_c rfl (lvs_c rfl (lvs_c rfl (lvs_c rfl (lvs_c rfl (lvs_n))))))) ?_
      refine wa_goto cx dX10_just_166 95 (by decide) ?_
      refine wa_sub (lv' := [(0, .ref (ad g c0)), (1, .int a1), (4, .int x5), (5, .int x7), (6, .int l6), (7, .int (l7 + (1 : Int32)))]) (lvs_c rfl (lvs_c rfl (lvs_c rfl (lvs_c rfl (lvs_c rfl (lvs_c rfl (lvs_n))))))) ?_
      exact hkb95 x5 x7 l6 (l7 + (1 : Int32)) S2  h
    · rw [if_neg q6] at h
      refine wa_iconst cx dX10_just_155 (1 : Int32) (by decide) ?_
      refine wa_goto cx dX10_just_156 160 (by decide) ?_
      refine wa_isub cx dX10_just_160 ?_
      replace h := sq_eq h
      generalize (l5 - (1 : Int32)) = x8 at h ⊢
      refine wa_istore cx dX10_just_161 [(0, .ref (ad g c0)), (1, .int a1), (4, .int x5), (5, .int x8), (6, .int l6), (7, .int l7)] (Nat.le_of_ble_eq_true rfl) rfl (lvs_c rfl (lvs_c rfl (lvs_c rfl (lvs_c rfl (lvs_c rfl (lvs_c rfl (lvs_n))))))) ?_
      refine wa_iinc cx dX10_just_163 (l7 + (1 : Int32)) [(0, .ref (ad g c0)), (1, .int a1), (4, .int x5), (5, .int x8), (6, .int l6), (7, .int (l7 + (1 : Int32)))] rfl rfl (Nat.le_of_ble_eq_true rfl) rfl (lvs_c rfl (lvs_c rfl (lvs_c rfl (lvs_c rfl (lvs_c rfl (lvs_c rfl (lvs_n))))))) ?_
      refine wa_goto cx dX10_just_166 95 (by decide) ?_
      refine wa_sub (lv' := [(0, .ref (ad g c0)), (1, .int a1), (4, .int x5), (5, .int x8), (6, .int l6), (7, .int (l7 + (1 : Int32)))]) (lvs_c rfl (lvs_c rfl (lvs_c rfl (lvs_c rfl (lvs_c rfl (lvs_c rfl (lvs_n))))))) ?_
      exact hkb95 x5 x8 l6 (l7 + (1 : Int32)) S2  h
  · rw [if_pos q4] at h
    refine wa_iinc cx dX10_just_135 (l6 + (1 : Int32)) [(0, .ref (ad g c0)), (1, .int a1), (4, .int l4), (5, .int l5), (6, .int (l6 + (1 : Int32))), (7, .int l7)] rfl rfl (Nat.le_of_ble_eq_true rfl) rfl (lvs_c rfl (lvs_c rfl (lvs_c rfl (lvs_c rfl (lvs_c rfl (lvs_c rfl (lvs_n))))))) ?_
    refine wa_goto cx dX10_just_138 104 (by decide) ?_
    refine wa_sub (lv' := [(0, .ref (ad g c0)), (1, .int a1), (4, .int l4), (5, .int l5), (6, .int (l6 + (1 : Int32))), (7, .int l7)]) (lvs_c rfl (lvs_c rfl (lvs_c rfl (lvs_c rfl (lvs_c rfl (lvs_c rfl (lvs_n))))))) ?_
    exact hkb104 l4 l5 (l6 + (1 : Int32)) l7 S2  h
def f_X10_just_L104 : Nat → Nat → Int32 → (Int32 → Int32 → Int32 → Int32 → St → Option (Int64 × St)) → Int32 → Int32 → Int32 → Int32 → St → Option (Int64 × St)
  | 0, _, _, _, _, _, _, _, _ => none
  | n + 1, c0, a1, kb95, l4, l5, l6, l7, S => if l6 ≤ 0 then f_X10_just_J126 c0 a1 kb95 (fun l4 l5 l6 l7 S => f_X10_just_L104 n c0 a1 kb95 l4 l5 l6 l7 S) l4 l5 l6 l7 c0 (l7 + (1 : Int32)) (l4 - l6) l5 (0 : Int32) S else f_X10_just_J126 c0 a1 kb95 (fun l4 l5 l6 l7 S => f_X10_just_L104 n c0 a1 kb95 l4 l5 l6 l7 S) l4 l5 l6 l7 c0 (l7 + (1 : Int32)) (l4 - l6) l5 (1 : Int32) S
set_option maxHeartbeats 4000000 in
set_option maxRecDepth 100000 in
theorem w_X10_just_L104 {p : Program} {l : Launch} {e : Env} {s : State} {m : MethodId} {args : Array Value} {below : List Frame} {meth : Method} {c : Code} {g : Gl} {r : Int64 × St} {c0 : Nat} {a1 : Int32} {kb95 : Int32 → Int32 → Int32 → Int32 → St → Option (Int64 × St)} (cx : Cx p s m args meth c cX10_just 8 (some .long) RX10 g (Ap g)) (h_c0 : kd g c0 = 10) (hkb95 : ∀ (l4 : Int32) (l5 : Int32) (l6 : Int32) (l7 : Int32) (S : St), kb95 l4 l5 l6 l7 S = some r → WA p l e rm_X10_just s m args below meth c 0 0 (MQ below (QWl g r) args s 0 0 (Ap g)) 8 g (Ap g) S 95 [(0, .ref (ad g c0)), (1, .int a1), (4, .int l4), (5, .int l5), (6, .int l6), (7, .int l7)] []) : ∀ n : Nat, ∀ (l4 : Int32) (l5 : Int32) (l6 : Int32) (l7 : Int32) (S : St), f_X10_just_L104 n c0 a1 kb95 l4 l5 l6 l7 S = some r → WA p l e rm_X10_just s m args below meth c 0 0 (MQ below (QWl g r) args s 0 0 (Ap g)) 8 g (Ap g) S 104 [(0, .ref (ad g c0)), (1, .int a1), (4, .int l4), (5, .int l5), (6, .int l6), (7, .int l7)] [] := by
  intro n
  induction n with
  | zero => intro l4 l5 l6 l7 S h; rw [f_X10_just_L104] at h; cases h
  | succ n ih =>
    intro l4 l5 l6 l7 S h
    rw [f_X10_just_L104] at h
    refine wa_aload_n cx (i := 0) dX10_just_104 rfl rfl ?_
    refine wa_iload cx dX10_just_105 rfl ?_
    refine wa_iconst cx dX10_just_107 (1 : Int32) (by decide) ?_
    refine wa_iadd cx dX10_just_108 ?_
    refine wa_iload cx dX10_just_109 rfl ?_
    refine wa_iload cx dX10_just_111 rfl ?_
    refine wa_isub cx dX10_just_113 ?_
    refine wa_iload cx dX10_just_114 rfl ?_
    refine wa_iload cx dX10_just_116 rfl ?_
    refine wa_if_le cx dX10_just_118 125 (by decide) (fun q9 => ?_) (fun q9 => ?_)
    · rw [if_pos q9] at h
      refine wa_iconst cx dX10_just_125 (0 : Int32) (by decide) ?_
      refine wa_sub (lv' := [(0, .ref (ad g c0)), (1, .int a1), (4, .int l4), (5, .int l5), (6, .int l6), (7, .int l7)]) (lvs_c rfl (lvs_c rfl (lvs_c rfl (lvs_c rfl (lvs_c rfl (lvs_c rfl (lvs_n))))))) ?_
      exact w_X10_just_J126 cx h_c0 hkb95 ih  l4 l5 l6 l7 c0 (l7 + (1 : Int32)) (l4 - l6) l5 (0 : Int32) S h_c0 h
    · rw [if_neg q9] at h
      refine wa_iconst cx dX10_just_121 (1 : Int32) (by decide) ?_
      refine wa_goto cx dX10_just_122 126 (by decide) ?_
      refine wa_sub (lv' := [(0, .ref (ad g c0)), (1, .int a1), (4, .int l4), (5, .int l5), (6, .int l6), (7, .int l7)]) (lvs_c rfl (lvs_c rfl (lvs_c rfl (lvs_c rfl (lvs_c rfl (lvs_c rfl (lvs_n))))))) ?_
      exact w_X10_just_J126 cx h_c0 hkb95 ih  l4 l5 l6 l7 c0 (l7 + (1 : Int32)) (l4 - l6) l5 (1 : Int32) S h_c0 h
def f_X10_just_L95 : Nat → Nat → Int32 → Int32 → Int32 → Int32 → Int32 → St → Option (Int64 × St)
  | 0, _, _, _, _, _, _, _ => none
  | n + 1, c0, a1, l4, l5, l6, l7, S => if a1 < l7 then some ((Int32.toInt64 l6), S) else f_X10_just_L104 FU c0 a1 (fun l4 l5 l6 l7 S => f_X10_just_L95 n c0 a1 l4 l5 l6 l7 S) l4 l5 (0 : Int32) l7 S
set_option maxHeartbeats 4000000 in
set_option maxRecDepth 100000 in
theorem w_X10_just_L95 {p : Program} {l : Launch} {e : Env} {s : State} {m : MethodId} {args : Array Value} {below : List Frame} {meth : Method} {c : Code} {g : Gl} {r : Int64 × St} {c0 : Nat} {a1 : Int32} (cx : Cx p s m args meth c cX10_just 8 (some .long) RX10 g (Ap g)) (h_c0 : kd g c0 = 10) : ∀ n : Nat, ∀ (l4 : Int32) (l5 : Int32) (l6 : Int32) (l7 : Int32) (S : St), f_X10_just_L95 n c0 a1 l4 l5 l6 l7 S = some r → WA p l e rm_X10_just s m args below meth c 0 0 (MQ below (QWl g r) args s 0 0 (Ap g)) 8 g (Ap g) S 95 [(0, .ref (ad g c0)), (1, .int a1), (4, .int l4), (5, .int l5), (6, .int l6), (7, .int l7)] [] := by
  intro n
  induction n with
  | zero => intro l4 l5 l6 l7 S h; rw [f_X10_just_L95] at h; cases h
  | succ n ih =>
    intro l4 l5 l6 l7 S h
    rw [f_X10_just_L95] at h
    refine wa_iload cx dX10_just_95 rfl ?_
    refine wa_iload_n cx (i := 1) dX10_just_97 rfl rfl ?_
    refine wa_icmp_gt cx dX10_just_98 169 (by decide) (fun q10 => ?_) (fun q10 => ?_)
    · rw [if_pos q10] at h
      refine wa_iload cx dX10_just_169 rfl ?_
      refine wa_i2l cx dX10_just_171 ?_
      exact wa_lret cx h dX10_just_172
    · rw [if_neg q10] at h
      refine wa_iconst cx dX10_just_101 (0 : Int32) (by decide) ?_
      refine wa_istore cx dX10_just_102 [(0, .ref (ad g c0)), (1, .int a1), (4, .int l4), (5, .int l5), (6, .int (0 : Int32)), (7, .int l7)] (Nat.le_of_ble_eq_true rfl) rfl (lvs_c rfl (lvs_c rfl (lvs_c rfl (lvs_c rfl (lvs_c rfl (lvs_c rfl (lvs_n))))))) ?_
      refine wa_sub (lv' := [(0, .ref (ad g c0)), (1, .int a1), (4, .int l4), (5, .int l5), (6, .int (0 : Int32)), (7, .int l7)]) (lvs_c rfl (lvs_c rfl (lvs_c rfl (lvs_c rfl (lvs_c rfl (lvs_c rfl (lvs_n))))))) ?_
      exact w_X10_just_L104 cx h_c0 ih FU l4 l5 (0 : Int32) l7 S  h
def f_X10_just_J63 (c0 : Nat) (a1 : Int32) (l2 : Int64) (S : St) : Option (Int64 × St) := if 0 ≤ a1 then some ((-4 : Int64), S) else some (l2, S)
set_option maxHeartbeats 4000000 in
set_option maxRecDepth 100000 in
theorem w_X10_just_J63 {p : Program} {l : Launch} {e : Env} {s : State} {m : MethodId} {args : Array Value} {below : List Frame} {meth : Method} {c : Code} {g : Gl} {r : Int64 × St} {c0 : Nat} {a1 : Int32} (cx : Cx p s m args meth c cX10_just 8 (some .long) RX10 g (Ap g)) (h_c0 : kd g c0 = 10) : ∀ (l2 : Int64) (S : St), f_X10_just_J63 c0 a1 l2 S = some r → WA p l e rm_X10_just s m args below meth c 0 0 (MQ below (QWl g r) args s 0 0 (Ap g)) 8 g (Ap g) S 63 [(1, .int a1), (2, .long l2)] [] := by
  intro l2 S h
  rw [f_X10_just_J63] at h
  refine wa_iload_n cx (i := 1) dX10_just_63 rfl rfl ?_
  refine wa_if_ge cx dX10_just_64 71 (by decide) (fun q11 => ?_) (fun q11 => ?_)
  · rw [if_pos q11] at h
    refine wa_ldc2 cx dX10_just_71 (-4 : Int64) kc_X10_246 ?_
    exact wa_lret cx h dX10_just_74
  · rw [if_neg q11] at h
    refine wa_lload_n cx (i := 2) dX10_just_67 rfl rfl ?_
    refine wa_goto cx dX10_just_68 74 (by decide) ?_
    exact wa_lret cx h dX10_just_74
def f_X10_just_J33 (c0 : Nat) (a1 : Int32) (S : St) : Option (Int64 × St) := bd (f_X10_layLays c0 S) fun _ S12 => bd (f_X10_laysFrom c0 (0 : Int32) (S12.1 c0 19) (S12.1 (c0 + 2) (Int32.toNatClampNeg (1 : Int32))) S12) fun x15 S16 => if a1 < 0 then f_X10_just_J63 c0 a1 x15 S16 else if x15 = (0 : Int64) then f_X10_just_J63 c0 a1 x15 S16 else sq (S16.1 c0 19) fun x20 => sq (S16.1 (c0 + 2) (Int32.toNatClampNeg (1 : Int32))) fun x21 => f_X10_just_L95 FU c0 a1 x20 x21 (0 : Int32) (0 : Int32) S16
set_option maxHeartbeats 4000000 in
set_option maxRecDepth 100000 in
theorem w_X10_just_J33 {p : Program} {l : Launch} {e : Env} {s : State} {m : MethodId} {args : Array Value} {below : List Frame} {meth : Method} {c : Code} {g : Gl} {r : Int64 × St} {c0 : Nat} {a1 : Int32} (cx : Cx p s m args meth c cX10_just 8 (some .long) RX10 g (Ap g)) (h_c0 : kd g c0 = 10) : ∀ (S : St), f_X10_just_J33 c0 a1 S = some r → WA p l e rm_X10_just s m args below meth c 0 0 (MQ below (QWl g r) args s 0 0 (Ap g)) 8 g (Ap g) S 33 [(0, .ref (ad g c0)), (1, .int a1)] [] := by
  intro S h
  rw [f_X10_just_J33] at h
  refine wa_aload_n cx (i := 0) dX10_just_33 rfl rfl ?_
  obtain ⟨u14, S12, e13, h⟩ := bd_some h
  refine wa_callVv cx (m_X10_layLays l cx.2.2.2.2.2.2.1 h_c0 e13) vl_X10_266 h_c0 (by decide) rfl rfl ⟨_, cell_eq10 (kd_lt h_c0 (by decide)).2⟩ ⟨Nat.le_of_ble_eq_true rfl, Nat.le_of_ble_eq_true rfl⟩ ⟨rfl, rfl⟩ ⟨Nat.zero_le _, Nat.zero_le _⟩ rfl (Nat.le_of_ble_eq_true rfl) dX10_just_34 rfl ?_
  refine wa_aload_n cx (i := 0) dX10_just_37 rfl rfl ?_
  refine wa_iconst cx dX10_just_38 (0 : Int32) (by decide) ?_
  refine wa_aload_n cx (i := 0) dX10_just_39 rfl rfl ?_
  refine gf_X10_154 cx h_c0 dX10_just_40 ?_
  refine wa_aload_n cx (i := 0) dX10_just_43 rfl rfl ?_
  refine gf_X10_13 cx h_c0 dX10_just_44 ?_
  refine wa_iconst cx dX10_just_47 (1 : Int32) (by decide) ?_
  refine wa_iald cx dX10_just_48 (kq10_2 cx.2.2.2.2.2.2.1 h_c0) (vinl (by decide)) ?_
  obtain ⟨x15, S16, e17, h⟩ := bd_some h
  refine wa_callVl cx (m_X10_laysFrom l cx.2.2.2.2.2.2.1 h_c0 e17) vl_X10_269 h_c0 (by decide) rfl rfl ⟨_, cell_eq10 (kd_lt h_c0 (by decide)).2⟩ ⟨Nat.le_of_ble_eq_true rfl, Nat.le_of_ble_eq_true rfl⟩ ⟨rfl, rfl⟩ ⟨Nat.zero_le _, Nat.zero_le _⟩ rfl (Nat.le_of_ble_eq_true rfl) dX10_just_49 rfl ?_
  refine wa_lstore_n cx (i := 2) dX10_just_52 [(0, .ref (ad g c0)), (1, .int a1), (2, .long x15)] rfl (Nat.le_of_ble_eq_true rfl) rfl (lvs_c rfl (lvs_c rfl (lvs_c rfl (lvs_n)))) ?_
  refine wa_iload_n cx (i := 1) dX10_just_53 rfl rfl ?_
  refine wa_if_lt cx dX10_just_54 63 (by decide) (fun q18 => ?_) (fun q18 => ?_)
  · rw [if_pos q18] at h
    refine wa_sub (lv' := [(1, .int a1), (2, .long x15)]) (lvs_c rfl (lvs_c rfl (lvs_n))) ?_
    exact w_X10_just_J63 cx h_c0   x15 S16  h
  · rw [if_neg q18] at h
    refine wa_lload_n cx (i := 2) dX10_just_57 rfl rfl ?_
    refine wa_lconst cx dX10_just_58 (0 : Int64) (by decide) ?_
    refine wa_lcmp_ne cx dX10_just_59 dX10_just_60 75 (by decide) (fun q19 => ?_) (fun q19 => ?_)
    · rw [if_neg q19] at h
      refine wa_aload_n cx (i := 0) dX10_just_75 rfl rfl ?_
      refine gf_X10_154 cx h_c0 dX10_just_76 ?_
      replace h := sq_eq h
      generalize (S16.1 c0 19) = x20 at h ⊢
      refine wa_istore cx dX10_just_79 [(0, .ref (ad g c0)), (1, .int a1), (4, .int x20)] (Nat.le_of_ble_eq_true rfl) rfl (lvs_c rfl (lvs_c rfl (lvs_c rfl (lvs_n)))) ?_
      refine wa_aload_n cx (i := 0) dX10_just_81 rfl rfl ?_
      refine gf_X10_13 cx h_c0 dX10_just_82 ?_
      refine wa_iconst cx dX10_just_85 (1 : Int32) (by decide) ?_
      refine wa_iald cx dX10_just_86 (kq10_2 cx.2.2.2.2.2.2.1 h_c0) (vinl (by decide)) ?_
      replace h := sq_eq h
      generalize (S16.1 (c0 + 2) (Int32.toNatClampNeg (1 : Int32))) = x21 at h ⊢
      refine wa_istore cx dX10_just_87 [(0, .ref (ad g c0)), (1, .int a1), (4, .int x20), (5, .int x21)] (Nat.le_of_ble_eq_true rfl) rfl (lvs_c rfl (lvs_c rfl (lvs_c rfl (lvs_c rfl (lvs_n))))) ?_
      refine wa_iconst cx dX10_just_89 (0 : Int32) (by decide) ?_
      refine wa_istore cx dX10_just_90 [(0, .ref (ad g c0)), (1, .int a1), (4, .int x20), (5, .int x21), (6, .int (0 : Int32))] (Nat.le_of_ble_eq_true rfl) rfl (lvs_c rfl (lvs_c rfl (lvs_c rfl (lvs_c rfl (lvs_c rfl (lvs_n)))))) ?_
      refine wa_iconst cx dX10_just_92 (0 : Int32) (by decide) ?_
      refine wa_istore cx dX10_just_93 [(0, .ref (ad g c0)), (1, .int a1), (4, .int x20), (5, .int x21), (6, .int (0 : Int32)), (7, .int (0 : Int32))] (Nat.le_of_ble_eq_true rfl) rfl (lvs_c rfl (lvs_c rfl (lvs_c rfl (lvs_c rfl (lvs_c rfl (lvs_c rfl (lvs_n))))))) ?_
      refine wa_sub (lv' := [(0, .ref (ad g c0)), (1, .int a1), (4, .int x20), (5, .int x21), (6, .int (0 : Int32)), (7, .int (0 : Int32))]) (lvs_c rfl (lvs_c rfl (lvs_c rfl (lvs_c rfl (lvs_c rfl (lvs_c rfl (lvs_n))))))) ?_
      exact w_X10_just_L95 cx h_c0  FU x20 x21 (0 : Int32) (0 : Int32) S16  h
    · rw [if_pos q19] at h
      refine wa_sub (lv' := [(1, .int a1), (2, .long x15)]) (lvs_c rfl (lvs_c rfl (lvs_n))) ?_
      exact w_X10_just_J63 cx h_c0   x15 S16  h
def f_X10_just (c0 : Nat) (a1 : Int32) (S : St) : Option (Int64 × St) := bd (f_X10_plain c0 S) fun _ S22 => bd (f_X10_layOrder c0 S22) fun _ S25 => if a1 = (-1 : Int32) then f_X10_just_J33 c0 a1 S25 else bd (f_X10_isGiver c0 a1 S25) fun x29 S30 => if x29 = 0 then some ((-1 : Int64), S30) else bd (f_X10_comes c0 a1 S30) fun x33 S34 => if x33 = 0 then some ((-1 : Int64), S34) else f_X10_just_J33 c0 a1 S34
set_option maxHeartbeats 4000000 in
set_option maxRecDepth 100000 in
theorem m_X10_just (l : Launch) {g : Gl} (hg : GOK g) {c0 : Nat} {a1 : Int32} {S : St} {r : Int64 × St} (h_c0 : kd g c0 = 10) (h : f_X10_just c0 a1 S = some r) : MW l yX10_just cX10_just 8 (some .long) rm_X10_just g S [.ref (ad g c0), .int a1] (QWl g r) := by
  refine startW [(0, .ref (ad g c0)), (1, .int a1)] (by decide +kernel) (Nat.le_of_ble_eq_true rfl) rfl hg (fun p e s m args below meth c cx => ?_)
  have cx : Cx p s m args meth c cX10_just 8 (some .long) RX10 g (Ap g) := cx
  rw [f_X10_just] at h
  refine wa_aload_n cx (i := 0) dX10_just_0 rfl rfl ?_
  obtain ⟨u24, S22, e23, h⟩ := bd_some h
  refine wa_callVv cx (m_X10_plain l cx.2.2.2.2.2.2.1 h_c0 e23) vl_X10_151 h_c0 (by decide) rfl rfl ⟨_, cell_eq10 (kd_lt h_c0 (by decide)).2⟩ ⟨Nat.le_of_ble_eq_true rfl, Nat.le_of_ble_eq_true rfl⟩ ⟨rfl, rfl⟩ ⟨Nat.zero_le _, Nat.zero_le _⟩ rfl (Nat.le_of_ble_eq_true rfl) dX10_just_1 rfl ?_
  refine wa_aload_n cx (i := 0) dX10_just_4 rfl rfl ?_
  obtain ⟨u27, S25, e26, h⟩ := bd_some h
  refine wa_callVv cx (m_X10_layOrder l cx.2.2.2.2.2.2.1 h_c0 e26) vl_X10_184 h_c0 (by decide) rfl rfl ⟨_, cell_eq10 (kd_lt h_c0 (by decide)).2⟩ ⟨Nat.le_of_ble_eq_true rfl, Nat.le_of_ble_eq_true rfl⟩ ⟨rfl, rfl⟩ ⟨Nat.zero_le _, Nat.zero_le _⟩ rfl (Nat.le_of_ble_eq_true rfl) dX10_just_5 rfl ?_
  refine wa_iload_n cx (i := 1) dX10_just_8 rfl rfl ?_
  refine wa_iconst cx dX10_just_9 (-1 : Int32) (by decide) ?_
  refine wa_icmp_eq cx dX10_just_10 33 (by decide) (fun q28 => ?_) (fun q28 => ?_)
  · rw [if_pos q28] at h
    refine wa_sub (lv' := [(0, .ref (ad g c0)), (1, .int a1)]) (lvs_c rfl (lvs_c rfl (lvs_n))) ?_
    exact w_X10_just_J33 cx h_c0   S25  h
  · rw [if_neg q28] at h
    refine wa_aload_n cx (i := 0) dX10_just_13 rfl rfl ?_
    refine wa_iload_n cx (i := 1) dX10_just_14 rfl rfl ?_
    obtain ⟨x29, S30, e31, h⟩ := bd_some h
    refine wa_callVi cx (m_X10_isGiver l cx.2.2.2.2.2.2.1 h_c0 e31) vl_X10_181 h_c0 (by decide) rfl rfl ⟨_, cell_eq10 (kd_lt h_c0 (by decide)).2⟩ ⟨Nat.le_of_ble_eq_true rfl, Nat.le_of_ble_eq_true rfl⟩ ⟨rfl, rfl⟩ ⟨Nat.zero_le _, Nat.zero_le _⟩ rfl (Nat.le_of_ble_eq_true rfl) dX10_just_15 rfl ?_
    refine wa_if_eq cx dX10_just_18 29 (by decide) (fun q32 => ?_) (fun q32 => ?_)
    · rw [if_pos q32] at h
      refine wa_ldc2 cx dX10_just_29 (-1 : Int64) kc_X10_231 ?_
      exact wa_lret cx h dX10_just_32
    · rw [if_neg q32] at h
      refine wa_aload_n cx (i := 0) dX10_just_21 rfl rfl ?_
      refine wa_iload_n cx (i := 1) dX10_just_22 rfl rfl ?_
      obtain ⟨x33, S34, e35, h⟩ := bd_some h
      refine wa_callVi cx (m_X10_comes l cx.2.2.2.2.2.2.1 h_c0 e35) vl_X10_256 h_c0 (by decide) rfl rfl ⟨_, cell_eq10 (kd_lt h_c0 (by decide)).2⟩ ⟨Nat.le_of_ble_eq_true rfl, Nat.le_of_ble_eq_true rfl⟩ ⟨rfl, rfl⟩ ⟨Nat.zero_le _, Nat.zero_le _⟩ rfl (Nat.le_of_ble_eq_true rfl) dX10_just_23 rfl ?_
      refine wa_if_ne cx dX10_just_26 33 (by decide) (fun q36 => ?_) (fun q36 => ?_)
      · rw [if_neg q36] at h
        refine wa_sub (lv' := [(0, .ref (ad g c0)), (1, .int a1)]) (lvs_c rfl (lvs_c rfl (lvs_n))) ?_
        exact w_X10_just_J33 cx h_c0   S34  h
      · rw [if_pos q36] at h
        refine wa_ldc2 cx dX10_just_29 (-1 : Int64) kc_X10_231 ?_
        exact wa_lret cx h dX10_just_32
def rm_X10_isRest : Room := { frames := 3, cells := 0, slots := 0, locals := 64 }
def f_X10_isRest_J108 (c0 : Nat) (a1 : Int32) (a2 : Int32) (a3 : Int32) (a4 : Int32) (kb19 : Int32 → Int32 → St → Option (Int32 × St)) (l5 : Int32) (l6 : Int32) (k0 : Int32) (S : St) : Option (Int32 × St) := if l6 = a2 then kb19 l5 (l6 + (1 : Int32)) S else if k0 ≤ l5 then kb19 l5 (l6 + (1 : Int32)) S else some ((0 : Int32), S)
set_option maxHeartbeats 4000000 in
set_option maxRecDepth 100000 in
theorem w_X10_isRest_J108 {p : Program} {l : Launch} {e : Env} {s : State} {m : MethodId} {args : Array Value} {below : List Frame} {meth : Method} {c : Code} {g : Gl} {r : Int32 × St} {c0 : Nat} {a1 : Int32} {a2 : Int32} {a3 : Int32} {a4 : Int32} {kb19 : Int32 → Int32 → St → Option (Int32 × St)} (cx : Cx p s m args meth c cX10_isRest 10 (some .boolean) RX10 g (Ap g)) (h_c0 : kd g c0 = 10) (hkb19 : ∀ (l5 : Int32) (l6 : Int32) (S : St), kb19 l5 l6 S = some r → WA p l e rm_X10_isRest s m args below meth c 0 0 (MQ below (QWi g r) args s 0 0 (Ap g)) 10 g (Ap g) S 19 [(0, .ref (ad g c0)), (1, .int a1), (2, .int a2), (3, .int a3), (4, .int a4), (5, .int l5), (6, .int l6)] []) : ∀ (l5 : Int32) (l6 : Int32) (k0 : Int32) (S : St), f_X10_isRest_J108 c0 a1 a2 a3 a4 kb19 l5 l6 k0 S = some r → WA p l e rm_X10_isRest s m args below meth c 0 0 (MQ below (QWi g r) args s 0 0 (Ap g)) 10 g (Ap g) S 108 [(0, .ref (ad g c0)), (1, .int a1), (2, .int a2), (3, .int a3), (4, .int a4), (5, .int l5), (6, .int l6)] [.int k0] := by
  intro l5 l6 k0 S h
  rw [f_X10_isRest_J108] at h
  refine wa_istore cx dX10_isRest_108 [(0, .ref (ad g c0)), (1, .int a1), (2, .int a2), (3, .int a3), (4, .int a4), (5, .int l5), (6, .int l6), (9, .int k0)] (Nat.le_of_ble_eq_true rfl) rfl (lvs_c rfl (lvs_c rfl (lvs_c rfl (lvs_c rfl (lvs_c rfl (lvs_c rfl (lvs_c rfl (lvs_c rfl (lvs_n))))))))) ?_
  refine wa_iload cx dX10_isRest_110 rfl ?_
  refine wa_iload_n cx (i := 2) dX10_isRest_112 rfl rfl ?_
  refine wa_icmp_eq cx dX10_isRest_113 125 (by decide) (fun q1 => ?_) (fun q1 => ?_)
  · rw [if_pos q1] at h
    refine wa_iinc cx dX10_isRest_125 (l6 + (1 : Int32)) [(0, .ref (ad g c0)), (1, .int a1), (2, .int a2), (3, .int a3), (4, .int a4), (5, .int l5), (6, .int (l6 + (1 : Int32)))] rfl rfl (Nat.le_of_ble_eq_true rfl) rfl (lvs_c rfl (lvs_c rfl (lvs_c rfl (lvs_c rfl (lvs_c rfl (lvs_c rfl (lvs_c rfl (lvs_n)))))))) ?_
    refine wa_goto cx dX10_isRest_128 19 (by decide) ?_
    refine wa_sub (lv' := [(0, .ref (ad g c0)), (1, .int a1), (2, .int a2), (3, .int a3), (4, .int a4), (5, .int l5), (6, .int (l6 + (1 : Int32)))]) (lvs_c rfl (lvs_c rfl (lvs_c rfl (lvs_c rfl (lvs_c rfl (lvs_c rfl (lvs_c rfl (lvs_n)))))))) ?_
    exact hkb19 l5 (l6 + (1 : Int32)) S  h
  · rw [if_neg q1] at h
    refine wa_iload cx dX10_isRest_116 rfl ?_
    refine wa_iload cx dX10_isRest_118 rfl ?_
    refine wa_icmp_le cx dX10_isRest_120 125 (by decide) (fun q2 => ?_) (fun q2 => ?_)
    · rw [if_pos q2] at h
      refine wa_iinc cx dX10_isRest_125 (l6 + (1 : Int32)) [(0, .ref (ad g c0)), (1, .int a1), (2, .int a2), (3, .int a3), (4, .int a4), (5, .int l5), (6, .int (l6 + (1 : Int32)))] rfl rfl (Nat.le_of_ble_eq_true rfl) rfl (lvs_c rfl (lvs_c rfl (lvs_c rfl (lvs_c rfl (lvs_c rfl (lvs_c rfl (lvs_c rfl (lvs_n)))))))) ?_
      refine wa_goto cx dX10_isRest_128 19 (by decide) ?_
      refine wa_sub (lv' := [(0, .ref (ad g c0)), (1, .int a1), (2, .int a2), (3, .int a3), (4, .int a4), (5, .int l5), (6, .int (l6 + (1 : Int32)))]) (lvs_c rfl (lvs_c rfl (lvs_c rfl (lvs_c rfl (lvs_c rfl (lvs_c rfl (lvs_c rfl (lvs_n)))))))) ?_
      exact hkb19 l5 (l6 + (1 : Int32)) S  h
    · rw [if_neg q2] at h
      refine wa_iconst cx dX10_isRest_123 (0 : Int32) (by decide) ?_
      exact wa_zret cx (by decide) h dX10_isRest_124
def f_X10_isRest_J93 (c0 : Nat) (a1 : Int32) (a2 : Int32) (a3 : Int32) (a4 : Int32) (kb19 : Int32 → Int32 → St → Option (Int32 × St)) (l5 : Int32) (l6 : Int32) (S : St) : Option (Int32 × St) := if l6 ≤ 0 then f_X10_isRest_J108 c0 a1 a2 a3 a4 kb19 l5 l6 (0 : Int32) S else f_X10_isRest_J108 c0 a1 a2 a3 a4 kb19 l5 l6 (S.1 (c0 + 2) (Int32.toNatClampNeg (4 : Int32))) S
set_option maxHeartbeats 4000000 in
set_option maxRecDepth 100000 in
theorem w_X10_isRest_J93 {p : Program} {l : Launch} {e : Env} {s : State} {m : MethodId} {args : Array Value} {below : List Frame} {meth : Method} {c : Code} {g : Gl} {r : Int32 × St} {c0 : Nat} {a1 : Int32} {a2 : Int32} {a3 : Int32} {a4 : Int32} {kb19 : Int32 → Int32 → St → Option (Int32 × St)} (cx : Cx p s m args meth c cX10_isRest 10 (some .boolean) RX10 g (Ap g)) (h_c0 : kd g c0 = 10) (hkb19 : ∀ (l5 : Int32) (l6 : Int32) (S : St), kb19 l5 l6 S = some r → WA p l e rm_X10_isRest s m args below meth c 0 0 (MQ below (QWi g r) args s 0 0 (Ap g)) 10 g (Ap g) S 19 [(0, .ref (ad g c0)), (1, .int a1), (2, .int a2), (3, .int a3), (4, .int a4), (5, .int l5), (6, .int l6)] []) : ∀ (l5 : Int32) (l6 : Int32) (S : St), f_X10_isRest_J93 c0 a1 a2 a3 a4 kb19 l5 l6 S = some r → WA p l e rm_X10_isRest s m args below meth c 0 0 (MQ below (QWi g r) args s 0 0 (Ap g)) 10 g (Ap g) S 93 [(0, .ref (ad g c0)), (1, .int a1), (2, .int a2), (3, .int a3), (4, .int a4), (5, .int l5), (6, .int l6)] [] := by
  intro l5 l6 S h
  rw [f_X10_isRest_J93] at h
  refine wa_iload cx dX10_isRest_93 rfl ?_
  refine wa_if_le cx dX10_isRest_95 107 (by decide) (fun q3 => ?_) (fun q3 => ?_)
  · rw [if_pos q3] at h
    refine wa_iconst cx dX10_isRest_107 (0 : Int32) (by decide) ?_
    refine wa_sub (lv' := [(0, .ref (ad g c0)), (1, .int a1), (2, .int a2), (3, .int a3), (4, .int a4), (5, .int l5), (6, .int l6)]) (lvs_c rfl (lvs_c rfl (lvs_c rfl (lvs_c rfl (lvs_c rfl (lvs_c rfl (lvs_c rfl (lvs_n)))))))) ?_
    exact w_X10_isRest_J108 cx h_c0 hkb19  l5 l6 (0 : Int32) S  h
  · rw [if_neg q3] at h
    refine wa_aload_n cx (i := 0) dX10_isRest_98 rfl rfl ?_
    refine gf_X10_13 cx h_c0 dX10_isRest_99 ?_
    refine wa_iconst cx dX10_isRest_102 (4 : Int32) (by decide) ?_
    refine wa_iald cx dX10_isRest_103 (kq10_2 cx.2.2.2.2.2.2.1 h_c0) (vinl (by decide)) ?_
    refine wa_goto cx dX10_isRest_104 108 (by decide) ?_
    refine wa_sub (lv' := [(0, .ref (ad g c0)), (1, .int a1), (2, .int a2), (3, .int a3), (4, .int a4), (5, .int l5), (6, .int l6)]) (lvs_c rfl (lvs_c rfl (lvs_c rfl (lvs_c rfl (lvs_c rfl (lvs_c rfl (lvs_c rfl (lvs_n)))))))) ?_
    exact w_X10_isRest_J108 cx h_c0 hkb19  l5 l6 (S.1 (c0 + 2) (Int32.toNatClampNeg (4 : Int32))) S  h
def f_X10_isRest_J59 (c0 : Nat) (a1 : Int32) (a2 : Int32) (a3 : Int32) (a4 : Int32) (kb19 : Int32 → Int32 → St → Option (Int32 × St)) (l5 : Int32) (l6 : Int32) (l7 : Int32) (k0 : Int32) (k1 : Int32) (S : St) : Option (Int32 × St) := sq (k0 + k1) fun x4 => if l7 < (S.1 c0 19) then f_X10_isRest_J93 c0 a1 a2 a3 a4 kb19 l5 l6 S else if x4 < (S.1 (c0 + 2) (Int32.toNatClampNeg (1 : Int32))) then f_X10_isRest_J93 c0 a1 a2 a3 a4 kb19 l5 l6 S else bd (f_X10_most c0 a1 S) fun x7 S8 => f_X10_isRest_J108 c0 a1 a2 a3 a4 kb19 l5 l6 (x7 - l6) S8
set_option maxHeartbeats 4000000 in
set_option maxRecDepth 100000 in
theorem w_X10_isRest_J59 {p : Program} {l : Launch} {e : Env} {s : State} {m : MethodId} {args : Array Value} {below : List Frame} {meth : Method} {c : Code} {g : Gl} {r : Int32 × St} {c0 : Nat} {a1 : Int32} {a2 : Int32} {a3 : Int32} {a4 : Int32} {kb19 : Int32 → Int32 → St → Option (Int32 × St)} (cx : Cx p s m args meth c cX10_isRest 10 (some .boolean) RX10 g (Ap g)) (h_c0 : kd g c0 = 10) (hkb19 : ∀ (l5 : Int32) (l6 : Int32) (S : St), kb19 l5 l6 S = some r → WA p l e rm_X10_isRest s m args below meth c 0 0 (MQ below (QWi g r) args s 0 0 (Ap g)) 10 g (Ap g) S 19 [(0, .ref (ad g c0)), (1, .int a1), (2, .int a2), (3, .int a3), (4, .int a4), (5, .int l5), (6, .int l6)] []) : ∀ (l5 : Int32) (l6 : Int32) (l7 : Int32) (k0 : Int32) (k1 : Int32) (S : St), f_X10_isRest_J59 c0 a1 a2 a3 a4 kb19 l5 l6 l7 k0 k1 S = some r → WA p l e rm_X10_isRest s m args below meth c 0 0 (MQ below (QWi g r) args s 0 0 (Ap g)) 10 g (Ap g) S 59 [(0, .ref (ad g c0)), (1, .int a1), (2, .int a2), (3, .int a3), (4, .int a4), (5, .int l5), (6, .int l6), (7, .int l7)] [.int k1, .int k0] := by
  intro l5 l6 l7 k0 k1 S h
  rw [f_X10_isRest_J59] at h
  refine wa_iadd cx dX10_isRest_59 ?_
  replace h := sq_eq h
  generalize (k0 + k1) = x4 at h ⊢
  refine wa_istore cx dX10_isRest_60 [(0, .ref (ad g c0)), (1, .int a1), (2, .int a2), (3, .int a3), (4, .int a4), (5, .int l5), (6, .int l6), (7, .int l7), (8, .int x4)] (Nat.le_of_ble_eq_true rfl) rfl (lvs_c rfl (lvs_c rfl (lvs_c rfl (lvs_c rfl (lvs_c rfl (lvs_c rfl (lvs_c rfl (lvs_c rfl (lvs_c rfl (lvs_n)))))))))) ?_
  refine wa_iload cx dX10_isRest_62 rfl ?_
  refine wa_aload_n cx (i := 0) dX10_isRest_64 rfl rfl ?_
  refine gf_X10_154 cx h_c0 dX10_isRest_65 ?_
  refine wa_icmp_lt cx dX10_isRest_68 93 (by decide) (fun q5 => ?_) (fun q5 => ?_)
  · rw [if_pos q5] at h
    refine wa_sub (lv' := [(0, .ref (ad g c0)), (1, .int a1), (2, .int a2), (3, .int a3), (4, .int a4), (5, .int l5), (6, .int l6)]) (lvs_c rfl (lvs_c rfl (lvs_c rfl (lvs_c rfl (lvs_c rfl (lvs_c rfl (lvs_c rfl (lvs_n)))))))) ?_
    exact w_X10_isRest_J93 cx h_c0 hkb19  l5 l6 S  h
  · rw [if_neg q5] at h
    refine wa_iload cx dX10_isRest_71 rfl ?_
    refine wa_aload_n cx (i := 0) dX10_isRest_73 rfl rfl ?_
    refine gf_X10_13 cx h_c0 dX10_isRest_74 ?_
    refine wa_iconst cx dX10_isRest_77 (1 : Int32) (by decide) ?_
    refine wa_iald cx dX10_isRest_78 (kq10_2 cx.2.2.2.2.2.2.1 h_c0) (vinl (by decide)) ?_
    refine wa_icmp_lt cx dX10_isRest_79 93 (by decide) (fun q6 => ?_) (fun q6 => ?_)
    · rw [if_pos q6] at h
      refine wa_sub (lv' := [(0, .ref (ad g c0)), (1, .int a1), (2, .int a2), (3, .int a3), (4, .int a4), (5, .int l5), (6, .int l6)]) (lvs_c rfl (lvs_c rfl (lvs_c rfl (lvs_c rfl (lvs_c rfl (lvs_c rfl (lvs_c rfl (lvs_n)))))))) ?_
      exact w_X10_isRest_J93 cx h_c0 hkb19  l5 l6 S  h
    · rw [if_neg q6] at h
      refine wa_aload_n cx (i := 0) dX10_isRest_82 rfl rfl ?_
      refine wa_iload_n cx (i := 1) dX10_isRest_83 rfl rfl ?_
      obtain ⟨x7, S8, e9, h⟩ := bd_some h
      refine wa_callVi cx (m_X10_most l cx.2.2.2.2.2.2.1 h_c0 e9) vl_X10_253 h_c0 (by decide) rfl rfl ⟨_, cell_eq10 (kd_lt h_c0 (by decide)).2⟩ ⟨Nat.le_of_ble_eq_true rfl, Nat.le_of_ble_eq_true rfl⟩ ⟨rfl, rfl⟩ ⟨Nat.zero_le _, Nat.zero_le _⟩ rfl (Nat.le_of_ble_eq_true rfl) dX10_isRest_84 rfl ?_
      refine wa_iload cx dX10_isRest_87 rfl ?_
      refine wa_isub cx dX10_isRest_89 ?_
      refine wa_goto cx dX10_isRest_90 108 (by decide) ?_
      refine wa_sub (lv' := [(0, .ref (ad g c0)), (1, .int a1), (2, .int a2), (3, .int a3), (4, .int a4), (5, .int l5), (6, .int l6)]) (lvs_c rfl (lvs_c rfl (lvs_c rfl (lvs_c rfl (lvs_c rfl (lvs_c rfl (lvs_c rfl (lvs_n)))))))) ?_
      exact w_X10_isRest_J108 cx h_c0 hkb19  l5 l6 (x7 - l6) S8  h
def f_X10_isRest_J48 (c0 : Nat) (a1 : Int32) (a2 : Int32) (a3 : Int32) (a4 : Int32) (kb19 : Int32 → Int32 → St → Option (Int32 × St)) (l5 : Int32) (l6 : Int32) (l7 : Int32) (k0 : Int32) (k1 : Int32) (S : St) : Option (Int32 × St) := if l6 ≤ 0 then f_X10_isRest_J59 c0 a1 a2 a3 a4 kb19 l5 l6 l7 (k0 - k1) (0 : Int32) S else f_X10_isRest_J59 c0 a1 a2 a3 a4 kb19 l5 l6 l7 (k0 - k1) (1 : Int32) S
set_option maxHeartbeats 4000000 in
set_option maxRecDepth 100000 in
theorem w_X10_isRest_J48 {p : Program} {l : Launch} {e : Env} {s : State} {m : MethodId} {args : Array Value} {below : List Frame} {meth : Method} {c : Code} {g : Gl} {r : Int32 × St} {c0 : Nat} {a1 : Int32} {a2 : Int32} {a3 : Int32} {a4 : Int32} {kb19 : Int32 → Int32 → St → Option (Int32 × St)} (cx : Cx p s m args meth c cX10_isRest 10 (some .boolean) RX10 g (Ap g)) (h_c0 : kd g c0 = 10) (hkb19 : ∀ (l5 : Int32) (l6 : Int32) (S : St), kb19 l5 l6 S = some r → WA p l e rm_X10_isRest s m args below meth c 0 0 (MQ below (QWi g r) args s 0 0 (Ap g)) 10 g (Ap g) S 19 [(0, .ref (ad g c0)), (1, .int a1), (2, .int a2), (3, .int a3), (4, .int a4), (5, .int l5), (6, .int l6)] []) : ∀ (l5 : Int32) (l6 : Int32) (l7 : Int32) (k0 : Int32) (k1 : Int32) (S : St), f_X10_isRest_J48 c0 a1 a2 a3 a4 kb19 l5 l6 l7 k0 k1 S = some r → WA p l e rm_X10_isRest s m args below meth c 0 0 (MQ below (QWi g r) args s 0 0 (Ap g)) 10 g (Ap g) S 48 [(0, .ref (ad g c0)), (1, .int a1), (2, .int a2), (3, .int a3), (4, .int a4), (5, .int l5), (6, .int l6), (7, .int l7)] [.int k1, .int k0] := by
  intro l5 l6 l7 k0 k1 S h
  rw [f_X10_isRest_J48] at h
  refine wa_isub cx dX10_isRest_48 ?_
  refine wa_iload cx dX10_isRest_49 rfl ?_
  refine wa_if_le cx dX10_isRest_51 58 (by decide) (fun q10 => ?_) (fun q10 => ?_)
  · rw [if_pos q10] at h
    refine wa_iconst cx dX10_isRest_58 (0 : Int32) (by decide) ?_
    refine wa_sub (lv' := [(0, .ref (ad g c0)), (1, .int a1), (2, .int a2), (3, .int a3), (4, .int a4), (5, .int l5), (6, .int l6), (7, .int l7)]) (lvs_c rfl (lvs_c rfl (lvs_c rfl (lvs_c rfl (lvs_c rfl (lvs_c rfl (lvs_c rfl (lvs_c rfl (lvs_n))))))))) ?_
    exact w_X10_isRest_J59 cx h_c0 hkb19  l5 l6 l7 (k0 - k1) (0 : Int32) S  h
  · rw [if_neg q10] at h
    refine wa_iconst cx dX10_isRest_54 (1 : Int32) (by decide) ?_
    refine wa_goto cx dX10_isRest_55 59 (by decide) ?_
    refine wa_sub (lv' := [(0, .ref (ad g c0)), (1, .int a1), (2, .int a2), (3, .int a3), (4, .int a4), (5, .int l5), (6, .int l6), (7, .int l7)]) (lvs_c rfl (lvs_c rfl (lvs_c rfl (lvs_c rfl (lvs_c rfl (lvs_c rfl (lvs_c rfl (lvs_c rfl (lvs_n))))))))) ?_
    exact w_X10_isRest_J59 cx h_c0 hkb19  l5 l6 l7 (k0 - k1) (1 : Int32) S  h
def f_X10_isRest_L19 : Nat → Nat → Int32 → Int32 → Int32 → Int32 → Int32 → Int32 → St → Option (Int32 × St)
  | 0, _, _, _, _, _, _, _, _ => none
  | n + 1, c0, a1, a2, a3, a4, l5, l6, S => bd (f_X10_mostGift c0 a1 S) fun x11 S12 => if x11 < l6 then some ((1 : Int32), S12) else sq ((a3 - a2) + l6) fun x15 => if a2 ≤ 0 then f_X10_isRest_J48 c0 a1 a2 a3 a4 (fun l5 l6 S => f_X10_isRest_L19 n c0 a1 a2 a3 a4 l5 l6 S) l5 l6 x15 a4 (0 : Int32) S12 else f_X10_isRest_J48 c0 a1 a2 a3 a4 (fun l5 l6 S => f_X10_isRest_L19 n c0 a1 a2 a3 a4 l5 l6 S) l5 l6 x15 a4 (1 : Int32) S12
set_option maxHeartbeats 4000000 in
set_option maxRecDepth 100000 in
theorem w_X10_isRest_L19 {p : Program} {l : Launch} {e : Env} {s : State} {m : MethodId} {args : Array Value} {below : List Frame} {meth : Method} {c : Code} {g : Gl} {r : Int32 × St} {c0 : Nat} {a1 : Int32} {a2 : Int32} {a3 : Int32} {a4 : Int32} (cx : Cx p s m args meth c cX10_isRest 10 (some .boolean) RX10 g (Ap g)) (h_c0 : kd g c0 = 10) : ∀ n : Nat, ∀ (l5 : Int32) (l6 : Int32) (S : St), f_X10_isRest_L19 n c0 a1 a2 a3 a4 l5 l6 S = some r → WA p l e rm_X10_isRest s m args below meth c 0 0 (MQ below (QWi g r) args s 0 0 (Ap g)) 10 g (Ap g) S 19 [(0, .ref (ad g c0)), (1, .int a1), (2, .int a2), (3, .int a3), (4, .int a4), (5, .int l5), (6, .int l6)] [] := by
  intro n
  induction n with
  | zero => intro l5 l6 S h; rw [f_X10_isRest_L19] at h; cases h
  | succ n ih =>
    intro l5 l6 S h
    rw [f_X10_isRest_L19] at h
    refine wa_iload cx dX10_isRest_19 rfl ?_
    refine wa_aload_n cx (i := 0) dX10_isRest_21 rfl rfl ?_
    refine wa_iload_n cx (i := 1) dX10_isRest_22 rfl rfl ?_
    obtain ⟨x11, S12, e13, h⟩ := bd_some h
    refine wa_callVi cx (m_X10_mostGift l cx.2.2.2.2.2.2.1 h_c0 e13) vl_X10_259 h_c0 (by decide) rfl rfl ⟨_, cell_eq10 (kd_lt h_c0 (by decide)).2⟩ ⟨Nat.le_of_ble_eq_true rfl, Nat.le_of_ble_eq_true rfl⟩ ⟨rfl, rfl⟩ ⟨Nat.zero_le _, Nat.zero_le _⟩ rfl (Nat.le_of_ble_eq_true rfl) dX10_isRest_23 rfl ?_
    refine wa_icmp_gt cx dX10_isRest_26 131 (by decide) (fun q14 => ?_) (fun q14 => ?_)
    · rw [if_pos q14] at h
      refine wa_iconst cx dX10_isRest_131 (1 : Int32) (by decide) ?_
      exact wa_zret cx (by decide) h dX10_isRest_132
    · rw [if_neg q14] at h
      refine wa_iload_n cx (i := 3) dX10_isRest_29 rfl rfl ?_
      refine wa_iload_n cx (i := 2) dX10_isRest_30 rfl rfl ?_
      refine wa_isub cx dX10_isRest_31 ?_
      refine wa_iload cx dX10_isRest_32 rfl ?_
      refine wa_iadd cx dX10_isRest_34 ?_
      replace h := sq_eq h
      generalize ((a3 - a2) + l6) = x15 at h ⊢
      refine wa_istore cx dX10_isRest_35 [(0, .ref (ad g c0)), (1, .int a1), (2, .int a2), (3, .int a3), (4, .int a4), (5, .int l5), (6, .int l6), (7, .int x15)] (Nat.le_of_ble_eq_true rfl) rfl (lvs_c rfl (lvs_c rfl (lvs_c rfl (lvs_c rfl (lvs_c rfl (lvs_c rfl (lvs_c rfl (lvs_c rfl (lvs_n))))))))) ?_
      refine wa_iload cx dX10_isRest_37 rfl ?_
      refine wa_iload_n cx (i := 2) dX10_isRest_39 rfl rfl ?_
      refine wa_if_le cx dX10_isRest_40 47 (by decide) (fun q16 => ?_) (fun q16 => ?_)
      · rw [if_pos q16] at h
        refine wa_iconst cx dX10_isRest_47 (0 : Int32) (by decide) ?_
        refine wa_sub (lv' := [(0, .ref (ad g c0)), (1, .int a1), (2, .int a2), (3, .int a3), (4, .int a4), (5, .int l5), (6, .int l6), (7, .int x15)]) (lvs_c rfl (lvs_c rfl (lvs_c rfl (lvs_c rfl (lvs_c rfl (lvs_c rfl (lvs_c rfl (lvs_c rfl (lvs_n))))))))) ?_
        exact w_X10_isRest_J48 cx h_c0 ih  l5 l6 x15 a4 (0 : Int32) S12  h
      · rw [if_neg q16] at h
        refine wa_iconst cx dX10_isRest_43 (1 : Int32) (by decide) ?_
        refine wa_goto cx dX10_isRest_44 48 (by decide) ?_
        refine wa_sub (lv' := [(0, .ref (ad g c0)), (1, .int a1), (2, .int a2), (3, .int a3), (4, .int a4), (5, .int l5), (6, .int l6), (7, .int x15)]) (lvs_c rfl (lvs_c rfl (lvs_c rfl (lvs_c rfl (lvs_c rfl (lvs_c rfl (lvs_c rfl (lvs_c rfl (lvs_n))))))))) ?_
        exact w_X10_isRest_J48 cx h_c0 ih  l5 l6 x15 a4 (1 : Int32) S12  h
def f_X10_isRest (c0 : Nat) (a1 : Int32) (a2 : Int32) (a3 : Int32) (a4 : Int32) (S : St) : Option (Int32 × St) := if a2 ≤ 0 then f_X10_isRest_L19 FU c0 a1 a2 a3 a4 (0 : Int32) (0 : Int32) S else sq (S.1 (c0 + 2) (Int32.toNatClampNeg (4 : Int32))) fun x18 => f_X10_isRest_L19 FU c0 a1 a2 a3 a4 x18 (0 : Int32) S
set_option maxHeartbeats 4000000 in
set_option maxRecDepth 100000 in
theorem m_X10_isRest (l : Launch) {g : Gl} (hg : GOK g) {c0 : Nat} {a1 : Int32} {a2 : Int32} {a3 : Int32} {a4 : Int32} {S : St} {r : Int32 × St} (h_c0 : kd g c0 = 10) (h : f_X10_isRest c0 a1 a2 a3 a4 S = some r) : MW l yX10_isRest cX10_isRest 10 (some .boolean) rm_X10_isRest g S [.ref (ad g c0), .int a1, .int a2, .int a3, .int a4] (QWi g r) := by
  refine startW [(0, .ref (ad g c0)), (1, .int a1), (2, .int a2), (3, .int a3), (4, .int a4)] (by decide +kernel) (Nat.le_of_ble_eq_true rfl) rfl hg (fun p e s m args below meth c cx => ?_)
  have cx : Cx p s m args meth c cX10_isRest 10 (some .boolean) RX10 g (Ap g) := cx
  rw [f_X10_isRest] at h
  refine wa_iload_n cx (i := 2) dX10_isRest_0 rfl rfl ?_
  refine wa_if_le cx dX10_isRest_1 13 (by decide) (fun q17 => ?_) (fun q17 => ?_)
  · rw [if_pos q17] at h
    refine wa_iconst cx dX10_isRest_13 (0 : Int32) (by decide) ?_
    refine wa_istore cx dX10_isRest_14 [(0, .ref (ad g c0)), (1, .int a1), (2, .int a2), (3, .int a3), (4, .int a4), (5, .int (0 : Int32))] (Nat.le_of_ble_eq_true rfl) rfl (lvs_c rfl (lvs_c rfl (lvs_c rfl (lvs_c rfl (lvs_c rfl (lvs_c rfl (lvs_n))))))) ?_
    refine wa_iconst cx dX10_isRest_16 (0 : Int32) (by decide) ?_
    refine wa_istore cx dX10_isRest_17 [(0, .ref (ad g c0)), (1, .int a1), (2, .int a2), (3, .int a3), (4, .int a4), (5, .int (0 : Int32)), (6, .int (0 : Int32))] (Nat.le_of_ble_eq_true rfl) rfl (lvs_c rfl (lvs_c rfl (lvs_c rfl (lvs_c rfl (lvs_c rfl (lvs_c rfl (lvs_c rfl (lvs_n)))))))) ?_
    refine wa_sub (lv' := [(0, .ref (ad g c0)), (1, .int a1), (2, .int a2), (3, .int a3), (4, .int a4), (5, .int (0 : Int32)), (6, .int (0 : Int32))]) (lvs_c rfl (lvs_c rfl (lvs_c rfl (lvs_c rfl (lvs_c rfl (lvs_c rfl (lvs_c rfl (lvs_n)))))))) ?_
    exact w_X10_isRest_L19 cx h_c0  FU (0 : Int32) (0 : Int32) S  h
  · rw [if_neg q17] at h
    refine wa_aload_n cx (i := 0) dX10_isRest_4 rfl rfl ?_
    refine gf_X10_13 cx h_c0 dX10_isRest_5 ?_
    refine wa_iconst cx dX10_isRest_8 (4 : Int32) (by decide) ?_
    refine wa_iald cx dX10_isRest_9 (kq10_2 cx.2.2.2.2.2.2.1 h_c0) (vinl (by decide)) ?_
    refine wa_goto cx dX10_isRest_10 14 (by decide) ?_
    replace h := sq_eq h
    generalize (S.1 (c0 + 2) (Int32.toNatClampNeg (4 : Int32))) = x18 at h ⊢
    refine wa_istore cx dX10_isRest_14 [(0, .ref (ad g c0)), (1, .int a1), (2, .int a2), (3, .int a3), (4, .int a4), (5, .int x18)] (Nat.le_of_ble_eq_true rfl) rfl (lvs_c rfl (lvs_c rfl (lvs_c rfl (lvs_c rfl (lvs_c rfl (lvs_c rfl (lvs_n))))))) ?_
    refine wa_iconst cx dX10_isRest_16 (0 : Int32) (by decide) ?_
    refine wa_istore cx dX10_isRest_17 [(0, .ref (ad g c0)), (1, .int a1), (2, .int a2), (3, .int a3), (4, .int a4), (5, .int x18), (6, .int (0 : Int32))] (Nat.le_of_ble_eq_true rfl) rfl (lvs_c rfl (lvs_c rfl (lvs_c rfl (lvs_c rfl (lvs_c rfl (lvs_c rfl (lvs_c rfl (lvs_n)))))))) ?_
    refine wa_sub (lv' := [(0, .ref (ad g c0)), (1, .int a1), (2, .int a2), (3, .int a3), (4, .int a4), (5, .int x18), (6, .int (0 : Int32))]) (lvs_c rfl (lvs_c rfl (lvs_c rfl (lvs_c rfl (lvs_c rfl (lvs_c rfl (lvs_c rfl (lvs_n)))))))) ?_
    exact w_X10_isRest_L19 cx h_c0  FU x18 (0 : Int32) S  h
def rm_X10_restsOf : Room := { frames := 4, cells := 0, slots := 0, locals := 93 }
def f_X10_restsOf_L208 : Nat → Nat → Int32 → Int32 → (Int32 → St → Option (Int64 × St)) → Int32 → Int32 → St → Option (Int64 × St)
  | 0, _, _, _, _, _, _, _ => none
  | n + 1, c0, a1, a2, kb32, l3, l4, S => if (900 : Int32) ≤ l4 then kb32 (l3 + (1 : Int32)) S else ob l4 900 (ob l4 900 (sq (pJ S (c0 + 24) (Int32.toNatClampNeg l4) (S.2.1 (c0 + 25) (Int32.toNatClampNeg l4))) fun S4 => f_X10_restsOf_L208 n c0 a1 a2 kb32 l3 (l4 + (1 : Int32)) S4))
set_option maxHeartbeats 4000000 in
set_option maxRecDepth 100000 in
theorem w_X10_restsOf_L208 {p : Program} {l : Launch} {e : Env} {s : State} {m : MethodId} {args : Array Value} {below : List Frame} {meth : Method} {c : Code} {g : Gl} {r : Int64 × St} {c0 : Nat} {a1 : Int32} {a2 : Int32} {kb32 : Int32 → St → Option (Int64 × St)} (cx : Cx p s m args meth c cX10_restsOf 9 (some .long) RX10 g (Ap g)) (h_c0 : kd g c0 = 10) (hkb32 : ∀ (l3 : Int32) (S : St), kb32 l3 S = some r → WA p l e rm_X10_restsOf s m args below meth c 0 0 (MQ below (QWl g r) args s 0 0 (Ap g)) 9 g (Ap g) S 32 [(0, .ref (ad g c0)), (1, .int a1), (2, .int a2), (3, .int l3)] []) : ∀ n : Nat, ∀ (l3 : Int32) (l4 : Int32) (S : St), f_X10_restsOf_L208 n c0 a1 a2 kb32 l3 l4 S = some r → WA p l e rm_X10_restsOf s m args below meth c 0 0 (MQ below (QWl g r) args s 0 0 (Ap g)) 9 g (Ap g) S 208 [(0, .ref (ad g c0)), (1, .int a1), (2, .int a2), (3, .int l3), (4, .int l4)] [] := by
  intro n
  induction n with
  | zero => intro l3 l4 S h; rw [f_X10_restsOf_L208] at h; cases h
  | succ n ih =>
    intro l3 l4 S h
    rw [f_X10_restsOf_L208] at h
    refine wa_iload cx dX10_restsOf_208 rfl ?_
    refine wa_sipush cx dX10_restsOf_210 (900 : Int32) (by decide) ?_
    refine wa_icmp_ge cx dX10_restsOf_213 236 (by decide) (fun q1 => ?_) (fun q1 => ?_)
    · rw [if_pos q1] at h
      refine wa_iinc cx dX10_restsOf_236 (l3 + (1 : Int32)) [(0, .ref (ad g c0)), (1, .int a1), (2, .int a2), (3, .int (l3 + (1 : Int32)))] rfl rfl (Nat.le_of_ble_eq_true rfl) rfl (lvs_c rfl (lvs_c rfl (lvs_c rfl (lvs_c rfl (lvs_n))))) ?_
      refine wa_goto cx dX10_restsOf_239 32 (by decide) ?_
      refine wa_sub (lv' := [(0, .ref (ad g c0)), (1, .int a1), (2, .int a2), (3, .int (l3 + (1 : Int32)))]) (lvs_c rfl (lvs_c rfl (lvs_c rfl (lvs_c rfl (lvs_n))))) ?_
      exact hkb32 (l3 + (1 : Int32)) S  h
    · rw [if_neg q1] at h
      refine wa_aload_n cx (i := 0) dX10_restsOf_216 rfl rfl ?_
      refine gf_X10_80 cx h_c0 dX10_restsOf_217 ?_
      refine wa_iload cx dX10_restsOf_220 rfl ?_
      refine wa_aload_n cx (i := 0) dX10_restsOf_222 rfl rfl ?_
      refine gf_X10_83 cx h_c0 dX10_restsOf_223 ?_
      refine wa_iload cx dX10_restsOf_226 rfl ?_
      obtain ⟨b2, h⟩ := ob_some h
      refine wa_lald cx dX10_restsOf_228 (kq10_38 cx.2.2.2.2.2.2.1 h_c0) b2 ?_
      obtain ⟨b3, h⟩ := ob_some h
      refine wa_last cx dX10_restsOf_229 (kq10_37 cx.2.2.2.2.2.2.1 h_c0) b3 ?_
      replace h := sq_eq h
      generalize (pJ S (c0 + 24) (Int32.toNatClampNeg l4) (S.2.1 (c0 + 25) (Int32.toNatClampNeg l4))) = S4 at h ⊢
      refine wa_iinc cx dX10_restsOf_230 (l4 + (1 : Int32)) [(0, .ref (ad g c0)), (1, .int a1), (2, .int a2), (3, .int l3), (4, .int (l4 + (1 : Int32)))] rfl rfl (Nat.le_of_ble_eq_true rfl) rfl (lvs_c rfl (lvs_c rfl (lvs_c rfl (lvs_c rfl (lvs_c rfl (lvs_n)))))) ?_
      refine wa_goto cx dX10_restsOf_233 208 (by decide) ?_
      refine wa_sub (lv' := [(0, .ref (ad g c0)), (1, .int a1), (2, .int a2), (3, .int l3), (4, .int (l4 + (1 : Int32)))]) (lvs_c rfl (lvs_c rfl (lvs_c rfl (lvs_c rfl (lvs_c rfl (lvs_n)))))) ?_
      exact ih l3 (l4 + (1 : Int32)) S4  h
def f_X10_restsOf_L143 : Nat → Nat → Int32 → Int32 → (Int32 → St → Option (Int64 × St)) → (Int32 → Int32 → St → Option (Int64 × St)) → (Int32 → Int32 → Int32 → Int32 → Int32 → St → Option (Int64 × St)) → Int32 → Int32 → Int32 → Int32 → Int32 → Int32 → St → Option (Int64 × St)
  | 0, _, _, _, _, _, _, _, _, _, _, _, _, _ => none
  | n + 1, c0, a1, a2, kb32, kb68, kb126, l3, l4, l5, l6, l7, l8, S => if a2 < (l8 + l6) then kb126 l3 l4 l5 l6 (l7 + (1 : Int32)) S else ob ((((9 : Int32) * (l7 + l4)) + l8) + l6) 900 (ob (((9 : Int32) * l7) + l8) 900 (ob ((((9 : Int32) * (l7 + l4)) + l8) + l6) 900 (sq (pJ S (c0 + 25) (Int32.toNatClampNeg ((((9 : Int32) * (l7 + l4)) + l8) + l6)) ((S.2.1 (c0 + 25) (Int32.toNatClampNeg ((((9 : Int32) * (l7 + l4)) + l8) + l6))) + (S.2.1 (c0 + 24) (Int32.toNatClampNeg (((9 : Int32) * l7) + l8))))) fun S9 => f_X10_restsOf_L143 n c0 a1 a2 kb32 kb68 kb126 l3 l4 l5 l6 l7 (l8 + (1 : Int32)) S9)))
set_option maxHeartbeats 4000000 in
set_option maxRecDepth 100000 in
theorem w_X10_restsOf_L143 {p : Program} {l : Launch} {e : Env} {s : State} {m : MethodId} {args : Array Value} {below : List Frame} {meth : Method} {c : Code} {g : Gl} {r : Int64 × St} {c0 : Nat} {a1 : Int32} {a2 : Int32} {kb32 : Int32 → St → Option (Int64 × St)} {kb68 : Int32 → Int32 → St → Option (Int64 × St)} {kb126 : Int32 → Int32 → Int32 → Int32 → Int32 → St → Option (Int64 × St)} (cx : Cx p s m args meth c cX10_restsOf 9 (some .long) RX10 g (Ap g)) (h_c0 : kd g c0 = 10) (hkb32 : ∀ (l3 : Int32) (S : St), kb32 l3 S = some r → WA p l e rm_X10_restsOf s m args below meth c 0 0 (MQ below (QWl g r) args s 0 0 (Ap g)) 9 g (Ap g) S 32 [(0, .ref (ad g c0)), (1, .int a1), (2, .int a2), (3, .int l3)] []) (hkb68 : ∀ (l3 : Int32) (l4 : Int32) (S : St), kb68 l3 l4 S = some r → WA p l e rm_X10_restsOf s m args below meth c 0 0 (MQ below (QWl g r) args s 0 0 (Ap g)) 9 g (Ap g) S 68 [(0, .ref (ad g c0)), (1, .int a1), (2, .int a2), (3, .int l3), (4, .int l4)] []) (hkb126 : ∀ (l3 : Int32) (l4 : Int32) (l5 : Int32) (l6 : Int32) (l7 : Int32) (S : St), kb126 l3 l4 l5 l6 l7 S = some r → WA p l e rm_X10_restsOf s m args below meth c 0 0 (MQ below (QWl g r) args s 0 0 (Ap g)) 9 g (Ap g) S 126 [(0, .ref (ad g c0)), (1, .int a1), (2, .int a2), (3, .int l3), (4, .int l4), (5, .int l5), (6, .int l6), (7, .int l7)] []) : ∀ n : Nat, ∀ (l3 : Int32) (l4 : Int32) (l5 : Int32) (l6 : Int32) (l7 : Int32) (l8 : Int32) (S : St), f_X10_restsOf_L143 n c0 a1 a2 kb32 kb68 kb126 l3 l4 l5 l6 l7 l8 S = some r → WA p l e rm_X10_restsOf s m args below meth c 0 0 (MQ below (QWl g r) args s 0 0 (Ap g)) 9 g (Ap g) S 143 [(0, .ref (ad g c0)), (1, .int a1), (2, .int a2), (3, .int l3), (4, .int l4), (5, .int l5), (6, .int l6), (7, .int l7), (8, .int l8)] [] := by
  intro n
  induction n with
  | zero => intro l3 l4 l5 l6 l7 l8 S h; rw [f_X10_restsOf_L143] at h; cases h
  | succ n ih =>
    intro l3 l4 l5 l6 l7 l8 S h
    rw [f_X10_restsOf_L143] at h
    refine wa_iload cx dX10_restsOf_143 rfl ?_
    refine wa_iload cx dX10_restsOf_145 rfl ?_
    refine wa_iadd cx dX10_restsOf_147 ?_
    refine wa_iload_n cx (i := 2) dX10_restsOf_148 rfl rfl ?_
    refine wa_icmp_gt cx dX10_restsOf_149 193 (by decide) (fun q5 => ?_) (fun q5 => ?_)
    · rw [if_pos q5] at h
      refine wa_iinc cx dX10_restsOf_193 (l7 + (1 : Int32)) [(0, .ref (ad g c0)), (1, .int a1), (2, .int a2), (3, .int l3), (4, .int l4), (5, .int l5), (6, .int l6), (7, .int (l7 + (1 : Int32)))] rfl rfl (Nat.le_of_ble_eq_true rfl) rfl (lvs_c rfl (lvs_c rfl (lvs_c rfl (lvs_c rfl (lvs_c rfl (lvs_c rfl (lvs_c rfl (lvs_c rfl (lvs_n))))))))) ?_
      refine wa_goto cx dX10_restsOf_196 126 (by decide) ?_
      refine wa_sub (lv' := [(0, .ref (ad g c0)), (1, .int a1), (2, .int a2), (3, .int l3), (4, .int l4), (5, .int l5), (6, .int l6), (7, .int (l7 + (1 : Int32)))]) (lvs_c rfl (lvs_c rfl (lvs_c rfl (lvs_c rfl (lvs_c rfl (lvs_c rfl (lvs_c rfl (lvs_c rfl (lvs_n))))))))) ?_
      exact hkb126 l3 l4 l5 l6 (l7 + (1 : Int32)) S  h
    · rw [if_neg q5] at h
      refine wa_aload_n cx (i := 0) dX10_restsOf_152 rfl rfl ?_
      refine gf_X10_83 cx h_c0 dX10_restsOf_153 ?_
      refine wa_bipush cx dX10_restsOf_156 (9 : Int32) (by decide) ?_
      refine wa_iload cx dX10_restsOf_158 rfl ?_
      refine wa_iload cx dX10_restsOf_160 rfl ?_
      refine wa_iadd cx dX10_restsOf_162 ?_
      refine wa_imul cx dX10_restsOf_163 ?_
      refine wa_iload cx dX10_restsOf_164 rfl ?_
      refine wa_iadd cx dX10_restsOf_166 ?_
      refine wa_iload cx dX10_restsOf_167 rfl ?_
      refine wa_iadd cx dX10_restsOf_169 ?_
      refine wa_dup2 cx dX10_restsOf_170 rfl rfl ?_
      obtain ⟨b6, h⟩ := ob_some h
      refine wa_lald cx dX10_restsOf_171 (kq10_38 cx.2.2.2.2.2.2.1 h_c0) b6 ?_
      refine wa_aload_n cx (i := 0) dX10_restsOf_172 rfl rfl ?_
      refine gf_X10_80 cx h_c0 dX10_restsOf_173 ?_
      refine wa_bipush cx dX10_restsOf_176 (9 : Int32) (by decide) ?_
      refine wa_iload cx dX10_restsOf_178 rfl ?_
      refine wa_imul cx dX10_restsOf_180 ?_
      refine wa_iload cx dX10_restsOf_181 rfl ?_
      refine wa_iadd cx dX10_restsOf_183 ?_
      obtain ⟨b7, h⟩ := ob_some h
      refine wa_lald cx dX10_restsOf_184 (kq10_37 cx.2.2.2.2.2.2.1 h_c0) b7 ?_
      refine wa_ladd cx dX10_restsOf_185 ?_
      obtain ⟨b8, h⟩ := ob_some h
      refine wa_last cx dX10_restsOf_186 (kq10_38 cx.2.2.2.2.2.2.1 h_c0) b8 ?_
      replace h := sq_eq h
      generalize (pJ S (c0 + 25) (Int32.toNatClampNeg ((((9 : Int32) * (l7 + l4)) + l8) + l6)) ((S.2.1 (c0 + 25) (Int32.toNatClampNeg ((((9 : Int32) * (l7 + l4)) + l8) + l6))) + (S.2.1 (c0 + 24) (Int32.toNatClampNeg (((9 : Int32) * l7) + l8))))) = S9 at h ⊢
      refine wa_iinc cx dX10_restsOf_187 (l8 + (1 : Int32)) [(0, .ref (ad g c0)), (1, .int a1), (2, .int a2), (3, .int l3), (4, .int l4), (5, .int l5), (6, .int l6), (7, .int l7), (8, .int (l8 + (1 : Int32)))] rfl rfl (Nat.le_of_ble_eq_true rfl) rfl (lvs_c rfl (lvs_c rfl (lvs_c rfl (lvs_c rfl (lvs_c rfl (lvs_c rfl (lvs_c rfl (lvs_c rfl (lvs_c rfl (lvs_n)))))))))) ?_
      refine wa_goto cx dX10_restsOf_190 143 (by decide) ?_
      refine wa_sub (lv' := [(0, .ref (ad g c0)), (1, .int a1), (2, .int a2), (3, .int l3), (4, .int l4), (5, .int l5), (6, .int l6), (7, .int l7), (8, .int (l8 + (1 : Int32)))]) (lvs_c rfl (lvs_c rfl (lvs_c rfl (lvs_c rfl (lvs_c rfl (lvs_c rfl (lvs_c rfl (lvs_c rfl (lvs_c rfl (lvs_n)))))))))) ?_
      exact ih l3 l4 l5 l6 l7 (l8 + (1 : Int32)) S9  h
def f_X10_restsOf_L126 : Nat → Nat → Int32 → Int32 → (Int32 → St → Option (Int64 × St)) → (Int32 → Int32 → St → Option (Int64 × St)) → Int32 → Int32 → Int32 → Int32 → Int32 → St → Option (Int64 × St)
  | 0, _, _, _, _, _, _, _, _, _, _, _ => none
  | n + 1, c0, a1, a2, kb32, kb68, l3, l4, l5, l6, l7, S => if a1 < (l7 + l4) then kb68 l3 (l4 + (1 : Int32)) S else if l5 = 0 then kb68 l3 (l4 + (1 : Int32)) S else f_X10_restsOf_L143 FU c0 a1 a2 kb32 kb68 (fun l3 l4 l5 l6 l7 S => f_X10_restsOf_L126 n c0 a1 a2 kb32 kb68 l3 l4 l5 l6 l7 S) l3 l4 l5 l6 l7 (0 : Int32) S
set_option maxHeartbeats 4000000 in
set_option maxRecDepth 100000 in
theorem w_X10_restsOf_L126 {p : Program} {l : Launch} {e : Env} {s : State} {m : MethodId} {args : Array Value} {below : List Frame} {meth : Method} {c : Code} {g : Gl} {r : Int64 × St} {c0 : Nat} {a1 : Int32} {a2 : Int32} {kb32 : Int32 → St → Option (Int64 × St)} {kb68 : Int32 → Int32 → St → Option (Int64 × St)} (cx : Cx p s m args meth c cX10_restsOf 9 (some .long) RX10 g (Ap g)) (h_c0 : kd g c0 = 10) (hkb32 : ∀ (l3 : Int32) (S : St), kb32 l3 S = some r → WA p l e rm_X10_restsOf s m args below meth c 0 0 (MQ below (QWl g r) args s 0 0 (Ap g)) 9 g (Ap g) S 32 [(0, .ref (ad g c0)), (1, .int a1), (2, .int a2), (3, .int l3)] []) (hkb68 : ∀ (l3 : Int32) (l4 : Int32) (S : St), kb68 l3 l4 S = some r → WA p l e rm_X10_restsOf s m args below meth c 0 0 (MQ below (QWl g r) args s 0 0 (Ap g)) 9 g (Ap g) S 68 [(0, .ref (ad g c0)), (1, .int a1), (2, .int a2), (3, .int l3), (4, .int l4)] []) : ∀ n : Nat, ∀ (l3 : Int32) (l4 : Int32) (l5 : Int32) (l6 : Int32) (l7 : Int32) (S : St), f_X10_restsOf_L126 n c0 a1 a2 kb32 kb68 l3 l4 l5 l6 l7 S = some r → WA p l e rm_X10_restsOf s m args below meth c 0 0 (MQ below (QWl g r) args s 0 0 (Ap g)) 9 g (Ap g) S 126 [(0, .ref (ad g c0)), (1, .int a1), (2, .int a2), (3, .int l3), (4, .int l4), (5, .int l5), (6, .int l6), (7, .int l7)] [] := by
  intro n
  induction n with
  | zero => intro l3 l4 l5 l6 l7 S h; rw [f_X10_restsOf_L126] at h; cases h
  | succ n ih =>
    intro l3 l4 l5 l6 l7 S h
    rw [f_X10_restsOf_L126] at h
    refine wa_iload cx dX10_restsOf_126 rfl ?_
    refine wa_iload cx dX10_restsOf_128 rfl ?_
    refine wa_iadd cx dX10_restsOf_130 ?_
    refine wa_iload_n cx (i := 1) dX10_restsOf_131 rfl rfl ?_
    refine wa_icmp_gt cx dX10_restsOf_132 199 (by decide) (fun q10 => ?_) (fun q10 => ?_)
    · rw [if_pos q10] at h
      refine wa_iinc cx dX10_restsOf_199 (l4 + (1 : Int32)) [(0, .ref (ad g c0)), (1, .int a1), (2, .int a2), (3, .int l3), (4, .int (l4 + (1 : Int32)))] rfl rfl (Nat.le_of_ble_eq_true rfl) rfl (lvs_c rfl (lvs_c rfl (lvs_c rfl (lvs_c rfl (lvs_c rfl (lvs_n)))))) ?_
      refine wa_goto cx dX10_restsOf_202 68 (by decide) ?_
      refine wa_sub (lv' := [(0, .ref (ad g c0)), (1, .int a1), (2, .int a2), (3, .int l3), (4, .int (l4 + (1 : Int32)))]) (lvs_c rfl (lvs_c rfl (lvs_c rfl (lvs_c rfl (lvs_c rfl (lvs_n)))))) ?_
      exact hkb68 l3 (l4 + (1 : Int32)) S  h
    · rw [if_neg q10] at h
      refine wa_iload cx dX10_restsOf_135 rfl ?_
      refine wa_if_eq cx dX10_restsOf_137 199 (by decide) (fun q11 => ?_) (fun q11 => ?_)
      · rw [if_pos q11] at h
        refine wa_iinc cx dX10_restsOf_199 (l4 + (1 : Int32)) [(0, .ref (ad g c0)), (1, .int a1), (2, .int a2), (3, .int l3), (4, .int (l4 + (1 : Int32)))] rfl rfl (Nat.le_of_ble_eq_true rfl) rfl (lvs_c rfl (lvs_c rfl (lvs_c rfl (lvs_c rfl (lvs_c rfl (lvs_n)))))) ?_
        refine wa_goto cx dX10_restsOf_202 68 (by decide) ?_
        refine wa_sub (lv' := [(0, .ref (ad g c0)), (1, .int a1), (2, .int a2), (3, .int l3), (4, .int (l4 + (1 : Int32)))]) (lvs_c rfl (lvs_c rfl (lvs_c rfl (lvs_c rfl (lvs_c rfl (lvs_n)))))) ?_
        exact hkb68 l3 (l4 + (1 : Int32)) S  h
      · rw [if_neg q11] at h
        refine wa_iconst cx dX10_restsOf_140 (0 : Int32) (by decide) ?_
        refine wa_istore cx dX10_restsOf_141 [(0, .ref (ad g c0)), (1, .int a1), (2, .int a2), (3, .int l3), (4, .int l4), (5, .int l5), (6, .int l6), (7, .int l7), (8, .int (0 : Int32))] (Nat.le_of_ble_eq_true rfl) rfl (lvs_c rfl (lvs_c rfl (lvs_c rfl (lvs_c rfl (lvs_c rfl (lvs_c rfl (lvs_c rfl (lvs_c rfl (lvs_c rfl (lvs_n)))))))))) ?_
        refine wa_sub (lv' := [(0, .ref (ad g c0)), (1, .int a1), (2, .int a2), (3, .int l3), (4, .int l4), (5, .int l5), (6, .int l6), (7, .int l7), (8, .int (0 : Int32))]) (lvs_c rfl (lvs_c rfl (lvs_c rfl (lvs_c rfl (lvs_c rfl (lvs_c rfl (lvs_c rfl (lvs_c rfl (lvs_c rfl (lvs_n)))))))))) ?_
        exact w_X10_restsOf_L143 cx h_c0 hkb32 hkb68 ih FU l3 l4 l5 l6 l7 (0 : Int32) S  h
def f_X10_restsOf_J109 (c0 : Nat) (a1 : Int32) (a2 : Int32) (kb32 : Int32 → St → Option (Int64 × St)) (kb68 : Int32 → Int32 → St → Option (Int64 × St)) (l3 : Int32) (l4 : Int32) (k0 : Int32) (S : St) : Option (Int64 × St) := if l4 ≤ 0 then f_X10_restsOf_L126 FU c0 a1 a2 kb32 kb68 l3 l4 k0 (0 : Int32) (0 : Int32) S else f_X10_restsOf_L126 FU c0 a1 a2 kb32 kb68 l3 l4 k0 (1 : Int32) (0 : Int32) S
set_option maxHeartbeats 4000000 in
set_option maxRecDepth 100000 in
theorem w_X10_restsOf_J109 {p : Program} {l : Launch} {e : Env} {s : State} {m : MethodId} {args : Array Value} {below : List Frame} {meth : Method} {c : Code} {g : Gl} {r : Int64 × St} {c0 : Nat} {a1 : Int32} {a2 : Int32} {kb32 : Int32 → St → Option (Int64 × St)} {kb68 : Int32 → Int32 → St → Option (Int64 × St)} (cx : Cx p s m args meth c cX10_restsOf 9 (some .long) RX10 g (Ap g)) (h_c0 : kd g c0 = 10) (hkb32 : ∀ (l3 : Int32) (S : St), kb32 l3 S = some r → WA p l e rm_X10_restsOf s m args below meth c 0 0 (MQ below (QWl g r) args s 0 0 (Ap g)) 9 g (Ap g) S 32 [(0, .ref (ad g c0)), (1, .int a1), (2, .int a2), (3, .int l3)] []) (hkb68 : ∀ (l3 : Int32) (l4 : Int32) (S : St), kb68 l3 l4 S = some r → WA p l e rm_X10_restsOf s m args below meth c 0 0 (MQ below (QWl g r) args s 0 0 (Ap g)) 9 g (Ap g) S 68 [(0, .ref (ad g c0)), (1, .int a1), (2, .int a2), (3, .int l3), (4, .int l4)] []) : ∀ (l3 : Int32) (l4 : Int32) (k0 : Int32) (S : St), f_X10_restsOf_J109 c0 a1 a2 kb32 kb68 l3 l4 k0 S = some r → WA p l e rm_X10_restsOf s m args below meth c 0 0 (MQ below (QWl g r) args s 0 0 (Ap g)) 9 g (Ap g) S 109 [(0, .ref (ad g c0)), (1, .int a1), (2, .int a2), (3, .int l3), (4, .int l4)] [.int k0] := by
  intro l3 l4 k0 S h
  rw [f_X10_restsOf_J109] at h
  refine wa_istore cx dX10_restsOf_109 [(0, .ref (ad g c0)), (1, .int a1), (2, .int a2), (3, .int l3), (4, .int l4), (5, .int k0)] (Nat.le_of_ble_eq_true rfl) rfl (lvs_c rfl (lvs_c rfl (lvs_c rfl (lvs_c rfl (lvs_c rfl (lvs_c rfl (lvs_n))))))) ?_
  refine wa_iload cx dX10_restsOf_111 rfl ?_
  refine wa_if_le cx dX10_restsOf_113 120 (by decide) (fun q12 => ?_) (fun q12 => ?_)
  · rw [if_pos q12] at h
    refine wa_iconst cx dX10_restsOf_120 (0 : Int32) (by decide) ?_
    refine wa_istore cx dX10_restsOf_121 [(0, .ref (ad g c0)), (1, .int a1), (2, .int a2), (3, .int l3), (4, .int l4), (5, .int k0), (6, .int (0 : Int32))] (Nat.le_of_ble_eq_true rfl) rfl (lvs_c rfl (lvs_c rfl (lvs_c rfl (lvs_c rfl (lvs_c rfl (lvs_c rfl (lvs_c rfl (lvs_n)))))))) ?_
    refine wa_iconst cx dX10_restsOf_123 (0 : Int32) (by decide) ?_
    refine wa_istore cx dX10_restsOf_124 [(0, .ref (ad g c0)), (1, .int a1), (2, .int a2), (3, .int l3), (4, .int l4), (5, .int k0), (6, .int (0 : Int32)), (7, .int (0 : Int32))] (Nat.le_of_ble_eq_true rfl) rfl (lvs_c rfl (lvs_c rfl (lvs_c rfl (lvs_c rfl (lvs_c rfl (lvs_c rfl (lvs_c rfl (lvs_c rfl (lvs_n))))))))) ?_
    refine wa_sub (lv' := [(0, .ref (ad g c0)), (1, .int a1), (2, .int a2), (3, .int l3), (4, .int l4), (5, .int k0), (6, .int (0 : Int32)), (7, .int (0 : Int32))]) (lvs_c rfl (lvs_c rfl (lvs_c rfl (lvs_c rfl (lvs_c rfl (lvs_c rfl (lvs_c rfl (lvs_c rfl (lvs_n))))))))) ?_
    exact w_X10_restsOf_L126 cx h_c0 hkb32 hkb68 FU l3 l4 k0 (0 : Int32) (0 : Int32) S  h
  · rw [if_neg q12] at h
    refine wa_iconst cx dX10_restsOf_116 (1 : Int32) (by decide) ?_
    refine wa_goto cx dX10_restsOf_117 121 (by decide) ?_
    refine wa_istore cx dX10_restsOf_121 [(0, .ref (ad g c0)), (1, .int a1), (2, .int a2), (3, .int l3), (4, .int l4), (5, .int k0), (6, .int (1 : Int32))] (Nat.le_of_ble_eq_true rfl) rfl (lvs_c rfl (lvs_c rfl (lvs_c rfl (lvs_c rfl (lvs_c rfl (lvs_c rfl (lvs_c rfl (lvs_n)))))))) ?_
    refine wa_iconst cx dX10_restsOf_123 (0 : Int32) (by decide) ?_
    refine wa_istore cx dX10_restsOf_124 [(0, .ref (ad g c0)), (1, .int a1), (2, .int a2), (3, .int l3), (4, .int l4), (5, .int k0), (6, .int (1 : Int32)), (7, .int (0 : Int32))] (Nat.le_of_ble_eq_true rfl) rfl (lvs_c rfl (lvs_c rfl (lvs_c rfl (lvs_c rfl (lvs_c rfl (lvs_c rfl (lvs_c rfl (lvs_c rfl (lvs_n))))))))) ?_
    refine wa_sub (lv' := [(0, .ref (ad g c0)), (1, .int a1), (2, .int a2), (3, .int l3), (4, .int l4), (5, .int k0), (6, .int (1 : Int32)), (7, .int (0 : Int32))]) (lvs_c rfl (lvs_c rfl (lvs_c rfl (lvs_c rfl (lvs_c rfl (lvs_c rfl (lvs_c rfl (lvs_c rfl (lvs_n))))))))) ?_
    exact w_X10_restsOf_L126 cx h_c0 hkb32 hkb68 FU l3 l4 k0 (1 : Int32) (0 : Int32) S  h
def f_X10_restsOf_J104 (c0 : Nat) (a1 : Int32) (a2 : Int32) (kb32 : Int32 → St → Option (Int64 × St)) (kb68 : Int32 → Int32 → St → Option (Int64 × St)) (l3 : Int32) (l4 : Int32) (S : St) : Option (Int64 × St) := f_X10_restsOf_J109 c0 a1 a2 kb32 kb68 l3 l4 (1 : Int32) S
set_option maxHeartbeats 4000000 in
set_option maxRecDepth 100000 in
theorem w_X10_restsOf_J104 {p : Program} {l : Launch} {e : Env} {s : State} {m : MethodId} {args : Array Value} {below : List Frame} {meth : Method} {c : Code} {g : Gl} {r : Int64 × St} {c0 : Nat} {a1 : Int32} {a2 : Int32} {kb32 : Int32 → St → Option (Int64 × St)} {kb68 : Int32 → Int32 → St → Option (Int64 × St)} (cx : Cx p s m args meth c cX10_restsOf 9 (some .long) RX10 g (Ap g)) (h_c0 : kd g c0 = 10) (hkb32 : ∀ (l3 : Int32) (S : St), kb32 l3 S = some r → WA p l e rm_X10_restsOf s m args below meth c 0 0 (MQ below (QWl g r) args s 0 0 (Ap g)) 9 g (Ap g) S 32 [(0, .ref (ad g c0)), (1, .int a1), (2, .int a2), (3, .int l3)] []) (hkb68 : ∀ (l3 : Int32) (l4 : Int32) (S : St), kb68 l3 l4 S = some r → WA p l e rm_X10_restsOf s m args below meth c 0 0 (MQ below (QWl g r) args s 0 0 (Ap g)) 9 g (Ap g) S 68 [(0, .ref (ad g c0)), (1, .int a1), (2, .int a2), (3, .int l3), (4, .int l4)] []) : ∀ (l3 : Int32) (l4 : Int32) (S : St), f_X10_restsOf_J104 c0 a1 a2 kb32 kb68 l3 l4 S = some r → WA p l e rm_X10_restsOf s m args below meth c 0 0 (MQ below (QWl g r) args s 0 0 (Ap g)) 9 g (Ap g) S 104 [(0, .ref (ad g c0)), (1, .int a1), (2, .int a2), (3, .int l3), (4, .int l4)] [] := by
  intro l3 l4 S h
  rw [f_X10_restsOf_J104] at h
  refine wa_iconst cx dX10_restsOf_104 (1 : Int32) (by decide) ?_
  refine wa_goto cx dX10_restsOf_105 109 (by decide) ?_
  refine wa_sub (lv' := [(0, .ref (ad g c0)), (1, .int a1), (2, .int a2), (3, .int l3), (4, .int l4)]) (lvs_c rfl (lvs_c rfl (lvs_c rfl (lvs_c rfl (lvs_c rfl (lvs_n)))))) ?_
  exact w_X10_restsOf_J109 cx h_c0 hkb32 hkb68  l3 l4 (1 : Int32) S  h
def f_X10_restsOf_L68 : Nat → Nat → Int32 → Int32 → (Int32 → St → Option (Int64 × St)) → Int32 → Int32 → St → Option (Int64 × St)
  | 0, _, _, _, _, _, _, _ => none
  | n + 1, c0, a1, a2, kb32, l3, l4, S => bd (f_X10_mostGift c0 l3 S) fun x13 S14 => if x13 < l4 then f_X10_restsOf_L208 FU c0 a1 a2 kb32 l3 (0 : Int32) S14 else if a1 < l4 then f_X10_restsOf_L208 FU c0 a1 a2 kb32 l3 (0 : Int32) S14 else bd (f_X10_comes c0 l3 S14) fun x18 S19 => if x18 = 0 then f_X10_restsOf_J104 c0 a1 a2 kb32 (fun l3 l4 S => f_X10_restsOf_L68 n c0 a1 a2 kb32 l3 l4 S) l3 l4 S19 else bd (f_X10_isRest c0 l3 l4 a1 a2 S19) fun x22 S23 => if x22 = 0 then f_X10_restsOf_J109 c0 a1 a2 kb32 (fun l3 l4 S => f_X10_restsOf_L68 n c0 a1 a2 kb32 l3 l4 S) l3 l4 (0 : Int32) S23 else f_X10_restsOf_J104 c0 a1 a2 kb32 (fun l3 l4 S => f_X10_restsOf_L68 n c0 a1 a2 kb32 l3 l4 S) l3 l4 S23
set_option maxHeartbeats 4000000 in
set_option maxRecDepth 100000 in
theorem w_X10_restsOf_L68 {p : Program} {l : Launch} {e : Env} {s : State} {m : MethodId} {args : Array Value} {below : List Frame} {meth : Method} {c : Code} {g : Gl} {r : Int64 × St} {c0 : Nat} {a1 : Int32} {a2 : Int32} {kb32 : Int32 → St → Option (Int64 × St)} (cx : Cx p s m args meth c cX10_restsOf 9 (some .long) RX10 g (Ap g)) (h_c0 : kd g c0 = 10) (hkb32 : ∀ (l3 : Int32) (S : St), kb32 l3 S = some r → WA p l e rm_X10_restsOf s m args below meth c 0 0 (MQ below (QWl g r) args s 0 0 (Ap g)) 9 g (Ap g) S 32 [(0, .ref (ad g c0)), (1, .int a1), (2, .int a2), (3, .int l3)] []) : ∀ n : Nat, ∀ (l3 : Int32) (l4 : Int32) (S : St), f_X10_restsOf_L68 n c0 a1 a2 kb32 l3 l4 S = some r → WA p l e rm_X10_restsOf s m args below meth c 0 0 (MQ below (QWl g r) args s 0 0 (Ap g)) 9 g (Ap g) S 68 [(0, .ref (ad g c0)), (1, .int a1), (2, .int a2), (3, .int l3), (4, .int l4)] [] := by
  intro n
  induction n with
  | zero => intro l3 l4 S h; rw [f_X10_restsOf_L68] at h; cases h
  | succ n ih =>
    intro l3 l4 S h
    rw [f_X10_restsOf_L68] at h
    refine wa_iload cx dX10_restsOf_68 rfl ?_
    refine wa_aload_n cx (i := 0) dX10_restsOf_70 rfl rfl ?_
    refine wa_iload_n cx (i := 3) dX10_restsOf_71 rfl rfl ?_
    obtain ⟨x13, S14, e15, h⟩ := bd_some h
    refine wa_callVi cx (m_X10_mostGift l cx.2.2.2.2.2.2.1 h_c0 e15) vl_X10_259 h_c0 (by decide) rfl rfl ⟨_, cell_eq10 (kd_lt h_c0 (by decide)).2⟩ ⟨Nat.le_of_ble_eq_true rfl, Nat.le_of_ble_eq_true rfl⟩ ⟨rfl, rfl⟩ ⟨Nat.zero_le _, Nat.zero_le _⟩ rfl (Nat.le_of_ble_eq_true rfl) dX10_restsOf_72 rfl ?_
    refine wa_icmp_gt cx dX10_restsOf_75 205 (by decide) (fun q16 => ?_) (fun q16 => ?_)
    · rw [if_pos q16] at h
      refine wa_iconst cx dX10_restsOf_205 (0 : Int32) (by decide) ?_
      refine wa_istore cx dX10_restsOf_206 [(0, .ref (ad g c0)), (1, .int a1), (2, .int a2), (3, .int l3), (4, .int (0 : Int32))] (Nat.le_of_ble_eq_true rfl) rfl (lvs_c rfl (lvs_c rfl (lvs_c rfl (lvs_c rfl (lvs_c rfl (lvs_n)))))) ?_
      refine wa_sub (lv' := [(0, .ref (ad g c0)), (1, .int a1), (2, .int a2), (3, .int l3), (4, .int (0 : Int32))]) (lvs_c rfl (lvs_c rfl (lvs_c rfl (lvs_c rfl (lvs_c rfl (lvs_n)))))) ?_
      exact w_X10_restsOf_L208 cx h_c0 hkb32 FU l3 (0 : Int32) S14  h
    · rw [if_neg q16] at h
      refine wa_iload cx dX10_restsOf_78 rfl ?_
      refine wa_iload_n cx (i := 1) dX10_restsOf_80 rfl rfl ?_
      refine wa_icmp_gt cx dX10_restsOf_81 205 (by decide) (fun q17 => ?_) (fun q17 => ?_)
      · rw [if_pos q17] at h
        refine wa_iconst cx dX10_restsOf_205 (0 : Int32) (by decide) ?_
        refine wa_istore cx dX10_restsOf_206 [(0, .ref (ad g c0)), (1, .int a1), (2, .int a2), (3, .int l3), (4, .int (0 : Int32))] (Nat.le_of_ble_eq_true rfl) rfl (lvs_c rfl (lvs_c rfl (lvs_c rfl (lvs_c rfl (lvs_c rfl (lvs_n)))))) ?_
        refine wa_sub (lv' := [(0, .ref (ad g c0)), (1, .int a1), (2, .int a2), (3, .int l3), (4, .int (0 : Int32))]) (lvs_c rfl (lvs_c rfl (lvs_c rfl (lvs_c rfl (lvs_c rfl (lvs_n)))))) ?_
        exact w_X10_restsOf_L208 cx h_c0 hkb32 FU l3 (0 : Int32) S14  h
      · rw [if_neg q17] at h
        refine wa_aload_n cx (i := 0) dX10_restsOf_84 rfl rfl ?_
        refine wa_iload_n cx (i := 3) dX10_restsOf_85 rfl rfl ?_
        obtain ⟨x18, S19, e20, h⟩ := bd_some h
        refine wa_callVi cx (m_X10_comes l cx.2.2.2.2.2.2.1 h_c0 e20) vl_X10_256 h_c0 (by decide) rfl rfl ⟨_, cell_eq10 (kd_lt h_c0 (by decide)).2⟩ ⟨Nat.le_of_ble_eq_true rfl, Nat.le_of_ble_eq_true rfl⟩ ⟨rfl, rfl⟩ ⟨Nat.zero_le _, Nat.zero_le _⟩ rfl (Nat.le_of_ble_eq_true rfl) dX10_restsOf_86 rfl ?_
        refine wa_if_eq cx dX10_restsOf_89 104 (by decide) (fun q21 => ?_) (fun q21 => ?_)
        · rw [if_pos q21] at h
          refine wa_sub (lv' := [(0, .ref (ad g c0)), (1, .int a1), (2, .int a2), (3, .int l3), (4, .int l4)]) (lvs_c rfl (lvs_c rfl (lvs_c rfl (lvs_c rfl (lvs_c rfl (lvs_n)))))) ?_
          exact w_X10_restsOf_J104 cx h_c0 hkb32 ih  l3 l4 S19  h
        · rw [if_neg q21] at h
          refine wa_aload_n cx (i := 0) dX10_restsOf_92 rfl rfl ?_
          refine wa_iload_n cx (i := 3) dX10_restsOf_93 rfl rfl ?_
          refine wa_iload cx dX10_restsOf_94 rfl ?_
          refine wa_iload_n cx (i := 1) dX10_restsOf_96 rfl rfl ?_
          refine wa_iload_n cx (i := 2) dX10_restsOf_97 rfl rfl ?_
          obtain ⟨x22, S23, e24, h⟩ := bd_some h
          refine wa_callVi cx (m_X10_isRest l cx.2.2.2.2.2.2.1 h_c0 e24) vl_X10_273 h_c0 (by decide) rfl rfl ⟨_, cell_eq10 (kd_lt h_c0 (by decide)).2⟩ ⟨Nat.le_of_ble_eq_true rfl, Nat.le_of_ble_eq_true rfl⟩ ⟨rfl, rfl⟩ ⟨Nat.zero_le _, Nat.zero_le _⟩ rfl (Nat.le_of_ble_eq_true rfl) dX10_restsOf_98 rfl ?_
          refine wa_if_eq cx dX10_restsOf_101 108 (by decide) (fun q25 => ?_) (fun q25 => ?_)
          · rw [if_pos q25] at h
            refine wa_iconst cx dX10_restsOf_108 (0 : Int32) (by decide) ?_
            refine wa_sub (lv' := [(0, .ref (ad g c0)), (1, .int a1), (2, .int a2), (3, .int l3), (4, .int l4)]) (lvs_c rfl (lvs_c rfl (lvs_c rfl (lvs_c rfl (lvs_c rfl (lvs_n)))))) ?_
            exact w_X10_restsOf_J109 cx h_c0 hkb32 ih  l3 l4 (0 : Int32) S23  h
          · rw [if_neg q25] at h
            refine wa_sub (lv' := [(0, .ref (ad g c0)), (1, .int a1), (2, .int a2), (3, .int l3), (4, .int l4)]) (lvs_c rfl (lvs_c rfl (lvs_c rfl (lvs_c rfl (lvs_c rfl (lvs_n)))))) ?_
            exact w_X10_restsOf_J104 cx h_c0 hkb32 ih  l3 l4 S23  h
def f_X10_restsOf_L43 : Nat → Nat → Int32 → Int32 → (Int32 → St → Option (Int64 × St)) → Int32 → Int32 → St → Option (Int64 × St)
  | 0, _, _, _, _, _, _, _ => none
  | n + 1, c0, a1, a2, kb32, l3, l4, S => if (900 : Int32) ≤ l4 then f_X10_restsOf_L68 FU c0 a1 a2 kb32 l3 (0 : Int32) S else ob l4 900 (sq (pJ S (c0 + 25) (Int32.toNatClampNeg l4) (0 : Int64)) fun S28 => f_X10_restsOf_L43 n c0 a1 a2 kb32 l3 (l4 + (1 : Int32)) S28)
set_option maxHeartbeats 4000000 in
set_option maxRecDepth 100000 in
theorem w_X10_restsOf_L43 {p : Program} {l : Launch} {e : Env} {s : State} {m : MethodId} {args : Array Value} {below : List Frame} {meth : Method} {c : Code} {g : Gl} {r : Int64 × St} {c0 : Nat} {a1 : Int32} {a2 : Int32} {kb32 : Int32 → St → Option (Int64 × St)} (cx : Cx p s m args meth c cX10_restsOf 9 (some .long) RX10 g (Ap g)) (h_c0 : kd g c0 = 10) (hkb32 : ∀ (l3 : Int32) (S : St), kb32 l3 S = some r → WA p l e rm_X10_restsOf s m args below meth c 0 0 (MQ below (QWl g r) args s 0 0 (Ap g)) 9 g (Ap g) S 32 [(0, .ref (ad g c0)), (1, .int a1), (2, .int a2), (3, .int l3)] []) : ∀ n : Nat, ∀ (l3 : Int32) (l4 : Int32) (S : St), f_X10_restsOf_L43 n c0 a1 a2 kb32 l3 l4 S = some r → WA p l e rm_X10_restsOf s m args below meth c 0 0 (MQ below (QWl g r) args s 0 0 (Ap g)) 9 g (Ap g) S 43 [(0, .ref (ad g c0)), (1, .int a1), (2, .int a2), (3, .int l3), (4, .int l4)] [] := by
  intro n
  induction n with
  | zero => intro l3 l4 S h; rw [f_X10_restsOf_L43] at h; cases h
  | succ n ih =>
    intro l3 l4 S h
    rw [f_X10_restsOf_L43] at h
    refine wa_iload cx dX10_restsOf_43 rfl ?_
    refine wa_sipush cx dX10_restsOf_45 (900 : Int32) (by decide) ?_
    refine wa_icmp_ge cx dX10_restsOf_48 65 (by decide) (fun q26 => ?_) (fun q26 => ?_)
    · rw [if_pos q26] at h
      refine wa_iconst cx dX10_restsOf_65 (0 : Int32) (by decide) ?_
      refine wa_istore cx dX10_restsOf_66 [(0, .ref (ad g c0)), (1, .int a1), (2, .int a2), (3, .int l3), (4, .int (0 : Int32))] (Nat.le_of_ble_eq_true rfl) rfl (lvs_c rfl (lvs_c rfl (lvs_c rfl (lvs_c rfl (lvs_c rfl (lvs_n)))))) ?_
      refine wa_sub (lv' := [(0, .ref (ad g c0)), (1, .int a1), (2, .int a2), (3, .int l3), (4, .int (0 : Int32))]) (lvs_c rfl (lvs_c rfl (lvs_c rfl (lvs_c rfl (lvs_c rfl (lvs_n)))))) ?_
      exact w_X10_restsOf_L68 cx h_c0 hkb32 FU l3 (0 : Int32) S  h
    · rw [if_neg q26] at h
      refine wa_aload_n cx (i := 0) dX10_restsOf_51 rfl rfl ?_
      refine gf_X10_83 cx h_c0 dX10_restsOf_52 ?_
      refine wa_iload cx dX10_restsOf_55 rfl ?_
      refine wa_lconst cx dX10_restsOf_57 (0 : Int64) (by decide) ?_
      obtain ⟨b27, h⟩ := ob_some h
      refine wa_last cx dX10_restsOf_58 (kq10_38 cx.2.2.2.2.2.2.1 h_c0) b27 ?_
      replace h := sq_eq h
      generalize (pJ S (c0 + 25) (Int32.toNatClampNeg l4) (0 : Int64)) = S28 at h ⊢
      refine wa_iinc cx dX10_restsOf_59 (l4 + (1 : Int32)) [(0, .ref (ad g c0)), (1, .int a1), (2, .int a2), (3, .int l3), (4, .int (l4 + (1 : Int32)))] rfl rfl (Nat.le_of_ble_eq_true rfl) rfl (lvs_c rfl (lvs_c rfl (lvs_c rfl (lvs_c rfl (lvs_c rfl (lvs_n)))))) ?_
      refine wa_goto cx dX10_restsOf_62 43 (by decide) ?_
      refine wa_sub (lv' := [(0, .ref (ad g c0)), (1, .int a1), (2, .int a2), (3, .int l3), (4, .int (l4 + (1 : Int32)))]) (lvs_c rfl (lvs_c rfl (lvs_c rfl (lvs_c rfl (lvs_c rfl (lvs_n)))))) ?_
      exact ih l3 (l4 + (1 : Int32)) S28  h
def f_X10_restsOf_L32 : Nat → Nat → Int32 → Int32 → Int32 → St → Option (Int64 × St)
  | 0, _, _, _, _, _ => none
  | n + 1, c0, a1, a2, l3, S => if (S.1 c0 13) ≤ l3 then ob (((9 : Int32) * a1) + a2) 900 (some ((S.2.1 (c0 + 24) (Int32.toNatClampNeg (((9 : Int32) * a1) + a2))), S)) else f_X10_restsOf_L43 FU c0 a1 a2 (fun l3 S => f_X10_restsOf_L32 n c0 a1 a2 l3 S) l3 (0 : Int32) S
set_option maxHeartbeats 4000000 in
set_option maxRecDepth 100000 in
theorem w_X10_restsOf_L32 {p : Program} {l : Launch} {e : Env} {s : State} {m : MethodId} {args : Array Value} {below : List Frame} {meth : Method} {c : Code} {g : Gl} {r : Int64 × St} {c0 : Nat} {a1 : Int32} {a2 : Int32} (cx : Cx p s m args meth c cX10_restsOf 9 (some .long) RX10 g (Ap g)) (h_c0 : kd g c0 = 10) : ∀ n : Nat, ∀ (l3 : Int32) (S : St), f_X10_restsOf_L32 n c0 a1 a2 l3 S = some r → WA p l e rm_X10_restsOf s m args below meth c 0 0 (MQ below (QWl g r) args s 0 0 (Ap g)) 9 g (Ap g) S 32 [(0, .ref (ad g c0)), (1, .int a1), (2, .int a2), (3, .int l3)] [] := by
  intro n
  induction n with
  | zero => intro l3 S h; rw [f_X10_restsOf_L32] at h; cases h
  | succ n ih =>
    intro l3 S h
    rw [f_X10_restsOf_L32] at h
    refine wa_iload_n cx (i := 3) dX10_restsOf_32 rfl rfl ?_
    refine wa_aload_n cx (i := 0) dX10_restsOf_33 rfl rfl ?_
    refine gf_X10_148 cx h_c0 dX10_restsOf_34 ?_
    refine wa_icmp_ge cx dX10_restsOf_37 242 (by decide) (fun q29 => ?_) (fun q29 => ?_)
    · rw [if_pos q29] at h
      refine wa_aload_n cx (i := 0) dX10_restsOf_242 rfl rfl ?_
      refine gf_X10_80 cx h_c0 dX10_restsOf_243 ?_
      refine wa_bipush cx dX10_restsOf_246 (9 : Int32) (by decide) ?_
      refine wa_iload_n cx (i := 1) dX10_restsOf_248 rfl rfl ?_
      refine wa_imul cx dX10_restsOf_249 ?_
      refine wa_iload_n cx (i := 2) dX10_restsOf_250 rfl rfl ?_
      refine wa_iadd cx dX10_restsOf_251 ?_
      obtain ⟨b30, h⟩ := ob_some h
      refine wa_lald cx dX10_restsOf_252 (kq10_37 cx.2.2.2.2.2.2.1 h_c0) b30 ?_
      exact wa_lret cx h dX10_restsOf_253
    · rw [if_neg q29] at h
      refine wa_iconst cx dX10_restsOf_40 (0 : Int32) (by decide) ?_
      refine wa_istore cx dX10_restsOf_41 [(0, .ref (ad g c0)), (1, .int a1), (2, .int a2), (3, .int l3), (4, .int (0 : Int32))] (Nat.le_of_ble_eq_true rfl) rfl (lvs_c rfl (lvs_c rfl (lvs_c rfl (lvs_c rfl (lvs_c rfl (lvs_n)))))) ?_
      refine wa_sub (lv' := [(0, .ref (ad g c0)), (1, .int a1), (2, .int a2), (3, .int l3), (4, .int (0 : Int32))]) (lvs_c rfl (lvs_c rfl (lvs_c rfl (lvs_c rfl (lvs_c rfl (lvs_n)))))) ?_
      exact w_X10_restsOf_L43 cx h_c0 ih FU l3 (0 : Int32) S  h
def f_X10_restsOf_L2 : Nat → Nat → Int32 → Int32 → Int32 → St → Option (Int64 × St)
  | 0, _, _, _, _, _ => none
  | n + 1, c0, a1, a2, l3, S => if (900 : Int32) ≤ l3 then f_X10_restsOf_L32 FU c0 a1 a2 (0 : Int32) S else if l3 = 0 then ob l3 900 (sq (pJ S (c0 + 24) (Int32.toNatClampNeg l3) (1 : Int64)) fun S36 => f_X10_restsOf_L2 n c0 a1 a2 (l3 + (1 : Int32)) S36) else ob l3 900 (sq (pJ S (c0 + 24) (Int32.toNatClampNeg l3) (0 : Int64)) fun S34 => f_X10_restsOf_L2 n c0 a1 a2 (l3 + (1 : Int32)) S34)
set_option maxHeartbeats 4000000 in
set_option maxRecDepth 100000 in
theorem w_X10_restsOf_L2 {p : Program} {l : Launch} {e : Env} {s : State} {m : MethodId} {args : Array Value} {below : List Frame} {meth : Method} {c : Code} {g : Gl} {r : Int64 × St} {c0 : Nat} {a1 : Int32} {a2 : Int32} (cx : Cx p s m args meth c cX10_restsOf 9 (some .long) RX10 g (Ap g)) (h_c0 : kd g c0 = 10) : ∀ n : Nat, ∀ (l3 : Int32) (S : St), f_X10_restsOf_L2 n c0 a1 a2 l3 S = some r → WA p l e rm_X10_restsOf s m args below meth c 0 0 (MQ below (QWl g r) args s 0 0 (Ap g)) 9 g (Ap g) S 2 [(0, .ref (ad g c0)), (1, .int a1), (2, .int a2), (3, .int l3)] [] := by
  intro n
  induction n with
  | zero => intro l3 S h; rw [f_X10_restsOf_L2] at h; cases h
  | succ n ih =>
    intro l3 S h
    rw [f_X10_restsOf_L2] at h
    refine wa_iload_n cx (i := 3) dX10_restsOf_2 rfl rfl ?_
    refine wa_sipush cx dX10_restsOf_3 (900 : Int32) (by decide) ?_
    refine wa_icmp_ge cx dX10_restsOf_6 30 (by decide) (fun q31 => ?_) (fun q31 => ?_)
    · rw [if_pos q31] at h
      refine wa_iconst cx dX10_restsOf_30 (0 : Int32) (by decide) ?_
      refine wa_istore_n cx (i := 3) dX10_restsOf_31 [(0, .ref (ad g c0)), (1, .int a1), (2, .int a2), (3, .int (0 : Int32))] rfl (Nat.le_of_ble_eq_true rfl) rfl (lvs_c rfl (lvs_c rfl (lvs_c rfl (lvs_c rfl (lvs_n))))) ?_
      refine wa_sub (lv' := [(0, .ref (ad g c0)), (1, .int a1), (2, .int a2), (3, .int (0 : Int32))]) (lvs_c rfl (lvs_c rfl (lvs_c rfl (lvs_c rfl (lvs_n))))) ?_
      exact w_X10_restsOf_L32 cx h_c0  FU (0 : Int32) S  h
    · rw [if_neg q31] at h
      refine wa_aload_n cx (i := 0) dX10_restsOf_9 rfl rfl ?_
      refine gf_X10_80 cx h_c0 dX10_restsOf_10 ?_
      refine wa_iload_n cx (i := 3) dX10_restsOf_13 rfl rfl ?_
      refine wa_iload_n cx (i := 3) dX10_restsOf_14 rfl rfl ?_
      refine wa_if_ne cx dX10_restsOf_15 22 (by decide) (fun q32 => ?_) (fun q32 => ?_)
      · rw [if_neg q32] at h
        refine wa_lconst cx dX10_restsOf_22 (0 : Int64) (by decide) ?_
        obtain ⟨b33, h⟩ := ob_some h
        refine wa_last cx dX10_restsOf_23 (kq10_37 cx.2.2.2.2.2.2.1 h_c0) b33 ?_
        replace h := sq_eq h
        generalize (pJ S (c0 + 24) (Int32.toNatClampNeg l3) (0 : Int64)) = S34 at h ⊢
        refine wa_iinc cx dX10_restsOf_24 (l3 + (1 : Int32)) [(0, .ref (ad g c0)), (1, .int a1), (2, .int a2), (3, .int (l3 + (1 : Int32)))] rfl rfl (Nat.le_of_ble_eq_true rfl) rfl (lvs_c rfl (lvs_c rfl (lvs_c rfl (lvs_c rfl (lvs_n))))) ?_
        refine wa_goto cx dX10_restsOf_27 2 (by decide) ?_
        refine wa_sub (lv' := [(0, .ref (ad g c0)), (1, .int a1), (2, .int a2), (3, .int (l3 + (1 : Int32)))]) (lvs_c rfl (lvs_c rfl (lvs_c rfl (lvs_c rfl (lvs_n))))) ?_
        exact ih (l3 + (1 : Int32)) S34  h
      · rw [if_pos q32] at h
        refine wa_lconst cx dX10_restsOf_18 (1 : Int64) (by decide) ?_
        refine wa_goto cx dX10_restsOf_19 23 (by decide) ?_
        obtain ⟨b35, h⟩ := ob_some h
        refine wa_last cx dX10_restsOf_23 (kq10_37 cx.2.2.2.2.2.2.1 h_c0) b35 ?_
        replace h := sq_eq h
        generalize (pJ S (c0 + 24) (Int32.toNatClampNeg l3) (1 : Int64)) = S36 at h ⊢
        refine wa_iinc cx dX10_restsOf_24 (l3 + (1 : Int32)) [(0, .ref (ad g c0)), (1, .int a1), (2, .int a2), (3, .int (l3 + (1 : Int32)))] rfl rfl (Nat.le_of_ble_eq_true rfl) rfl (lvs_c rfl (lvs_c rfl (lvs_c rfl (lvs_c rfl (lvs_n))))) ?_
        refine wa_goto cx dX10_restsOf_27 2 (by decide) ?_
        refine wa_sub (lv' := [(0, .ref (ad g c0)), (1, .int a1), (2, .int a2), (3, .int (l3 + (1 : Int32)))]) (lvs_c rfl (lvs_c rfl (lvs_c rfl (lvs_c rfl (lvs_n))))) ?_
        exact ih (l3 + (1 : Int32)) S36  h
def f_X10_restsOf (c0 : Nat) (a1 : Int32) (a2 : Int32) (S : St) : Option (Int64 × St) := f_X10_restsOf_L2 FU c0 a1 a2 (0 : Int32) S
set_option maxHeartbeats 4000000 in
set_option maxRecDepth 100000 in
theorem m_X10_restsOf (l : Launch) {g : Gl} (hg : GOK g) {c0 : Nat} {a1 : Int32} {a2 : Int32} {S : St} {r : Int64 × St} (h_c0 : kd g c0 = 10) (h : f_X10_restsOf c0 a1 a2 S = some r) : MW l yX10_restsOf cX10_restsOf 9 (some .long) rm_X10_restsOf g S [.ref (ad g c0), .int a1, .int a2] (QWl g r) := by
  refine startW [(0, .ref (ad g c0)), (1, .int a1), (2, .int a2)] (by decide +kernel) (Nat.le_of_ble_eq_true rfl) rfl hg (fun p e s m args below meth c cx => ?_)
  have cx : Cx p s m args meth c cX10_restsOf 9 (some .long) RX10 g (Ap g) := cx
  rw [f_X10_restsOf] at h
  refine wa_iconst cx dX10_restsOf_0 (0 : Int32) (by decide) ?_
  refine wa_istore_n cx (i := 3) dX10_restsOf_1 [(0, .ref (ad g c0)), (1, .int a1), (2, .int a2), (3, .int (0 : Int32))] rfl (Nat.le_of_ble_eq_true rfl) rfl (lvs_c rfl (lvs_c rfl (lvs_c rfl (lvs_c rfl (lvs_n))))) ?_
  refine wa_sub (lv' := [(0, .ref (ad g c0)), (1, .int a1), (2, .int a2), (3, .int (0 : Int32))]) (lvs_c rfl (lvs_c rfl (lvs_c rfl (lvs_c rfl (lvs_n))))) ?_
  exact w_X10_restsOf_L2 cx h_c0  FU (0 : Int32) S  h
def rm_X10_fails : Room := { frames := 5, cells := 0, slots := 0, locals := 121 }
def f_X10_fails_L23 : Nat → Nat → (Int64 → Int32 → St → Option (Int64 × St)) → Int64 → Int32 → Int32 → St → Option (Int64 × St)
  | 0, _, _, _, _, _, _ => none
  | n + 1, c0, kb12, l1, l3, l4, S => if (S.1 c0 27) < l4 then kb12 l1 (l3 + (1 : Int32)) S else bd (f_X10_restsOf c0 l3 l4 S) fun x2 S3 => sq (l1 + x2) fun x5 => f_X10_fails_L23 n c0 kb12 x5 l3 (l4 + (1 : Int32)) S3
set_option maxHeartbeats 4000000 in
set_option maxRecDepth 100000 in
theorem w_X10_fails_L23 {p : Program} {l : Launch} {e : Env} {s : State} {m : MethodId} {args : Array Value} {below : List Frame} {meth : Method} {c : Code} {g : Gl} {r : Int64 × St} {c0 : Nat} {kb12 : Int64 → Int32 → St → Option (Int64 × St)} (cx : Cx p s m args meth c cX10_fails 5 (some .long) RX10 g (Ap g)) (h_c0 : kd g c0 = 10) (hkb12 : ∀ (l1 : Int64) (l3 : Int32) (S : St), kb12 l1 l3 S = some r → WA p l e rm_X10_fails s m args below meth c 0 0 (MQ below (QWl g r) args s 0 0 (Ap g)) 5 g (Ap g) S 12 [(0, .ref (ad g c0)), (1, .long l1), (3, .int l3)] []) : ∀ n : Nat, ∀ (l1 : Int64) (l3 : Int32) (l4 : Int32) (S : St), f_X10_fails_L23 n c0 kb12 l1 l3 l4 S = some r → WA p l e rm_X10_fails s m args below meth c 0 0 (MQ below (QWl g r) args s 0 0 (Ap g)) 5 g (Ap g) S 23 [(0, .ref (ad g c0)), (1, .long l1), (3, .int l3), (4, .int l4)] [] := by
  intro n
  induction n with
  | zero => intro l1 l3 l4 S h; rw [f_X10_fails_L23] at h; cases h
  | succ n ih =>
    intro l1 l3 l4 S h
    rw [f_X10_fails_L23] at h
    refine wa_iload cx dX10_fails_23 rfl ?_
    refine wa_aload_n cx (i := 0) dX10_fails_25 rfl rfl ?_
    refine gf_X10_175 cx h_c0 dX10_fails_26 ?_
    refine wa_icmp_gt cx dX10_fails_29 48 (by decide) (fun q1 => ?_) (fun q1 => ?_)
    · rw [if_pos q1] at h
      refine wa_iinc cx dX10_fails_48 (l3 + (1 : Int32)) [(0, .ref (ad g c0)), (1, .long l1), (3, .int (l3 + (1 : Int32)))] rfl rfl (Nat.le_of_ble_eq_true rfl) rfl (lvs_c rfl (lvs_c rfl (lvs_c rfl (lvs_n)))) ?_
      refine wa_goto cx dX10_fails_51 12 (by decide) ?_
      refine wa_sub (lv' := [(0, .ref (ad g c0)), (1, .long l1), (3, .int (l3 + (1 : Int32)))]) (lvs_c rfl (lvs_c rfl (lvs_c rfl (lvs_n)))) ?_
      exact hkb12 l1 (l3 + (1 : Int32)) S  h
    · rw [if_neg q1] at h
      refine wa_lload_n cx (i := 1) dX10_fails_32 rfl rfl ?_
      refine wa_aload_n cx (i := 0) dX10_fails_33 rfl rfl ?_
      refine wa_iload_n cx (i := 3) dX10_fails_34 rfl rfl ?_
      refine wa_iload cx dX10_fails_35 rfl ?_
      obtain ⟨x2, S3, e4, h⟩ := bd_some h
      refine wa_callVl cx (m_X10_restsOf l cx.2.2.2.2.2.2.1 h_c0 e4) vl_X10_277 h_c0 (by decide) rfl rfl ⟨_, cell_eq10 (kd_lt h_c0 (by decide)).2⟩ ⟨Nat.le_of_ble_eq_true rfl, Nat.le_of_ble_eq_true rfl⟩ ⟨rfl, rfl⟩ ⟨Nat.zero_le _, Nat.zero_le _⟩ rfl (Nat.le_of_ble_eq_true rfl) dX10_fails_37 rfl ?_
      refine wa_ladd cx dX10_fails_40 ?_
      replace h := sq_eq h
      generalize (l1 + x2) = x5 at h ⊢
      refine wa_lstore_n cx (i := 1) dX10_fails_41 [(0, .ref (ad g c0)), (1, .long x5), (3, .int l3), (4, .int l4)] rfl (Nat.le_of_ble_eq_true rfl) rfl (lvs_c rfl (lvs_c rfl (lvs_c rfl (lvs_c rfl (lvs_n))))) ?_
      refine wa_iinc cx dX10_fails_42 (l4 + (1 : Int32)) [(0, .ref (ad g c0)), (1, .long x5), (3, .int l3), (4, .int (l4 + (1 : Int32)))] rfl rfl (Nat.le_of_ble_eq_true rfl) rfl (lvs_c rfl (lvs_c rfl (lvs_c rfl (lvs_c rfl (lvs_n))))) ?_
      refine wa_goto cx dX10_fails_45 23 (by decide) ?_
      refine wa_sub (lv' := [(0, .ref (ad g c0)), (1, .long x5), (3, .int l3), (4, .int (l4 + (1 : Int32)))]) (lvs_c rfl (lvs_c rfl (lvs_c rfl (lvs_c rfl (lvs_n))))) ?_
      exact ih x5 l3 (l4 + (1 : Int32)) S3  h
def f_X10_fails_L12 : Nat → Nat → Int64 → Int32 → St → Option (Int64 × St)
  | 0, _, _, _, _ => none
  | n + 1, c0, l1, l3, S => if (S.1 c0 19) ≤ l3 then some (l1, S) else f_X10_fails_L23 FU c0 (fun l1 l3 S => f_X10_fails_L12 n c0 l1 l3 S) l1 l3 (0 : Int32) S
set_option maxHeartbeats 4000000 in
set_option maxRecDepth 100000 in
theorem w_X10_fails_L12 {p : Program} {l : Launch} {e : Env} {s : State} {m : MethodId} {args : Array Value} {below : List Frame} {meth : Method} {c : Code} {g : Gl} {r : Int64 × St} {c0 : Nat} (cx : Cx p s m args meth c cX10_fails 5 (some .long) RX10 g (Ap g)) (h_c0 : kd g c0 = 10) : ∀ n : Nat, ∀ (l1 : Int64) (l3 : Int32) (S : St), f_X10_fails_L12 n c0 l1 l3 S = some r → WA p l e rm_X10_fails s m args below meth c 0 0 (MQ below (QWl g r) args s 0 0 (Ap g)) 5 g (Ap g) S 12 [(0, .ref (ad g c0)), (1, .long l1), (3, .int l3)] [] := by
  intro n
  induction n with
  | zero => intro l1 l3 S h; rw [f_X10_fails_L12] at h; cases h
  | succ n ih =>
    intro l1 l3 S h
    rw [f_X10_fails_L12] at h
    refine wa_iload_n cx (i := 3) dX10_fails_12 rfl rfl ?_
    refine wa_aload_n cx (i := 0) dX10_fails_13 rfl rfl ?_
    refine gf_X10_154 cx h_c0 dX10_fails_14 ?_
    refine wa_icmp_ge cx dX10_fails_17 54 (by decide) (fun q6 => ?_) (fun q6 => ?_)
    · rw [if_pos q6] at h
      refine wa_lload_n cx (i := 1) dX10_fails_54 rfl rfl ?_
      exact wa_lret cx h dX10_fails_55
    · rw [if_neg q6] at h
      refine wa_iconst cx dX10_fails_20 (0 : Int32) (by decide) ?_
      refine wa_istore cx dX10_fails_21 [(0, .ref (ad g c0)), (1, .long l1), (3, .int l3), (4, .int (0 : Int32))] (Nat.le_of_ble_eq_true rfl) rfl (lvs_c rfl (lvs_c rfl (lvs_c rfl (lvs_c rfl (lvs_n))))) ?_
      refine wa_sub (lv' := [(0, .ref (ad g c0)), (1, .long l1), (3, .int l3), (4, .int (0 : Int32))]) (lvs_c rfl (lvs_c rfl (lvs_c rfl (lvs_c rfl (lvs_n))))) ?_
      exact w_X10_fails_L23 cx h_c0 ih FU l1 l3 (0 : Int32) S  h
def f_X10_fails (c0 : Nat) (S : St) : Option (Int64 × St) := bd (f_X10_plain c0 S) fun _ S7 => bd (f_X10_layOrder c0 S7) fun _ S10 => f_X10_fails_L12 FU c0 (0 : Int64) (0 : Int32) S10
set_option maxHeartbeats 4000000 in
set_option maxRecDepth 100000 in
theorem m_X10_fails (l : Launch) {g : Gl} (hg : GOK g) {c0 : Nat} {S : St} {r : Int64 × St} (h_c0 : kd g c0 = 10) (h : f_X10_fails c0 S = some r) : MW l yX10_fails cX10_fails 5 (some .long) rm_X10_fails g S [.ref (ad g c0)] (QWl g r) := by
  refine startW [(0, .ref (ad g c0))] (by decide +kernel) (Nat.le_of_ble_eq_true rfl) rfl hg (fun p e s m args below meth c cx => ?_)
  have cx : Cx p s m args meth c cX10_fails 5 (some .long) RX10 g (Ap g) := cx
  rw [f_X10_fails] at h
  refine wa_aload_n cx (i := 0) dX10_fails_0 rfl rfl ?_
  obtain ⟨u9, S7, e8, h⟩ := bd_some h
  refine wa_callVv cx (m_X10_plain l cx.2.2.2.2.2.2.1 h_c0 e8) vl_X10_151 h_c0 (by decide) rfl rfl ⟨_, cell_eq10 (kd_lt h_c0 (by decide)).2⟩ ⟨Nat.le_of_ble_eq_true rfl, Nat.le_of_ble_eq_true rfl⟩ ⟨rfl, rfl⟩ ⟨Nat.zero_le _, Nat.zero_le _⟩ rfl (Nat.le_of_ble_eq_true rfl) dX10_fails_1 rfl ?_
  refine wa_aload_n cx (i := 0) dX10_fails_4 rfl rfl ?_
  obtain ⟨u12, S10, e11, h⟩ := bd_some h
  refine wa_callVv cx (m_X10_layOrder l cx.2.2.2.2.2.2.1 h_c0 e11) vl_X10_184 h_c0 (by decide) rfl rfl ⟨_, cell_eq10 (kd_lt h_c0 (by decide)).2⟩ ⟨Nat.le_of_ble_eq_true rfl, Nat.le_of_ble_eq_true rfl⟩ ⟨rfl, rfl⟩ ⟨Nat.zero_le _, Nat.zero_le _⟩ rfl (Nat.le_of_ble_eq_true rfl) dX10_fails_5 rfl ?_
  refine wa_lconst cx dX10_fails_8 (0 : Int64) (by decide) ?_
  refine wa_lstore_n cx (i := 1) dX10_fails_9 [(0, .ref (ad g c0)), (1, .long (0 : Int64))] rfl (Nat.le_of_ble_eq_true rfl) rfl (lvs_c rfl (lvs_c rfl (lvs_n))) ?_
  refine wa_iconst cx dX10_fails_10 (0 : Int32) (by decide) ?_
  refine wa_istore_n cx (i := 3) dX10_fails_11 [(0, .ref (ad g c0)), (1, .long (0 : Int64)), (3, .int (0 : Int32))] rfl (Nat.le_of_ble_eq_true rfl) rfl (lvs_c rfl (lvs_c rfl (lvs_c rfl (lvs_n)))) ?_
  refine wa_sub (lv' := [(0, .ref (ad g c0)), (1, .long (0 : Int64)), (3, .int (0 : Int32))]) (lvs_c rfl (lvs_c rfl (lvs_c rfl (lvs_n)))) ?_
  exact w_X10_fails_L12 cx h_c0  FU (0 : Int64) (0 : Int32) S10  h
def rm_X10_bestBar : Room := { frames := 5, cells := 0, slots := 0, locals := 126 }
def f_X10_bestBar_L25 : Nat → Nat → Int32 → Int32 → Int64 → Int32 → St → Option (Int64 × St)
  | 0, _, _, _, _, _, _ => none
  | n + 1, c0, a1, l2, l3, l5, S => if (60 : Int32) < l5 then if a1 = 0 then some ((Int32.toInt64 l2), S) else some (l3, S) else sq (pI S c0 19 l5) fun S3 => bd (f_X10_waysOf c0 (3 : Int32) S3) fun x4 S5 => if l2 = 0 then f_X10_bestBar_L25 n c0 a1 l5 x4 (l5 + (1 : Int32)) S5 else if l3 ≤ x4 then f_X10_bestBar_L25 n c0 a1 l2 l3 (l5 + (1 : Int32)) S5 else f_X10_bestBar_L25 n c0 a1 l5 x4 (l5 + (1 : Int32)) S5
set_option maxHeartbeats 4000000 in
set_option maxRecDepth 100000 in
theorem w_X10_bestBar_L25 {p : Program} {l : Launch} {e : Env} {s : State} {m : MethodId} {args : Array Value} {below : List Frame} {meth : Method} {c : Code} {g : Gl} {r : Int64 × St} {c0 : Nat} {a1 : Int32} (cx : Cx p s m args meth c cX10_bestBar 8 (some .long) RX10 g (Ap g)) (h_c0 : kd g c0 = 10) : ∀ n : Nat, ∀ (l2 : Int32) (l3 : Int64) (l5 : Int32) (S : St), f_X10_bestBar_L25 n c0 a1 l2 l3 l5 S = some r → WA p l e rm_X10_bestBar s m args below meth c 0 0 (MQ below (QWl g r) args s 0 0 (Ap g)) 8 g (Ap g) S 25 [(0, .ref (ad g c0)), (1, .int a1), (2, .int l2), (3, .long l3), (5, .int l5)] [] := by
  intro n
  induction n with
  | zero => intro l2 l3 l5 S h; rw [f_X10_bestBar_L25] at h; cases h
  | succ n ih =>
    intro l2 l3 l5 S h
    rw [f_X10_bestBar_L25] at h
    refine wa_iload cx dX10_bestBar_25 rfl ?_
    refine wa_bipush cx dX10_bestBar_27 (60 : Int32) (by decide) ?_
    refine wa_icmp_gt cx dX10_bestBar_29 68 (by decide) (fun q1 => ?_) (fun q1 => ?_)
    · rw [if_pos q1] at h
      refine wa_iload_n cx (i := 1) dX10_bestBar_68 rfl rfl ?_
      refine wa_if_ne cx dX10_bestBar_69 77 (by decide) (fun q2 => ?_) (fun q2 => ?_)
      · rw [if_neg q2] at h
        refine wa_lload_n cx (i := 3) dX10_bestBar_77 rfl rfl ?_
        exact wa_lret cx h dX10_bestBar_78
      · rw [if_pos q2] at h
        refine wa_iload_n cx (i := 2) dX10_bestBar_72 rfl rfl ?_
        refine wa_i2l cx dX10_bestBar_73 ?_
        refine wa_goto cx dX10_bestBar_74 78 (by decide) ?_
        exact wa_lret cx h dX10_bestBar_78
    · rw [if_neg q1] at h
      refine wa_aload_n cx (i := 0) dX10_bestBar_32 rfl rfl ?_
      refine wa_iload cx dX10_bestBar_33 rfl ?_
      refine pf_X10_154 cx h_c0 dX10_bestBar_35 ?_
      replace h := sq_eq h
      generalize (pI S c0 19 l5) = S3 at h ⊢
      refine wa_aload_n cx (i := 0) dX10_bestBar_38 rfl rfl ?_
      refine wa_iconst cx dX10_bestBar_39 (3 : Int32) (by decide) ?_
      obtain ⟨x4, S5, e6, h⟩ := bd_some h
      refine wa_callVl cx (m_X10_waysOf l cx.2.2.2.2.2.2.1 h_c0 e6) vl_X10_233 h_c0 (by decide) rfl rfl ⟨_, cell_eq10 (kd_lt h_c0 (by decide)).2⟩ ⟨Nat.le_of_ble_eq_true rfl, Nat.le_of_ble_eq_true rfl⟩ ⟨rfl, rfl⟩ ⟨Nat.zero_le _, Nat.zero_le _⟩ rfl (Nat.le_of_ble_eq_true rfl) dX10_bestBar_40 rfl ?_
      refine wa_lstore cx dX10_bestBar_43 [(0, .ref (ad g c0)), (1, .int a1), (2, .int l2), (3, .long l3), (5, .int l5), (6, .long x4)] (Nat.le_of_ble_eq_true rfl) rfl (lvs_c rfl (lvs_c rfl (lvs_c rfl (lvs_c rfl (lvs_c rfl (lvs_c rfl (lvs_n))))))) ?_
      refine wa_iload_n cx (i := 2) dX10_bestBar_45 rfl rfl ?_
      refine wa_if_eq cx dX10_bestBar_46 56 (by decide) (fun q7 => ?_) (fun q7 => ?_)
      · rw [if_pos q7] at h
        refine wa_iload cx dX10_bestBar_56 rfl ?_
        refine wa_istore_n cx (i := 2) dX10_bestBar_58 [(0, .ref (ad g c0)), (1, .int a1), (2, .int l5), (5, .int l5), (6, .long x4)] rfl (Nat.le_of_ble_eq_true rfl) rfl (lvs_c rfl (lvs_c rfl (lvs_c rfl (lvs_c rfl (lvs_c rfl (lvs_n)))))) ?_
        refine wa_lload cx dX10_bestBar_59 rfl ?_
        refine wa_lstore_n cx (i := 3) dX10_bestBar_61 [(0, .ref (ad g c0)), (1, .int a1), (2, .int l5), (3, .long x4), (5, .int l5)] rfl (Nat.le_of_ble_eq_true rfl) rfl (lvs_c rfl (lvs_c rfl (lvs_c rfl (lvs_c rfl (lvs_c rfl (lvs_n)))))) ?_
        refine wa_iinc cx dX10_bestBar_62 (l5 + (1 : Int32)) [(0, .ref (ad g c0)), (1, .int a1), (2, .int l5), (3, .long x4), (5, .int (l5 + (1 : Int32)))] rfl rfl (Nat.le_of_ble_eq_true rfl) rfl (lvs_c rfl (lvs_c rfl (lvs_c rfl (lvs_c rfl (lvs_c rfl (lvs_n)))))) ?_
        refine wa_goto cx dX10_bestBar_65 25 (by decide) ?_
        refine wa_sub (lv' := [(0, .ref (ad g c0)), (1, .int a1), (2, .int l5), (3, .long x4), (5, .int (l5 + (1 : Int32)))]) (lvs_c rfl (lvs_c rfl (lvs_c rfl (lvs_c rfl (lvs_c rfl (lvs_n)))))) ?_
        exact ih l5 x4 (l5 + (1 : Int32)) S5  h
      · rw [if_neg q7] at h
        refine wa_lload cx dX10_bestBar_49 rfl ?_
        refine wa_lload_n cx (i := 3) dX10_bestBar_51 rfl rfl ?_
        refine wa_lcmp_ge cx dX10_bestBar_52 dX10_bestBar_53 62 (by decide) (fun q8 => ?_) (fun q8 => ?_)
        · rw [if_pos q8] at h
          refine wa_iinc cx dX10_bestBar_62 (l5 + (1 : Int32)) [(0, .ref (ad g c0)), (1, .int a1), (2, .int l2), (3, .long l3), (5, .int (l5 + (1 : Int32)))] rfl rfl (Nat.le_of_ble_eq_true rfl) rfl (lvs_c rfl (lvs_c rfl (lvs_c rfl (lvs_c rfl (lvs_c rfl (lvs_n)))))) ?_
          refine wa_goto cx dX10_bestBar_65 25 (by decide) ?_
          refine wa_sub (lv' := [(0, .ref (ad g c0)), (1, .int a1), (2, .int l2), (3, .long l3), (5, .int (l5 + (1 : Int32)))]) (lvs_c rfl (lvs_c rfl (lvs_c rfl (lvs_c rfl (lvs_c rfl (lvs_n)))))) ?_
          exact ih l2 l3 (l5 + (1 : Int32)) S5  h
        · rw [if_neg q8] at h
          refine wa_iload cx dX10_bestBar_56 rfl ?_
          refine wa_istore_n cx (i := 2) dX10_bestBar_58 [(0, .ref (ad g c0)), (1, .int a1), (2, .int l5), (5, .int l5), (6, .long x4)] rfl (Nat.le_of_ble_eq_true rfl) rfl (lvs_c rfl (lvs_c rfl (lvs_c rfl (lvs_c rfl (lvs_c rfl (lvs_n)))))) ?_
          refine wa_lload cx dX10_bestBar_59 rfl ?_
          refine wa_lstore_n cx (i := 3) dX10_bestBar_61 [(0, .ref (ad g c0)), (1, .int a1), (2, .int l5), (3, .long x4), (5, .int l5)] rfl (Nat.le_of_ble_eq_true rfl) rfl (lvs_c rfl (lvs_c rfl (lvs_c rfl (lvs_c rfl (lvs_c rfl (lvs_n)))))) ?_
          refine wa_iinc cx dX10_bestBar_62 (l5 + (1 : Int32)) [(0, .ref (ad g c0)), (1, .int a1), (2, .int l5), (3, .long x4), (5, .int (l5 + (1 : Int32)))] rfl rfl (Nat.le_of_ble_eq_true rfl) rfl (lvs_c rfl (lvs_c rfl (lvs_c rfl (lvs_c rfl (lvs_c rfl (lvs_n)))))) ?_
          refine wa_goto cx dX10_bestBar_65 25 (by decide) ?_
          refine wa_sub (lv' := [(0, .ref (ad g c0)), (1, .int a1), (2, .int l5), (3, .long x4), (5, .int (l5 + (1 : Int32)))]) (lvs_c rfl (lvs_c rfl (lvs_c rfl (lvs_c rfl (lvs_c rfl (lvs_n)))))) ?_
          exact ih l5 x4 (l5 + (1 : Int32)) S5  h
def f_X10_bestBar (c0 : Nat) (a1 : Int32) (S : St) : Option (Int64 × St) := bd (f_X10_in (Int32.toInt64 a1) (0 : Int64) (1 : Int64) S) fun x9 S10 => if x9 = 0 then some ((-1 : Int64), S10) else bd (f_X10_plain c0 S10) fun _ S13 => f_X10_bestBar_L25 FU c0 a1 (0 : Int32) (0 : Int64) (1 : Int32) S13
set_option maxHeartbeats 4000000 in
set_option maxRecDepth 100000 in
theorem m_X10_bestBar (l : Launch) {g : Gl} (hg : GOK g) {c0 : Nat} {a1 : Int32} {S : St} {r : Int64 × St} (h_c0 : kd g c0 = 10) (h : f_X10_bestBar c0 a1 S = some r) : MW l yX10_bestBar cX10_bestBar 8 (some .long) rm_X10_bestBar g S [.ref (ad g c0), .int a1] (QWl g r) := by
  refine startW [(0, .ref (ad g c0)), (1, .int a1)] (by decide +kernel) (Nat.le_of_ble_eq_true rfl) rfl hg (fun p e s m args below meth c cx => ?_)
  have cx : Cx p s m args meth c cX10_bestBar 8 (some .long) RX10 g (Ap g) := cx
  rw [f_X10_bestBar] at h
  refine wa_iload_n cx (i := 1) dX10_bestBar_0 rfl rfl ?_
  refine wa_i2l cx dX10_bestBar_1 ?_
  refine wa_lconst cx dX10_bestBar_2 (0 : Int64) (by decide) ?_
  refine wa_lconst cx dX10_bestBar_3 (1 : Int64) (by decide) ?_
  obtain ⟨x9, S10, e11, h⟩ := bd_some h
  refine wa_callSi cx (m_X10_in l cx.2.2.2.2.2.2.1  e11) vl_X10_95 ⟨Nat.le_of_ble_eq_true rfl, Nat.le_of_ble_eq_true rfl⟩ ⟨rfl, rfl⟩ ⟨Nat.zero_le _, Nat.zero_le _⟩ rfl (Nat.le_of_ble_eq_true rfl) dX10_bestBar_4 rfl ?_
  refine wa_if_ne cx dX10_bestBar_7 14 (by decide) (fun q12 => ?_) (fun q12 => ?_)
  · rw [if_neg q12] at h
    refine wa_aload_n cx (i := 0) dX10_bestBar_14 rfl rfl ?_
    obtain ⟨u15, S13, e14, h⟩ := bd_some h
    refine wa_callVv cx (m_X10_plain l cx.2.2.2.2.2.2.1 h_c0 e14) vl_X10_151 h_c0 (by decide) rfl rfl ⟨_, cell_eq10 (kd_lt h_c0 (by decide)).2⟩ ⟨Nat.le_of_ble_eq_true rfl, Nat.le_of_ble_eq_true rfl⟩ ⟨rfl, rfl⟩ ⟨Nat.zero_le _, Nat.zero_le _⟩ rfl (Nat.le_of_ble_eq_true rfl) dX10_bestBar_15 rfl ?_
    refine wa_iconst cx dX10_bestBar_18 (0 : Int32) (by decide) ?_
    refine wa_istore_n cx (i := 2) dX10_bestBar_19 [(0, .ref (ad g c0)), (1, .int a1), (2, .int (0 : Int32))] rfl (Nat.le_of_ble_eq_true rfl) rfl (lvs_c rfl (lvs_c rfl (lvs_c rfl (lvs_n)))) ?_
    refine wa_lconst cx dX10_bestBar_20 (0 : Int64) (by decide) ?_
    refine wa_lstore_n cx (i := 3) dX10_bestBar_21 [(0, .ref (ad g c0)), (1, .int a1), (2, .int (0 : Int32)), (3, .long (0 : Int64))] rfl (Nat.le_of_ble_eq_true rfl) rfl (lvs_c rfl (lvs_c rfl (lvs_c rfl (lvs_c rfl (lvs_n))))) ?_
    refine wa_iconst cx dX10_bestBar_22 (1 : Int32) (by decide) ?_
    refine wa_istore cx dX10_bestBar_23 [(0, .ref (ad g c0)), (1, .int a1), (2, .int (0 : Int32)), (3, .long (0 : Int64)), (5, .int (1 : Int32))] (Nat.le_of_ble_eq_true rfl) rfl (lvs_c rfl (lvs_c rfl (lvs_c rfl (lvs_c rfl (lvs_c rfl (lvs_n)))))) ?_
    refine wa_sub (lv' := [(0, .ref (ad g c0)), (1, .int a1), (2, .int (0 : Int32)), (3, .long (0 : Int64)), (5, .int (1 : Int32))]) (lvs_c rfl (lvs_c rfl (lvs_c rfl (lvs_c rfl (lvs_c rfl (lvs_n)))))) ?_
    exact w_X10_bestBar_L25 cx h_c0  FU (0 : Int32) (0 : Int64) (1 : Int32) S13  h
  · rw [if_pos q12] at h
    refine wa_ldc2 cx dX10_bestBar_10 (-1 : Int64) kc_X10_231 ?_
    exact wa_lret cx h dX10_bestBar_13
def rm_X10_bestDay : Room := { frames := 5, cells := 0, slots := 0, locals := 126 }
def f_X10_bestDay_J58 (c0 : Nat) (kb15 : Int32 → Int64 → Int64 → Int32 → St → Option (Int32 × St)) (l6 : Int32) (l7 : Int64) (l9 : Int64) (S : St) : Option (Int32 × St) := kb15 l6 l7 l9 (l6 + (1 : Int32)) S
set_option maxHeartbeats 4000000 in
set_option maxRecDepth 100000 in
theorem w_X10_bestDay_J58 {p : Program} {l : Launch} {e : Env} {s : State} {m : MethodId} {args : Array Value} {below : List Frame} {meth : Method} {c : Code} {g : Gl} {r : Int32 × St} {c0 : Nat} {kb15 : Int32 → Int64 → Int64 → Int32 → St → Option (Int32 × St)} (cx : Cx p s m args meth c cX10_bestDay 11 (some .int) RX10 g (Ap g)) (h_c0 : kd g c0 = 10) (hkb15 : ∀ (l1 : Int32) (l2 : Int64) (l4 : Int64) (l6 : Int32) (S : St), kb15 l1 l2 l4 l6 S = some r → WA p l e rm_X10_bestDay s m args below meth c 0 0 (MQ below (QWi g r) args s 0 0 (Ap g)) 11 g (Ap g) S 15 [(0, .ref (ad g c0)), (1, .int l1), (2, .long l2), (4, .long l4), (6, .int l6)] []) : ∀ (l6 : Int32) (l7 : Int64) (l9 : Int64) (S : St), f_X10_bestDay_J58 c0 kb15 l6 l7 l9 S = some r → WA p l e rm_X10_bestDay s m args below meth c 0 0 (MQ below (QWi g r) args s 0 0 (Ap g)) 11 g (Ap g) S 58 [(0, .ref (ad g c0)), (6, .int l6), (7, .long l7), (9, .long l9)] [] := by
  intro l6 l7 l9 S h
  rw [f_X10_bestDay_J58] at h
  refine wa_iload cx dX10_bestDay_58 rfl ?_
  refine wa_istore_n cx (i := 1) dX10_bestDay_60 [(0, .ref (ad g c0)), (1, .int l6), (6, .int l6), (7, .long l7), (9, .long l9)] rfl (Nat.le_of_ble_eq_true rfl) rfl (lvs_c rfl (lvs_c rfl (lvs_c rfl (lvs_c rfl (lvs_c rfl (lvs_n)))))) ?_
  refine wa_lload cx dX10_bestDay_61 rfl ?_
  refine wa_lstore_n cx (i := 2) dX10_bestDay_63 [(0, .ref (ad g c0)), (1, .int l6), (2, .long l7), (6, .int l6), (9, .long l9)] rfl (Nat.le_of_ble_eq_true rfl) rfl (lvs_c rfl (lvs_c rfl (lvs_c rfl (lvs_c rfl (lvs_c rfl (lvs_n)))))) ?_
  refine wa_lload cx dX10_bestDay_64 rfl ?_
  refine wa_lstore cx dX10_bestDay_66 [(0, .ref (ad g c0)), (1, .int l6), (2, .long l7), (4, .long l9), (6, .int l6)] (Nat.le_of_ble_eq_true rfl) rfl (lvs_c rfl (lvs_c rfl (lvs_c rfl (lvs_c rfl (lvs_c rfl (lvs_n)))))) ?_
  refine wa_iinc cx dX10_bestDay_68 (l6 + (1 : Int32)) [(0, .ref (ad g c0)), (1, .int l6), (2, .long l7), (4, .long l9), (6, .int (l6 + (1 : Int32)))] rfl rfl (Nat.le_of_ble_eq_true rfl) rfl (lvs_c rfl (lvs_c rfl (lvs_c rfl (lvs_c rfl (lvs_c rfl (lvs_n)))))) ?_
  refine wa_goto cx dX10_bestDay_71 15 (by decide) ?_
  refine wa_sub (lv' := [(0, .ref (ad g c0)), (1, .int l6), (2, .long l7), (4, .long l9), (6, .int (l6 + (1 : Int32)))]) (lvs_c rfl (lvs_c rfl (lvs_c rfl (lvs_c rfl (lvs_c rfl (lvs_n)))))) ?_
  exact hkb15 l6 l7 l9 (l6 + (1 : Int32)) S  h
def f_X10_bestDay_L15 : Nat → Nat → Int32 → Int64 → Int64 → Int32 → St → Option (Int32 × St)
  | 0, _, _, _, _, _, _ => none
  | n + 1, c0, l1, l2, l4, l6, S => if (30 : Int32) < l6 then some (l1, S) else sq (pI S c0 20 l6) fun S2 => bd (f_X10_waysOf c0 (0 : Int32) S2) fun x3 S4 => bd (f_X10_allWays c0 S4) fun x6 S7 => if l1 < 0 then f_X10_bestDay_J58 c0 (fun l1 l2 l4 l6 S => f_X10_bestDay_L15 n c0 l1 l2 l4 l6 S) l6 x3 x6 S7 else if (x3 * l4) ≤ (l2 * x6) then f_X10_bestDay_L15 n c0 l1 l2 l4 (l6 + (1 : Int32)) S7 else f_X10_bestDay_J58 c0 (fun l1 l2 l4 l6 S => f_X10_bestDay_L15 n c0 l1 l2 l4 l6 S) l6 x3 x6 S7
set_option maxHeartbeats 4000000 in
set_option maxRecDepth 100000 in
theorem w_X10_bestDay_L15 {p : Program} {l : Launch} {e : Env} {s : State} {m : MethodId} {args : Array Value} {below : List Frame} {meth : Method} {c : Code} {g : Gl} {r : Int32 × St} {c0 : Nat} (cx : Cx p s m args meth c cX10_bestDay 11 (some .int) RX10 g (Ap g)) (h_c0 : kd g c0 = 10) : ∀ n : Nat, ∀ (l1 : Int32) (l2 : Int64) (l4 : Int64) (l6 : Int32) (S : St), f_X10_bestDay_L15 n c0 l1 l2 l4 l6 S = some r → WA p l e rm_X10_bestDay s m args below meth c 0 0 (MQ below (QWi g r) args s 0 0 (Ap g)) 11 g (Ap g) S 15 [(0, .ref (ad g c0)), (1, .int l1), (2, .long l2), (4, .long l4), (6, .int l6)] [] := by
  intro n
  induction n with
  | zero => intro l1 l2 l4 l6 S h; rw [f_X10_bestDay_L15] at h; cases h
  | succ n ih =>
    intro l1 l2 l4 l6 S h
    rw [f_X10_bestDay_L15] at h
    refine wa_iload cx dX10_bestDay_15 rfl ?_
    refine wa_bipush cx dX10_bestDay_17 (30 : Int32) (by decide) ?_
    refine wa_icmp_gt cx dX10_bestDay_19 74 (by decide) (fun q1 => ?_) (fun q1 => ?_)
    · rw [if_pos q1] at h
      refine wa_iload_n cx (i := 1) dX10_bestDay_74 rfl rfl ?_
      exact wa_iret cx h dX10_bestDay_75
    · rw [if_neg q1] at h
      refine wa_aload_n cx (i := 0) dX10_bestDay_22 rfl rfl ?_
      refine wa_iload cx dX10_bestDay_23 rfl ?_
      refine pf_X10_157 cx h_c0 dX10_bestDay_25 ?_
      replace h := sq_eq h
      generalize (pI S c0 20 l6) = S2 at h ⊢
      refine wa_aload_n cx (i := 0) dX10_bestDay_28 rfl rfl ?_
      refine wa_iconst cx dX10_bestDay_29 (0 : Int32) (by decide) ?_
      obtain ⟨x3, S4, e5, h⟩ := bd_some h
      refine wa_callVl cx (m_X10_waysOf l cx.2.2.2.2.2.2.1 h_c0 e5) vl_X10_233 h_c0 (by decide) rfl rfl ⟨_, cell_eq10 (kd_lt h_c0 (by decide)).2⟩ ⟨Nat.le_of_ble_eq_true rfl, Nat.le_of_ble_eq_true rfl⟩ ⟨rfl, rfl⟩ ⟨Nat.zero_le _, Nat.zero_le _⟩ rfl (Nat.le_of_ble_eq_true rfl) dX10_bestDay_30 rfl ?_
      refine wa_lstore cx dX10_bestDay_33 [(0, .ref (ad g c0)), (1, .int l1), (2, .long l2), (4, .long l4), (6, .int l6), (7, .long x3)] (Nat.le_of_ble_eq_true rfl) rfl (lvs_c rfl (lvs_c rfl (lvs_c rfl (lvs_c rfl (lvs_c rfl (lvs_c rfl (lvs_n))))))) ?_
      refine wa_aload_n cx (i := 0) dX10_bestDay_35 rfl rfl ?_
      obtain ⟨x6, S7, e8, h⟩ := bd_some h
      refine wa_callVl cx (m_X10_allWays l cx.2.2.2.2.2.2.1 h_c0 e8) vl_X10_237 h_c0 (by decide) rfl rfl ⟨_, cell_eq10 (kd_lt h_c0 (by decide)).2⟩ ⟨Nat.le_of_ble_eq_true rfl, Nat.le_of_ble_eq_true rfl⟩ ⟨rfl, rfl⟩ ⟨Nat.zero_le _, Nat.zero_le _⟩ rfl (Nat.le_of_ble_eq_true rfl) dX10_bestDay_36 rfl ?_
      refine wa_lstore cx dX10_bestDay_39 [(0, .ref (ad g c0)), (1, .int l1), (2, .long l2), (4, .long l4), (6, .int l6), (7, .long x3), (9, .long x6)] (Nat.le_of_ble_eq_true rfl) rfl (lvs_c rfl (lvs_c rfl (lvs_c rfl (lvs_c rfl (lvs_c rfl (lvs_c rfl (lvs_c rfl (lvs_n)))))))) ?_
      refine wa_iload_n cx (i := 1) dX10_bestDay_41 rfl rfl ?_
      refine wa_if_lt cx dX10_bestDay_42 58 (by decide) (fun q9 => ?_) (fun q9 => ?_)
      · rw [if_pos q9] at h
        refine wa_sub (lv' := [(0, .ref (ad g c0)), (6, .int l6), (7, .long x3), (9, .long x6)]) (lvs_c rfl (lvs_c rfl (lvs_c rfl (lvs_c rfl (lvs_n))))) ?_
        exact w_X10_bestDay_J58 cx h_c0 ih  l6 x3 x6 S7  h
      · rw [if_neg q9] at h
        refine wa_lload cx dX10_bestDay_45 rfl ?_
        refine wa_lload cx dX10_bestDay_47 rfl ?_
        refine wa_lmul cx dX10_bestDay_49 ?_
        refine wa_lload_n cx (i := 2) dX10_bestDay_50 rfl rfl ?_
        refine wa_lload cx dX10_bestDay_51 rfl ?_
        refine wa_lmul cx dX10_bestDay_53 ?_
        refine wa_lcmp_le cx dX10_bestDay_54 dX10_bestDay_55 68 (by decide) (fun q10 => ?_) (fun q10 => ?_)
        · rw [if_pos q10] at h
          refine wa_iinc cx dX10_bestDay_68 (l6 + (1 : Int32)) [(0, .ref (ad g c0)), (1, .int l1), (2, .long l2), (4, .long l4), (6, .int (l6 + (1 : Int32)))] rfl rfl (Nat.le_of_ble_eq_true rfl) rfl (lvs_c rfl (lvs_c rfl (lvs_c rfl (lvs_c rfl (lvs_c rfl (lvs_n)))))) ?_
          refine wa_goto cx dX10_bestDay_71 15 (by decide) ?_
          refine wa_sub (lv' := [(0, .ref (ad g c0)), (1, .int l1), (2, .long l2), (4, .long l4), (6, .int (l6 + (1 : Int32)))]) (lvs_c rfl (lvs_c rfl (lvs_c rfl (lvs_c rfl (lvs_c rfl (lvs_n)))))) ?_
          exact ih l1 l2 l4 (l6 + (1 : Int32)) S7  h
        · rw [if_neg q10] at h
          refine wa_sub (lv' := [(0, .ref (ad g c0)), (6, .int l6), (7, .long x3), (9, .long x6)]) (lvs_c rfl (lvs_c rfl (lvs_c rfl (lvs_c rfl (lvs_n))))) ?_
          exact w_X10_bestDay_J58 cx h_c0 ih  l6 x3 x6 S7  h
def f_X10_bestDay (c0 : Nat) (S : St) : Option (Int32 × St) := bd (f_X10_plain c0 S) fun _ S11 => f_X10_bestDay_L15 FU c0 (-4 : Int32) (0 : Int64) (1 : Int64) (0 : Int32) S11
set_option maxHeartbeats 4000000 in
set_option maxRecDepth 100000 in
theorem m_X10_bestDay (l : Launch) {g : Gl} (hg : GOK g) {c0 : Nat} {S : St} {r : Int32 × St} (h_c0 : kd g c0 = 10) (h : f_X10_bestDay c0 S = some r) : MW l yX10_bestDay cX10_bestDay 11 (some .int) rm_X10_bestDay g S [.ref (ad g c0)] (QWi g r) := by
  refine startW [(0, .ref (ad g c0))] (by decide +kernel) (Nat.le_of_ble_eq_true rfl) rfl hg (fun p e s m args below meth c cx => ?_)
  have cx : Cx p s m args meth c cX10_bestDay 11 (some .int) RX10 g (Ap g) := cx
  rw [f_X10_bestDay] at h
  refine wa_aload_n cx (i := 0) dX10_bestDay_0 rfl rfl ?_
  obtain ⟨u13, S11, e12, h⟩ := bd_some h
  refine wa_callVv cx (m_X10_plain l cx.2.2.2.2.2.2.1 h_c0 e12) vl_X10_151 h_c0 (by decide) rfl rfl ⟨_, cell_eq10 (kd_lt h_c0 (by decide)).2⟩ ⟨Nat.le_of_ble_eq_true rfl, Nat.le_of_ble_eq_true rfl⟩ ⟨rfl, rfl⟩ ⟨Nat.zero_le _, Nat.zero_le _⟩ rfl (Nat.le_of_ble_eq_true rfl) dX10_bestDay_1 rfl ?_
  refine wa_bipush cx dX10_bestDay_4 (-4 : Int32) (by decide) ?_
  refine wa_istore_n cx (i := 1) dX10_bestDay_6 [(0, .ref (ad g c0)), (1, .int (-4 : Int32))] rfl (Nat.le_of_ble_eq_true rfl) rfl (lvs_c rfl (lvs_c rfl (lvs_n))) ?_
  refine wa_lconst cx dX10_bestDay_7 (0 : Int64) (by decide) ?_
  refine wa_lstore_n cx (i := 2) dX10_bestDay_8 [(0, .ref (ad g c0)), (1, .int (-4 : Int32)), (2, .long (0 : Int64))] rfl (Nat.le_of_ble_eq_true rfl) rfl (lvs_c rfl (lvs_c rfl (lvs_c rfl (lvs_n)))) ?_
  refine wa_lconst cx dX10_bestDay_9 (1 : Int64) (by decide) ?_
  refine wa_lstore cx dX10_bestDay_10 [(0, .ref (ad g c0)), (1, .int (-4 : Int32)), (2, .long (0 : Int64)), (4, .long (1 : Int64))] (Nat.le_of_ble_eq_true rfl) rfl (lvs_c rfl (lvs_c rfl (lvs_c rfl (lvs_c rfl (lvs_n))))) ?_
  refine wa_iconst cx dX10_bestDay_12 (0 : Int32) (by decide) ?_
  refine wa_istore cx dX10_bestDay_13 [(0, .ref (ad g c0)), (1, .int (-4 : Int32)), (2, .long (0 : Int64)), (4, .long (1 : Int64)), (6, .int (0 : Int32))] (Nat.le_of_ble_eq_true rfl) rfl (lvs_c rfl (lvs_c rfl (lvs_c rfl (lvs_c rfl (lvs_c rfl (lvs_n)))))) ?_
  refine wa_sub (lv' := [(0, .ref (ad g c0)), (1, .int (-4 : Int32)), (2, .long (0 : Int64)), (4, .long (1 : Int64)), (6, .int (0 : Int32))]) (lvs_c rfl (lvs_c rfl (lvs_c rfl (lvs_c rfl (lvs_c rfl (lvs_n)))))) ?_
  exact w_X10_bestDay_L15 cx h_c0  FU (-4 : Int32) (0 : Int64) (1 : Int64) (0 : Int32) S11  h
def rm_X10_extra : Room := { frames := 5, cells := 0, slots := 0, locals := 126 }
def f_X10_extra_L20 : Nat → Nat → Int32 → Int32 → St → Option (Int32 × St)
  | 0, _, _, _, _ => none
  | n + 1, c0, a1, l2, S => if (9 : Int32) < l2 then some ((-4 : Int32), S) else sq (pI S c0 21 l2) fun S2 => bd (f_X10_waysOf c0 (0 : Int32) S2) fun x3 S4 => bd (f_X10_allWays c0 S4) fun x6 S7 => if ((10 : Int64) * x3) < ((Int32.toInt64 a1) * x6) then f_X10_extra_L20 n c0 a1 (l2 + (1 : Int32)) S7 else some (l2, S7)
set_option maxHeartbeats 4000000 in
set_option maxRecDepth 100000 in
theorem w_X10_extra_L20 {p : Program} {l : Launch} {e : Env} {s : State} {m : MethodId} {args : Array Value} {below : List Frame} {meth : Method} {c : Code} {g : Gl} {r : Int32 × St} {c0 : Nat} {a1 : Int32} (cx : Cx p s m args meth c cX10_extra 3 (some .int) RX10 g (Ap g)) (h_c0 : kd g c0 = 10) : ∀ n : Nat, ∀ (l2 : Int32) (S : St), f_X10_extra_L20 n c0 a1 l2 S = some r → WA p l e rm_X10_extra s m args below meth c 0 0 (MQ below (QWi g r) args s 0 0 (Ap g)) 3 g (Ap g) S 20 [(0, .ref (ad g c0)), (1, .int a1), (2, .int l2)] [] := by
  intro n
  induction n with
  | zero => intro l2 S h; rw [f_X10_extra_L20] at h; cases h
  | succ n ih =>
    intro l2 S h
    rw [f_X10_extra_L20] at h
    refine wa_iload_n cx (i := 2) dX10_extra_20 rfl rfl ?_
    refine wa_bipush cx dX10_extra_21 (9 : Int32) (by decide) ?_
    refine wa_icmp_gt cx dX10_extra_23 59 (by decide) (fun q1 => ?_) (fun q1 => ?_)
    · rw [if_pos q1] at h
      refine wa_bipush cx dX10_extra_59 (-4 : Int32) (by decide) ?_
      exact wa_iret cx h dX10_extra_61
    · rw [if_neg q1] at h
      refine wa_aload_n cx (i := 0) dX10_extra_26 rfl rfl ?_
      refine wa_iload_n cx (i := 2) dX10_extra_27 rfl rfl ?_
      refine pf_X10_160 cx h_c0 dX10_extra_28 ?_
      replace h := sq_eq h
      generalize (pI S c0 21 l2) = S2 at h ⊢
      refine wa_ldc2 cx dX10_extra_31 (10 : Int64) kc_X10_126 ?_
      refine wa_aload_n cx (i := 0) dX10_extra_34 rfl rfl ?_
      refine wa_iconst cx dX10_extra_35 (0 : Int32) (by decide) ?_
      obtain ⟨x3, S4, e5, h⟩ := bd_some h
      refine wa_callVl cx (m_X10_waysOf l cx.2.2.2.2.2.2.1 h_c0 e5) vl_X10_233 h_c0 (by decide) rfl rfl ⟨_, cell_eq10 (kd_lt h_c0 (by decide)).2⟩ ⟨Nat.le_of_ble_eq_true rfl, Nat.le_of_ble_eq_true rfl⟩ ⟨rfl, rfl⟩ ⟨Nat.zero_le _, Nat.zero_le _⟩ rfl (Nat.le_of_ble_eq_true rfl) dX10_extra_36 rfl ?_
      refine wa_lmul cx dX10_extra_39 ?_
      refine wa_iload_n cx (i := 1) dX10_extra_40 rfl rfl ?_
      refine wa_i2l cx dX10_extra_41 ?_
      refine wa_aload_n cx (i := 0) dX10_extra_42 rfl rfl ?_
      obtain ⟨x6, S7, e8, h⟩ := bd_some h
      refine wa_callVl cx (m_X10_allWays l cx.2.2.2.2.2.2.1 h_c0 e8) vl_X10_237 h_c0 (by decide) rfl rfl ⟨_, cell_eq10 (kd_lt h_c0 (by decide)).2⟩ ⟨Nat.le_of_ble_eq_true rfl, Nat.le_of_ble_eq_true rfl⟩ ⟨rfl, rfl⟩ ⟨Nat.zero_le _, Nat.zero_le _⟩ rfl (Nat.le_of_ble_eq_true rfl) dX10_extra_43 rfl ?_
      refine wa_lmul cx dX10_extra_46 ?_
      refine wa_lcmp_lt cx dX10_extra_47 dX10_extra_48 53 (by decide) (fun q9 => ?_) (fun q9 => ?_)
      · rw [if_pos q9] at h
        refine wa_iinc cx dX10_extra_53 (l2 + (1 : Int32)) [(0, .ref (ad g c0)), (1, .int a1), (2, .int (l2 + (1 : Int32)))] rfl rfl (Nat.le_of_ble_eq_true rfl) rfl (lvs_c rfl (lvs_c rfl (lvs_c rfl (lvs_n)))) ?_
        refine wa_goto cx dX10_extra_56 20 (by decide) ?_
        refine wa_sub (lv' := [(0, .ref (ad g c0)), (1, .int a1), (2, .int (l2 + (1 : Int32)))]) (lvs_c rfl (lvs_c rfl (lvs_c rfl (lvs_n)))) ?_
        exact ih (l2 + (1 : Int32)) S7  h
      · rw [if_neg q9] at h
        refine wa_iload_n cx (i := 2) dX10_extra_51 rfl rfl ?_
        exact wa_iret cx h dX10_extra_52
def f_X10_extra (c0 : Nat) (a1 : Int32) (S : St) : Option (Int32 × St) := bd (f_X10_in (Int32.toInt64 a1) (0 : Int64) (10 : Int64) S) fun x10 S11 => if x10 = 0 then some ((-1 : Int32), S11) else bd (f_X10_plain c0 S11) fun _ S14 => f_X10_extra_L20 FU c0 a1 (0 : Int32) S14
set_option maxHeartbeats 4000000 in
set_option maxRecDepth 100000 in
theorem m_X10_extra (l : Launch) {g : Gl} (hg : GOK g) {c0 : Nat} {a1 : Int32} {S : St} {r : Int32 × St} (h_c0 : kd g c0 = 10) (h : f_X10_extra c0 a1 S = some r) : MW l yX10_extra cX10_extra 3 (some .int) rm_X10_extra g S [.ref (ad g c0), .int a1] (QWi g r) := by
  refine startW [(0, .ref (ad g c0)), (1, .int a1)] (by decide +kernel) (Nat.le_of_ble_eq_true rfl) rfl hg (fun p e s m args below meth c cx => ?_)
  have cx : Cx p s m args meth c cX10_extra 3 (some .int) RX10 g (Ap g) := cx
  rw [f_X10_extra] at h
  refine wa_iload_n cx (i := 1) dX10_extra_0 rfl rfl ?_
  refine wa_i2l cx dX10_extra_1 ?_
  refine wa_lconst cx dX10_extra_2 (0 : Int64) (by decide) ?_
  refine wa_ldc2 cx dX10_extra_3 (10 : Int64) kc_X10_126 ?_
  obtain ⟨x10, S11, e12, h⟩ := bd_some h
  refine wa_callSi cx (m_X10_in l cx.2.2.2.2.2.2.1  e12) vl_X10_95 ⟨Nat.le_of_ble_eq_true rfl, Nat.le_of_ble_eq_true rfl⟩ ⟨rfl, rfl⟩ ⟨Nat.zero_le _, Nat.zero_le _⟩ rfl (Nat.le_of_ble_eq_true rfl) dX10_extra_6 rfl ?_
  refine wa_if_ne cx dX10_extra_9 14 (by decide) (fun q13 => ?_) (fun q13 => ?_)
  · rw [if_neg q13] at h
    refine wa_aload_n cx (i := 0) dX10_extra_14 rfl rfl ?_
    obtain ⟨u16, S14, e15, h⟩ := bd_some h
    refine wa_callVv cx (m_X10_plain l cx.2.2.2.2.2.2.1 h_c0 e15) vl_X10_151 h_c0 (by decide) rfl rfl ⟨_, cell_eq10 (kd_lt h_c0 (by decide)).2⟩ ⟨Nat.le_of_ble_eq_true rfl, Nat.le_of_ble_eq_true rfl⟩ ⟨rfl, rfl⟩ ⟨Nat.zero_le _, Nat.zero_le _⟩ rfl (Nat.le_of_ble_eq_true rfl) dX10_extra_15 rfl ?_
    refine wa_iconst cx dX10_extra_18 (0 : Int32) (by decide) ?_
    refine wa_istore_n cx (i := 2) dX10_extra_19 [(0, .ref (ad g c0)), (1, .int a1), (2, .int (0 : Int32))] rfl (Nat.le_of_ble_eq_true rfl) rfl (lvs_c rfl (lvs_c rfl (lvs_c rfl (lvs_n)))) ?_
    refine wa_sub (lv' := [(0, .ref (ad g c0)), (1, .int a1), (2, .int (0 : Int32))]) (lvs_c rfl (lvs_c rfl (lvs_c rfl (lvs_n)))) ?_
    exact w_X10_extra_L20 cx h_c0  FU (0 : Int32) S14  h
  · rw [if_pos q13] at h
    refine wa_iconst cx dX10_extra_12 (-1 : Int32) (by decide) ?_
    exact wa_iret cx h dX10_extra_13
def rm_X10_bestShow : Room := { frames := 5, cells := 0, slots := 0, locals := 126 }
def f_X10_bestShow_J45 (c0 : Nat) (kb13 : Int32 → Int64 → Int32 → St → Option (Int32 × St)) (l2 : Int64) (l4 : Int32) (l5 : Int64) (k0 : Int32) (S : St) : Option (Int32 × St) := if l5 ≤ l2 then kb13 k0 l2 (l4 + (1 : Int32)) S else kb13 k0 l5 (l4 + (1 : Int32)) S
set_option maxHeartbeats 4000000 in
set_option maxRecDepth 100000 in
theorem w_X10_bestShow_J45 {p : Program} {l : Launch} {e : Env} {s : State} {m : MethodId} {args : Array Value} {below : List Frame} {meth : Method} {c : Code} {g : Gl} {r : Int32 × St} {c0 : Nat} {kb13 : Int32 → Int64 → Int32 → St → Option (Int32 × St)} (cx : Cx p s m args meth c cX10_bestShow 7 (some .int) RX10 g (Ap g)) (h_c0 : kd g c0 = 10) (hkb13 : ∀ (l1 : Int32) (l2 : Int64) (l4 : Int32) (S : St), kb13 l1 l2 l4 S = some r → WA p l e rm_X10_bestShow s m args below meth c 0 0 (MQ below (QWi g r) args s 0 0 (Ap g)) 7 g (Ap g) S 13 [(0, .ref (ad g c0)), (1, .int l1), (2, .long l2), (4, .int l4)] []) : ∀ (l2 : Int64) (l4 : Int32) (l5 : Int64) (k0 : Int32) (S : St), f_X10_bestShow_J45 c0 kb13 l2 l4 l5 k0 S = some r → WA p l e rm_X10_bestShow s m args below meth c 0 0 (MQ below (QWi g r) args s 0 0 (Ap g)) 7 g (Ap g) S 45 [(0, .ref (ad g c0)), (2, .long l2), (4, .int l4), (5, .long l5)] [.int k0] := by
  intro l2 l4 l5 k0 S h
  rw [f_X10_bestShow_J45] at h
  refine wa_istore_n cx (i := 1) dX10_bestShow_45 [(0, .ref (ad g c0)), (1, .int k0), (2, .long l2), (4, .int l4), (5, .long l5)] rfl (Nat.le_of_ble_eq_true rfl) rfl (lvs_c rfl (lvs_c rfl (lvs_c rfl (lvs_c rfl (lvs_c rfl (lvs_n)))))) ?_
  refine wa_lload cx dX10_bestShow_46 rfl ?_
  refine wa_lload_n cx (i := 2) dX10_bestShow_48 rfl rfl ?_
  refine wa_lcmp_le cx dX10_bestShow_49 dX10_bestShow_50 58 (by decide) (fun q1 => ?_) (fun q1 => ?_)
  · rw [if_pos q1] at h
    refine wa_lload_n cx (i := 2) dX10_bestShow_58 rfl rfl ?_
    refine wa_lstore_n cx (i := 2) dX10_bestShow_59 [(0, .ref (ad g c0)), (1, .int k0), (2, .long l2), (4, .int l4)] rfl (Nat.le_of_ble_eq_true rfl) rfl (lvs_c rfl (lvs_c rfl (lvs_c rfl (lvs_c rfl (lvs_n))))) ?_
    refine wa_iinc cx dX10_bestShow_60 (l4 + (1 : Int32)) [(0, .ref (ad g c0)), (1, .int k0), (2, .long l2), (4, .int (l4 + (1 : Int32)))] rfl rfl (Nat.le_of_ble_eq_true rfl) rfl (lvs_c rfl (lvs_c rfl (lvs_c rfl (lvs_c rfl (lvs_n))))) ?_
    refine wa_goto cx dX10_bestShow_63 13 (by decide) ?_
    refine wa_sub (lv' := [(0, .ref (ad g c0)), (1, .int k0), (2, .long l2), (4, .int (l4 + (1 : Int32)))]) (lvs_c rfl (lvs_c rfl (lvs_c rfl (lvs_c rfl (lvs_n))))) ?_
    exact hkb13 k0 l2 (l4 + (1 : Int32)) S  h
  · rw [if_neg q1] at h
    refine wa_lload cx dX10_bestShow_53 rfl ?_
    refine wa_goto cx dX10_bestShow_55 59 (by decide) ?_
    refine wa_lstore_n cx (i := 2) dX10_bestShow_59 [(0, .ref (ad g c0)), (1, .int k0), (2, .long l5), (4, .int l4)] rfl (Nat.le_of_ble_eq_true rfl) rfl (lvs_c rfl (lvs_c rfl (lvs_c rfl (lvs_c rfl (lvs_n))))) ?_
    refine wa_iinc cx dX10_bestShow_60 (l4 + (1 : Int32)) [(0, .ref (ad g c0)), (1, .int k0), (2, .long l5), (4, .int (l4 + (1 : Int32)))] rfl rfl (Nat.le_of_ble_eq_true rfl) rfl (lvs_c rfl (lvs_c rfl (lvs_c rfl (lvs_c rfl (lvs_n))))) ?_
    refine wa_goto cx dX10_bestShow_63 13 (by decide) ?_
    refine wa_sub (lv' := [(0, .ref (ad g c0)), (1, .int k0), (2, .long l5), (4, .int (l4 + (1 : Int32)))]) (lvs_c rfl (lvs_c rfl (lvs_c rfl (lvs_c rfl (lvs_n))))) ?_
    exact hkb13 k0 l5 (l4 + (1 : Int32)) S  h
def f_X10_bestShow_L13 : Nat → Nat → Int32 → Int64 → Int32 → St → Option (Int32 × St)
  | 0, _, _, _, _, _ => none
  | n + 1, c0, l1, l2, l4, S => if (3 : Int32) ≤ l4 then some (l1, S) else sq (pI S c0 22 l4) fun S3 => bd (f_X10_waysOf c0 (0 : Int32) S3) fun x4 S5 => if x4 ≤ l2 then f_X10_bestShow_J45 c0 (fun l1 l2 l4 S => f_X10_bestShow_L13 n c0 l1 l2 l4 S) l2 l4 x4 l1 S5 else f_X10_bestShow_J45 c0 (fun l1 l2 l4 S => f_X10_bestShow_L13 n c0 l1 l2 l4 S) l2 l4 x4 l4 S5
set_option maxHeartbeats 4000000 in
set_option maxRecDepth 100000 in
theorem w_X10_bestShow_L13 {p : Program} {l : Launch} {e : Env} {s : State} {m : MethodId} {args : Array Value} {below : List Frame} {meth : Method} {c : Code} {g : Gl} {r : Int32 × St} {c0 : Nat} (cx : Cx p s m args meth c cX10_bestShow 7 (some .int) RX10 g (Ap g)) (h_c0 : kd g c0 = 10) : ∀ n : Nat, ∀ (l1 : Int32) (l2 : Int64) (l4 : Int32) (S : St), f_X10_bestShow_L13 n c0 l1 l2 l4 S = some r → WA p l e rm_X10_bestShow s m args below meth c 0 0 (MQ below (QWi g r) args s 0 0 (Ap g)) 7 g (Ap g) S 13 [(0, .ref (ad g c0)), (1, .int l1), (2, .long l2), (4, .int l4)] [] := by
  intro n
  induction n with
  | zero => intro l1 l2 l4 S h; rw [f_X10_bestShow_L13] at h; cases h
  | succ n ih =>
    intro l1 l2 l4 S h
    rw [f_X10_bestShow_L13] at h
    refine wa_iload cx dX10_bestShow_13 rfl ?_
    refine wa_iconst cx dX10_bestShow_15 (3 : Int32) (by decide) ?_
    refine wa_icmp_ge cx dX10_bestShow_16 66 (by decide) (fun q2 => ?_) (fun q2 => ?_)
    · rw [if_pos q2] at h
      refine wa_iload_n cx (i := 1) dX10_bestShow_66 rfl rfl ?_
      exact wa_iret cx h dX10_bestShow_67
    · rw [if_neg q2] at h
      refine wa_aload_n cx (i := 0) dX10_bestShow_19 rfl rfl ?_
      refine wa_iload cx dX10_bestShow_20 rfl ?_
      refine pf_X10_163 cx h_c0 dX10_bestShow_22 ?_
      replace h := sq_eq h
      generalize (pI S c0 22 l4) = S3 at h ⊢
      refine wa_aload_n cx (i := 0) dX10_bestShow_25 rfl rfl ?_
      refine wa_iconst cx dX10_bestShow_26 (0 : Int32) (by decide) ?_
      obtain ⟨x4, S5, e6, h⟩ := bd_some h
      refine wa_callVl cx (m_X10_waysOf l cx.2.2.2.2.2.2.1 h_c0 e6) vl_X10_233 h_c0 (by decide) rfl rfl ⟨_, cell_eq10 (kd_lt h_c0 (by decide)).2⟩ ⟨Nat.le_of_ble_eq_true rfl, Nat.le_of_ble_eq_true rfl⟩ ⟨rfl, rfl⟩ ⟨Nat.zero_le _, Nat.zero_le _⟩ rfl (Nat.le_of_ble_eq_true rfl) dX10_bestShow_27 rfl ?_
      refine wa_lstore cx dX10_bestShow_30 [(0, .ref (ad g c0)), (1, .int l1), (2, .long l2), (4, .int l4), (5, .long x4)] (Nat.le_of_ble_eq_true rfl) rfl (lvs_c rfl (lvs_c rfl (lvs_c rfl (lvs_c rfl (lvs_c rfl (lvs_n)))))) ?_
      refine wa_lload cx dX10_bestShow_32 rfl ?_
      refine wa_lload_n cx (i := 2) dX10_bestShow_34 rfl rfl ?_
      refine wa_lcmp_le cx dX10_bestShow_35 dX10_bestShow_36 44 (by decide) (fun q7 => ?_) (fun q7 => ?_)
      · rw [if_pos q7] at h
        refine wa_iload_n cx (i := 1) dX10_bestShow_44 rfl rfl ?_
        refine wa_sub (lv' := [(0, .ref (ad g c0)), (2, .long l2), (4, .int l4), (5, .long x4)]) (lvs_c rfl (lvs_c rfl (lvs_c rfl (lvs_c rfl (lvs_n))))) ?_
        exact w_X10_bestShow_J45 cx h_c0 ih  l2 l4 x4 l1 S5  h
      · rw [if_neg q7] at h
        refine wa_iload cx dX10_bestShow_39 rfl ?_
        refine wa_goto cx dX10_bestShow_41 45 (by decide) ?_
        refine wa_sub (lv' := [(0, .ref (ad g c0)), (2, .long l2), (4, .int l4), (5, .long x4)]) (lvs_c rfl (lvs_c rfl (lvs_c rfl (lvs_c rfl (lvs_n))))) ?_
        exact w_X10_bestShow_J45 cx h_c0 ih  l2 l4 x4 l4 S5  h
def f_X10_bestShow (c0 : Nat) (S : St) : Option (Int32 × St) := bd (f_X10_plain c0 S) fun _ S8 => f_X10_bestShow_L13 FU c0 (0 : Int32) (-1 : Int64) (0 : Int32) S8
set_option maxHeartbeats 4000000 in
set_option maxRecDepth 100000 in
theorem m_X10_bestShow (l : Launch) {g : Gl} (hg : GOK g) {c0 : Nat} {S : St} {r : Int32 × St} (h_c0 : kd g c0 = 10) (h : f_X10_bestShow c0 S = some r) : MW l yX10_bestShow cX10_bestShow 7 (some .int) rm_X10_bestShow g S [.ref (ad g c0)] (QWi g r) := by
  refine startW [(0, .ref (ad g c0))] (by decide +kernel) (Nat.le_of_ble_eq_true rfl) rfl hg (fun p e s m args below meth c cx => ?_)
  have cx : Cx p s m args meth c cX10_bestShow 7 (some .int) RX10 g (Ap g) := cx
  rw [f_X10_bestShow] at h
  refine wa_aload_n cx (i := 0) dX10_bestShow_0 rfl rfl ?_
  obtain ⟨u10, S8, e9, h⟩ := bd_some h
  refine wa_callVv cx (m_X10_plain l cx.2.2.2.2.2.2.1 h_c0 e9) vl_X10_151 h_c0 (by decide) rfl rfl ⟨_, cell_eq10 (kd_lt h_c0 (by decide)).2⟩ ⟨Nat.le_of_ble_eq_true rfl, Nat.le_of_ble_eq_true rfl⟩ ⟨rfl, rfl⟩ ⟨Nat.zero_le _, Nat.zero_le _⟩ rfl (Nat.le_of_ble_eq_true rfl) dX10_bestShow_1 rfl ?_
  refine wa_iconst cx dX10_bestShow_4 (0 : Int32) (by decide) ?_
  refine wa_istore_n cx (i := 1) dX10_bestShow_5 [(0, .ref (ad g c0)), (1, .int (0 : Int32))] rfl (Nat.le_of_ble_eq_true rfl) rfl (lvs_c rfl (lvs_c rfl (lvs_n))) ?_
  refine wa_ldc2 cx dX10_bestShow_6 (-1 : Int64) kc_X10_231 ?_
  refine wa_lstore_n cx (i := 2) dX10_bestShow_9 [(0, .ref (ad g c0)), (1, .int (0 : Int32)), (2, .long (-1 : Int64))] rfl (Nat.le_of_ble_eq_true rfl) rfl (lvs_c rfl (lvs_c rfl (lvs_c rfl (lvs_n)))) ?_
  refine wa_iconst cx dX10_bestShow_10 (0 : Int32) (by decide) ?_
  refine wa_istore cx dX10_bestShow_11 [(0, .ref (ad g c0)), (1, .int (0 : Int32)), (2, .long (-1 : Int64)), (4, .int (0 : Int32))] (Nat.le_of_ble_eq_true rfl) rfl (lvs_c rfl (lvs_c rfl (lvs_c rfl (lvs_c rfl (lvs_n))))) ?_
  refine wa_sub (lv' := [(0, .ref (ad g c0)), (1, .int (0 : Int32)), (2, .long (-1 : Int64)), (4, .int (0 : Int32))]) (lvs_c rfl (lvs_c rfl (lvs_c rfl (lvs_c rfl (lvs_n))))) ?_
  exact w_X10_bestShow_L13 cx h_c0  FU (0 : Int32) (-1 : Int64) (0 : Int32) S8  h
def rm_X10_richWays : Room := { frames := 5, cells := 0, slots := 0, locals := 126 }
def f_X10_richWays (c0 : Nat) (a1 : Int32) (a2 : Int32) (S : St) : Option (Int64 × St) := bd (f_X10_plain c0 S) fun _ S1 => sq (pI S1 c0 23 a1) fun S4 => sq (pI S4 c0 24 a2) fun S5 => bd (f_X10_waysOf c0 (0 : Int32) S5) fun x6 S7 => some (x6, S7)
set_option maxHeartbeats 4000000 in
set_option maxRecDepth 100000 in
theorem m_X10_richWays (l : Launch) {g : Gl} (hg : GOK g) {c0 : Nat} {a1 : Int32} {a2 : Int32} {S : St} {r : Int64 × St} (h_c0 : kd g c0 = 10) (h : f_X10_richWays c0 a1 a2 S = some r) : MW l yX10_richWays cX10_richWays 3 (some .long) rm_X10_richWays g S [.ref (ad g c0), .int a1, .int a2] (QWl g r) := by
  refine startW [(0, .ref (ad g c0)), (1, .int a1), (2, .int a2)] (by decide +kernel) (Nat.le_of_ble_eq_true rfl) rfl hg (fun p e s m args below meth c cx => ?_)
  have cx : Cx p s m args meth c cX10_richWays 3 (some .long) RX10 g (Ap g) := cx
  rw [f_X10_richWays] at h
  refine wa_aload_n cx (i := 0) dX10_richWays_0 rfl rfl ?_
  obtain ⟨u3, S1, e2, h⟩ := bd_some h
  refine wa_callVv cx (m_X10_plain l cx.2.2.2.2.2.2.1 h_c0 e2) vl_X10_151 h_c0 (by decide) rfl rfl ⟨_, cell_eq10 (kd_lt h_c0 (by decide)).2⟩ ⟨Nat.le_of_ble_eq_true rfl, Nat.le_of_ble_eq_true rfl⟩ ⟨rfl, rfl⟩ ⟨Nat.zero_le _, Nat.zero_le _⟩ rfl (Nat.le_of_ble_eq_true rfl) dX10_richWays_1 rfl ?_
  refine wa_aload_n cx (i := 0) dX10_richWays_4 rfl rfl ?_
  refine wa_iload_n cx (i := 1) dX10_richWays_5 rfl rfl ?_
  refine pf_X10_166 cx h_c0 dX10_richWays_6 ?_
  replace h := sq_eq h
  generalize (pI S1 c0 23 a1) = S4 at h ⊢
  refine wa_aload_n cx (i := 0) dX10_richWays_9 rfl rfl ?_
  refine wa_iload_n cx (i := 2) dX10_richWays_10 rfl rfl ?_
  refine pf_X10_169 cx h_c0 dX10_richWays_11 ?_
  replace h := sq_eq h
  generalize (pI S4 c0 24 a2) = S5 at h ⊢
  refine wa_aload_n cx (i := 0) dX10_richWays_14 rfl rfl ?_
  refine wa_iconst cx dX10_richWays_15 (0 : Int32) (by decide) ?_
  obtain ⟨x6, S7, e8, h⟩ := bd_some h
  refine wa_callVl cx (m_X10_waysOf l cx.2.2.2.2.2.2.1 h_c0 e8) vl_X10_233 h_c0 (by decide) rfl rfl ⟨_, cell_eq10 (kd_lt h_c0 (by decide)).2⟩ ⟨Nat.le_of_ble_eq_true rfl, Nat.le_of_ble_eq_true rfl⟩ ⟨rfl, rfl⟩ ⟨Nat.zero_le _, Nat.zero_le _⟩ rfl (Nat.le_of_ble_eq_true rfl) dX10_richWays_16 rfl ?_
  exact wa_lret cx h dX10_richWays_19
def rm_X10_rich : Room := { frames := 6, cells := 0, slots := 0, locals := 148 }
def f_X10_rich (c0 : Nat) (a1 : Int32) (a2 : Int32) (S : St) : Option (Int64 × St) := bd (f_X10_in (Int32.toInt64 a1) (0 : Int64) (99 : Int64) S) fun x1 S2 => if x1 = 0 then some ((-1 : Int64), S2) else bd (f_X10_in (Int32.toInt64 a2) (0 : Int64) (Int32.toInt64 (S2.1 (c0 + 2) (Int32.toNatClampNeg (2 : Int32)))) S2) fun x5 S6 => if x5 = 0 then some ((-1 : Int64), S6) else bd (f_X10_richWays c0 a1 a2 S6) fun x9 S10 => some (x9, S10)
set_option maxHeartbeats 4000000 in
set_option maxRecDepth 100000 in
theorem m_X10_rich (l : Launch) {g : Gl} (hg : GOK g) {c0 : Nat} {a1 : Int32} {a2 : Int32} {S : St} {r : Int64 × St} (h_c0 : kd g c0 = 10) (h : f_X10_rich c0 a1 a2 S = some r) : MW l yX10_rich cX10_rich 3 (some .long) rm_X10_rich g S [.ref (ad g c0), .int a1, .int a2] (QWl g r) := by
  refine startW [(0, .ref (ad g c0)), (1, .int a1), (2, .int a2)] (by decide +kernel) (Nat.le_of_ble_eq_true rfl) rfl hg (fun p e s m args below meth c cx => ?_)
  have cx : Cx p s m args meth c cX10_rich 3 (some .long) RX10 g (Ap g) := cx
  rw [f_X10_rich] at h
  refine wa_iload_n cx (i := 1) dX10_rich_0 rfl rfl ?_
  refine wa_i2l cx dX10_rich_1 ?_
  refine wa_lconst cx dX10_rich_2 (0 : Int64) (by decide) ?_
  refine wa_ldc2 cx dX10_rich_3 (99 : Int64) kc_X10_281 ?_
  obtain ⟨x1, S2, e3, h⟩ := bd_some h
  refine wa_callSi cx (m_X10_in l cx.2.2.2.2.2.2.1  e3) vl_X10_95 ⟨Nat.le_of_ble_eq_true rfl, Nat.le_of_ble_eq_true rfl⟩ ⟨rfl, rfl⟩ ⟨Nat.zero_le _, Nat.zero_le _⟩ rfl (Nat.le_of_ble_eq_true rfl) dX10_rich_6 rfl ?_
  refine wa_if_eq cx dX10_rich_9 37 (by decide) (fun q4 => ?_) (fun q4 => ?_)
  · rw [if_pos q4] at h
    refine wa_ldc2 cx dX10_rich_37 (-1 : Int64) kc_X10_231 ?_
    exact wa_lret cx h dX10_rich_40
  · rw [if_neg q4] at h
    refine wa_iload_n cx (i := 2) dX10_rich_12 rfl rfl ?_
    refine wa_i2l cx dX10_rich_13 ?_
    refine wa_lconst cx dX10_rich_14 (0 : Int64) (by decide) ?_
    refine wa_aload_n cx (i := 0) dX10_rich_15 rfl rfl ?_
    refine gf_X10_13 cx h_c0 dX10_rich_16 ?_
    refine wa_iconst cx dX10_rich_19 (2 : Int32) (by decide) ?_
    refine wa_iald cx dX10_rich_20 (kq10_2 cx.2.2.2.2.2.2.1 h_c0) (vinl (by decide)) ?_
    refine wa_i2l cx dX10_rich_21 ?_
    obtain ⟨x5, S6, e7, h⟩ := bd_some h
    refine wa_callSi cx (m_X10_in l cx.2.2.2.2.2.2.1  e7) vl_X10_95 ⟨Nat.le_of_ble_eq_true rfl, Nat.le_of_ble_eq_true rfl⟩ ⟨rfl, rfl⟩ ⟨Nat.zero_le _, Nat.zero_le _⟩ rfl (Nat.le_of_ble_eq_true rfl) dX10_rich_22 rfl ?_
    refine wa_if_eq cx dX10_rich_25 37 (by decide) (fun q8 => ?_) (fun q8 => ?_)
    · rw [if_pos q8] at h
      refine wa_ldc2 cx dX10_rich_37 (-1 : Int64) kc_X10_231 ?_
      exact wa_lret cx h dX10_rich_40
    · rw [if_neg q8] at h
      refine wa_aload_n cx (i := 0) dX10_rich_28 rfl rfl ?_
      refine wa_iload_n cx (i := 1) dX10_rich_29 rfl rfl ?_
      refine wa_iload_n cx (i := 2) dX10_rich_30 rfl rfl ?_
      obtain ⟨x9, S10, e11, h⟩ := bd_some h
      refine wa_callVl cx (m_X10_richWays l cx.2.2.2.2.2.2.1 h_c0 e11) vl_X10_283 h_c0 (by decide) rfl rfl ⟨_, cell_eq10 (kd_lt h_c0 (by decide)).2⟩ ⟨Nat.le_of_ble_eq_true rfl, Nat.le_of_ble_eq_true rfl⟩ ⟨rfl, rfl⟩ ⟨Nat.zero_le _, Nat.zero_le _⟩ rfl (Nat.le_of_ble_eq_true rfl) dX10_rich_31 rfl ?_
      refine wa_goto cx dX10_rich_34 40 (by decide) ?_
      exact wa_lret cx h dX10_rich_40
