/-! the law's cell and board -/
abbrev RB : Type := Int32 × St × (Nat → Int32) × (Nat → Int32)
/-- the row b, the row w -/
def bw (ba wa : Nat) (cy : ClassId × ClassId) (B W : Nat → Int32) : va_W := [(ba, .inl (cy.1, 41, .inl B)), (wa, .inl (cy.1, 21, .inl W))]
def bx {β : Type} (o : Option (Int32 × St)) (k : Int32 → St → Option β) : Option β := match o with
  | none => none
  | some q => k q.1 q.2
theorem bx_some {β : Type} {o : Option (Int32 × St)} {k : Int32 → St → Option β} {r : β} (h : bx o k = some r) : ∃ v S, o = some (v, S) ∧ k v S = some r := by
  cases o with
  | none => cases h
  | some q => exact ⟨q.1, q.2, rfl, h⟩
theorem bx_ok {β : Type} {o : Option (Int32 × St)} {v : Int32} {S : St} {k : Int32 → St → Option β} (h : o = some (v, S)) : bx o k = k v S := by rw [h]; rfl
theorem cell_in {k : Int32} {Ln : Nat} (hk : 0 ≤ k ∧ Ln < 2147483648) (h : ¬ nI Ln ≤ k) : vp_in k Ln := by
  have h1 := Int32.le_iff_toInt_le.mp hk.1
  have h2 : (nI Ln).toInt = Ln := (show (Int32.ofInt (Ln : Int)).toInt = Ln from Int32.toInt_ofInt_of_le (by omega) (by omega))
  have h3 : ¬ (nI Ln).toInt ≤ k.toInt := fun z => h (Int32.le_iff_toInt_le.mpr z)
  have h4 : (0 : Int32).toInt = 0 := rfl
  refine vinl (fun z => ?_)
  rcases z with z | z
  · have := Int32.lt_iff_toInt_lt.mp z; omega
  · rw [Int32.toNatClampNeg] at z; omega
def rm_L_cell : Room := { frames := 0, cells := 0, slots := 0, locals := 0 }
/-- a cell of the script -/
def cellF (xs : Nat → Int32) (Ln : Nat) (k : Int32) : Int32 := if nI Ln ≤ k then (739982445 : Int32) * (k + (1 : Int32)) else xs (Int32.toNatClampNeg k)
theorem m_L_cell (l : Launch) {D : va_G} {cy : ClassId × ClassId} {b Ln : Nat} {xs : Nat → Int32} {k : Int32} (hk : 0 ≤ k ∧ Ln < 2147483648) : MGw l yL_cell cL_cell 2 (some .int) rm_L_cell D cy [] b Ln xs [.ref b, .int k] (cellF xs Ln k) [] := by
  refine startGw [(0, .ref b), (1, .int k)] (by decide +kernel) (Nat.le_of_ble_eq_true rfl) rfl (fun sz p e s m args below meth c cx hX hbl hbA => ?_)
  have cx : CxL p s m args meth c cL_cell 2 (some .int) RL D cy (va_A [] sz) := cx
  refine wl_iload_n cx (i := 1) dL_cell_0 rfl rfl ?_
  refine wl_aload_n cx (i := 0) dL_cell_1 rfl rfl ?_
  refine wl_slen cx hX hbl hbA dL_cell_2 ?_
  refine wl_icmp_ge cx dL_cell_3 12 (by decide) (fun q1 => ?_) (fun q1 => ?_)
  · refine wl_ldc cx dL_cell_12 (739982445 : Int32) kc_L_7 ?_
    refine wl_iload_n cx (i := 1) dL_cell_14 rfl rfl ?_
    refine wl_iconst cx dL_cell_15 (1 : Int32) (by decide) ?_
    refine wl_iadd cx dL_cell_16 ?_
    refine wl_imul cx dL_cell_17 ?_
    exact wl_iretG cx dL_cell_18 (if_pos q1).symm rfl
  · refine wl_aload_n cx (i := 0) dL_cell_6 rfl rfl ?_
    refine wl_iload_n cx (i := 1) dL_cell_7 rfl rfl ?_
    refine wl_sld cx hX hbl hbA dL_cell_8 (cell_in hk q1) ?_
    refine wl_goto cx dL_cell_9 18 (by decide) ?_
    exact wl_iretG cx dL_cell_18 (if_neg q1).symm rfl
def rm_L_board : Room := { frames := 6, cells := 0, slots := 0, locals := 134 }
def f_L_board_J711 (a0 : Nat) (xs : (Nat → Int32)) (Ln : Nat) (a2 : Int32) (kb395 : Int32 → Int32 → Int32 → St → (Nat → Int32) → (Nat → Int32) → Option RB) (kb648 : Int32 → Int32 → Int32 → Int32 → Int32 → Int32 → St → (Nat → Int32) → (Nat → Int32) → Option RB) (l7 : Int32) (l8 : Int32) (l9 : Int32) (l11 : Int32) (l18 : Int32) (l19 : Int32) (k0 : Int32) (S : St) (B W : Nat → Int32) : Option RB := sq (l18 - k0) fun x1 => bx (f_L_some (l11 >>> (((10 : Int32) + ((6 : Int32) * l19)) &&& 31)) (31 : Int32) S) fun x2 S3 => ob ((((7 : Int32) * l9) + (1 : Int32)) + ((2 : Int32) * l19)) 21 (sq (fset W (Int32.toNatClampNeg ((((7 : Int32) * l9) + (1 : Int32)) + ((2 : Int32) * l19))) x2) fun W6 => ob ((((7 : Int32) * l9) + (2 : Int32)) + ((2 : Int32) * l19)) 21 (sq (fset W6 (Int32.toNatClampNeg ((((7 : Int32) * l9) + (2 : Int32)) + ((2 : Int32) * l19))) k0) fun W8 => if l7 = 0 then kb648 (0 : Int32) l8 l9 l11 x1 (l19 + (1 : Int32)) S3 B W8 else ob ((((7 : Int32) * l9) + (1 : Int32)) + ((2 : Int32) * l19)) 21 (bx (f_L_item a0 (119 : Int32) (3 : Int32) l9 (W8 (Int32.toNatClampNeg ((((7 : Int32) * l9) + (1 : Int32)) + ((2 : Int32) * l19)))) k0 (0 : Int32) (0 : Int32) S3) fun x11 S12 => if x11 = 0 then kb648 (0 : Int32) l8 l9 l11 x1 (l19 + (1 : Int32)) S12 B W8 else kb648 (1 : Int32) l8 l9 l11 x1 (l19 + (1 : Int32)) S12 B W8)))
set_option maxHeartbeats 4000000 in
set_option maxRecDepth 100000 in
theorem w_L_board_J711 {p : Program} {l : Launch} {e : Env} {s : State} {m : MethodId} {args : Array Value} {below : List Frame} {meth : Method} {c : Code} {g : Gl} {ws0 : va_W} {sz b ba wa : Nat} {v0 : Int32} {rS : St} {rB rW : Nat → Int32} {a0 : Nat} {xs : Nat → Int32} {Ln : Nat} {a2 : Int32} {kb395 : Int32 → Int32 → Int32 → St → (Nat → Int32) → (Nat → Int32) → Option RB} {kb648 : Int32 → Int32 → Int32 → Int32 → Int32 → Int32 → St → (Nat → Int32) → (Nat → Int32) → Option RB} (cx : CxL p s m args meth c cL_board 21 (some .boolean) RL g.1 g.2.1 (va_A ws0 sz)) (hX : va_X b Ln xs s s.heap) (hbl : b < s.heap.size) (hbA : ¬ va_A ws0 sz b) (hn : npl g = 103) (h_a0 : kd g a0 = 9) (hkb395 : ∀ (l7 : Int32) (l8 : Int32) (l9 : Int32) (S : St) (B W : Nat → Int32), kb395 l7 l8 l9 S B W = some (v0, rS, rB, rW) → WL p l e rm_L_board s m args below meth c 0 0 (MQ below (QcGw g.1 ws0 sz (bw ba wa g.2.1 rB rW ++ pool g rS) v0) args s 0 0 (va_A ws0 sz)) 21 g.1 (va_A ws0 sz) (bw ba wa g.2.1 B W ++ pool g S) 395 [(0, .ref (ad g a0)), (1, .ref b), (2, .int a2), (3, .ref ba), (4, .ref wa), (7, .int l7), (8, .int l8), (9, .int l9)] []) (hkb648 : ∀ (l7 : Int32) (l8 : Int32) (l9 : Int32) (l11 : Int32) (l18 : Int32) (l19 : Int32) (S : St) (B W : Nat → Int32), kb648 l7 l8 l9 l11 l18 l19 S B W = some (v0, rS, rB, rW) → WL p l e rm_L_board s m args below meth c 0 0 (MQ below (QcGw g.1 ws0 sz (bw ba wa g.2.1 rB rW ++ pool g rS) v0) args s 0 0 (va_A ws0 sz)) 21 g.1 (va_A ws0 sz) (bw ba wa g.2.1 B W ++ pool g S) 648 [(0, .ref (ad g a0)), (1, .ref b), (2, .int a2), (3, .ref ba), (4, .ref wa), (7, .int l7), (8, .int l8), (9, .int l9), (11, .int l11), (18, .int l18), (19, .int l19)] []) : ∀ (l7 : Int32) (l8 : Int32) (l9 : Int32) (l11 : Int32) (l18 : Int32) (l19 : Int32) (k0 : Int32) (S : St) (B W : Nat → Int32), f_L_board_J711 a0 xs Ln a2 kb395 kb648 l7 l8 l9 l11 l18 l19 k0 S B W = some (v0, rS, rB, rW) → WL p l e rm_L_board s m args below meth c 0 0 (MQ below (QcGw g.1 ws0 sz (bw ba wa g.2.1 rB rW ++ pool g rS) v0) args s 0 0 (va_A ws0 sz)) 21 g.1 (va_A ws0 sz) (bw ba wa g.2.1 B W ++ pool g S) 711 [(0, .ref (ad g a0)), (1, .ref b), (2, .int a2), (3, .ref ba), (4, .ref wa), (7, .int l7), (8, .int l8), (9, .int l9), (11, .int l11), (18, .int l18), (19, .int l19)] [.int k0] := by
  intro l7 l8 l9 l11 l18 l19 k0 S B W h
  rw [f_L_board_J711] at h
  refine wl_istore cx dL_board_711 [(0, .ref (ad g a0)), (1, .ref b), (2, .int a2), (3, .ref ba), (4, .ref wa), (7, .int l7), (8, .int l8), (9, .int l9), (11, .int l11), (18, .int l18), (19, .int l19), (20, .int k0)] (Nat.le_of_ble_eq_true rfl) rfl (lvs_c rfl (lvs_c rfl (lvs_c rfl (lvs_c rfl (lvs_c rfl (lvs_c rfl (lvs_c rfl (lvs_c rfl (lvs_c rfl (lvs_c rfl (lvs_c rfl (lvs_c rfl (lvs_n))))))))))))) ?_
  refine wl_iload cx dL_board_713 rfl ?_
  refine wl_iload cx dL_board_715 rfl ?_
  refine wl_isub cx dL_board_717 ?_
  replace h := sq_eq h
  generalize (l18 - k0) = x1 at h ⊢
  refine wl_istore cx dL_board_718 [(0, .ref (ad g a0)), (1, .ref b), (2, .int a2), (3, .ref ba), (4, .ref wa), (7, .int l7), (8, .int l8), (9, .int l9), (11, .int l11), (18, .int x1), (19, .int l19), (20, .int k0)] (Nat.le_of_ble_eq_true rfl) rfl (lvs_c rfl (lvs_c rfl (lvs_c rfl (lvs_c rfl (lvs_c rfl (lvs_c rfl (lvs_c rfl (lvs_c rfl (lvs_c rfl (lvs_c rfl (lvs_c rfl (lvs_c rfl (lvs_n))))))))))))) ?_
  refine wl_aload cx dL_board_720 rfl ?_
  refine wl_bipush cx dL_board_722 (7 : Int32) (by decide) ?_
  refine wl_iload cx dL_board_724 rfl ?_
  refine wl_imul cx dL_board_726 ?_
  refine wl_iconst cx dL_board_727 (1 : Int32) (by decide) ?_
  refine wl_iadd cx dL_board_728 ?_
  refine wl_iconst cx dL_board_729 (2 : Int32) (by decide) ?_
  refine wl_iload cx dL_board_730 rfl ?_
  refine wl_imul cx dL_board_732 ?_
  refine wl_iadd cx dL_board_733 ?_
  refine wl_iload cx dL_board_734 rfl ?_
  refine wl_bipush cx dL_board_736 (10 : Int32) (by decide) ?_
  refine wl_bipush cx dL_board_738 (6 : Int32) (by decide) ?_
  refine wl_iload cx dL_board_740 rfl ?_
  refine wl_imul cx dL_board_742 ?_
  refine wl_iadd cx dL_board_743 ?_
  refine wl_ishr cx dL_board_744 ?_
  refine wl_bipush cx dL_board_745 (31 : Int32) (by decide) ?_
  obtain ⟨x2, S3, e4, h⟩ := bx_some h
  refine wl_callSi (S := S) cx hn (fun hg => m_L_some l hg  e4) vl_L_26 ⟨Nat.le_of_ble_eq_true rfl, Nat.le_of_ble_eq_true rfl⟩ ⟨rfl, rfl⟩ ⟨Nat.zero_le _, Nat.zero_le _⟩ rfl (Nat.le_of_ble_eq_true rfl) dL_board_747 rfl ?_
  obtain ⟨b5, h⟩ := ob_some h
  refine wl_iast cx (bw ba wa g.2.1 B (fset W (Int32.toNatClampNeg ((((7 : Int32) * l9) + (1 : Int32)) + ((2 : Int32) * l19))) x2) ++ pool g S3) dL_board_750 1 rfl b5 rfl ?_
  replace h := sq_eq h
  generalize (fset W (Int32.toNatClampNeg ((((7 : Int32) * l9) + (1 : Int32)) + ((2 : Int32) * l19))) x2) = W6 at h ⊢
  refine wl_aload cx dL_board_751 rfl ?_
  refine wl_bipush cx dL_board_753 (7 : Int32) (by decide) ?_
  refine wl_iload cx dL_board_755 rfl ?_
  refine wl_imul cx dL_board_757 ?_
  refine wl_iconst cx dL_board_758 (2 : Int32) (by decide) ?_
  refine wl_iadd cx dL_board_759 ?_
  refine wl_iconst cx dL_board_760 (2 : Int32) (by decide) ?_
  refine wl_iload cx dL_board_761 rfl ?_
  refine wl_imul cx dL_board_763 ?_
  refine wl_iadd cx dL_board_764 ?_
  refine wl_iload cx dL_board_765 rfl ?_
  obtain ⟨b7, h⟩ := ob_some h
  refine wl_iast cx (bw ba wa g.2.1 B (fset W6 (Int32.toNatClampNeg ((((7 : Int32) * l9) + (2 : Int32)) + ((2 : Int32) * l19))) k0) ++ pool g S3) dL_board_767 1 rfl b7 rfl ?_
  replace h := sq_eq h
  generalize (fset W6 (Int32.toNatClampNeg ((((7 : Int32) * l9) + (2 : Int32)) + ((2 : Int32) * l19))) k0) = W8 at h ⊢
  refine wl_iload cx dL_board_768 rfl ?_
  refine wl_if_eq cx dL_board_770 808 (by decide) (fun q9 => ?_) (fun q9 => ?_)
  · rw [if_pos q9] at h
    refine wl_iconst cx dL_board_808 (0 : Int32) (by decide) ?_
    refine wl_istore cx dL_board_809 [(0, .ref (ad g a0)), (1, .ref b), (2, .int a2), (3, .ref ba), (4, .ref wa), (7, .int (0 : Int32)), (8, .int l8), (9, .int l9), (11, .int l11), (18, .int x1), (19, .int l19)] (Nat.le_of_ble_eq_true rfl) rfl (lvs_c rfl (lvs_c rfl (lvs_c rfl (lvs_c rfl (lvs_c rfl (lvs_c rfl (lvs_c rfl (lvs_c rfl (lvs_c rfl (lvs_c rfl (lvs_c rfl (lvs_n)))))))))))) ?_
    refine wl_iinc cx dL_board_811 (l19 + (1 : Int32)) [(0, .ref (ad g a0)), (1, .ref b), (2, .int a2), (3, .ref ba), (4, .ref wa), (7, .int (0 : Int32)), (8, .int l8), (9, .int l9), (11, .int l11), (18, .int x1), (19, .int (l19 + (1 : Int32)))] rfl rfl (Nat.le_of_ble_eq_true rfl) rfl (lvs_c rfl (lvs_c rfl (lvs_c rfl (lvs_c rfl (lvs_c rfl (lvs_c rfl (lvs_c rfl (lvs_c rfl (lvs_c rfl (lvs_c rfl (lvs_c rfl (lvs_n)))))))))))) ?_
    refine wl_goto cx dL_board_814 648 (by decide) ?_
    refine wl_sub (lv' := [(0, .ref (ad g a0)), (1, .ref b), (2, .int a2), (3, .ref ba), (4, .ref wa), (7, .int (0 : Int32)), (8, .int l8), (9, .int l9), (11, .int l11), (18, .int x1), (19, .int (l19 + (1 : Int32)))]) (lvs_c rfl (lvs_c rfl (lvs_c rfl (lvs_c rfl (lvs_c rfl (lvs_c rfl (lvs_c rfl (lvs_c rfl (lvs_c rfl (lvs_c rfl (lvs_c rfl (lvs_n)))))))))))) ?_
    exact hkb648 (0 : Int32) l8 l9 l11 x1 (l19 + (1 : Int32)) S3 B W8 h
  · rw [if_neg q9] at h
    refine wl_aload_n cx (i := 0) dL_board_773 rfl rfl ?_
    refine wl_bipush cx dL_board_774 (119 : Int32) (by decide) ?_
    refine wl_iconst cx dL_board_776 (3 : Int32) (by decide) ?_
    refine wl_iload cx dL_board_777 rfl ?_
    refine wl_aload cx dL_board_779 rfl ?_
    refine wl_bipush cx dL_board_781 (7 : Int32) (by decide) ?_
    refine wl_iload cx dL_board_783 rfl ?_
    refine wl_imul cx dL_board_785 ?_
    refine wl_iconst cx dL_board_786 (1 : Int32) (by decide) ?_
    refine wl_iadd cx dL_board_787 ?_
    refine wl_iconst cx dL_board_788 (2 : Int32) (by decide) ?_
    refine wl_iload cx dL_board_789 rfl ?_
    refine wl_imul cx dL_board_791 ?_
    refine wl_iadd cx dL_board_792 ?_
    obtain ⟨b10, h⟩ := ob_some h
    refine wl_iald cx dL_board_793 1 rfl b10 ?_
    refine wl_iload cx dL_board_794 rfl ?_
    refine wl_iconst cx dL_board_796 (0 : Int32) (by decide) ?_
    refine wl_iconst cx dL_board_797 (0 : Int32) (by decide) ?_
    obtain ⟨x11, S12, e13, h⟩ := bx_some h
    refine wl_callSi (S := S3) cx hn (fun hg => m_L_item l hg h_a0 e13) vl_L_34 ⟨Nat.le_of_ble_eq_true rfl, Nat.le_of_ble_eq_true rfl⟩ ⟨rfl, rfl⟩ ⟨Nat.zero_le _, Nat.zero_le _⟩ rfl (Nat.le_of_ble_eq_true rfl) dL_board_798 rfl ?_
    refine wl_if_eq cx dL_board_801 808 (by decide) (fun q14 => ?_) (fun q14 => ?_)
    · rw [if_pos q14] at h
      refine wl_iconst cx dL_board_808 (0 : Int32) (by decide) ?_
      refine wl_istore cx dL_board_809 [(0, .ref (ad g a0)), (1, .ref b), (2, .int a2), (3, .ref ba), (4, .ref wa), (7, .int (0 : Int32)), (8, .int l8), (9, .int l9), (11, .int l11), (18, .int x1), (19, .int l19)] (Nat.le_of_ble_eq_true rfl) rfl (lvs_c rfl (lvs_c rfl (lvs_c rfl (lvs_c rfl (lvs_c rfl (lvs_c rfl (lvs_c rfl (lvs_c rfl (lvs_c rfl (lvs_c rfl (lvs_c rfl (lvs_n)))))))))))) ?_
      refine wl_iinc cx dL_board_811 (l19 + (1 : Int32)) [(0, .ref (ad g a0)), (1, .ref b), (2, .int a2), (3, .ref ba), (4, .ref wa), (7, .int (0 : Int32)), (8, .int l8), (9, .int l9), (11, .int l11), (18, .int x1), (19, .int (l19 + (1 : Int32)))] rfl rfl (Nat.le_of_ble_eq_true rfl) rfl (lvs_c rfl (lvs_c rfl (lvs_c rfl (lvs_c rfl (lvs_c rfl (lvs_c rfl (lvs_c rfl (lvs_c rfl (lvs_c rfl (lvs_c rfl (lvs_c rfl (lvs_n)))))))))))) ?_
      refine wl_goto cx dL_board_814 648 (by decide) ?_
      refine wl_sub (lv' := [(0, .ref (ad g a0)), (1, .ref b), (2, .int a2), (3, .ref ba), (4, .ref wa), (7, .int (0 : Int32)), (8, .int l8), (9, .int l9), (11, .int l11), (18, .int x1), (19, .int (l19 + (1 : Int32)))]) (lvs_c rfl (lvs_c rfl (lvs_c rfl (lvs_c rfl (lvs_c rfl (lvs_c rfl (lvs_c rfl (lvs_c rfl (lvs_c rfl (lvs_c rfl (lvs_c rfl (lvs_n)))))))))))) ?_
      exact hkb648 (0 : Int32) l8 l9 l11 x1 (l19 + (1 : Int32)) S12 B W8 h
    · rw [if_neg q14] at h
      refine wl_iconst cx dL_board_804 (1 : Int32) (by decide) ?_
      refine wl_goto cx dL_board_805 809 (by decide) ?_
      refine wl_istore cx dL_board_809 [(0, .ref (ad g a0)), (1, .ref b), (2, .int a2), (3, .ref ba), (4, .ref wa), (7, .int (1 : Int32)), (8, .int l8), (9, .int l9), (11, .int l11), (18, .int x1), (19, .int l19)] (Nat.le_of_ble_eq_true rfl) rfl (lvs_c rfl (lvs_c rfl (lvs_c rfl (lvs_c rfl (lvs_c rfl (lvs_c rfl (lvs_c rfl (lvs_c rfl (lvs_c rfl (lvs_c rfl (lvs_c rfl (lvs_n)))))))))))) ?_
      refine wl_iinc cx dL_board_811 (l19 + (1 : Int32)) [(0, .ref (ad g a0)), (1, .ref b), (2, .int a2), (3, .ref ba), (4, .ref wa), (7, .int (1 : Int32)), (8, .int l8), (9, .int l9), (11, .int l11), (18, .int x1), (19, .int (l19 + (1 : Int32)))] rfl rfl (Nat.le_of_ble_eq_true rfl) rfl (lvs_c rfl (lvs_c rfl (lvs_c rfl (lvs_c rfl (lvs_c rfl (lvs_c rfl (lvs_c rfl (lvs_c rfl (lvs_c rfl (lvs_c rfl (lvs_c rfl (lvs_n)))))))))))) ?_
      refine wl_goto cx dL_board_814 648 (by decide) ?_
      refine wl_sub (lv' := [(0, .ref (ad g a0)), (1, .ref b), (2, .int a2), (3, .ref ba), (4, .ref wa), (7, .int (1 : Int32)), (8, .int l8), (9, .int l9), (11, .int l11), (18, .int x1), (19, .int (l19 + (1 : Int32)))]) (lvs_c rfl (lvs_c rfl (lvs_c rfl (lvs_c rfl (lvs_c rfl (lvs_c rfl (lvs_c rfl (lvs_c rfl (lvs_c rfl (lvs_c rfl (lvs_c rfl (lvs_n)))))))))))) ?_
      exact hkb648 (1 : Int32) l8 l9 l11 x1 (l19 + (1 : Int32)) S12 B W8 h
def f_L_board_L648 : Nat → Nat → (Nat → Int32) → Nat → Int32 → (Int32 → Int32 → Int32 → St → (Nat → Int32) → (Nat → Int32) → Option RB) → Int32 → Int32 → Int32 → Int32 → Int32 → Int32 → St → (Nat → Int32) → (Nat → Int32) → Option RB
  | 0, _, _, _, _, _, _, _, _, _, _, _, _, _, _ => none
  | n + 1, a0, xs, Ln, a2, kb395, l7, l8, l9, l11, l18, l19, S, B, W => ob ((7 : Int32) * l9) 21 (if (W (Int32.toNatClampNeg ((7 : Int32) * l9))) ≤ l19 then kb395 l7 l8 (l9 + (1 : Int32)) S B W else ob ((7 : Int32) * l9) 21 (if l19 = ((W (Int32.toNatClampNeg ((7 : Int32) * l9))) - (1 : Int32)) then f_L_board_J711 a0 xs Ln a2 kb395 (fun l7 l8 l9 l11 l18 l19 S B W => f_L_board_L648 n a0 xs Ln a2 kb395 l7 l8 l9 l11 l18 l19 S B W) l7 l8 l9 l11 l18 l19 l18 S B W else ob ((7 : Int32) * l9) 21 (bx (f_L_some (l11 >>> (((2 : Int32) + ((3 : Int32) * l19)) &&& 31)) (((l18 - (W (Int32.toNatClampNeg ((7 : Int32) * l9)))) + l19) + (1 : Int32)) S) fun x20 S21 => f_L_board_J711 a0 xs Ln a2 kb395 (fun l7 l8 l9 l11 l18 l19 S B W => f_L_board_L648 n a0 xs Ln a2 kb395 l7 l8 l9 l11 l18 l19 S B W) l7 l8 l9 l11 l18 l19 ((1 : Int32) + x20) S21 B W)))
set_option maxHeartbeats 4000000 in
set_option maxRecDepth 100000 in
theorem w_L_board_L648 {p : Program} {l : Launch} {e : Env} {s : State} {m : MethodId} {args : Array Value} {below : List Frame} {meth : Method} {c : Code} {g : Gl} {ws0 : va_W} {sz b ba wa : Nat} {v0 : Int32} {rS : St} {rB rW : Nat → Int32} {a0 : Nat} {xs : Nat → Int32} {Ln : Nat} {a2 : Int32} {kb395 : Int32 → Int32 → Int32 → St → (Nat → Int32) → (Nat → Int32) → Option RB} (cx : CxL p s m args meth c cL_board 21 (some .boolean) RL g.1 g.2.1 (va_A ws0 sz)) (hX : va_X b Ln xs s s.heap) (hbl : b < s.heap.size) (hbA : ¬ va_A ws0 sz b) (hn : npl g = 103) (h_a0 : kd g a0 = 9) (hkb395 : ∀ (l7 : Int32) (l8 : Int32) (l9 : Int32) (S : St) (B W : Nat → Int32), kb395 l7 l8 l9 S B W = some (v0, rS, rB, rW) → WL p l e rm_L_board s m args below meth c 0 0 (MQ below (QcGw g.1 ws0 sz (bw ba wa g.2.1 rB rW ++ pool g rS) v0) args s 0 0 (va_A ws0 sz)) 21 g.1 (va_A ws0 sz) (bw ba wa g.2.1 B W ++ pool g S) 395 [(0, .ref (ad g a0)), (1, .ref b), (2, .int a2), (3, .ref ba), (4, .ref wa), (7, .int l7), (8, .int l8), (9, .int l9)] []) : ∀ n : Nat, ∀ (l7 : Int32) (l8 : Int32) (l9 : Int32) (l11 : Int32) (l18 : Int32) (l19 : Int32) (S : St) (B W : Nat → Int32), f_L_board_L648 n a0 xs Ln a2 kb395 l7 l8 l9 l11 l18 l19 S B W = some (v0, rS, rB, rW) → WL p l e rm_L_board s m args below meth c 0 0 (MQ below (QcGw g.1 ws0 sz (bw ba wa g.2.1 rB rW ++ pool g rS) v0) args s 0 0 (va_A ws0 sz)) 21 g.1 (va_A ws0 sz) (bw ba wa g.2.1 B W ++ pool g S) 648 [(0, .ref (ad g a0)), (1, .ref b), (2, .int a2), (3, .ref ba), (4, .ref wa), (7, .int l7), (8, .int l8), (9, .int l9), (11, .int l11), (18, .int l18), (19, .int l19)] [] := by
  intro n
  induction n with
  | zero => intro l7 l8 l9 l11 l18 l19 S B W h; rw [f_L_board_L648] at h; cases h
  | succ n ih =>
    intro l7 l8 l9 l11 l18 l19 S B W h
    rw [f_L_board_L648] at h
    refine wl_iload cx dL_board_648 rfl ?_
    refine wl_aload cx dL_board_650 rfl ?_
    refine wl_bipush cx dL_board_652 (7 : Int32) (by decide) ?_
    refine wl_iload cx dL_board_654 rfl ?_
    refine wl_imul cx dL_board_656 ?_
    obtain ⟨b15, h⟩ := ob_some h
    refine wl_iald cx dL_board_657 1 rfl b15 ?_
    refine wl_icmp_ge cx dL_board_658 817 (by decide) (fun q16 => ?_) (fun q16 => ?_)
    · rw [if_pos q16] at h
      refine wl_iinc cx dL_board_817 (l9 + (1 : Int32)) [(0, .ref (ad g a0)), (1, .ref b), (2, .int a2), (3, .ref ba), (4, .ref wa), (7, .int l7), (8, .int l8), (9, .int (l9 + (1 : Int32)))] rfl rfl (Nat.le_of_ble_eq_true rfl) rfl (lvs_c rfl (lvs_c rfl (lvs_c rfl (lvs_c rfl (lvs_c rfl (lvs_c rfl (lvs_c rfl (lvs_c rfl (lvs_n))))))))) ?_
      refine wl_goto cx dL_board_820 395 (by decide) ?_
      refine wl_sub (lv' := [(0, .ref (ad g a0)), (1, .ref b), (2, .int a2), (3, .ref ba), (4, .ref wa), (7, .int l7), (8, .int l8), (9, .int (l9 + (1 : Int32)))]) (lvs_c rfl (lvs_c rfl (lvs_c rfl (lvs_c rfl (lvs_c rfl (lvs_c rfl (lvs_c rfl (lvs_c rfl (lvs_n))))))))) ?_
      exact hkb395 l7 l8 (l9 + (1 : Int32)) S B W h
    · rw [if_neg q16] at h
      refine wl_iload cx dL_board_661 rfl ?_
      refine wl_aload cx dL_board_663 rfl ?_
      refine wl_bipush cx dL_board_665 (7 : Int32) (by decide) ?_
      refine wl_iload cx dL_board_667 rfl ?_
      refine wl_imul cx dL_board_669 ?_
      obtain ⟨b17, h⟩ := ob_some h
      refine wl_iald cx dL_board_670 1 rfl b17 ?_
      refine wl_iconst cx dL_board_671 (1 : Int32) (by decide) ?_
      refine wl_isub cx dL_board_672 ?_
      refine wl_icmp_ne cx dL_board_673 681 (by decide) (fun q18 => ?_) (fun q18 => ?_)
      · rw [if_neg q18] at h
        refine wl_iconst cx dL_board_681 (1 : Int32) (by decide) ?_
        refine wl_iload cx dL_board_682 rfl ?_
        refine wl_iconst cx dL_board_684 (2 : Int32) (by decide) ?_
        refine wl_iconst cx dL_board_685 (3 : Int32) (by decide) ?_
        refine wl_iload cx dL_board_686 rfl ?_
        refine wl_imul cx dL_board_688 ?_
        refine wl_iadd cx dL_board_689 ?_
        refine wl_ishr cx dL_board_690 ?_
        refine wl_iload cx dL_board_691 rfl ?_
        refine wl_aload cx dL_board_693 rfl ?_
        refine wl_bipush cx dL_board_695 (7 : Int32) (by decide) ?_
        refine wl_iload cx dL_board_697 rfl ?_
        refine wl_imul cx dL_board_699 ?_
        obtain ⟨b19, h⟩ := ob_some h
        refine wl_iald cx dL_board_700 1 rfl b19 ?_
        refine wl_isub cx dL_board_701 ?_
        refine wl_iload cx dL_board_702 rfl ?_
        refine wl_iadd cx dL_board_704 ?_
        refine wl_iconst cx dL_board_705 (1 : Int32) (by decide) ?_
        refine wl_iadd cx dL_board_706 ?_
        obtain ⟨x20, S21, e22, h⟩ := bx_some h
        refine wl_callSi (S := S) cx hn (fun hg => m_L_some l hg  e22) vl_L_26 ⟨Nat.le_of_ble_eq_true rfl, Nat.le_of_ble_eq_true rfl⟩ ⟨rfl, rfl⟩ ⟨Nat.zero_le _, Nat.zero_le _⟩ rfl (Nat.le_of_ble_eq_true rfl) dL_board_707 rfl ?_
        refine wl_iadd cx dL_board_710 ?_
        refine wl_sub (lv' := [(0, .ref (ad g a0)), (1, .ref b), (2, .int a2), (3, .ref ba), (4, .ref wa), (7, .int l7), (8, .int l8), (9, .int l9), (11, .int l11), (18, .int l18), (19, .int l19)]) (lvs_c rfl (lvs_c rfl (lvs_c rfl (lvs_c rfl (lvs_c rfl (lvs_c rfl (lvs_c rfl (lvs_c rfl (lvs_c rfl (lvs_c rfl (lvs_c rfl (lvs_n)))))))))))) ?_
        exact w_L_board_J711 cx hX hbl hbA hn h_a0 hkb395 ih  l7 l8 l9 l11 l18 l19 ((1 : Int32) + x20) S21 B W h
      · rw [if_pos q18] at h
        refine wl_iload cx dL_board_676 rfl ?_
        refine wl_goto cx dL_board_678 711 (by decide) ?_
        refine wl_sub (lv' := [(0, .ref (ad g a0)), (1, .ref b), (2, .int a2), (3, .ref ba), (4, .ref wa), (7, .int l7), (8, .int l8), (9, .int l9), (11, .int l11), (18, .int l18), (19, .int l19)]) (lvs_c rfl (lvs_c rfl (lvs_c rfl (lvs_c rfl (lvs_c rfl (lvs_c rfl (lvs_c rfl (lvs_c rfl (lvs_c rfl (lvs_c rfl (lvs_c rfl (lvs_n)))))))))))) ?_
        exact w_L_board_J711 cx hX hbl hbA hn h_a0 hkb395 ih  l7 l8 l9 l11 l18 l19 l18 S B W h
def f_L_board_L549 : Nat → Nat → (Nat → Int32) → Nat → Int32 → (Int32 → Int32 → Int32 → St → (Nat → Int32) → (Nat → Int32) → Option RB) → Int32 → Int32 → Int32 → Int32 → Int32 → Int32 → Int32 → Int32 → Int32 → Int32 → Int32 → St → (Nat → Int32) → (Nat → Int32) → Option RB
  | 0, _, _, _, _, _, _, _, _, _, _, _, _, _, _, _, _, _, _, _ => none
  | n + 1, a0, xs, Ln, a2, kb395, l7, l8, l9, l11, l12, l13, l14, l15, l16, l17, l18, S, B, W => if l12 ≤ l18 then bx (f_L_some l11 (3 : Int32) S) fun x24 S25 => ob ((7 : Int32) * l9) 21 (sq (fset W (Int32.toNatClampNeg ((7 : Int32) * l9)) ((1 : Int32) + x24)) fun W28 => f_L_board_L648 FU a0 xs Ln a2 kb395 l7 l8 l9 l11 (10 : Int32) (0 : Int32) S25 B W28) else ob ((11 : Int32) + (B (Int32.toNatClampNeg (0 : Int32)))) 41 (sq (fset B (Int32.toNatClampNeg ((11 : Int32) + (B (Int32.toNatClampNeg (0 : Int32))))) l9) fun B30 => ob ((17 : Int32) + (B30 (Int32.toNatClampNeg (0 : Int32)))) 41 (sq (fset B30 (Int32.toNatClampNeg ((17 : Int32) + (B30 (Int32.toNatClampNeg (0 : Int32))))) l13) fun B32 => ob ((23 : Int32) + (B32 (Int32.toNatClampNeg (0 : Int32)))) 41 (sq (fset B32 (Int32.toNatClampNeg ((23 : Int32) + (B32 (Int32.toNatClampNeg (0 : Int32))))) l14) fun B34 => ob ((29 : Int32) + (B34 (Int32.toNatClampNeg (0 : Int32)))) 41 (sq (fset B34 (Int32.toNatClampNeg ((29 : Int32) + (B34 (Int32.toNatClampNeg (0 : Int32))))) (l15 + (l18 * l16))) fun B36 => ob ((35 : Int32) + (B36 (Int32.toNatClampNeg (0 : Int32)))) 41 (sq (fset B36 (Int32.toNatClampNeg ((35 : Int32) + (B36 (Int32.toNatClampNeg (0 : Int32))))) l17) fun B38 => sq (fset B38 (Int32.toNatClampNeg (0 : Int32)) ((B38 (Int32.toNatClampNeg (0 : Int32))) + (1 : Int32))) fun B39 => f_L_board_L549 n a0 xs Ln a2 kb395 l7 l8 l9 l11 l12 l13 l14 l15 l16 l17 (l18 + (1 : Int32)) S B39 W)))))
set_option maxHeartbeats 4000000 in
set_option maxRecDepth 100000 in
theorem w_L_board_L549 {p : Program} {l : Launch} {e : Env} {s : State} {m : MethodId} {args : Array Value} {below : List Frame} {meth : Method} {c : Code} {g : Gl} {ws0 : va_W} {sz b ba wa : Nat} {v0 : Int32} {rS : St} {rB rW : Nat → Int32} {a0 : Nat} {xs : Nat → Int32} {Ln : Nat} {a2 : Int32} {kb395 : Int32 → Int32 → Int32 → St → (Nat → Int32) → (Nat → Int32) → Option RB} (cx : CxL p s m args meth c cL_board 21 (some .boolean) RL g.1 g.2.1 (va_A ws0 sz)) (hX : va_X b Ln xs s s.heap) (hbl : b < s.heap.size) (hbA : ¬ va_A ws0 sz b) (hn : npl g = 103) (h_a0 : kd g a0 = 9) (hkb395 : ∀ (l7 : Int32) (l8 : Int32) (l9 : Int32) (S : St) (B W : Nat → Int32), kb395 l7 l8 l9 S B W = some (v0, rS, rB, rW) → WL p l e rm_L_board s m args below meth c 0 0 (MQ below (QcGw g.1 ws0 sz (bw ba wa g.2.1 rB rW ++ pool g rS) v0) args s 0 0 (va_A ws0 sz)) 21 g.1 (va_A ws0 sz) (bw ba wa g.2.1 B W ++ pool g S) 395 [(0, .ref (ad g a0)), (1, .ref b), (2, .int a2), (3, .ref ba), (4, .ref wa), (7, .int l7), (8, .int l8), (9, .int l9)] []) : ∀ n : Nat, ∀ (l7 : Int32) (l8 : Int32) (l9 : Int32) (l11 : Int32) (l12 : Int32) (l13 : Int32) (l14 : Int32) (l15 : Int32) (l16 : Int32) (l17 : Int32) (l18 : Int32) (S : St) (B W : Nat → Int32), f_L_board_L549 n a0 xs Ln a2 kb395 l7 l8 l9 l11 l12 l13 l14 l15 l16 l17 l18 S B W = some (v0, rS, rB, rW) → WL p l e rm_L_board s m args below meth c 0 0 (MQ below (QcGw g.1 ws0 sz (bw ba wa g.2.1 rB rW ++ pool g rS) v0) args s 0 0 (va_A ws0 sz)) 21 g.1 (va_A ws0 sz) (bw ba wa g.2.1 B W ++ pool g S) 549 [(0, .ref (ad g a0)), (1, .ref b), (2, .int a2), (3, .ref ba), (4, .ref wa), (7, .int l7), (8, .int l8), (9, .int l9), (11, .int l11), (12, .int l12), (13, .int l13), (14, .int l14), (15, .int l15), (16, .int l16), (17, .int l17), (18, .int l18)] [] := by
  intro n
  induction n with
  | zero => intro l7 l8 l9 l11 l12 l13 l14 l15 l16 l17 l18 S B W h; rw [f_L_board_L549] at h; cases h
  | succ n ih =>
    intro l7 l8 l9 l11 l12 l13 l14 l15 l16 l17 l18 S B W h
    rw [f_L_board_L549] at h
    refine wl_iload cx dL_board_549 rfl ?_
    refine wl_iload cx dL_board_551 rfl ?_
    refine wl_icmp_ge cx dL_board_553 625 (by decide) (fun q23 => ?_) (fun q23 => ?_)
    · rw [if_pos q23] at h
      refine wl_aload cx dL_board_625 rfl ?_
      refine wl_bipush cx dL_board_627 (7 : Int32) (by decide) ?_
      refine wl_iload cx dL_board_629 rfl ?_
      refine wl_imul cx dL_board_631 ?_
      refine wl_iconst cx dL_board_632 (1 : Int32) (by decide) ?_
      refine wl_iload cx dL_board_633 rfl ?_
      refine wl_iconst cx dL_board_635 (3 : Int32) (by decide) ?_
      obtain ⟨x24, S25, e26, h⟩ := bx_some h
      refine wl_callSi (S := S) cx hn (fun hg => m_L_some l hg  e26) vl_L_26 ⟨Nat.le_of_ble_eq_true rfl, Nat.le_of_ble_eq_true rfl⟩ ⟨rfl, rfl⟩ ⟨Nat.zero_le _, Nat.zero_le _⟩ rfl (Nat.le_of_ble_eq_true rfl) dL_board_636 rfl ?_
      refine wl_iadd cx dL_board_639 ?_
      obtain ⟨b27, h⟩ := ob_some h
      refine wl_iast cx (bw ba wa g.2.1 B (fset W (Int32.toNatClampNeg ((7 : Int32) * l9)) ((1 : Int32) + x24)) ++ pool g S25) dL_board_640 1 rfl b27 rfl ?_
      replace h := sq_eq h
      generalize (fset W (Int32.toNatClampNeg ((7 : Int32) * l9)) ((1 : Int32) + x24)) = W28 at h ⊢
      refine wl_bipush cx dL_board_641 (10 : Int32) (by decide) ?_
      refine wl_istore cx dL_board_643 [(0, .ref (ad g a0)), (1, .ref b), (2, .int a2), (3, .ref ba), (4, .ref wa), (7, .int l7), (8, .int l8), (9, .int l9), (11, .int l11), (18, .int (10 : Int32))] (Nat.le_of_ble_eq_true rfl) rfl (lvs_c rfl (lvs_c rfl (lvs_c rfl (lvs_c rfl (lvs_c rfl (lvs_c rfl (lvs_c rfl (lvs_c rfl (lvs_c rfl (lvs_c rfl (lvs_n))))))))))) ?_
      refine wl_iconst cx dL_board_645 (0 : Int32) (by decide) ?_
      refine wl_istore cx dL_board_646 [(0, .ref (ad g a0)), (1, .ref b), (2, .int a2), (3, .ref ba), (4, .ref wa), (7, .int l7), (8, .int l8), (9, .int l9), (11, .int l11), (18, .int (10 : Int32)), (19, .int (0 : Int32))] (Nat.le_of_ble_eq_true rfl) rfl (lvs_c rfl (lvs_c rfl (lvs_c rfl (lvs_c rfl (lvs_c rfl (lvs_c rfl (lvs_c rfl (lvs_c rfl (lvs_c rfl (lvs_c rfl (lvs_c rfl (lvs_n)))))))))))) ?_
      refine wl_sub (lv' := [(0, .ref (ad g a0)), (1, .ref b), (2, .int a2), (3, .ref ba), (4, .ref wa), (7, .int l7), (8, .int l8), (9, .int l9), (11, .int l11), (18, .int (10 : Int32)), (19, .int (0 : Int32))]) (lvs_c rfl (lvs_c rfl (lvs_c rfl (lvs_c rfl (lvs_c rfl (lvs_c rfl (lvs_c rfl (lvs_c rfl (lvs_c rfl (lvs_c rfl (lvs_c rfl (lvs_n)))))))))))) ?_
      exact w_L_board_L648 cx hX hbl hbA hn h_a0 hkb395 FU l7 l8 l9 l11 (10 : Int32) (0 : Int32) S25 B W28 h
    · rw [if_neg q23] at h
      refine wl_aload_n cx (i := 3) dL_board_556 rfl rfl ?_
      refine wl_bipush cx dL_board_557 (11 : Int32) (by decide) ?_
      refine wl_aload_n cx (i := 3) dL_board_559 rfl rfl ?_
      refine wl_iconst cx dL_board_560 (0 : Int32) (by decide) ?_
      refine wl_iald cx dL_board_561 0 rfl (vinl (by decide)) ?_
      refine wl_iadd cx dL_board_562 ?_
      refine wl_iload cx dL_board_563 rfl ?_
      obtain ⟨b29, h⟩ := ob_some h
      refine wl_iast cx (bw ba wa g.2.1 (fset B (Int32.toNatClampNeg ((11 : Int32) + (B (Int32.toNatClampNeg (0 : Int32))))) l9) W ++ pool g S) dL_board_565 0 rfl b29 rfl ?_
      replace h := sq_eq h
      generalize (fset B (Int32.toNatClampNeg ((11 : Int32) + (B (Int32.toNatClampNeg (0 : Int32))))) l9) = B30 at h ⊢
      refine wl_aload_n cx (i := 3) dL_board_566 rfl rfl ?_
      refine wl_bipush cx dL_board_567 (17 : Int32) (by decide) ?_
      refine wl_aload_n cx (i := 3) dL_board_569 rfl rfl ?_
      refine wl_iconst cx dL_board_570 (0 : Int32) (by decide) ?_
      refine wl_iald cx dL_board_571 0 rfl (vinl (by decide)) ?_
      refine wl_iadd cx dL_board_572 ?_
      refine wl_iload cx dL_board_573 rfl ?_
      obtain ⟨b31, h⟩ := ob_some h
      refine wl_iast cx (bw ba wa g.2.1 (fset B30 (Int32.toNatClampNeg ((17 : Int32) + (B30 (Int32.toNatClampNeg (0 : Int32))))) l13) W ++ pool g S) dL_board_575 0 rfl b31 rfl ?_
      replace h := sq_eq h
      generalize (fset B30 (Int32.toNatClampNeg ((17 : Int32) + (B30 (Int32.toNatClampNeg (0 : Int32))))) l13) = B32 at h ⊢
      refine wl_aload_n cx (i := 3) dL_board_576 rfl rfl ?_
      refine wl_bipush cx dL_board_577 (23 : Int32) (by decide) ?_
      refine wl_aload_n cx (i := 3) dL_board_579 rfl rfl ?_
      refine wl_iconst cx dL_board_580 (0 : Int32) (by decide) ?_
      refine wl_iald cx dL_board_581 0 rfl (vinl (by decide)) ?_
      refine wl_iadd cx dL_board_582 ?_
      refine wl_iload cx dL_board_583 rfl ?_
      obtain ⟨b33, h⟩ := ob_some h
      refine wl_iast cx (bw ba wa g.2.1 (fset B32 (Int32.toNatClampNeg ((23 : Int32) + (B32 (Int32.toNatClampNeg (0 : Int32))))) l14) W ++ pool g S) dL_board_585 0 rfl b33 rfl ?_
      replace h := sq_eq h
      generalize (fset B32 (Int32.toNatClampNeg ((23 : Int32) + (B32 (Int32.toNatClampNeg (0 : Int32))))) l14) = B34 at h ⊢
      refine wl_aload_n cx (i := 3) dL_board_586 rfl rfl ?_
      refine wl_bipush cx dL_board_587 (29 : Int32) (by decide) ?_
      refine wl_aload_n cx (i := 3) dL_board_589 rfl rfl ?_
      refine wl_iconst cx dL_board_590 (0 : Int32) (by decide) ?_
      refine wl_iald cx dL_board_591 0 rfl (vinl (by decide)) ?_
      refine wl_iadd cx dL_board_592 ?_
      refine wl_iload cx dL_board_593 rfl ?_
      refine wl_iload cx dL_board_595 rfl ?_
      refine wl_iload cx dL_board_597 rfl ?_
      refine wl_imul cx dL_board_599 ?_
      refine wl_iadd cx dL_board_600 ?_
      obtain ⟨b35, h⟩ := ob_some h
      refine wl_iast cx (bw ba wa g.2.1 (fset B34 (Int32.toNatClampNeg ((29 : Int32) + (B34 (Int32.toNatClampNeg (0 : Int32))))) (l15 + (l18 * l16))) W ++ pool g S) dL_board_601 0 rfl b35 rfl ?_
      replace h := sq_eq h
      generalize (fset B34 (Int32.toNatClampNeg ((29 : Int32) + (B34 (Int32.toNatClampNeg (0 : Int32))))) (l15 + (l18 * l16))) = B36 at h ⊢
      refine wl_aload_n cx (i := 3) dL_board_602 rfl rfl ?_
      refine wl_bipush cx dL_board_603 (35 : Int32) (by decide) ?_
      refine wl_aload_n cx (i := 3) dL_board_605 rfl rfl ?_
      refine wl_iconst cx dL_board_606 (0 : Int32) (by decide) ?_
      refine wl_iald cx dL_board_607 0 rfl (vinl (by decide)) ?_
      refine wl_iadd cx dL_board_608 ?_
      refine wl_iload cx dL_board_609 rfl ?_
      obtain ⟨b37, h⟩ := ob_some h
      refine wl_iast cx (bw ba wa g.2.1 (fset B36 (Int32.toNatClampNeg ((35 : Int32) + (B36 (Int32.toNatClampNeg (0 : Int32))))) l17) W ++ pool g S) dL_board_611 0 rfl b37 rfl ?_
      replace h := sq_eq h
      generalize (fset B36 (Int32.toNatClampNeg ((35 : Int32) + (B36 (Int32.toNatClampNeg (0 : Int32))))) l17) = B38 at h ⊢
      refine wl_aload_n cx (i := 3) dL_board_612 rfl rfl ?_
      refine wl_iconst cx dL_board_613 (0 : Int32) (by decide) ?_
      refine wl_dup2 cx dL_board_614 rfl rfl ?_
      refine wl_iald cx dL_board_615 0 rfl (vinl (by decide)) ?_
      refine wl_iconst cx dL_board_616 (1 : Int32) (by decide) ?_
      refine wl_iadd cx dL_board_617 ?_
      refine wl_iast cx (bw ba wa g.2.1 (fset B38 (Int32.toNatClampNeg (0 : Int32)) ((B38 (Int32.toNatClampNeg (0 : Int32))) + (1 : Int32))) W ++ pool g S) dL_board_618 0 rfl (vinl (by decide)) rfl ?_
      replace h := sq_eq h
      generalize (fset B38 (Int32.toNatClampNeg (0 : Int32)) ((B38 (Int32.toNatClampNeg (0 : Int32))) + (1 : Int32))) = B39 at h ⊢
      refine wl_iinc cx dL_board_619 (l18 + (1 : Int32)) [(0, .ref (ad g a0)), (1, .ref b), (2, .int a2), (3, .ref ba), (4, .ref wa), (7, .int l7), (8, .int l8), (9, .int l9), (11, .int l11), (12, .int l12), (13, .int l13), (14, .int l14), (15, .int l15), (16, .int l16), (17, .int l17), (18, .int (l18 + (1 : Int32)))] rfl rfl (Nat.le_of_ble_eq_true rfl) rfl (lvs_c rfl (lvs_c rfl (lvs_c rfl (lvs_c rfl (lvs_c rfl (lvs_c rfl (lvs_c rfl (lvs_c rfl (lvs_c rfl (lvs_c rfl (lvs_c rfl (lvs_c rfl (lvs_c rfl (lvs_c rfl (lvs_c rfl (lvs_c rfl (lvs_n))))))))))))))))) ?_
      refine wl_goto cx dL_board_622 549 (by decide) ?_
      refine wl_sub (lv' := [(0, .ref (ad g a0)), (1, .ref b), (2, .int a2), (3, .ref ba), (4, .ref wa), (7, .int l7), (8, .int l8), (9, .int l9), (11, .int l11), (12, .int l12), (13, .int l13), (14, .int l14), (15, .int l15), (16, .int l16), (17, .int l17), (18, .int (l18 + (1 : Int32)))]) (lvs_c rfl (lvs_c rfl (lvs_c rfl (lvs_c rfl (lvs_c rfl (lvs_c rfl (lvs_c rfl (lvs_c rfl (lvs_c rfl (lvs_c rfl (lvs_c rfl (lvs_c rfl (lvs_c rfl (lvs_c rfl (lvs_c rfl (lvs_c rfl (lvs_n))))))))))))))))) ?_
      exact ih l7 l8 l9 l11 l12 l13 l14 l15 l16 l17 (l18 + (1 : Int32)) S B39 W h
def f_L_board_L395 : Nat → Nat → (Nat → Int32) → Nat → Int32 → Int32 → Int32 → Int32 → St → (Nat → Int32) → (Nat → Int32) → Option RB
  | 0, _, _, _, _, _, _, _, _, _, _ => none
  | n + 1, a0, xs, Ln, a2, l7, l8, l9, S, B, W => if l8 ≤ l9 then if l7 = 0 then ck ((0 : Int32) = 0 ∨ (0 : Int32) = 1) (some ((0 : Int32), S, B, W)) else bx (f_X9_fault a0 S) fun x43 S44 => if x43 = (-4 : Int32) then bx (f_X9_lay a0 S44) fun x48 S49 => if x48 = (B (Int32.toNatClampNeg (0 : Int32))) then ck ((1 : Int32) = 0 ∨ (1 : Int32) = 1) (some ((1 : Int32), S49, B, W)) else ck ((0 : Int32) = 0 ∨ (0 : Int32) = 1) (some ((0 : Int32), S49, B, W)) else ck ((0 : Int32) = 0 ∨ (0 : Int32) = 1) (some ((0 : Int32), S44, B, W)) else ck (0 ≤ ((a2 + (2 : Int32)) + ((2 : Int32) * l9)) ∧ Ln < 2147483648) (sq (cellF xs Ln ((a2 + (2 : Int32)) + ((2 : Int32) * l9))) fun x55 => ck (0 ≤ ((a2 + (3 : Int32)) + ((2 : Int32) * l9)) ∧ Ln < 2147483648) (sq (cellF xs Ln ((a2 + (3 : Int32)) + ((2 : Int32) * l9))) fun x57 => bx (f_L_some x55 (2 : Int32) S) fun x58 S59 => sq ((1 : Int32) + x58) fun x61 => bx (f_L_some (x55 >>> ((1 : Int32) &&& 31)) (6 : Int32) S59) fun x62 S63 => bx (f_L_some (x55 >>> ((4 : Int32) &&& 31)) (31 : Int32) S63) fun x65 S66 => bx (f_L_some (x55 >>> ((9 : Int32) &&& 31)) (12 : Int32) S66) fun x68 S69 => bx (f_L_some (x55 >>> ((13 : Int32) &&& 31)) (5 : Int32) S69) fun x71 S72 => bx (f_L_some (x55 >>> ((16 : Int32) &&& 31)) (30 : Int32) S72) fun x74 S75 => if l7 = 0 then f_L_board_L549 FU a0 xs Ln a2 (fun l7 l8 l9 S B W => f_L_board_L395 n a0 xs Ln a2 l7 l8 l9 S B W) (0 : Int32) l8 l9 x57 x61 x62 x65 x68 x71 x74 (0 : Int32) S75 B W else bx (f_L_item a0 (103 : Int32) (5 : Int32) x61 x62 x65 x68 x71 S75) fun x78 S79 => if x78 = 0 then f_L_board_L549 FU a0 xs Ln a2 (fun l7 l8 l9 S B W => f_L_board_L395 n a0 xs Ln a2 l7 l8 l9 S B W) (0 : Int32) l8 l9 x57 x61 x62 x65 x68 x71 x74 (0 : Int32) S79 B W else bx (f_L_item a0 (116 : Int32) (2 : Int32) l9 x74 (0 : Int32) (0 : Int32) (0 : Int32) S79) fun x82 S83 => if x82 = 0 then f_L_board_L549 FU a0 xs Ln a2 (fun l7 l8 l9 S B W => f_L_board_L395 n a0 xs Ln a2 l7 l8 l9 S B W) (0 : Int32) l8 l9 x57 x61 x62 x65 x68 x71 x74 (0 : Int32) S83 B W else f_L_board_L549 FU a0 xs Ln a2 (fun l7 l8 l9 S B W => f_L_board_L395 n a0 xs Ln a2 l7 l8 l9 S B W) (1 : Int32) l8 l9 x57 x61 x62 x65 x68 x71 x74 (0 : Int32) S83 B W))
set_option maxHeartbeats 4000000 in
set_option maxRecDepth 100000 in
theorem w_L_board_L395 {p : Program} {l : Launch} {e : Env} {s : State} {m : MethodId} {args : Array Value} {below : List Frame} {meth : Method} {c : Code} {g : Gl} {ws0 : va_W} {sz b ba wa : Nat} {v0 : Int32} {rS : St} {rB rW : Nat → Int32} {a0 : Nat} {xs : Nat → Int32} {Ln : Nat} {a2 : Int32} (cx : CxL p s m args meth c cL_board 21 (some .boolean) RL g.1 g.2.1 (va_A ws0 sz)) (hX : va_X b Ln xs s s.heap) (hbl : b < s.heap.size) (hbA : ¬ va_A ws0 sz b) (hn : npl g = 103) (h_a0 : kd g a0 = 9)  : ∀ n : Nat, ∀ (l7 : Int32) (l8 : Int32) (l9 : Int32) (S : St) (B W : Nat → Int32), f_L_board_L395 n a0 xs Ln a2 l7 l8 l9 S B W = some (v0, rS, rB, rW) → WL p l e rm_L_board s m args below meth c 0 0 (MQ below (QcGw g.1 ws0 sz (bw ba wa g.2.1 rB rW ++ pool g rS) v0) args s 0 0 (va_A ws0 sz)) 21 g.1 (va_A ws0 sz) (bw ba wa g.2.1 B W ++ pool g S) 395 [(0, .ref (ad g a0)), (1, .ref b), (2, .int a2), (3, .ref ba), (4, .ref wa), (7, .int l7), (8, .int l8), (9, .int l9)] [] := by
  intro n
  induction n with
  | zero => intro l7 l8 l9 S B W h; rw [f_L_board_L395] at h; cases h
  | succ n ih =>
    intro l7 l8 l9 S B W h
    rw [f_L_board_L395] at h
    refine wl_iload cx dL_board_395 rfl ?_
    refine wl_iload cx dL_board_397 rfl ?_
    refine wl_icmp_ge cx dL_board_399 823 (by decide) (fun q40 => ?_) (fun q40 => ?_)
    · rw [if_pos q40] at h
      refine wl_iload cx dL_board_823 rfl ?_
      refine wl_if_eq cx dL_board_825 851 (by decide) (fun q41 => ?_) (fun q41 => ?_)
      · rw [if_pos q41] at h
        refine wl_iconst cx dL_board_851 (0 : Int32) (by decide) ?_
        obtain ⟨b42, h⟩ := ck_some h
        cases h
        exact wl_zretG cx b42 dL_board_852 rfl rfl
      · rw [if_neg q41] at h
        refine wl_aload_n cx (i := 0) dL_board_828 rfl rfl ?_
        obtain ⟨x43, S44, e45, h⟩ := bx_some h
        refine wl_callVi (S := S) cx hn (fun hg => m_X9_fault l hg h_a0 e45) vl_L_38 h_a0 (by decide) rfl rfl ⟨_, cell_eq9 (kd_lt h_a0 (by decide)).2⟩ ⟨Nat.le_of_ble_eq_true rfl, Nat.le_of_ble_eq_true rfl⟩ ⟨rfl, rfl⟩ ⟨Nat.zero_le _, Nat.zero_le _⟩ rfl (Nat.le_of_ble_eq_true rfl) dL_board_829 rfl ?_
        refine wl_bipush cx dL_board_832 (-4 : Int32) (by decide) ?_
        refine wl_icmp_ne cx dL_board_834 851 (by decide) (fun q46 => ?_) (fun q46 => ?_)
        · rw [if_neg q46] at h
          refine wl_iconst cx dL_board_851 (0 : Int32) (by decide) ?_
          obtain ⟨b47, h⟩ := ck_some h
          cases h
          exact wl_zretG cx b47 dL_board_852 rfl rfl
        · rw [if_pos q46] at h
          refine wl_aload_n cx (i := 0) dL_board_837 rfl rfl ?_
          obtain ⟨x48, S49, e50, h⟩ := bx_some h
          refine wl_callVi (S := S44) cx hn (fun hg => m_X9_lay l hg h_a0 e50) vl_L_41 h_a0 (by decide) rfl rfl ⟨_, cell_eq9 (kd_lt h_a0 (by decide)).2⟩ ⟨Nat.le_of_ble_eq_true rfl, Nat.le_of_ble_eq_true rfl⟩ ⟨rfl, rfl⟩ ⟨Nat.zero_le _, Nat.zero_le _⟩ rfl (Nat.le_of_ble_eq_true rfl) dL_board_838 rfl ?_
          refine wl_aload_n cx (i := 3) dL_board_841 rfl rfl ?_
          refine wl_iconst cx dL_board_842 (0 : Int32) (by decide) ?_
          refine wl_iald cx dL_board_843 0 rfl (vinl (by decide)) ?_
          refine wl_icmp_ne cx dL_board_844 851 (by decide) (fun q51 => ?_) (fun q51 => ?_)
          · rw [if_neg q51] at h
            refine wl_iconst cx dL_board_851 (0 : Int32) (by decide) ?_
            obtain ⟨b52, h⟩ := ck_some h
            cases h
            exact wl_zretG cx b52 dL_board_852 rfl rfl
          · rw [if_pos q51] at h
            refine wl_iconst cx dL_board_847 (1 : Int32) (by decide) ?_
            refine wl_goto cx dL_board_848 852 (by decide) ?_
            obtain ⟨b53, h⟩ := ck_some h
            cases h
            exact wl_zretG cx b53 dL_board_852 rfl rfl
    · rw [if_neg q40] at h
      refine wl_aload_n cx (i := 1) dL_board_402 rfl rfl ?_
      refine wl_iload_n cx (i := 2) dL_board_403 rfl rfl ?_
      refine wl_iconst cx dL_board_404 (2 : Int32) (by decide) ?_
      refine wl_iadd cx dL_board_405 ?_
      refine wl_iconst cx dL_board_406 (2 : Int32) (by decide) ?_
      refine wl_iload cx dL_board_407 rfl ?_
      refine wl_imul cx dL_board_409 ?_
      refine wl_iadd cx dL_board_410 ?_
      obtain ⟨b54, h⟩ := ck_some h
      refine wl_re (ws2 := (bw ba wa g.2.1 B W ++ pool g S) ++ []) (List.append_nil _).symm ?_
      refine wl_callG cx hX hbl hbA (m_L_cell l (xs := xs) (b := b) b54) vl_L_21 ⟨Nat.le_of_ble_eq_true rfl, Nat.le_of_ble_eq_true rfl⟩ ⟨rfl, rfl⟩ ⟨Nat.zero_le _, Nat.zero_le _⟩ rfl (Nat.le_of_ble_eq_true rfl) dL_board_411 rfl ?_
      refine wl_re (ws2 := bw ba wa g.2.1 B W ++ pool g S) (List.append_nil _) ?_
      replace h := sq_eq h
      generalize (cellF xs Ln ((a2 + (2 : Int32)) + ((2 : Int32) * l9))) = x55 at h ⊢
      refine wl_istore cx dL_board_414 [(0, .ref (ad g a0)), (1, .ref b), (2, .int a2), (3, .ref ba), (4, .ref wa), (7, .int l7), (8, .int l8), (9, .int l9), (10, .int x55)] (Nat.le_of_ble_eq_true rfl) rfl (lvs_c rfl (lvs_c rfl (lvs_c rfl (lvs_c rfl (lvs_c rfl (lvs_c rfl (lvs_c rfl (lvs_c rfl (lvs_c rfl (lvs_n)))))))))) ?_
      refine wl_aload_n cx (i := 1) dL_board_416 rfl rfl ?_
      refine wl_iload_n cx (i := 2) dL_board_417 rfl rfl ?_
      refine wl_iconst cx dL_board_418 (3 : Int32) (by decide) ?_
      refine wl_iadd cx dL_board_419 ?_
      refine wl_iconst cx dL_board_420 (2 : Int32) (by decide) ?_
      refine wl_iload cx dL_board_421 rfl ?_
      refine wl_imul cx dL_board_423 ?_
      refine wl_iadd cx dL_board_424 ?_
      obtain ⟨b56, h⟩ := ck_some h
      refine wl_re (ws2 := (bw ba wa g.2.1 B W ++ pool g S) ++ []) (List.append_nil _).symm ?_
      refine wl_callG cx hX hbl hbA (m_L_cell l (xs := xs) (b := b) b56) vl_L_21 ⟨Nat.le_of_ble_eq_true rfl, Nat.le_of_ble_eq_true rfl⟩ ⟨rfl, rfl⟩ ⟨Nat.zero_le _, Nat.zero_le _⟩ rfl (Nat.le_of_ble_eq_true rfl) dL_board_425 rfl ?_
      refine wl_re (ws2 := bw ba wa g.2.1 B W ++ pool g S) (List.append_nil _) ?_
      replace h := sq_eq h
      generalize (cellF xs Ln ((a2 + (3 : Int32)) + ((2 : Int32) * l9))) = x57 at h ⊢
      refine wl_istore cx dL_board_428 [(0, .ref (ad g a0)), (1, .ref b), (2, .int a2), (3, .ref ba), (4, .ref wa), (7, .int l7), (8, .int l8), (9, .int l9), (10, .int x55), (11, .int x57)] (Nat.le_of_ble_eq_true rfl) rfl (lvs_c rfl (lvs_c rfl (lvs_c rfl (lvs_c rfl (lvs_c rfl (lvs_c rfl (lvs_c rfl (lvs_c rfl (lvs_c rfl (lvs_c rfl (lvs_n))))))))))) ?_
      refine wl_iconst cx dL_board_430 (1 : Int32) (by decide) ?_
      refine wl_iload cx dL_board_431 rfl ?_
      refine wl_iconst cx dL_board_433 (2 : Int32) (by decide) ?_
      obtain ⟨x58, S59, e60, h⟩ := bx_some h
      refine wl_callSi (S := S) cx hn (fun hg => m_L_some l hg  e60) vl_L_26 ⟨Nat.le_of_ble_eq_true rfl, Nat.le_of_ble_eq_true rfl⟩ ⟨rfl, rfl⟩ ⟨Nat.zero_le _, Nat.zero_le _⟩ rfl (Nat.le_of_ble_eq_true rfl) dL_board_434 rfl ?_
      refine wl_iadd cx dL_board_437 ?_
      replace h := sq_eq h
      generalize ((1 : Int32) + x58) = x61 at h ⊢
      refine wl_istore cx dL_board_438 [(0, .ref (ad g a0)), (1, .ref b), (2, .int a2), (3, .ref ba), (4, .ref wa), (7, .int l7), (8, .int l8), (9, .int l9), (10, .int x55), (11, .int x57), (12, .int x61)] (Nat.le_of_ble_eq_true rfl) rfl (lvs_c rfl (lvs_c rfl (lvs_c rfl (lvs_c rfl (lvs_c rfl (lvs_c rfl (lvs_c rfl (lvs_c rfl (lvs_c rfl (lvs_c rfl (lvs_c rfl (lvs_n)))))))))))) ?_
      refine wl_iload cx dL_board_440 rfl ?_
      refine wl_iconst cx dL_board_442 (1 : Int32) (by decide) ?_
      refine wl_ishr cx dL_board_443 ?_
      refine wl_bipush cx dL_board_444 (6 : Int32) (by decide) ?_
      obtain ⟨x62, S63, e64, h⟩ := bx_some h
      refine wl_callSi (S := S59) cx hn (fun hg => m_L_some l hg  e64) vl_L_26 ⟨Nat.le_of_ble_eq_true rfl, Nat.le_of_ble_eq_true rfl⟩ ⟨rfl, rfl⟩ ⟨Nat.zero_le _, Nat.zero_le _⟩ rfl (Nat.le_of_ble_eq_true rfl) dL_board_446 rfl ?_
      refine wl_istore cx dL_board_449 [(0, .ref (ad g a0)), (1, .ref b), (2, .int a2), (3, .ref ba), (4, .ref wa), (7, .int l7), (8, .int l8), (9, .int l9), (10, .int x55), (11, .int x57), (12, .int x61), (13, .int x62)] (Nat.le_of_ble_eq_true rfl) rfl (lvs_c rfl (lvs_c rfl (lvs_c rfl (lvs_c rfl (lvs_c rfl (lvs_c rfl (lvs_c rfl (lvs_c rfl (lvs_c rfl (lvs_c rfl (lvs_c rfl (lvs_c rfl (lvs_n))))))))))))) ?_
      refine wl_iload cx dL_board_451 rfl ?_
      refine wl_iconst cx dL_board_453 (4 : Int32) (by decide) ?_
      refine wl_ishr cx dL_board_454 ?_
      refine wl_bipush cx dL_board_455 (31 : Int32) (by decide) ?_
      obtain ⟨x65, S66, e67, h⟩ := bx_some h
      refine wl_callSi (S := S63) cx hn (fun hg => m_L_some l hg  e67) vl_L_26 ⟨Nat.le_of_ble_eq_true rfl, Nat.le_of_ble_eq_true rfl⟩ ⟨rfl, rfl⟩ ⟨Nat.zero_le _, Nat.zero_le _⟩ rfl (Nat.le_of_ble_eq_true rfl) dL_board_457 rfl ?_
      refine wl_istore cx dL_board_460 [(0, .ref (ad g a0)), (1, .ref b), (2, .int a2), (3, .ref ba), (4, .ref wa), (7, .int l7), (8, .int l8), (9, .int l9), (10, .int x55), (11, .int x57), (12, .int x61), (13, .int x62), (14, .int x65)] (Nat.le_of_ble_eq_true rfl) rfl (lvs_c rfl (lvs_c rfl (lvs_c rfl (lvs_c rfl (lvs_c rfl (lvs_c rfl (lvs_c rfl (lvs_c rfl (lvs_c rfl (lvs_c rfl (lvs_c rfl (lvs_c rfl (lvs_c rfl (lvs_n)))))))))))))) ?_
      refine wl_iload cx dL_board_462 rfl ?_
      refine wl_bipush cx dL_board_464 (9 : Int32) (by decide) ?_
      refine wl_ishr cx dL_board_466 ?_
      refine wl_bipush cx dL_board_467 (12 : Int32) (by decide) ?_
      obtain ⟨x68, S69, e70, h⟩ := bx_some h
      refine wl_callSi (S := S66) cx hn (fun hg => m_L_some l hg  e70) vl_L_26 ⟨Nat.le_of_ble_eq_true rfl, Nat.le_of_ble_eq_true rfl⟩ ⟨rfl, rfl⟩ ⟨Nat.zero_le _, Nat.zero_le _⟩ rfl (Nat.le_of_ble_eq_true rfl) dL_board_469 rfl ?_
      refine wl_istore cx dL_board_472 [(0, .ref (ad g a0)), (1, .ref b), (2, .int a2), (3, .ref ba), (4, .ref wa), (7, .int l7), (8, .int l8), (9, .int l9), (10, .int x55), (11, .int x57), (12, .int x61), (13, .int x62), (14, .int x65), (15, .int x68)] (Nat.le_of_ble_eq_true rfl) rfl (lvs_c rfl (lvs_c rfl (lvs_c rfl (lvs_c rfl (lvs_c rfl (lvs_c rfl (lvs_c rfl (lvs_c rfl (lvs_c rfl (lvs_c rfl (lvs_c rfl (lvs_c rfl (lvs_c rfl (lvs_c rfl (lvs_n))))))))))))))) ?_
      refine wl_iload cx dL_board_474 rfl ?_
      refine wl_bipush cx dL_board_476 (13 : Int32) (by decide) ?_
      refine wl_ishr cx dL_board_478 ?_
      refine wl_iconst cx dL_board_479 (5 : Int32) (by decide) ?_
      obtain ⟨x71, S72, e73, h⟩ := bx_some h
      refine wl_callSi (S := S69) cx hn (fun hg => m_L_some l hg  e73) vl_L_26 ⟨Nat.le_of_ble_eq_true rfl, Nat.le_of_ble_eq_true rfl⟩ ⟨rfl, rfl⟩ ⟨Nat.zero_le _, Nat.zero_le _⟩ rfl (Nat.le_of_ble_eq_true rfl) dL_board_480 rfl ?_
      refine wl_istore cx dL_board_483 [(0, .ref (ad g a0)), (1, .ref b), (2, .int a2), (3, .ref ba), (4, .ref wa), (7, .int l7), (8, .int l8), (9, .int l9), (10, .int x55), (11, .int x57), (12, .int x61), (13, .int x62), (14, .int x65), (15, .int x68), (16, .int x71)] (Nat.le_of_ble_eq_true rfl) rfl (lvs_c rfl (lvs_c rfl (lvs_c rfl (lvs_c rfl (lvs_c rfl (lvs_c rfl (lvs_c rfl (lvs_c rfl (lvs_c rfl (lvs_c rfl (lvs_c rfl (lvs_c rfl (lvs_c rfl (lvs_c rfl (lvs_c rfl (lvs_n)))))))))))))))) ?_
      refine wl_iload cx dL_board_485 rfl ?_
      refine wl_bipush cx dL_board_487 (16 : Int32) (by decide) ?_
      refine wl_ishr cx dL_board_489 ?_
      refine wl_bipush cx dL_board_490 (30 : Int32) (by decide) ?_
      obtain ⟨x74, S75, e76, h⟩ := bx_some h
      refine wl_callSi (S := S72) cx hn (fun hg => m_L_some l hg  e76) vl_L_26 ⟨Nat.le_of_ble_eq_true rfl, Nat.le_of_ble_eq_true rfl⟩ ⟨rfl, rfl⟩ ⟨Nat.zero_le _, Nat.zero_le _⟩ rfl (Nat.le_of_ble_eq_true rfl) dL_board_492 rfl ?_
      refine wl_istore cx dL_board_495 [(0, .ref (ad g a0)), (1, .ref b), (2, .int a2), (3, .ref ba), (4, .ref wa), (7, .int l7), (8, .int l8), (9, .int l9), (11, .int x57), (12, .int x61), (13, .int x62), (14, .int x65), (15, .int x68), (16, .int x71), (17, .int x74)] (Nat.le_of_ble_eq_true rfl) rfl (lvs_c rfl (lvs_c rfl (lvs_c rfl (lvs_c rfl (lvs_c rfl (lvs_c rfl (lvs_c rfl (lvs_c rfl (lvs_c rfl (lvs_c rfl (lvs_c rfl (lvs_c rfl (lvs_c rfl (lvs_c rfl (lvs_c rfl (lvs_n)))))))))))))))) ?_
      refine wl_iload cx dL_board_497 rfl ?_
      refine wl_if_eq cx dL_board_499 543 (by decide) (fun q77 => ?_) (fun q77 => ?_)
      · rw [if_pos q77] at h
        refine wl_iconst cx dL_board_543 (0 : Int32) (by decide) ?_
        refine wl_istore cx dL_board_544 [(0, .ref (ad g a0)), (1, .ref b), (2, .int a2), (3, .ref ba), (4, .ref wa), (7, .int (0 : Int32)), (8, .int l8), (9, .int l9), (11, .int x57), (12, .int x61), (13, .int x62), (14, .int x65), (15, .int x68), (16, .int x71), (17, .int x74)] (Nat.le_of_ble_eq_true rfl) rfl (lvs_c rfl (lvs_c rfl (lvs_c rfl (lvs_c rfl (lvs_c rfl (lvs_c rfl (lvs_c rfl (lvs_c rfl (lvs_c rfl (lvs_c rfl (lvs_c rfl (lvs_c rfl (lvs_c rfl (lvs_c rfl (lvs_c rfl (lvs_n)))))))))))))))) ?_
        refine wl_iconst cx dL_board_546 (0 : Int32) (by decide) ?_
        refine wl_istore cx dL_board_547 [(0, .ref (ad g a0)), (1, .ref b), (2, .int a2), (3, .ref ba), (4, .ref wa), (7, .int (0 : Int32)), (8, .int l8), (9, .int l9), (11, .int x57), (12, .int x61), (13, .int x62), (14, .int x65), (15, .int x68), (16, .int x71), (17, .int x74), (18, .int (0 : Int32))] (Nat.le_of_ble_eq_true rfl) rfl (lvs_c rfl (lvs_c rfl (lvs_c rfl (lvs_c rfl (lvs_c rfl (lvs_c rfl (lvs_c rfl (lvs_c rfl (lvs_c rfl (lvs_c rfl (lvs_c rfl (lvs_c rfl (lvs_c rfl (lvs_c rfl (lvs_c rfl (lvs_c rfl (lvs_n))))))))))))))))) ?_
        refine wl_sub (lv' := [(0, .ref (ad g a0)), (1, .ref b), (2, .int a2), (3, .ref ba), (4, .ref wa), (7, .int (0 : Int32)), (8, .int l8), (9, .int l9), (11, .int x57), (12, .int x61), (13, .int x62), (14, .int x65), (15, .int x68), (16, .int x71), (17, .int x74), (18, .int (0 : Int32))]) (lvs_c rfl (lvs_c rfl (lvs_c rfl (lvs_c rfl (lvs_c rfl (lvs_c rfl (lvs_c rfl (lvs_c rfl (lvs_c rfl (lvs_c rfl (lvs_c rfl (lvs_c rfl (lvs_c rfl (lvs_c rfl (lvs_c rfl (lvs_c rfl (lvs_n))))))))))))))))) ?_
        exact w_L_board_L549 cx hX hbl hbA hn h_a0 ih FU (0 : Int32) l8 l9 x57 x61 x62 x65 x68 x71 x74 (0 : Int32) S75 B W h
      · rw [if_neg q77] at h
        refine wl_aload_n cx (i := 0) dL_board_502 rfl rfl ?_
        refine wl_bipush cx dL_board_503 (103 : Int32) (by decide) ?_
        refine wl_iconst cx dL_board_505 (5 : Int32) (by decide) ?_
        refine wl_iload cx dL_board_506 rfl ?_
        refine wl_iload cx dL_board_508 rfl ?_
        refine wl_iload cx dL_board_510 rfl ?_
        refine wl_iload cx dL_board_512 rfl ?_
        refine wl_iload cx dL_board_514 rfl ?_
        obtain ⟨x78, S79, e80, h⟩ := bx_some h
        refine wl_callSi (S := S75) cx hn (fun hg => m_L_item l hg h_a0 e80) vl_L_34 ⟨Nat.le_of_ble_eq_true rfl, Nat.le_of_ble_eq_true rfl⟩ ⟨rfl, rfl⟩ ⟨Nat.zero_le _, Nat.zero_le _⟩ rfl (Nat.le_of_ble_eq_true rfl) dL_board_516 rfl ?_
        refine wl_if_eq cx dL_board_519 543 (by decide) (fun q81 => ?_) (fun q81 => ?_)
        · rw [if_pos q81] at h
          refine wl_iconst cx dL_board_543 (0 : Int32) (by decide) ?_
          refine wl_istore cx dL_board_544 [(0, .ref (ad g a0)), (1, .ref b), (2, .int a2), (3, .ref ba), (4, .ref wa), (7, .int (0 : Int32)), (8, .int l8), (9, .int l9), (11, .int x57), (12, .int x61), (13, .int x62), (14, .int x65), (15, .int x68), (16, .int x71), (17, .int x74)] (Nat.le_of_ble_eq_true rfl) rfl (lvs_c rfl (lvs_c rfl (lvs_c rfl (lvs_c rfl (lvs_c rfl (lvs_c rfl (lvs_c rfl (lvs_c rfl (lvs_c rfl (lvs_c rfl (lvs_c rfl (lvs_c rfl (lvs_c rfl (lvs_c rfl (lvs_c rfl (lvs_n)))))))))))))))) ?_
          refine wl_iconst cx dL_board_546 (0 : Int32) (by decide) ?_
          refine wl_istore cx dL_board_547 [(0, .ref (ad g a0)), (1, .ref b), (2, .int a2), (3, .ref ba), (4, .ref wa), (7, .int (0 : Int32)), (8, .int l8), (9, .int l9), (11, .int x57), (12, .int x61), (13, .int x62), (14, .int x65), (15, .int x68), (16, .int x71), (17, .int x74), (18, .int (0 : Int32))] (Nat.le_of_ble_eq_true rfl) rfl (lvs_c rfl (lvs_c rfl (lvs_c rfl (lvs_c rfl (lvs_c rfl (lvs_c rfl (lvs_c rfl (lvs_c rfl (lvs_c rfl (lvs_c rfl (lvs_c rfl (lvs_c rfl (lvs_c rfl (lvs_c rfl (lvs_c rfl (lvs_c rfl (lvs_n))))))))))))))))) ?_
          refine wl_sub (lv' := [(0, .ref (ad g a0)), (1, .ref b), (2, .int a2), (3, .ref ba), (4, .ref wa), (7, .int (0 : Int32)), (8, .int l8), (9, .int l9), (11, .int x57), (12, .int x61), (13, .int x62), (14, .int x65), (15, .int x68), (16, .int x71), (17, .int x74), (18, .int (0 : Int32))]) (lvs_c rfl (lvs_c rfl (lvs_c rfl (lvs_c rfl (lvs_c rfl (lvs_c rfl (lvs_c rfl (lvs_c rfl (lvs_c rfl (lvs_c rfl (lvs_c rfl (lvs_c rfl (lvs_c rfl (lvs_c rfl (lvs_c rfl (lvs_c rfl (lvs_n))))))))))))))))) ?_
          exact w_L_board_L549 cx hX hbl hbA hn h_a0 ih FU (0 : Int32) l8 l9 x57 x61 x62 x65 x68 x71 x74 (0 : Int32) S79 B W h
        · rw [if_neg q81] at h
          refine wl_aload_n cx (i := 0) dL_board_522 rfl rfl ?_
          refine wl_bipush cx dL_board_523 (116 : Int32) (by decide) ?_
          refine wl_iconst cx dL_board_525 (2 : Int32) (by decide) ?_
          refine wl_iload cx dL_board_526 rfl ?_
          refine wl_iload cx dL_board_528 rfl ?_
          refine wl_iconst cx dL_board_530 (0 : Int32) (by decide) ?_
          refine wl_iconst cx dL_board_531 (0 : Int32) (by decide) ?_
          refine wl_iconst cx dL_board_532 (0 : Int32) (by decide) ?_
          obtain ⟨x82, S83, e84, h⟩ := bx_some h
          refine wl_callSi (S := S79) cx hn (fun hg => m_L_item l hg h_a0 e84) vl_L_34 ⟨Nat.le_of_ble_eq_true rfl, Nat.le_of_ble_eq_true rfl⟩ ⟨rfl, rfl⟩ ⟨Nat.zero_le _, Nat.zero_le _⟩ rfl (Nat.le_of_ble_eq_true rfl) dL_board_533 rfl ?_
          refine wl_if_eq cx dL_board_536 543 (by decide) (fun q85 => ?_) (fun q85 => ?_)
          · rw [if_pos q85] at h
            refine wl_iconst cx dL_board_543 (0 : Int32) (by decide) ?_
            refine wl_istore cx dL_board_544 [(0, .ref (ad g a0)), (1, .ref b), (2, .int a2), (3, .ref ba), (4, .ref wa), (7, .int (0 : Int32)), (8, .int l8), (9, .int l9), (11, .int x57), (12, .int x61), (13, .int x62), (14, .int x65), (15, .int x68), (16, .int x71), (17, .int x74)] (Nat.le_of_ble_eq_true rfl) rfl (lvs_c rfl (lvs_c rfl (lvs_c rfl (lvs_c rfl (lvs_c rfl (lvs_c rfl (lvs_c rfl (lvs_c rfl (lvs_c rfl (lvs_c rfl (lvs_c rfl (lvs_c rfl (lvs_c rfl (lvs_c rfl (lvs_c rfl (lvs_n)))))))))))))))) ?_
            refine wl_iconst cx dL_board_546 (0 : Int32) (by decide) ?_
            refine wl_istore cx dL_board_547 [(0, .ref (ad g a0)), (1, .ref b), (2, .int a2), (3, .ref ba), (4, .ref wa), (7, .int (0 : Int32)), (8, .int l8), (9, .int l9), (11, .int x57), (12, .int x61), (13, .int x62), (14, .int x65), (15, .int x68), (16, .int x71), (17, .int x74), (18, .int (0 : Int32))] (Nat.le_of_ble_eq_true rfl) rfl (lvs_c rfl (lvs_c rfl (lvs_c rfl (lvs_c rfl (lvs_c rfl (lvs_c rfl (lvs_c rfl (lvs_c rfl (lvs_c rfl (lvs_c rfl (lvs_c rfl (lvs_c rfl (lvs_c rfl (lvs_c rfl (lvs_c rfl (lvs_c rfl (lvs_n))))))))))))))))) ?_
            refine wl_sub (lv' := [(0, .ref (ad g a0)), (1, .ref b), (2, .int a2), (3, .ref ba), (4, .ref wa), (7, .int (0 : Int32)), (8, .int l8), (9, .int l9), (11, .int x57), (12, .int x61), (13, .int x62), (14, .int x65), (15, .int x68), (16, .int x71), (17, .int x74), (18, .int (0 : Int32))]) (lvs_c rfl (lvs_c rfl (lvs_c rfl (lvs_c rfl (lvs_c rfl (lvs_c rfl (lvs_c rfl (lvs_c rfl (lvs_c rfl (lvs_c rfl (lvs_c rfl (lvs_c rfl (lvs_c rfl (lvs_c rfl (lvs_c rfl (lvs_c rfl (lvs_n))))))))))))))))) ?_
            exact w_L_board_L549 cx hX hbl hbA hn h_a0 ih FU (0 : Int32) l8 l9 x57 x61 x62 x65 x68 x71 x74 (0 : Int32) S83 B W h
          · rw [if_neg q85] at h
            refine wl_iconst cx dL_board_539 (1 : Int32) (by decide) ?_
            refine wl_goto cx dL_board_540 544 (by decide) ?_
            refine wl_istore cx dL_board_544 [(0, .ref (ad g a0)), (1, .ref b), (2, .int a2), (3, .ref ba), (4, .ref wa), (7, .int (1 : Int32)), (8, .int l8), (9, .int l9), (11, .int x57), (12, .int x61), (13, .int x62), (14, .int x65), (15, .int x68), (16, .int x71), (17, .int x74)] (Nat.le_of_ble_eq_true rfl) rfl (lvs_c rfl (lvs_c rfl (lvs_c rfl (lvs_c rfl (lvs_c rfl (lvs_c rfl (lvs_c rfl (lvs_c rfl (lvs_c rfl (lvs_c rfl (lvs_c rfl (lvs_c rfl (lvs_c rfl (lvs_c rfl (lvs_c rfl (lvs_n)))))))))))))))) ?_
            refine wl_iconst cx dL_board_546 (0 : Int32) (by decide) ?_
            refine wl_istore cx dL_board_547 [(0, .ref (ad g a0)), (1, .ref b), (2, .int a2), (3, .ref ba), (4, .ref wa), (7, .int (1 : Int32)), (8, .int l8), (9, .int l9), (11, .int x57), (12, .int x61), (13, .int x62), (14, .int x65), (15, .int x68), (16, .int x71), (17, .int x74), (18, .int (0 : Int32))] (Nat.le_of_ble_eq_true rfl) rfl (lvs_c rfl (lvs_c rfl (lvs_c rfl (lvs_c rfl (lvs_c rfl (lvs_c rfl (lvs_c rfl (lvs_c rfl (lvs_c rfl (lvs_c rfl (lvs_c rfl (lvs_c rfl (lvs_c rfl (lvs_c rfl (lvs_c rfl (lvs_c rfl (lvs_n))))))))))))))))) ?_
            refine wl_sub (lv' := [(0, .ref (ad g a0)), (1, .ref b), (2, .int a2), (3, .ref ba), (4, .ref wa), (7, .int (1 : Int32)), (8, .int l8), (9, .int l9), (11, .int x57), (12, .int x61), (13, .int x62), (14, .int x65), (15, .int x68), (16, .int x71), (17, .int x74), (18, .int (0 : Int32))]) (lvs_c rfl (lvs_c rfl (lvs_c rfl (lvs_c rfl (lvs_c rfl (lvs_c rfl (lvs_c rfl (lvs_c rfl (lvs_c rfl (lvs_c rfl (lvs_c rfl (lvs_c rfl (lvs_c rfl (lvs_c rfl (lvs_c rfl (lvs_c rfl (lvs_n))))))))))))))))) ?_
            exact w_L_board_L549 cx hX hbl hbA hn h_a0 ih FU (1 : Int32) l8 l9 x57 x61 x62 x65 x68 x71 x74 (0 : Int32) S83 B W h
def f_L_board_J373 (a0 : Nat) (xs : (Nat → Int32)) (Ln : Nat) (a2 : Int32) (l5 : Int32) (k0 : Int32) (S : St) (B W : Nat → Int32) : Option RB := bx (f_L_some (l5 >>> ((22 : Int32) &&& 31)) (3 : Int32) S) fun x86 S87 => sq ((1 : Int32) + x86) fun x89 => sq (fset B (Int32.toNatClampNeg (0 : Int32)) (0 : Int32)) fun B90 => f_L_board_L395 FU a0 xs Ln a2 k0 x89 (0 : Int32) S87 B90 W
set_option maxHeartbeats 4000000 in
set_option maxRecDepth 100000 in
theorem w_L_board_J373 {p : Program} {l : Launch} {e : Env} {s : State} {m : MethodId} {args : Array Value} {below : List Frame} {meth : Method} {c : Code} {g : Gl} {ws0 : va_W} {sz b ba wa : Nat} {v0 : Int32} {rS : St} {rB rW : Nat → Int32} {a0 : Nat} {xs : Nat → Int32} {Ln : Nat} {a2 : Int32} (cx : CxL p s m args meth c cL_board 21 (some .boolean) RL g.1 g.2.1 (va_A ws0 sz)) (hX : va_X b Ln xs s s.heap) (hbl : b < s.heap.size) (hbA : ¬ va_A ws0 sz b) (hn : npl g = 103) (h_a0 : kd g a0 = 9)  : ∀ (l5 : Int32) (k0 : Int32) (S : St) (B W : Nat → Int32), f_L_board_J373 a0 xs Ln a2 l5 k0 S B W = some (v0, rS, rB, rW) → WL p l e rm_L_board s m args below meth c 0 0 (MQ below (QcGw g.1 ws0 sz (bw ba wa g.2.1 rB rW ++ pool g rS) v0) args s 0 0 (va_A ws0 sz)) 21 g.1 (va_A ws0 sz) (bw ba wa g.2.1 B W ++ pool g S) 373 [(0, .ref (ad g a0)), (1, .ref b), (2, .int a2), (3, .ref ba), (4, .ref wa), (5, .int l5)] [.int k0] := by
  intro l5 k0 S B W h
  rw [f_L_board_J373] at h
  refine wl_istore cx dL_board_373 [(0, .ref (ad g a0)), (1, .ref b), (2, .int a2), (3, .ref ba), (4, .ref wa), (5, .int l5), (7, .int k0)] (Nat.le_of_ble_eq_true rfl) rfl (lvs_c rfl (lvs_c rfl (lvs_c rfl (lvs_c rfl (lvs_c rfl (lvs_c rfl (lvs_c rfl (lvs_n)))))))) ?_
  refine wl_iconst cx dL_board_375 (1 : Int32) (by decide) ?_
  refine wl_iload cx dL_board_376 rfl ?_
  refine wl_bipush cx dL_board_378 (22 : Int32) (by decide) ?_
  refine wl_ishr cx dL_board_380 ?_
  refine wl_iconst cx dL_board_381 (3 : Int32) (by decide) ?_
  obtain ⟨x86, S87, e88, h⟩ := bx_some h
  refine wl_callSi (S := S) cx hn (fun hg => m_L_some l hg  e88) vl_L_26 ⟨Nat.le_of_ble_eq_true rfl, Nat.le_of_ble_eq_true rfl⟩ ⟨rfl, rfl⟩ ⟨Nat.zero_le _, Nat.zero_le _⟩ rfl (Nat.le_of_ble_eq_true rfl) dL_board_382 rfl ?_
  refine wl_iadd cx dL_board_385 ?_
  replace h := sq_eq h
  generalize ((1 : Int32) + x86) = x89 at h ⊢
  refine wl_istore cx dL_board_386 [(0, .ref (ad g a0)), (1, .ref b), (2, .int a2), (3, .ref ba), (4, .ref wa), (7, .int k0), (8, .int x89)] (Nat.le_of_ble_eq_true rfl) rfl (lvs_c rfl (lvs_c rfl (lvs_c rfl (lvs_c rfl (lvs_c rfl (lvs_c rfl (lvs_c rfl (lvs_n)))))))) ?_
  refine wl_aload_n cx (i := 3) dL_board_388 rfl rfl ?_
  refine wl_iconst cx dL_board_389 (0 : Int32) (by decide) ?_
  refine wl_iconst cx dL_board_390 (0 : Int32) (by decide) ?_
  refine wl_iast cx (bw ba wa g.2.1 (fset B (Int32.toNatClampNeg (0 : Int32)) (0 : Int32)) W ++ pool g S87) dL_board_391 0 rfl (vinl (by decide)) rfl ?_
  replace h := sq_eq h
  generalize (fset B (Int32.toNatClampNeg (0 : Int32)) (0 : Int32)) = B90 at h ⊢
  refine wl_iconst cx dL_board_392 (0 : Int32) (by decide) ?_
  refine wl_istore cx dL_board_393 [(0, .ref (ad g a0)), (1, .ref b), (2, .int a2), (3, .ref ba), (4, .ref wa), (7, .int k0), (8, .int x89), (9, .int (0 : Int32))] (Nat.le_of_ble_eq_true rfl) rfl (lvs_c rfl (lvs_c rfl (lvs_c rfl (lvs_c rfl (lvs_c rfl (lvs_c rfl (lvs_c rfl (lvs_c rfl (lvs_n))))))))) ?_
  refine wl_sub (lv' := [(0, .ref (ad g a0)), (1, .ref b), (2, .int a2), (3, .ref ba), (4, .ref wa), (7, .int k0), (8, .int x89), (9, .int (0 : Int32))]) (lvs_c rfl (lvs_c rfl (lvs_c rfl (lvs_c rfl (lvs_c rfl (lvs_c rfl (lvs_c rfl (lvs_c rfl (lvs_n))))))))) ?_
  exact w_L_board_L395 cx hX hbl hbA hn h_a0  FU k0 x89 (0 : Int32) S87 B90 W h
def f_L_board_J372 (a0 : Nat) (xs : (Nat → Int32)) (Ln : Nat) (a2 : Int32) (l5 : Int32) (S : St) (B W : Nat → Int32) : Option RB := f_L_board_J373 a0 xs Ln a2 l5 (0 : Int32) S B W
set_option maxHeartbeats 4000000 in
set_option maxRecDepth 100000 in
theorem w_L_board_J372 {p : Program} {l : Launch} {e : Env} {s : State} {m : MethodId} {args : Array Value} {below : List Frame} {meth : Method} {c : Code} {g : Gl} {ws0 : va_W} {sz b ba wa : Nat} {v0 : Int32} {rS : St} {rB rW : Nat → Int32} {a0 : Nat} {xs : Nat → Int32} {Ln : Nat} {a2 : Int32} (cx : CxL p s m args meth c cL_board 21 (some .boolean) RL g.1 g.2.1 (va_A ws0 sz)) (hX : va_X b Ln xs s s.heap) (hbl : b < s.heap.size) (hbA : ¬ va_A ws0 sz b) (hn : npl g = 103) (h_a0 : kd g a0 = 9)  : ∀ (l5 : Int32) (S : St) (B W : Nat → Int32), f_L_board_J372 a0 xs Ln a2 l5 S B W = some (v0, rS, rB, rW) → WL p l e rm_L_board s m args below meth c 0 0 (MQ below (QcGw g.1 ws0 sz (bw ba wa g.2.1 rB rW ++ pool g rS) v0) args s 0 0 (va_A ws0 sz)) 21 g.1 (va_A ws0 sz) (bw ba wa g.2.1 B W ++ pool g S) 372 [(0, .ref (ad g a0)), (1, .ref b), (2, .int a2), (3, .ref ba), (4, .ref wa), (5, .int l5)] [] := by
  intro l5 S B W h
  rw [f_L_board_J372] at h
  refine wl_iconst cx dL_board_372 (0 : Int32) (by decide) ?_
  refine wl_sub (lv' := [(0, .ref (ad g a0)), (1, .ref b), (2, .int a2), (3, .ref ba), (4, .ref wa), (5, .int l5)]) (lvs_c rfl (lvs_c rfl (lvs_c rfl (lvs_c rfl (lvs_c rfl (lvs_c rfl (lvs_n))))))) ?_
  exact w_L_board_J373 cx hX hbl hbA hn h_a0   l5 (0 : Int32) S B W h
def f_L_board_J368 (a0 : Nat) (xs : (Nat → Int32)) (Ln : Nat) (a2 : Int32) (l5 : Int32) (S : St) (B W : Nat → Int32) : Option RB := f_L_board_J373 a0 xs Ln a2 l5 (1 : Int32) S B W
set_option maxHeartbeats 4000000 in
set_option maxRecDepth 100000 in
theorem w_L_board_J368 {p : Program} {l : Launch} {e : Env} {s : State} {m : MethodId} {args : Array Value} {below : List Frame} {meth : Method} {c : Code} {g : Gl} {ws0 : va_W} {sz b ba wa : Nat} {v0 : Int32} {rS : St} {rB rW : Nat → Int32} {a0 : Nat} {xs : Nat → Int32} {Ln : Nat} {a2 : Int32} (cx : CxL p s m args meth c cL_board 21 (some .boolean) RL g.1 g.2.1 (va_A ws0 sz)) (hX : va_X b Ln xs s s.heap) (hbl : b < s.heap.size) (hbA : ¬ va_A ws0 sz b) (hn : npl g = 103) (h_a0 : kd g a0 = 9)  : ∀ (l5 : Int32) (S : St) (B W : Nat → Int32), f_L_board_J368 a0 xs Ln a2 l5 S B W = some (v0, rS, rB, rW) → WL p l e rm_L_board s m args below meth c 0 0 (MQ below (QcGw g.1 ws0 sz (bw ba wa g.2.1 rB rW ++ pool g rS) v0) args s 0 0 (va_A ws0 sz)) 21 g.1 (va_A ws0 sz) (bw ba wa g.2.1 B W ++ pool g S) 368 [(0, .ref (ad g a0)), (1, .ref b), (2, .int a2), (3, .ref ba), (4, .ref wa), (5, .int l5)] [] := by
  intro l5 S B W h
  rw [f_L_board_J368] at h
  refine wl_iconst cx dL_board_368 (1 : Int32) (by decide) ?_
  refine wl_goto cx dL_board_369 373 (by decide) ?_
  refine wl_sub (lv' := [(0, .ref (ad g a0)), (1, .ref b), (2, .int a2), (3, .ref ba), (4, .ref wa), (5, .int l5)]) (lvs_c rfl (lvs_c rfl (lvs_c rfl (lvs_c rfl (lvs_c rfl (lvs_c rfl (lvs_n))))))) ?_
  exact w_L_board_J373 cx hX hbl hbA hn h_a0   l5 (1 : Int32) S B W h
def f_L_board_J223 (a0 : Nat) (xs : (Nat → Int32)) (Ln : Nat) (a2 : Int32) (l5 : Int32) (k1 : Int32) (k2 : Int32) (S : St) (B W : Nat → Int32) : Option RB := ob k1 41 (sq (fset B (Int32.toNatClampNeg k1) k2) fun B92 => bx (f_X9_wipe a0 S) fun x93 S94 => if x93 < 0 then f_L_board_J372 a0 xs Ln a2 l5 S94 B92 W else bx (f_L_item a0 (98 : Int32) (2 : Int32) (B92 (Int32.toNatClampNeg (1 : Int32))) (B92 (Int32.toNatClampNeg (2 : Int32))) (0 : Int32) (0 : Int32) (0 : Int32) S94) fun x97 S98 => if x97 = 0 then f_L_board_J372 a0 xs Ln a2 l5 S98 B92 W else bx (f_L_item a0 (100 : Int32) (1 : Int32) (B92 (Int32.toNatClampNeg (3 : Int32))) (0 : Int32) (0 : Int32) (0 : Int32) (0 : Int32) S98) fun x101 S102 => if x101 = 0 then f_L_board_J372 a0 xs Ln a2 l5 S102 B92 W else bx (f_L_item a0 (99 : Int32) (1 : Int32) (B92 (Int32.toNatClampNeg (4 : Int32))) (0 : Int32) (0 : Int32) (0 : Int32) (0 : Int32) S102) fun x105 S106 => if x105 = 0 then f_L_board_J372 a0 xs Ln a2 l5 S106 B92 W else bx (f_L_item a0 (112 : Int32) (1 : Int32) (B92 (Int32.toNatClampNeg (5 : Int32))) (0 : Int32) (0 : Int32) (0 : Int32) (0 : Int32) S106) fun x109 S110 => if x109 = 0 then f_L_board_J372 a0 xs Ln a2 l5 S110 B92 W else bx (f_L_item a0 (101 : Int32) (2 : Int32) (B92 (Int32.toNatClampNeg (6 : Int32))) (B92 (Int32.toNatClampNeg (7 : Int32))) (0 : Int32) (0 : Int32) (0 : Int32) S110) fun x113 S114 => if x113 = 0 then f_L_board_J372 a0 xs Ln a2 l5 S114 B92 W else bx (f_L_item a0 (111 : Int32) (1 : Int32) (B92 (Int32.toNatClampNeg (8 : Int32))) (0 : Int32) (0 : Int32) (0 : Int32) (0 : Int32) S114) fun x117 S118 => if x117 = 0 then f_L_board_J372 a0 xs Ln a2 l5 S118 B92 W else if (B92 (Int32.toNatClampNeg (9 : Int32))) = 0 then f_L_board_J368 a0 xs Ln a2 l5 S118 B92 W else bx (f_L_item a0 (115 : Int32) (2 : Int32) (B92 (Int32.toNatClampNeg (9 : Int32))) (B92 (Int32.toNatClampNeg (10 : Int32))) (0 : Int32) (0 : Int32) (0 : Int32) S118) fun x122 S123 => if x122 = 0 then f_L_board_J372 a0 xs Ln a2 l5 S123 B92 W else f_L_board_J368 a0 xs Ln a2 l5 S123 B92 W)
set_option maxHeartbeats 4000000 in
set_option maxRecDepth 100000 in
theorem w_L_board_J223 {p : Program} {l : Launch} {e : Env} {s : State} {m : MethodId} {args : Array Value} {below : List Frame} {meth : Method} {c : Code} {g : Gl} {ws0 : va_W} {sz b ba wa : Nat} {v0 : Int32} {rS : St} {rB rW : Nat → Int32} {a0 : Nat} {xs : Nat → Int32} {Ln : Nat} {a2 : Int32} (cx : CxL p s m args meth c cL_board 21 (some .boolean) RL g.1 g.2.1 (va_A ws0 sz)) (hX : va_X b Ln xs s s.heap) (hbl : b < s.heap.size) (hbA : ¬ va_A ws0 sz b) (hn : npl g = 103) (h_a0 : kd g a0 = 9)  : ∀ (l5 : Int32) (k1 : Int32) (k2 : Int32) (S : St) (B W : Nat → Int32), f_L_board_J223 a0 xs Ln a2 l5 k1 k2 S B W = some (v0, rS, rB, rW) → WL p l e rm_L_board s m args below meth c 0 0 (MQ below (QcGw g.1 ws0 sz (bw ba wa g.2.1 rB rW ++ pool g rS) v0) args s 0 0 (va_A ws0 sz)) 21 g.1 (va_A ws0 sz) (bw ba wa g.2.1 B W ++ pool g S) 223 [(0, .ref (ad g a0)), (1, .ref b), (2, .int a2), (3, .ref ba), (4, .ref wa), (5, .int l5)] [.int k2, .int k1, .ref ba] := by
  intro l5 k1 k2 S B W h
  rw [f_L_board_J223] at h
  obtain ⟨b91, h⟩ := ob_some h
  refine wl_iast cx (bw ba wa g.2.1 (fset B (Int32.toNatClampNeg k1) k2) W ++ pool g S) dL_board_223 0 rfl b91 rfl ?_
  replace h := sq_eq h
  generalize (fset B (Int32.toNatClampNeg k1) k2) = B92 at h ⊢
  refine wl_aload_n cx (i := 0) dL_board_224 rfl rfl ?_
  obtain ⟨x93, S94, e95, h⟩ := bx_some h
  refine wl_callVi (S := S) cx hn (fun hg => m_X9_wipe l hg h_a0 e95) vl_L_30 h_a0 (by decide) rfl rfl ⟨_, cell_eq9 (kd_lt h_a0 (by decide)).2⟩ ⟨Nat.le_of_ble_eq_true rfl, Nat.le_of_ble_eq_true rfl⟩ ⟨rfl, rfl⟩ ⟨Nat.zero_le _, Nat.zero_le _⟩ rfl (Nat.le_of_ble_eq_true rfl) dL_board_225 rfl ?_
  refine wl_if_lt cx dL_board_228 372 (by decide) (fun q96 => ?_) (fun q96 => ?_)
  · rw [if_pos q96] at h
    refine wl_sub (lv' := [(0, .ref (ad g a0)), (1, .ref b), (2, .int a2), (3, .ref ba), (4, .ref wa), (5, .int l5)]) (lvs_c rfl (lvs_c rfl (lvs_c rfl (lvs_c rfl (lvs_c rfl (lvs_c rfl (lvs_n))))))) ?_
    exact w_L_board_J372 cx hX hbl hbA hn h_a0   l5 S94 B92 W h
  · rw [if_neg q96] at h
    refine wl_aload_n cx (i := 0) dL_board_231 rfl rfl ?_
    refine wl_bipush cx dL_board_232 (98 : Int32) (by decide) ?_
    refine wl_iconst cx dL_board_234 (2 : Int32) (by decide) ?_
    refine wl_aload_n cx (i := 3) dL_board_235 rfl rfl ?_
    refine wl_iconst cx dL_board_236 (1 : Int32) (by decide) ?_
    refine wl_iald cx dL_board_237 0 rfl (vinl (by decide)) ?_
    refine wl_aload_n cx (i := 3) dL_board_238 rfl rfl ?_
    refine wl_iconst cx dL_board_239 (2 : Int32) (by decide) ?_
    refine wl_iald cx dL_board_240 0 rfl (vinl (by decide)) ?_
    refine wl_iconst cx dL_board_241 (0 : Int32) (by decide) ?_
    refine wl_iconst cx dL_board_242 (0 : Int32) (by decide) ?_
    refine wl_iconst cx dL_board_243 (0 : Int32) (by decide) ?_
    obtain ⟨x97, S98, e99, h⟩ := bx_some h
    refine wl_callSi (S := S94) cx hn (fun hg => m_L_item l hg h_a0 e99) vl_L_34 ⟨Nat.le_of_ble_eq_true rfl, Nat.le_of_ble_eq_true rfl⟩ ⟨rfl, rfl⟩ ⟨Nat.zero_le _, Nat.zero_le _⟩ rfl (Nat.le_of_ble_eq_true rfl) dL_board_244 rfl ?_
    refine wl_if_eq cx dL_board_247 372 (by decide) (fun q100 => ?_) (fun q100 => ?_)
    · rw [if_pos q100] at h
      refine wl_sub (lv' := [(0, .ref (ad g a0)), (1, .ref b), (2, .int a2), (3, .ref ba), (4, .ref wa), (5, .int l5)]) (lvs_c rfl (lvs_c rfl (lvs_c rfl (lvs_c rfl (lvs_c rfl (lvs_c rfl (lvs_n))))))) ?_
      exact w_L_board_J372 cx hX hbl hbA hn h_a0   l5 S98 B92 W h
    · rw [if_neg q100] at h
      refine wl_aload_n cx (i := 0) dL_board_250 rfl rfl ?_
      refine wl_bipush cx dL_board_251 (100 : Int32) (by decide) ?_
      refine wl_iconst cx dL_board_253 (1 : Int32) (by decide) ?_
      refine wl_aload_n cx (i := 3) dL_board_254 rfl rfl ?_
      refine wl_iconst cx dL_board_255 (3 : Int32) (by decide) ?_
      refine wl_iald cx dL_board_256 0 rfl (vinl (by decide)) ?_
      refine wl_iconst cx dL_board_257 (0 : Int32) (by decide) ?_
      refine wl_iconst cx dL_board_258 (0 : Int32) (by decide) ?_
      refine wl_iconst cx dL_board_259 (0 : Int32) (by decide) ?_
      refine wl_iconst cx dL_board_260 (0 : Int32) (by decide) ?_
      obtain ⟨x101, S102, e103, h⟩ := bx_some h
      refine wl_callSi (S := S98) cx hn (fun hg => m_L_item l hg h_a0 e103) vl_L_34 ⟨Nat.le_of_ble_eq_true rfl, Nat.le_of_ble_eq_true rfl⟩ ⟨rfl, rfl⟩ ⟨Nat.zero_le _, Nat.zero_le _⟩ rfl (Nat.le_of_ble_eq_true rfl) dL_board_261 rfl ?_
      refine wl_if_eq cx dL_board_264 372 (by decide) (fun q104 => ?_) (fun q104 => ?_)
      · rw [if_pos q104] at h
        refine wl_sub (lv' := [(0, .ref (ad g a0)), (1, .ref b), (2, .int a2), (3, .ref ba), (4, .ref wa), (5, .int l5)]) (lvs_c rfl (lvs_c rfl (lvs_c rfl (lvs_c rfl (lvs_c rfl (lvs_c rfl (lvs_n))))))) ?_
        exact w_L_board_J372 cx hX hbl hbA hn h_a0   l5 S102 B92 W h
      · rw [if_neg q104] at h
        refine wl_aload_n cx (i := 0) dL_board_267 rfl rfl ?_
        refine wl_bipush cx dL_board_268 (99 : Int32) (by decide) ?_
        refine wl_iconst cx dL_board_270 (1 : Int32) (by decide) ?_
        refine wl_aload_n cx (i := 3) dL_board_271 rfl rfl ?_
        refine wl_iconst cx dL_board_272 (4 : Int32) (by decide) ?_
        refine wl_iald cx dL_board_273 0 rfl (vinl (by decide)) ?_
        refine wl_iconst cx dL_board_274 (0 : Int32) (by decide) ?_
        refine wl_iconst cx dL_board_275 (0 : Int32) (by decide) ?_
        refine wl_iconst cx dL_board_276 (0 : Int32) (by decide) ?_
        refine wl_iconst cx dL_board_277 (0 : Int32) (by decide) ?_
        obtain ⟨x105, S106, e107, h⟩ := bx_some h
        refine wl_callSi (S := S102) cx hn (fun hg => m_L_item l hg h_a0 e107) vl_L_34 ⟨Nat.le_of_ble_eq_true rfl, Nat.le_of_ble_eq_true rfl⟩ ⟨rfl, rfl⟩ ⟨Nat.zero_le _, Nat.zero_le _⟩ rfl (Nat.le_of_ble_eq_true rfl) dL_board_278 rfl ?_
        refine wl_if_eq cx dL_board_281 372 (by decide) (fun q108 => ?_) (fun q108 => ?_)
        · rw [if_pos q108] at h
          refine wl_sub (lv' := [(0, .ref (ad g a0)), (1, .ref b), (2, .int a2), (3, .ref ba), (4, .ref wa), (5, .int l5)]) (lvs_c rfl (lvs_c rfl (lvs_c rfl (lvs_c rfl (lvs_c rfl (lvs_c rfl (lvs_n))))))) ?_
          exact w_L_board_J372 cx hX hbl hbA hn h_a0   l5 S106 B92 W h
        · rw [if_neg q108] at h
          refine wl_aload_n cx (i := 0) dL_board_284 rfl rfl ?_
          refine wl_bipush cx dL_board_285 (112 : Int32) (by decide) ?_
          refine wl_iconst cx dL_board_287 (1 : Int32) (by decide) ?_
          refine wl_aload_n cx (i := 3) dL_board_288 rfl rfl ?_
          refine wl_iconst cx dL_board_289 (5 : Int32) (by decide) ?_
          refine wl_iald cx dL_board_290 0 rfl (vinl (by decide)) ?_
          refine wl_iconst cx dL_board_291 (0 : Int32) (by decide) ?_
          refine wl_iconst cx dL_board_292 (0 : Int32) (by decide) ?_
          refine wl_iconst cx dL_board_293 (0 : Int32) (by decide) ?_
          refine wl_iconst cx dL_board_294 (0 : Int32) (by decide) ?_
          obtain ⟨x109, S110, e111, h⟩ := bx_some h
          refine wl_callSi (S := S106) cx hn (fun hg => m_L_item l hg h_a0 e111) vl_L_34 ⟨Nat.le_of_ble_eq_true rfl, Nat.le_of_ble_eq_true rfl⟩ ⟨rfl, rfl⟩ ⟨Nat.zero_le _, Nat.zero_le _⟩ rfl (Nat.le_of_ble_eq_true rfl) dL_board_295 rfl ?_
          refine wl_if_eq cx dL_board_298 372 (by decide) (fun q112 => ?_) (fun q112 => ?_)
          · rw [if_pos q112] at h
            refine wl_sub (lv' := [(0, .ref (ad g a0)), (1, .ref b), (2, .int a2), (3, .ref ba), (4, .ref wa), (5, .int l5)]) (lvs_c rfl (lvs_c rfl (lvs_c rfl (lvs_c rfl (lvs_c rfl (lvs_c rfl (lvs_n))))))) ?_
            exact w_L_board_J372 cx hX hbl hbA hn h_a0   l5 S110 B92 W h
          · rw [if_neg q112] at h
            refine wl_aload_n cx (i := 0) dL_board_301 rfl rfl ?_
            refine wl_bipush cx dL_board_302 (101 : Int32) (by decide) ?_
            refine wl_iconst cx dL_board_304 (2 : Int32) (by decide) ?_
            refine wl_aload_n cx (i := 3) dL_board_305 rfl rfl ?_
            refine wl_bipush cx dL_board_306 (6 : Int32) (by decide) ?_
            refine wl_iald cx dL_board_308 0 rfl (vinl (by decide)) ?_
            refine wl_aload_n cx (i := 3) dL_board_309 rfl rfl ?_
            refine wl_bipush cx dL_board_310 (7 : Int32) (by decide) ?_
            refine wl_iald cx dL_board_312 0 rfl (vinl (by decide)) ?_
            refine wl_iconst cx dL_board_313 (0 : Int32) (by decide) ?_
            refine wl_iconst cx dL_board_314 (0 : Int32) (by decide) ?_
            refine wl_iconst cx dL_board_315 (0 : Int32) (by decide) ?_
            obtain ⟨x113, S114, e115, h⟩ := bx_some h
            refine wl_callSi (S := S110) cx hn (fun hg => m_L_item l hg h_a0 e115) vl_L_34 ⟨Nat.le_of_ble_eq_true rfl, Nat.le_of_ble_eq_true rfl⟩ ⟨rfl, rfl⟩ ⟨Nat.zero_le _, Nat.zero_le _⟩ rfl (Nat.le_of_ble_eq_true rfl) dL_board_316 rfl ?_
            refine wl_if_eq cx dL_board_319 372 (by decide) (fun q116 => ?_) (fun q116 => ?_)
            · rw [if_pos q116] at h
              refine wl_sub (lv' := [(0, .ref (ad g a0)), (1, .ref b), (2, .int a2), (3, .ref ba), (4, .ref wa), (5, .int l5)]) (lvs_c rfl (lvs_c rfl (lvs_c rfl (lvs_c rfl (lvs_c rfl (lvs_c rfl (lvs_n))))))) ?_
              exact w_L_board_J372 cx hX hbl hbA hn h_a0   l5 S114 B92 W h
            · rw [if_neg q116] at h
              refine wl_aload_n cx (i := 0) dL_board_322 rfl rfl ?_
              refine wl_bipush cx dL_board_323 (111 : Int32) (by decide) ?_
              refine wl_iconst cx dL_board_325 (1 : Int32) (by decide) ?_
              refine wl_aload_n cx (i := 3) dL_board_326 rfl rfl ?_
              refine wl_bipush cx dL_board_327 (8 : Int32) (by decide) ?_
              refine wl_iald cx dL_board_329 0 rfl (vinl (by decide)) ?_
              refine wl_iconst cx dL_board_330 (0 : Int32) (by decide) ?_
              refine wl_iconst cx dL_board_331 (0 : Int32) (by decide) ?_
              refine wl_iconst cx dL_board_332 (0 : Int32) (by decide) ?_
              refine wl_iconst cx dL_board_333 (0 : Int32) (by decide) ?_
              obtain ⟨x117, S118, e119, h⟩ := bx_some h
              refine wl_callSi (S := S114) cx hn (fun hg => m_L_item l hg h_a0 e119) vl_L_34 ⟨Nat.le_of_ble_eq_true rfl, Nat.le_of_ble_eq_true rfl⟩ ⟨rfl, rfl⟩ ⟨Nat.zero_le _, Nat.zero_le _⟩ rfl (Nat.le_of_ble_eq_true rfl) dL_board_334 rfl ?_
              refine wl_if_eq cx dL_board_337 372 (by decide) (fun q120 => ?_) (fun q120 => ?_)
              · rw [if_pos q120] at h
                refine wl_sub (lv' := [(0, .ref (ad g a0)), (1, .ref b), (2, .int a2), (3, .ref ba), (4, .ref wa), (5, .int l5)]) (lvs_c rfl (lvs_c rfl (lvs_c rfl (lvs_c rfl (lvs_c rfl (lvs_c rfl (lvs_n))))))) ?_
                exact w_L_board_J372 cx hX hbl hbA hn h_a0   l5 S118 B92 W h
              · rw [if_neg q120] at h
                refine wl_aload_n cx (i := 3) dL_board_340 rfl rfl ?_
                refine wl_bipush cx dL_board_341 (9 : Int32) (by decide) ?_
                refine wl_iald cx dL_board_343 0 rfl (vinl (by decide)) ?_
                refine wl_if_eq cx dL_board_344 368 (by decide) (fun q121 => ?_) (fun q121 => ?_)
                · rw [if_pos q121] at h
                  refine wl_sub (lv' := [(0, .ref (ad g a0)), (1, .ref b), (2, .int a2), (3, .ref ba), (4, .ref wa), (5, .int l5)]) (lvs_c rfl (lvs_c rfl (lvs_c rfl (lvs_c rfl (lvs_c rfl (lvs_c rfl (lvs_n))))))) ?_
                  exact w_L_board_J368 cx hX hbl hbA hn h_a0   l5 S118 B92 W h
                · rw [if_neg q121] at h
                  refine wl_aload_n cx (i := 0) dL_board_347 rfl rfl ?_
                  refine wl_bipush cx dL_board_348 (115 : Int32) (by decide) ?_
                  refine wl_iconst cx dL_board_350 (2 : Int32) (by decide) ?_
                  refine wl_aload_n cx (i := 3) dL_board_351 rfl rfl ?_
                  refine wl_bipush cx dL_board_352 (9 : Int32) (by decide) ?_
                  refine wl_iald cx dL_board_354 0 rfl (vinl (by decide)) ?_
                  refine wl_aload_n cx (i := 3) dL_board_355 rfl rfl ?_
                  refine wl_bipush cx dL_board_356 (10 : Int32) (by decide) ?_
                  refine wl_iald cx dL_board_358 0 rfl (vinl (by decide)) ?_
                  refine wl_iconst cx dL_board_359 (0 : Int32) (by decide) ?_
                  refine wl_iconst cx dL_board_360 (0 : Int32) (by decide) ?_
                  refine wl_iconst cx dL_board_361 (0 : Int32) (by decide) ?_
                  obtain ⟨x122, S123, e124, h⟩ := bx_some h
                  refine wl_callSi (S := S118) cx hn (fun hg => m_L_item l hg h_a0 e124) vl_L_34 ⟨Nat.le_of_ble_eq_true rfl, Nat.le_of_ble_eq_true rfl⟩ ⟨rfl, rfl⟩ ⟨Nat.zero_le _, Nat.zero_le _⟩ rfl (Nat.le_of_ble_eq_true rfl) dL_board_362 rfl ?_
                  refine wl_if_eq cx dL_board_365 372 (by decide) (fun q125 => ?_) (fun q125 => ?_)
                  · rw [if_pos q125] at h
                    refine wl_sub (lv' := [(0, .ref (ad g a0)), (1, .ref b), (2, .int a2), (3, .ref ba), (4, .ref wa), (5, .int l5)]) (lvs_c rfl (lvs_c rfl (lvs_c rfl (lvs_c rfl (lvs_c rfl (lvs_c rfl (lvs_n))))))) ?_
                    exact w_L_board_J372 cx hX hbl hbA hn h_a0   l5 S123 B92 W h
                  · rw [if_neg q125] at h
                    refine wl_sub (lv' := [(0, .ref (ad g a0)), (1, .ref b), (2, .int a2), (3, .ref ba), (4, .ref wa), (5, .int l5)]) (lvs_c rfl (lvs_c rfl (lvs_c rfl (lvs_c rfl (lvs_c rfl (lvs_c rfl (lvs_n))))))) ?_
                    exact w_L_board_J368 cx hX hbl hbA hn h_a0   l5 S123 B92 W h
def f_L_board_J198 (a0 : Nat) (xs : (Nat → Int32)) (Ln : Nat) (a2 : Int32) (l5 : Int32) (l6 : Int32) (k1 : Int32) (k2 : Int32) (S : St) (B W : Nat → Int32) : Option RB := ob k1 41 (sq (fset B (Int32.toNatClampNeg k1) k2) fun B127 => if (B127 (Int32.toNatClampNeg (9 : Int32))) = 0 then f_L_board_J223 a0 xs Ln a2 l5 (10 : Int32) (0 : Int32) S B127 W else bx (f_L_some (l6 >>> ((22 : Int32) &&& 31)) (100 : Int32) S) fun x129 S130 => f_L_board_J223 a0 xs Ln a2 l5 (10 : Int32) x129 S130 B127 W)
set_option maxHeartbeats 4000000 in
set_option maxRecDepth 100000 in
theorem w_L_board_J198 {p : Program} {l : Launch} {e : Env} {s : State} {m : MethodId} {args : Array Value} {below : List Frame} {meth : Method} {c : Code} {g : Gl} {ws0 : va_W} {sz b ba wa : Nat} {v0 : Int32} {rS : St} {rB rW : Nat → Int32} {a0 : Nat} {xs : Nat → Int32} {Ln : Nat} {a2 : Int32} (cx : CxL p s m args meth c cL_board 21 (some .boolean) RL g.1 g.2.1 (va_A ws0 sz)) (hX : va_X b Ln xs s s.heap) (hbl : b < s.heap.size) (hbA : ¬ va_A ws0 sz b) (hn : npl g = 103) (h_a0 : kd g a0 = 9)  : ∀ (l5 : Int32) (l6 : Int32) (k1 : Int32) (k2 : Int32) (S : St) (B W : Nat → Int32), f_L_board_J198 a0 xs Ln a2 l5 l6 k1 k2 S B W = some (v0, rS, rB, rW) → WL p l e rm_L_board s m args below meth c 0 0 (MQ below (QcGw g.1 ws0 sz (bw ba wa g.2.1 rB rW ++ pool g rS) v0) args s 0 0 (va_A ws0 sz)) 21 g.1 (va_A ws0 sz) (bw ba wa g.2.1 B W ++ pool g S) 198 [(0, .ref (ad g a0)), (1, .ref b), (2, .int a2), (3, .ref ba), (4, .ref wa), (5, .int l5), (6, .int l6)] [.int k2, .int k1, .ref ba] := by
  intro l5 l6 k1 k2 S B W h
  rw [f_L_board_J198] at h
  obtain ⟨b126, h⟩ := ob_some h
  refine wl_iast cx (bw ba wa g.2.1 (fset B (Int32.toNatClampNeg k1) k2) W ++ pool g S) dL_board_198 0 rfl b126 rfl ?_
  replace h := sq_eq h
  generalize (fset B (Int32.toNatClampNeg k1) k2) = B127 at h ⊢
  refine wl_aload_n cx (i := 3) dL_board_199 rfl rfl ?_
  refine wl_bipush cx dL_board_200 (10 : Int32) (by decide) ?_
  refine wl_aload_n cx (i := 3) dL_board_202 rfl rfl ?_
  refine wl_bipush cx dL_board_203 (9 : Int32) (by decide) ?_
  refine wl_iald cx dL_board_205 0 rfl (vinl (by decide)) ?_
  refine wl_if_ne cx dL_board_206 213 (by decide) (fun q128 => ?_) (fun q128 => ?_)
  · rw [if_neg q128] at h
    refine wl_iload cx dL_board_213 rfl ?_
    refine wl_bipush cx dL_board_215 (22 : Int32) (by decide) ?_
    refine wl_ishr cx dL_board_217 ?_
    refine wl_bipush cx dL_board_218 (100 : Int32) (by decide) ?_
    obtain ⟨x129, S130, e131, h⟩ := bx_some h
    refine wl_callSi (S := S) cx hn (fun hg => m_L_some l hg  e131) vl_L_26 ⟨Nat.le_of_ble_eq_true rfl, Nat.le_of_ble_eq_true rfl⟩ ⟨rfl, rfl⟩ ⟨Nat.zero_le _, Nat.zero_le _⟩ rfl (Nat.le_of_ble_eq_true rfl) dL_board_220 rfl ?_
    refine wl_sub (lv' := [(0, .ref (ad g a0)), (1, .ref b), (2, .int a2), (3, .ref ba), (4, .ref wa), (5, .int l5)]) (lvs_c rfl (lvs_c rfl (lvs_c rfl (lvs_c rfl (lvs_c rfl (lvs_c rfl (lvs_n))))))) ?_
    exact w_L_board_J223 cx hX hbl hbA hn h_a0   l5 (10 : Int32) x129 S130 B127 W h
  · rw [if_pos q128] at h
    refine wl_iconst cx dL_board_209 (0 : Int32) (by decide) ?_
    refine wl_goto cx dL_board_210 223 (by decide) ?_
    refine wl_sub (lv' := [(0, .ref (ad g a0)), (1, .ref b), (2, .int a2), (3, .ref ba), (4, .ref wa), (5, .int l5)]) (lvs_c rfl (lvs_c rfl (lvs_c rfl (lvs_c rfl (lvs_c rfl (lvs_c rfl (lvs_n))))))) ?_
    exact w_L_board_J223 cx hX hbl hbA hn h_a0   l5 (10 : Int32) (0 : Int32) S B127 W h
def f_L_board_J143 (a0 : Nat) (xs : (Nat → Int32)) (Ln : Nat) (a2 : Int32) (l5 : Int32) (l6 : Int32) (k1 : Int32) (k2 : Int32) (S : St) (B W : Nat → Int32) : Option RB := ob k1 41 (sq (fset B (Int32.toNatClampNeg k1) k2) fun B133 => bx (f_L_some (l6 >>> ((11 : Int32) &&& 31)) (10 : Int32) S) fun x134 S135 => sq (fset B133 (Int32.toNatClampNeg (7 : Int32)) x134) fun B137 => sq (fset B137 (Int32.toNatClampNeg (8 : Int32)) ((l6 >>> ((15 : Int32) &&& 31)) &&& (1 : Int32))) fun B138 => if ((l6 >>> ((16 : Int32) &&& 31)) &&& (1 : Int32)) = 0 then f_L_board_J198 a0 xs Ln a2 l5 l6 (9 : Int32) (0 : Int32) S135 B138 W else bx (f_L_some (l6 >>> ((17 : Int32) &&& 31)) (30 : Int32) S135) fun x140 S141 => f_L_board_J198 a0 xs Ln a2 l5 l6 (9 : Int32) ((1 : Int32) + x140) S141 B138 W)
set_option maxHeartbeats 4000000 in
set_option maxRecDepth 100000 in
theorem w_L_board_J143 {p : Program} {l : Launch} {e : Env} {s : State} {m : MethodId} {args : Array Value} {below : List Frame} {meth : Method} {c : Code} {g : Gl} {ws0 : va_W} {sz b ba wa : Nat} {v0 : Int32} {rS : St} {rB rW : Nat → Int32} {a0 : Nat} {xs : Nat → Int32} {Ln : Nat} {a2 : Int32} (cx : CxL p s m args meth c cL_board 21 (some .boolean) RL g.1 g.2.1 (va_A ws0 sz)) (hX : va_X b Ln xs s s.heap) (hbl : b < s.heap.size) (hbA : ¬ va_A ws0 sz b) (hn : npl g = 103) (h_a0 : kd g a0 = 9)  : ∀ (l5 : Int32) (l6 : Int32) (k1 : Int32) (k2 : Int32) (S : St) (B W : Nat → Int32), f_L_board_J143 a0 xs Ln a2 l5 l6 k1 k2 S B W = some (v0, rS, rB, rW) → WL p l e rm_L_board s m args below meth c 0 0 (MQ below (QcGw g.1 ws0 sz (bw ba wa g.2.1 rB rW ++ pool g rS) v0) args s 0 0 (va_A ws0 sz)) 21 g.1 (va_A ws0 sz) (bw ba wa g.2.1 B W ++ pool g S) 143 [(0, .ref (ad g a0)), (1, .ref b), (2, .int a2), (3, .ref ba), (4, .ref wa), (5, .int l5), (6, .int l6)] [.int k2, .int k1, .ref ba] := by
  intro l5 l6 k1 k2 S B W h
  rw [f_L_board_J143] at h
  obtain ⟨b132, h⟩ := ob_some h
  refine wl_iast cx (bw ba wa g.2.1 (fset B (Int32.toNatClampNeg k1) k2) W ++ pool g S) dL_board_143 0 rfl b132 rfl ?_
  replace h := sq_eq h
  generalize (fset B (Int32.toNatClampNeg k1) k2) = B133 at h ⊢
  refine wl_aload_n cx (i := 3) dL_board_144 rfl rfl ?_
  refine wl_bipush cx dL_board_145 (7 : Int32) (by decide) ?_
  refine wl_iload cx dL_board_147 rfl ?_
  refine wl_bipush cx dL_board_149 (11 : Int32) (by decide) ?_
  refine wl_ishr cx dL_board_151 ?_
  refine wl_bipush cx dL_board_152 (10 : Int32) (by decide) ?_
  obtain ⟨x134, S135, e136, h⟩ := bx_some h
  refine wl_callSi (S := S) cx hn (fun hg => m_L_some l hg  e136) vl_L_26 ⟨Nat.le_of_ble_eq_true rfl, Nat.le_of_ble_eq_true rfl⟩ ⟨rfl, rfl⟩ ⟨Nat.zero_le _, Nat.zero_le _⟩ rfl (Nat.le_of_ble_eq_true rfl) dL_board_154 rfl ?_
  refine wl_iast cx (bw ba wa g.2.1 (fset B133 (Int32.toNatClampNeg (7 : Int32)) x134) W ++ pool g S135) dL_board_157 0 rfl (vinl (by decide)) rfl ?_
  replace h := sq_eq h
  generalize (fset B133 (Int32.toNatClampNeg (7 : Int32)) x134) = B137 at h ⊢
  refine wl_aload_n cx (i := 3) dL_board_158 rfl rfl ?_
  refine wl_bipush cx dL_board_159 (8 : Int32) (by decide) ?_
  refine wl_iload cx dL_board_161 rfl ?_
  refine wl_bipush cx dL_board_163 (15 : Int32) (by decide) ?_
  refine wl_ishr cx dL_board_165 ?_
  refine wl_iconst cx dL_board_166 (1 : Int32) (by decide) ?_
  refine wl_iand cx dL_board_167 ?_
  refine wl_iast cx (bw ba wa g.2.1 (fset B137 (Int32.toNatClampNeg (8 : Int32)) ((l6 >>> ((15 : Int32) &&& 31)) &&& (1 : Int32))) W ++ pool g S135) dL_board_168 0 rfl (vinl (by decide)) rfl ?_
  replace h := sq_eq h
  generalize (fset B137 (Int32.toNatClampNeg (8 : Int32)) ((l6 >>> ((15 : Int32) &&& 31)) &&& (1 : Int32))) = B138 at h ⊢
  refine wl_aload_n cx (i := 3) dL_board_169 rfl rfl ?_
  refine wl_bipush cx dL_board_170 (9 : Int32) (by decide) ?_
  refine wl_iload cx dL_board_172 rfl ?_
  refine wl_bipush cx dL_board_174 (16 : Int32) (by decide) ?_
  refine wl_ishr cx dL_board_176 ?_
  refine wl_iconst cx dL_board_177 (1 : Int32) (by decide) ?_
  refine wl_iand cx dL_board_178 ?_
  refine wl_if_ne cx dL_board_179 186 (by decide) (fun q139 => ?_) (fun q139 => ?_)
  · rw [if_neg q139] at h
    refine wl_iconst cx dL_board_186 (1 : Int32) (by decide) ?_
    refine wl_iload cx dL_board_187 rfl ?_
    refine wl_bipush cx dL_board_189 (17 : Int32) (by decide) ?_
    refine wl_ishr cx dL_board_191 ?_
    refine wl_bipush cx dL_board_192 (30 : Int32) (by decide) ?_
    obtain ⟨x140, S141, e142, h⟩ := bx_some h
    refine wl_callSi (S := S135) cx hn (fun hg => m_L_some l hg  e142) vl_L_26 ⟨Nat.le_of_ble_eq_true rfl, Nat.le_of_ble_eq_true rfl⟩ ⟨rfl, rfl⟩ ⟨Nat.zero_le _, Nat.zero_le _⟩ rfl (Nat.le_of_ble_eq_true rfl) dL_board_194 rfl ?_
    refine wl_iadd cx dL_board_197 ?_
    refine wl_sub (lv' := [(0, .ref (ad g a0)), (1, .ref b), (2, .int a2), (3, .ref ba), (4, .ref wa), (5, .int l5), (6, .int l6)]) (lvs_c rfl (lvs_c rfl (lvs_c rfl (lvs_c rfl (lvs_c rfl (lvs_c rfl (lvs_c rfl (lvs_n)))))))) ?_
    exact w_L_board_J198 cx hX hbl hbA hn h_a0   l5 l6 (9 : Int32) ((1 : Int32) + x140) S141 B138 W h
  · rw [if_pos q139] at h
    refine wl_iconst cx dL_board_182 (0 : Int32) (by decide) ?_
    refine wl_goto cx dL_board_183 198 (by decide) ?_
    refine wl_sub (lv' := [(0, .ref (ad g a0)), (1, .ref b), (2, .int a2), (3, .ref ba), (4, .ref wa), (5, .int l5), (6, .int l6)]) (lvs_c rfl (lvs_c rfl (lvs_c rfl (lvs_c rfl (lvs_c rfl (lvs_c rfl (lvs_c rfl (lvs_n)))))))) ?_
    exact w_L_board_J198 cx hX hbl hbA hn h_a0   l5 l6 (9 : Int32) (0 : Int32) S135 B138 W h
def f_L_board_J115 (a0 : Nat) (xs : (Nat → Int32)) (Ln : Nat) (a2 : Int32) (l5 : Int32) (l6 : Int32) (k1 : Int32) (k2 : Int32) (S : St) (B W : Nat → Int32) : Option RB := ob k1 41 (sq (fset B (Int32.toNatClampNeg k1) k2) fun B144 => if ((l6 >>> ((6 : Int32) &&& 31)) &&& (1 : Int32)) = 0 then bx (f_L_some (l6 >>> ((7 : Int32) &&& 31)) (10 : Int32) S) fun x146 S147 => f_L_board_J143 a0 xs Ln a2 l5 l6 (6 : Int32) x146 S147 B144 W else f_L_board_J143 a0 xs Ln a2 l5 l6 (6 : Int32) (0 : Int32) S B144 W)
set_option maxHeartbeats 4000000 in
set_option maxRecDepth 100000 in
theorem w_L_board_J115 {p : Program} {l : Launch} {e : Env} {s : State} {m : MethodId} {args : Array Value} {below : List Frame} {meth : Method} {c : Code} {g : Gl} {ws0 : va_W} {sz b ba wa : Nat} {v0 : Int32} {rS : St} {rB rW : Nat → Int32} {a0 : Nat} {xs : Nat → Int32} {Ln : Nat} {a2 : Int32} (cx : CxL p s m args meth c cL_board 21 (some .boolean) RL g.1 g.2.1 (va_A ws0 sz)) (hX : va_X b Ln xs s s.heap) (hbl : b < s.heap.size) (hbA : ¬ va_A ws0 sz b) (hn : npl g = 103) (h_a0 : kd g a0 = 9)  : ∀ (l5 : Int32) (l6 : Int32) (k1 : Int32) (k2 : Int32) (S : St) (B W : Nat → Int32), f_L_board_J115 a0 xs Ln a2 l5 l6 k1 k2 S B W = some (v0, rS, rB, rW) → WL p l e rm_L_board s m args below meth c 0 0 (MQ below (QcGw g.1 ws0 sz (bw ba wa g.2.1 rB rW ++ pool g rS) v0) args s 0 0 (va_A ws0 sz)) 21 g.1 (va_A ws0 sz) (bw ba wa g.2.1 B W ++ pool g S) 115 [(0, .ref (ad g a0)), (1, .ref b), (2, .int a2), (3, .ref ba), (4, .ref wa), (5, .int l5), (6, .int l6)] [.int k2, .int k1, .ref ba] := by
  intro l5 l6 k1 k2 S B W h
  rw [f_L_board_J115] at h
  obtain ⟨b143, h⟩ := ob_some h
  refine wl_iast cx (bw ba wa g.2.1 (fset B (Int32.toNatClampNeg k1) k2) W ++ pool g S) dL_board_115 0 rfl b143 rfl ?_
  replace h := sq_eq h
  generalize (fset B (Int32.toNatClampNeg k1) k2) = B144 at h ⊢
  refine wl_aload_n cx (i := 3) dL_board_116 rfl rfl ?_
  refine wl_bipush cx dL_board_117 (6 : Int32) (by decide) ?_
  refine wl_iload cx dL_board_119 rfl ?_
  refine wl_bipush cx dL_board_121 (6 : Int32) (by decide) ?_
  refine wl_ishr cx dL_board_123 ?_
  refine wl_iconst cx dL_board_124 (1 : Int32) (by decide) ?_
  refine wl_iand cx dL_board_125 ?_
  refine wl_if_ne cx dL_board_126 142 (by decide) (fun q145 => ?_) (fun q145 => ?_)
  · rw [if_neg q145] at h
    refine wl_iconst cx dL_board_142 (0 : Int32) (by decide) ?_
    refine wl_sub (lv' := [(0, .ref (ad g a0)), (1, .ref b), (2, .int a2), (3, .ref ba), (4, .ref wa), (5, .int l5), (6, .int l6)]) (lvs_c rfl (lvs_c rfl (lvs_c rfl (lvs_c rfl (lvs_c rfl (lvs_c rfl (lvs_c rfl (lvs_n)))))))) ?_
    exact w_L_board_J143 cx hX hbl hbA hn h_a0   l5 l6 (6 : Int32) (0 : Int32) S B144 W h
  · rw [if_pos q145] at h
    refine wl_iload cx dL_board_129 rfl ?_
    refine wl_bipush cx dL_board_131 (7 : Int32) (by decide) ?_
    refine wl_ishr cx dL_board_133 ?_
    refine wl_bipush cx dL_board_134 (10 : Int32) (by decide) ?_
    obtain ⟨x146, S147, e148, h⟩ := bx_some h
    refine wl_callSi (S := S) cx hn (fun hg => m_L_some l hg  e148) vl_L_26 ⟨Nat.le_of_ble_eq_true rfl, Nat.le_of_ble_eq_true rfl⟩ ⟨rfl, rfl⟩ ⟨Nat.zero_le _, Nat.zero_le _⟩ rfl (Nat.le_of_ble_eq_true rfl) dL_board_136 rfl ?_
    refine wl_goto cx dL_board_139 143 (by decide) ?_
    refine wl_sub (lv' := [(0, .ref (ad g a0)), (1, .ref b), (2, .int a2), (3, .ref ba), (4, .ref wa), (5, .int l5), (6, .int l6)]) (lvs_c rfl (lvs_c rfl (lvs_c rfl (lvs_c rfl (lvs_c rfl (lvs_c rfl (lvs_c rfl (lvs_n)))))))) ?_
    exact w_L_board_J143 cx hX hbl hbA hn h_a0   l5 l6 (6 : Int32) x146 S147 B144 W h
def f_L_board_J66 (a0 : Nat) (xs : (Nat → Int32)) (Ln : Nat) (a2 : Int32) (l5 : Int32) (l6 : Int32) (k1 : Int32) (k2 : Int32) (S : St) (B W : Nat → Int32) : Option RB := ob k1 41 (sq (fset B (Int32.toNatClampNeg k1) k2) fun B150 => bx (f_L_some (l5 >>> ((12 : Int32) &&& 31)) (13 : Int32) S) fun x151 S152 => sq (fset B150 (Int32.toNatClampNeg (3 : Int32)) x151) fun B154 => bx (f_L_some (l5 >>> ((16 : Int32) &&& 31)) (60 : Int32) S152) fun x155 S156 => sq (fset B154 (Int32.toNatClampNeg (4 : Int32)) x155) fun B158 => if (l6 &&& (3 : Int32)) = 0 then bx (f_L_some (l6 >>> ((2 : Int32) &&& 31)) (10 : Int32) S156) fun x160 S161 => f_L_board_J115 a0 xs Ln a2 l5 l6 (5 : Int32) x160 S161 B158 W else f_L_board_J115 a0 xs Ln a2 l5 l6 (5 : Int32) (0 : Int32) S156 B158 W)
set_option maxHeartbeats 4000000 in
set_option maxRecDepth 100000 in
theorem w_L_board_J66 {p : Program} {l : Launch} {e : Env} {s : State} {m : MethodId} {args : Array Value} {below : List Frame} {meth : Method} {c : Code} {g : Gl} {ws0 : va_W} {sz b ba wa : Nat} {v0 : Int32} {rS : St} {rB rW : Nat → Int32} {a0 : Nat} {xs : Nat → Int32} {Ln : Nat} {a2 : Int32} (cx : CxL p s m args meth c cL_board 21 (some .boolean) RL g.1 g.2.1 (va_A ws0 sz)) (hX : va_X b Ln xs s s.heap) (hbl : b < s.heap.size) (hbA : ¬ va_A ws0 sz b) (hn : npl g = 103) (h_a0 : kd g a0 = 9)  : ∀ (l5 : Int32) (l6 : Int32) (k1 : Int32) (k2 : Int32) (S : St) (B W : Nat → Int32), f_L_board_J66 a0 xs Ln a2 l5 l6 k1 k2 S B W = some (v0, rS, rB, rW) → WL p l e rm_L_board s m args below meth c 0 0 (MQ below (QcGw g.1 ws0 sz (bw ba wa g.2.1 rB rW ++ pool g rS) v0) args s 0 0 (va_A ws0 sz)) 21 g.1 (va_A ws0 sz) (bw ba wa g.2.1 B W ++ pool g S) 66 [(0, .ref (ad g a0)), (1, .ref b), (2, .int a2), (3, .ref ba), (4, .ref wa), (5, .int l5), (6, .int l6)] [.int k2, .int k1, .ref ba] := by
  intro l5 l6 k1 k2 S B W h
  rw [f_L_board_J66] at h
  obtain ⟨b149, h⟩ := ob_some h
  refine wl_iast cx (bw ba wa g.2.1 (fset B (Int32.toNatClampNeg k1) k2) W ++ pool g S) dL_board_66 0 rfl b149 rfl ?_
  replace h := sq_eq h
  generalize (fset B (Int32.toNatClampNeg k1) k2) = B150 at h ⊢
  refine wl_aload_n cx (i := 3) dL_board_67 rfl rfl ?_
  refine wl_iconst cx dL_board_68 (3 : Int32) (by decide) ?_
  refine wl_iload cx dL_board_69 rfl ?_
  refine wl_bipush cx dL_board_71 (12 : Int32) (by decide) ?_
  refine wl_ishr cx dL_board_73 ?_
  refine wl_bipush cx dL_board_74 (13 : Int32) (by decide) ?_
  obtain ⟨x151, S152, e153, h⟩ := bx_some h
  refine wl_callSi (S := S) cx hn (fun hg => m_L_some l hg  e153) vl_L_26 ⟨Nat.le_of_ble_eq_true rfl, Nat.le_of_ble_eq_true rfl⟩ ⟨rfl, rfl⟩ ⟨Nat.zero_le _, Nat.zero_le _⟩ rfl (Nat.le_of_ble_eq_true rfl) dL_board_76 rfl ?_
  refine wl_iast cx (bw ba wa g.2.1 (fset B150 (Int32.toNatClampNeg (3 : Int32)) x151) W ++ pool g S152) dL_board_79 0 rfl (vinl (by decide)) rfl ?_
  replace h := sq_eq h
  generalize (fset B150 (Int32.toNatClampNeg (3 : Int32)) x151) = B154 at h ⊢
  refine wl_aload_n cx (i := 3) dL_board_80 rfl rfl ?_
  refine wl_iconst cx dL_board_81 (4 : Int32) (by decide) ?_
  refine wl_iload cx dL_board_82 rfl ?_
  refine wl_bipush cx dL_board_84 (16 : Int32) (by decide) ?_
  refine wl_ishr cx dL_board_86 ?_
  refine wl_bipush cx dL_board_87 (60 : Int32) (by decide) ?_
  obtain ⟨x155, S156, e157, h⟩ := bx_some h
  refine wl_callSi (S := S152) cx hn (fun hg => m_L_some l hg  e157) vl_L_26 ⟨Nat.le_of_ble_eq_true rfl, Nat.le_of_ble_eq_true rfl⟩ ⟨rfl, rfl⟩ ⟨Nat.zero_le _, Nat.zero_le _⟩ rfl (Nat.le_of_ble_eq_true rfl) dL_board_89 rfl ?_
  refine wl_iast cx (bw ba wa g.2.1 (fset B154 (Int32.toNatClampNeg (4 : Int32)) x155) W ++ pool g S156) dL_board_92 0 rfl (vinl (by decide)) rfl ?_
  replace h := sq_eq h
  generalize (fset B154 (Int32.toNatClampNeg (4 : Int32)) x155) = B158 at h ⊢
  refine wl_aload_n cx (i := 3) dL_board_93 rfl rfl ?_
  refine wl_iconst cx dL_board_94 (5 : Int32) (by decide) ?_
  refine wl_iload cx dL_board_95 rfl ?_
  refine wl_iconst cx dL_board_97 (3 : Int32) (by decide) ?_
  refine wl_iand cx dL_board_98 ?_
  refine wl_if_ne cx dL_board_99 114 (by decide) (fun q159 => ?_) (fun q159 => ?_)
  · rw [if_neg q159] at h
    refine wl_iconst cx dL_board_114 (0 : Int32) (by decide) ?_
    refine wl_sub (lv' := [(0, .ref (ad g a0)), (1, .ref b), (2, .int a2), (3, .ref ba), (4, .ref wa), (5, .int l5), (6, .int l6)]) (lvs_c rfl (lvs_c rfl (lvs_c rfl (lvs_c rfl (lvs_c rfl (lvs_c rfl (lvs_c rfl (lvs_n)))))))) ?_
    exact w_L_board_J115 cx hX hbl hbA hn h_a0   l5 l6 (5 : Int32) (0 : Int32) S156 B158 W h
  · rw [if_pos q159] at h
    refine wl_iload cx dL_board_102 rfl ?_
    refine wl_iconst cx dL_board_104 (2 : Int32) (by decide) ?_
    refine wl_ishr cx dL_board_105 ?_
    refine wl_bipush cx dL_board_106 (10 : Int32) (by decide) ?_
    obtain ⟨x160, S161, e162, h⟩ := bx_some h
    refine wl_callSi (S := S156) cx hn (fun hg => m_L_some l hg  e162) vl_L_26 ⟨Nat.le_of_ble_eq_true rfl, Nat.le_of_ble_eq_true rfl⟩ ⟨rfl, rfl⟩ ⟨Nat.zero_le _, Nat.zero_le _⟩ rfl (Nat.le_of_ble_eq_true rfl) dL_board_108 rfl ?_
    refine wl_goto cx dL_board_111 115 (by decide) ?_
    refine wl_sub (lv' := [(0, .ref (ad g a0)), (1, .ref b), (2, .int a2), (3, .ref ba), (4, .ref wa), (5, .int l5), (6, .int l6)]) (lvs_c rfl (lvs_c rfl (lvs_c rfl (lvs_c rfl (lvs_c rfl (lvs_c rfl (lvs_c rfl (lvs_n)))))))) ?_
    exact w_L_board_J115 cx hX hbl hbA hn h_a0   l5 l6 (5 : Int32) x160 S161 B158 W h
def f_L_board_J36 (a0 : Nat) (xs : (Nat → Int32)) (Ln : Nat) (a2 : Int32) (l5 : Int32) (l6 : Int32) (k1 : Int32) (k2 : Int32) (k3 : Int32) (k4 : Int32) (S : St) (B W : Nat → Int32) : Option RB := bx (f_L_some k3 k4 S) fun x163 S164 => ob k1 41 (sq (fset B (Int32.toNatClampNeg k1) (k2 + x163)) fun B167 => if ((l5 >>> ((7 : Int32) &&& 31)) &&& (3 : Int32)) = 0 then bx (f_L_some (l5 >>> ((9 : Int32) &&& 31)) (5 : Int32) S164) fun x169 S170 => f_L_board_J66 a0 xs Ln a2 l5 l6 (2 : Int32) x169 S170 B167 W else f_L_board_J66 a0 xs Ln a2 l5 l6 (2 : Int32) (0 : Int32) S164 B167 W)
set_option maxHeartbeats 4000000 in
set_option maxRecDepth 100000 in
theorem w_L_board_J36 {p : Program} {l : Launch} {e : Env} {s : State} {m : MethodId} {args : Array Value} {below : List Frame} {meth : Method} {c : Code} {g : Gl} {ws0 : va_W} {sz b ba wa : Nat} {v0 : Int32} {rS : St} {rB rW : Nat → Int32} {a0 : Nat} {xs : Nat → Int32} {Ln : Nat} {a2 : Int32} (cx : CxL p s m args meth c cL_board 21 (some .boolean) RL g.1 g.2.1 (va_A ws0 sz)) (hX : va_X b Ln xs s s.heap) (hbl : b < s.heap.size) (hbA : ¬ va_A ws0 sz b) (hn : npl g = 103) (h_a0 : kd g a0 = 9)  : ∀ (l5 : Int32) (l6 : Int32) (k1 : Int32) (k2 : Int32) (k3 : Int32) (k4 : Int32) (S : St) (B W : Nat → Int32), f_L_board_J36 a0 xs Ln a2 l5 l6 k1 k2 k3 k4 S B W = some (v0, rS, rB, rW) → WL p l e rm_L_board s m args below meth c 0 0 (MQ below (QcGw g.1 ws0 sz (bw ba wa g.2.1 rB rW ++ pool g rS) v0) args s 0 0 (va_A ws0 sz)) 21 g.1 (va_A ws0 sz) (bw ba wa g.2.1 B W ++ pool g S) 36 [(0, .ref (ad g a0)), (1, .ref b), (2, .int a2), (3, .ref ba), (4, .ref wa), (5, .int l5), (6, .int l6)] [.int k4, .int k3, .int k2, .int k1, .ref ba] := by
  intro l5 l6 k1 k2 k3 k4 S B W h
  rw [f_L_board_J36] at h
  obtain ⟨x163, S164, e165, h⟩ := bx_some h
  refine wl_callSi (S := S) cx hn (fun hg => m_L_some l hg  e165) vl_L_26 ⟨Nat.le_of_ble_eq_true rfl, Nat.le_of_ble_eq_true rfl⟩ ⟨rfl, rfl⟩ ⟨Nat.zero_le _, Nat.zero_le _⟩ rfl (Nat.le_of_ble_eq_true rfl) dL_board_36 rfl ?_
  refine wl_iadd cx dL_board_39 ?_
  obtain ⟨b166, h⟩ := ob_some h
  refine wl_iast cx (bw ba wa g.2.1 (fset B (Int32.toNatClampNeg k1) (k2 + x163)) W ++ pool g S164) dL_board_40 0 rfl b166 rfl ?_
  replace h := sq_eq h
  generalize (fset B (Int32.toNatClampNeg k1) (k2 + x163)) = B167 at h ⊢
  refine wl_aload_n cx (i := 3) dL_board_41 rfl rfl ?_
  refine wl_iconst cx dL_board_42 (2 : Int32) (by decide) ?_
  refine wl_iload cx dL_board_43 rfl ?_
  refine wl_bipush cx dL_board_45 (7 : Int32) (by decide) ?_
  refine wl_ishr cx dL_board_47 ?_
  refine wl_iconst cx dL_board_48 (3 : Int32) (by decide) ?_
  refine wl_iand cx dL_board_49 ?_
  refine wl_if_ne cx dL_board_50 65 (by decide) (fun q168 => ?_) (fun q168 => ?_)
  · rw [if_neg q168] at h
    refine wl_iconst cx dL_board_65 (0 : Int32) (by decide) ?_
    refine wl_sub (lv' := [(0, .ref (ad g a0)), (1, .ref b), (2, .int a2), (3, .ref ba), (4, .ref wa), (5, .int l5), (6, .int l6)]) (lvs_c rfl (lvs_c rfl (lvs_c rfl (lvs_c rfl (lvs_c rfl (lvs_c rfl (lvs_c rfl (lvs_n)))))))) ?_
    exact w_L_board_J66 cx hX hbl hbA hn h_a0   l5 l6 (2 : Int32) (0 : Int32) S164 B167 W h
  · rw [if_pos q168] at h
    refine wl_iload cx dL_board_53 rfl ?_
    refine wl_bipush cx dL_board_55 (9 : Int32) (by decide) ?_
    refine wl_ishr cx dL_board_57 ?_
    refine wl_iconst cx dL_board_58 (5 : Int32) (by decide) ?_
    obtain ⟨x169, S170, e171, h⟩ := bx_some h
    refine wl_callSi (S := S164) cx hn (fun hg => m_L_some l hg  e171) vl_L_26 ⟨Nat.le_of_ble_eq_true rfl, Nat.le_of_ble_eq_true rfl⟩ ⟨rfl, rfl⟩ ⟨Nat.zero_le _, Nat.zero_le _⟩ rfl (Nat.le_of_ble_eq_true rfl) dL_board_59 rfl ?_
    refine wl_goto cx dL_board_62 66 (by decide) ?_
    refine wl_sub (lv' := [(0, .ref (ad g a0)), (1, .ref b), (2, .int a2), (3, .ref ba), (4, .ref wa), (5, .int l5), (6, .int l6)]) (lvs_c rfl (lvs_c rfl (lvs_c rfl (lvs_c rfl (lvs_c rfl (lvs_c rfl (lvs_c rfl (lvs_n)))))))) ?_
    exact w_L_board_J66 cx hX hbl hbA hn h_a0   l5 l6 (2 : Int32) x169 S170 B167 W h
def f_L_board (a0 : Nat) (xs : (Nat → Int32)) (Ln : Nat) (a2 : Int32) (S : St) (B W : Nat → Int32) : Option RB := ck (0 ≤ a2 ∧ Ln < 2147483648) (sq (cellF xs Ln a2) fun x173 => ck (0 ≤ (a2 + (1 : Int32)) ∧ Ln < 2147483648) (sq (cellF xs Ln (a2 + (1 : Int32))) fun x175 => if (x173 &&& (1073741824 : Int32)) = 0 then f_L_board_J36 a0 xs Ln a2 x173 x175 (1 : Int32) (1 : Int32) x173 (30 : Int32) S B W else f_L_board_J36 a0 xs Ln a2 x173 x175 (1 : Int32) (1 : Int32) x173 (60 : Int32) S B W))
set_option maxHeartbeats 4000000 in
set_option maxRecDepth 100000 in
theorem m_L_board (l : Launch) {g : Gl} (hn : npl g = 103) {b ba wa : Nat} {xs : Nat → Int32} {Ln a0 : Nat} {a2 : Int32} {S : St} {B W : Nat → Int32} {v0 : Int32} {rS : St} {rB rW : Nat → Int32} (h_a0 : kd g a0 = 9) (h : f_L_board a0 xs Ln a2 S B W = some (v0, rS, rB, rW)) : MGw l yL_board cL_board 21 (some .boolean) rm_L_board g.1 g.2.1 (bw ba wa g.2.1 B W ++ pool g S) b Ln xs [.ref (ad g a0), .ref b, .int a2, .ref ba, .ref wa] v0 (bw ba wa g.2.1 rB rW ++ pool g rS) := by
  refine startGw [(0, .ref (ad g a0)), (1, .ref b), (2, .int a2), (3, .ref ba), (4, .ref wa)] (by decide +kernel) (Nat.le_of_ble_eq_true rfl) rfl (fun sz p e s m args below meth c cx hX hbl hbA => ?_)
  generalize hws0 : bw ba wa g.2.1 B W ++ pool g S = ws0 at cx hbA ⊢
  have cx : CxL p s m args meth c cL_board 21 (some .boolean) RL g.1 g.2.1 (va_A ws0 sz) := cx
  refine wl_re hws0.symm ?_
  rw [f_L_board] at h
  refine wl_aload_n cx (i := 1) dL_board_0 rfl rfl ?_
  refine wl_iload_n cx (i := 2) dL_board_1 rfl rfl ?_
  obtain ⟨b172, h⟩ := ck_some h
  refine wl_re (ws2 := (bw ba wa g.2.1 B W ++ pool g S) ++ []) (List.append_nil _).symm ?_
  refine wl_callG cx hX hbl hbA (m_L_cell l (xs := xs) (b := b) b172) vl_L_21 ⟨Nat.le_of_ble_eq_true rfl, Nat.le_of_ble_eq_true rfl⟩ ⟨rfl, rfl⟩ ⟨Nat.zero_le _, Nat.zero_le _⟩ rfl (Nat.le_of_ble_eq_true rfl) dL_board_2 rfl ?_
  refine wl_re (ws2 := bw ba wa g.2.1 B W ++ pool g S) (List.append_nil _) ?_
  replace h := sq_eq h
  generalize (cellF xs Ln a2) = x173 at h ⊢
  refine wl_istore cx dL_board_5 [(0, .ref (ad g a0)), (1, .ref b), (2, .int a2), (3, .ref ba), (4, .ref wa), (5, .int x173)] (Nat.le_of_ble_eq_true rfl) rfl (lvs_c rfl (lvs_c rfl (lvs_c rfl (lvs_c rfl (lvs_c rfl (lvs_c rfl (lvs_n))))))) ?_
  refine wl_aload_n cx (i := 1) dL_board_7 rfl rfl ?_
  refine wl_iload_n cx (i := 2) dL_board_8 rfl rfl ?_
  refine wl_iconst cx dL_board_9 (1 : Int32) (by decide) ?_
  refine wl_iadd cx dL_board_10 ?_
  obtain ⟨b174, h⟩ := ck_some h
  refine wl_re (ws2 := (bw ba wa g.2.1 B W ++ pool g S) ++ []) (List.append_nil _).symm ?_
  refine wl_callG cx hX hbl hbA (m_L_cell l (xs := xs) (b := b) b174) vl_L_21 ⟨Nat.le_of_ble_eq_true rfl, Nat.le_of_ble_eq_true rfl⟩ ⟨rfl, rfl⟩ ⟨Nat.zero_le _, Nat.zero_le _⟩ rfl (Nat.le_of_ble_eq_true rfl) dL_board_11 rfl ?_
  refine wl_re (ws2 := bw ba wa g.2.1 B W ++ pool g S) (List.append_nil _) ?_
  replace h := sq_eq h
  generalize (cellF xs Ln (a2 + (1 : Int32))) = x175 at h ⊢
  refine wl_istore cx dL_board_14 [(0, .ref (ad g a0)), (1, .ref b), (2, .int a2), (3, .ref ba), (4, .ref wa), (5, .int x173), (6, .int x175)] (Nat.le_of_ble_eq_true rfl) rfl (lvs_c rfl (lvs_c rfl (lvs_c rfl (lvs_c rfl (lvs_c rfl (lvs_c rfl (lvs_c rfl (lvs_n)))))))) ?_
  refine wl_aload_n cx (i := 3) dL_board_16 rfl rfl ?_
  refine wl_iconst cx dL_board_17 (1 : Int32) (by decide) ?_
  refine wl_iconst cx dL_board_18 (1 : Int32) (by decide) ?_
  refine wl_iload cx dL_board_19 rfl ?_
  refine wl_iload cx dL_board_21 rfl ?_
  refine wl_ldc cx dL_board_23 (1073741824 : Int32) kc_L_25 ?_
  refine wl_iand cx dL_board_25 ?_
  refine wl_if_ne cx dL_board_26 34 (by decide) (fun q176 => ?_) (fun q176 => ?_)
  · rw [if_neg q176] at h
    refine wl_bipush cx dL_board_34 (60 : Int32) (by decide) ?_
    refine wl_sub (lv' := [(0, .ref (ad g a0)), (1, .ref b), (2, .int a2), (3, .ref ba), (4, .ref wa), (5, .int x173), (6, .int x175)]) (lvs_c rfl (lvs_c rfl (lvs_c rfl (lvs_c rfl (lvs_c rfl (lvs_c rfl (lvs_c rfl (lvs_n)))))))) ?_
    exact w_L_board_J36 cx hX hbl hbA hn h_a0   x173 x175 (1 : Int32) (1 : Int32) x173 (60 : Int32) S B W h
  · rw [if_pos q176] at h
    refine wl_bipush cx dL_board_29 (30 : Int32) (by decide) ?_
    refine wl_goto cx dL_board_31 36 (by decide) ?_
    refine wl_sub (lv' := [(0, .ref (ad g a0)), (1, .ref b), (2, .int a2), (3, .ref ba), (4, .ref wa), (5, .int x173), (6, .int x175)]) (lvs_c rfl (lvs_c rfl (lvs_c rfl (lvs_c rfl (lvs_c rfl (lvs_c rfl (lvs_c rfl (lvs_n)))))))) ?_
    exact w_L_board_J36 cx hX hbl hbA hn h_a0   x173 x175 (1 : Int32) (1 : Int32) x173 (30 : Int32) S B W h
