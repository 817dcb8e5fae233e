theorem lvs_n {lv : List (Nat × Value)} : lvsub lv [] := trivial
theorem lvs_c {lv t : List (Nat × Value)} {q : Nat × Value} (h : lvg lv q.1 = some q.2) (k : lvsub lv t) : lvsub lv (q :: t) := ⟨h, k⟩
theorem vinl {i : Int32} {n : Nat} (h : ¬ (i < 0 ∨ n ≤ i.toNatClampNeg)) : vp_in i n := h
theorem ml_X0_77 : Cond.methodLink RX0 77 Lib.Math.max.name ∈ lw_g := (lwm 455 (by decide +kernel) rfl)
theorem ml_X1_66 : Cond.methodLink RX1 66 Lib.Math.min.name ∈ lw_g := (lwm 659 (by decide +kernel) rfl)
theorem ml_X1_103 : Cond.methodLink RX1 103 Lib.Math.max.name ∈ lw_g := (lwm 666 (by decide +kernel) rfl)
theorem ml_X4_52 : Cond.methodLink RX4 52 Lib.Math.min.name ∈ lw_g := (lwm 745 (by decide +kernel) rfl)
theorem ml_X4_94 : Cond.methodLink RX4 94 Lib.Math.max.name ∈ lw_g := (lwm 784 (by decide +kernel) rfl)
theorem al_X5_22 : Cond.methodLink RX5 22 arraycopyName ∈ lw_g := (lwm 869 (by decide +kernel) rfl)
theorem mmax_s : Cond.static Lib.Math.max.name ∈ lw_g := (lwm 456 (by decide +kernel) rfl)
theorem mmax_c : Cond.code Lib.Math.max.name Lib.Math.max.code 2 (some .int) ∈ lw_g := (lwm 457 (by decide +kernel) rfl)
theorem mmin_s : Cond.static Lib.Math.min.name ∈ lw_g := (lwm 660 (by decide +kernel) rfl)
theorem mmin_c : Cond.code Lib.Math.min.name Lib.Math.min.code 2 (some .int) ∈ lw_g := (lwm 661 (by decide +kernel) rfl)
theorem m_i : Cond.initialized "java/lang/Math" ∈ lw_g := (lwm 73 (by decide +kernel) rfl)
theorem al_n : Cond.native arraycopyName ∈ lw_g := (lwm 871 (by decide +kernel) rfl)
theorem al_s : Cond.static arraycopyName ∈ lw_g := (lwm 870 (by decide +kernel) rfl)
theorem al_i : Cond.initialized "java/lang/System" ∈ lw_g := (lwm 76 (by decide +kernel) rfl)
