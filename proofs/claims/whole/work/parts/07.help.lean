theorem lvs_n {lv : List (Nat × Value)} : lvsub lv [] := trivial
theorem lvs_c {lv t : List (Nat × Value)} {q : Nat × Value} (h : lvg lv q.1 = some q.2) (k : lvsub lv t) : lvsub lv (q :: t) := ⟨h, k⟩
theorem vinl {i : Int32} {n : Nat} (h : ¬ (i < 0 ∨ n ≤ i.toNatClampNeg)) : vp_in i n := h
theorem ml_X0_77 : Cond.methodLink RX0 77 Lib.Math.max.name ∈ lw_g := (lwm 437 (by decide +kernel) rfl)
theorem ml_X1_66 : Cond.methodLink RX1 66 Lib.Math.min.name ∈ lw_g := (lwm 647 (by decide +kernel) rfl)
theorem ml_X1_103 : Cond.methodLink RX1 103 Lib.Math.max.name ∈ lw_g := (lwm 654 (by decide +kernel) rfl)
theorem ml_X4_52 : Cond.methodLink RX4 52 Lib.Math.min.name ∈ lw_g := (lwm 733 (by decide +kernel) rfl)
theorem ml_X4_94 : Cond.methodLink RX4 94 Lib.Math.max.name ∈ lw_g := (lwm 772 (by decide +kernel) rfl)
theorem al_X8_299 : Cond.methodLink RX8 299 arraycopyName ∈ lw_g := (lwm 853 (by decide +kernel) rfl)
theorem mmax_s : Cond.static Lib.Math.max.name ∈ lw_g := (lwm 438 (by decide +kernel) rfl)
theorem mmax_c : Cond.code Lib.Math.max.name Lib.Math.max.code 2 (some .int) ∈ lw_g := (lwm 439 (by decide +kernel) rfl)
theorem mmin_s : Cond.static Lib.Math.min.name ∈ lw_g := (lwm 648 (by decide +kernel) rfl)
theorem mmin_c : Cond.code Lib.Math.min.name Lib.Math.min.code 2 (some .int) ∈ lw_g := (lwm 649 (by decide +kernel) rfl)
theorem m_i : Cond.initialized "java/lang/Math" ∈ lw_g := (lwm 72 (by decide +kernel) rfl)
theorem al_n : Cond.native arraycopyName ∈ lw_g := (lwm 855 (by decide +kernel) rfl)
theorem al_s : Cond.static arraycopyName ∈ lw_g := (lwm 854 (by decide +kernel) rfl)
theorem al_i : Cond.initialized "java/lang/System" ∈ lw_g := (lwm 75 (by decide +kernel) rfl)
