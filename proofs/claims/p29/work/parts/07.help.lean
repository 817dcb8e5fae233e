theorem lvs_n {lv : List (Nat × Value)} : lvsub lv [] := trivial
theorem lvs_c {lv t : List (Nat × Value)} {q : Nat × Value} (h : lvg lv q.1 = some q.2) (k : lvsub lv t) : lvsub lv (q :: t) := ⟨h, k⟩
theorem vinl {i : Int32} {n : Nat} (h : ¬ (i < 0 ∨ n ≤ i.toNatClampNeg)) : vp_in i n := h
theorem ml_X0_77 : Cond.methodLink RX0 77 Lib.Math.max.name ∈ lw_g := (lwm 418 (by decide +kernel) rfl)
theorem ml_X1_66 : Cond.methodLink RX1 66 Lib.Math.min.name ∈ lw_g := (lwm 554 (by decide +kernel) rfl)
theorem ml_X1_103 : Cond.methodLink RX1 103 Lib.Math.max.name ∈ lw_g := (lwm 561 (by decide +kernel) rfl)
theorem ml_X4_52 : Cond.methodLink RX4 52 Lib.Math.min.name ∈ lw_g := (lwm 640 (by decide +kernel) rfl)
theorem ml_X4_94 : Cond.methodLink RX4 94 Lib.Math.max.name ∈ lw_g := (lwm 833 (by decide +kernel) rfl)
theorem al_X5_22 : Cond.methodLink RX5 22 arraycopyName ∈ lw_g := (lwm 859 (by decide +kernel) rfl)
theorem mmax_s : Cond.static Lib.Math.max.name ∈ lw_g := (lwm 419 (by decide +kernel) rfl)
theorem mmax_c : Cond.code Lib.Math.max.name Lib.Math.max.code 2 (some .int) ∈ lw_g := (lwm 420 (by decide +kernel) rfl)
theorem mmin_s : Cond.static Lib.Math.min.name ∈ lw_g := (lwm 555 (by decide +kernel) rfl)
theorem mmin_c : Cond.code Lib.Math.min.name Lib.Math.min.code 2 (some .int) ∈ lw_g := (lwm 556 (by decide +kernel) rfl)
theorem m_i : Cond.initialized "java/lang/Math" ∈ lw_g := (lwm 37 (by decide +kernel) rfl)
theorem al_n : Cond.native arraycopyName ∈ lw_g := (lwm 861 (by decide +kernel) rfl)
theorem al_s : Cond.static arraycopyName ∈ lw_g := (lwm 860 (by decide +kernel) rfl)
theorem al_i : Cond.initialized "java/lang/System" ∈ lw_g := (lwm 39 (by decide +kernel) rfl)
