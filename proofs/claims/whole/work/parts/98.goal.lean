/-- what is left of the claim, in words of the functions alone -/
theorem fun_ok : ∃ (I : Nat → Nat → Int32) (J : Nat → Nat → Int64) (S2 : St), f_X8_initB 0 S0 = some ((), (I, J, R0)) ∧ f_X9_initB 102 (mrg I J) = some ((), S2) ∧ ∀ (xs : Nat → Int32) (Ln : Nat), Ln ≤ 2048 → ∃ r : Int32 × St, r.1 = 1 ∧ f_L_law_L18 FU xs Ln 0 S2 = some r := sorry
