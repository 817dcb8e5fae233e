set_option maxRecDepth 100000 in
theorem vl_L_137 : SL RL 137 yL_board cL_board 21 (some .boolean) 5 := ⟨⟨(lwm 731 (by decide +kernel) rfl), (lwm 732 (by decide +kernel) rfl), (lwm 26 (by decide +kernel) rfl), (lwm 733 rfl rfl)⟩, by decide, by decide, by decide +kernel⟩
