def f_L_law_L18 : Nat → (Nat → Int32) → Nat → Int32 → St → Option (Int32 × St)
  | 0, _, _, _, _ => none
  | n + 1, xs, Ln, l3, S => if ((nI Ln) - (4 : Int32)) < l3 then some ((1 : Int32), S) else ob l3 Ln (if ((xs (Int32.toNatClampNeg l3)) &&& (31 : Int32)) = (0 : Int32) then ob (l3 + (1 : Int32)) Ln (ob (l3 + (2 : Int32)) Ln (ob (l3 + (3 : Int32)) Ln (bd (f_X9_write 0 (xs (Int32.toNatClampNeg (l3 + (1 : Int32)))) ((((Int32.toInt64 (xs (Int32.toNatClampNeg (l3 + (2 : Int32))))) <<< (Int32.toInt64 (32 : Int32) &&& 63))) ||| ((Int32.toInt64 (xs (Int32.toNatClampNeg (l3 + (3 : Int32))))) &&& (4294967295 : Int64))) S) fun x7 S8 => ob (l3 + (1 : Int32)) Ln (ob (l3 + (2 : Int32)) Ln (ob (l3 + (3 : Int32)) Ln (bd (f_X10_write 103 (xs (Int32.toNatClampNeg (l3 + (1 : Int32)))) ((((Int32.toInt64 (xs (Int32.toNatClampNeg (l3 + (2 : Int32))))) <<< (Int32.toInt64 (32 : Int32) &&& 63))) ||| ((Int32.toInt64 (xs (Int32.toNatClampNeg (l3 + (3 : Int32))))) &&& (4294967295 : Int64))) S8) fun x13 S14 => if x7 = x13 then f_L_law_L18 n xs Ln (l3 + (4 : Int32)) S14 else some ((0 : Int32), S14))))))) else if ((xs (Int32.toNatClampNeg l3)) &&& (31 : Int32)) = (1 : Int32) then bd (f_X9_wipe 0 S) fun x18 S19 => bd (f_X10_wipe 103 S19) fun x21 S22 => if x18 = x21 then f_L_law_L18 n xs Ln (l3 + (4 : Int32)) S22 else some ((0 : Int32), S22) else if ((xs (Int32.toNatClampNeg l3)) &&& (31 : Int32)) = (2 : Int32) then bd (f_X9_fault 0 S) fun x26 S27 => bd (f_X10_fault 103 S27) fun x29 S30 => if x26 = x29 then f_L_law_L18 n xs Ln (l3 + (4 : Int32)) S30 else some ((0 : Int32), S30) else if ((xs (Int32.toNatClampNeg l3)) &&& (31 : Int32)) = (3 : Int32) then bd (f_X9_lay 0 S) fun x34 S35 => bd (f_X10_lay 103 S35) fun x37 S38 => if x34 = x37 then f_L_law_L18 n xs Ln (l3 + (4 : Int32)) S38 else some ((0 : Int32), S38) else if ((xs (Int32.toNatClampNeg l3)) &&& (31 : Int32)) = (4 : Int32) then ob (l3 + (1 : Int32)) Ln (ob (l3 + (2 : Int32)) Ln (bd (f_X9_giver 0 (xs (Int32.toNatClampNeg (l3 + (1 : Int32)))) (xs (Int32.toNatClampNeg (l3 + (2 : Int32)))) S) fun x44 S45 => ob (l3 + (1 : Int32)) Ln (ob (l3 + (2 : Int32)) Ln (bd (f_X10_giver 103 (xs (Int32.toNatClampNeg (l3 + (1 : Int32)))) (xs (Int32.toNatClampNeg (l3 + (2 : Int32)))) S45) fun x49 S50 => if x44 = x49 then f_L_law_L18 n xs Ln (l3 + (4 : Int32)) S50 else some ((0 : Int32), S50))))) else if ((xs (Int32.toNatClampNeg l3)) &&& (31 : Int32)) = (5 : Int32) then ob (l3 + (1 : Int32)) Ln (bd (f_X9_show 0 (xs (Int32.toNatClampNeg (l3 + (1 : Int32)))) S) fun x55 S56 => ob (l3 + (1 : Int32)) Ln (bd (f_X10_show 103 (xs (Int32.toNatClampNeg (l3 + (1 : Int32)))) S56) fun x59 S60 => if x55 = x59 then f_L_law_L18 n xs Ln (l3 + (4 : Int32)) S60 else some ((0 : Int32), S60))) else if ((xs (Int32.toNatClampNeg l3)) &&& (31 : Int32)) = (6 : Int32) then ob (l3 + (1 : Int32)) Ln (bd (f_X9_odds 0 (xs (Int32.toNatClampNeg (l3 + (1 : Int32)))) S) fun x65 S66 => ob (l3 + (1 : Int32)) Ln (bd (f_X10_odds 103 (xs (Int32.toNatClampNeg (l3 + (1 : Int32)))) S66) fun x69 S70 => if x65 = x69 then f_L_law_L18 n xs Ln (l3 + (4 : Int32)) S70 else some ((0 : Int32), S70))) else if ((xs (Int32.toNatClampNeg l3)) &&& (31 : Int32)) = (7 : Int32) then ob (l3 + (1 : Int32)) Ln (ob (l3 + (2 : Int32)) Ln (bd (f_X9_mean 0 (xs (Int32.toNatClampNeg (l3 + (1 : Int32)))) (xs (Int32.toNatClampNeg (l3 + (2 : Int32)))) S) fun x76 S77 => ob (l3 + (1 : Int32)) Ln (ob (l3 + (2 : Int32)) Ln (bd (f_X10_mean 103 (xs (Int32.toNatClampNeg (l3 + (1 : Int32)))) (xs (Int32.toNatClampNeg (l3 + (2 : Int32)))) S77) fun x81 S82 => if x76 = x81 then f_L_law_L18 n xs Ln (l3 + (4 : Int32)) S82 else some ((0 : Int32), S82))))) else if ((xs (Int32.toNatClampNeg l3)) &&& (31 : Int32)) = (8 : Int32) then ob (l3 + (1 : Int32)) Ln (bd (f_X9_wrong 0 (xs (Int32.toNatClampNeg (l3 + (1 : Int32)))) S) fun x87 S88 => ob (l3 + (1 : Int32)) Ln (bd (f_X10_wrong 103 (xs (Int32.toNatClampNeg (l3 + (1 : Int32)))) S88) fun x91 S92 => if x87 = x91 then f_L_law_L18 n xs Ln (l3 + (4 : Int32)) S92 else some ((0 : Int32), S92))) else if ((xs (Int32.toNatClampNeg l3)) &&& (31 : Int32)) = (9 : Int32) then ob (l3 + (1 : Int32)) Ln (ob (l3 + (2 : Int32)) Ln (bd (f_X9_row 0 (xs (Int32.toNatClampNeg (l3 + (1 : Int32)))) (xs (Int32.toNatClampNeg (l3 + (2 : Int32)))) S) fun x98 S99 => ob (l3 + (1 : Int32)) Ln (ob (l3 + (2 : Int32)) Ln (bd (f_X10_row 103 (xs (Int32.toNatClampNeg (l3 + (1 : Int32)))) (xs (Int32.toNatClampNeg (l3 + (2 : Int32)))) S99) fun x103 S104 => if x98 = x103 then f_L_law_L18 n xs Ln (l3 + (4 : Int32)) S104 else some ((0 : Int32), S104))))) else if ((xs (Int32.toNatClampNeg l3)) &&& (31 : Int32)) = (10 : Int32) then bd (f_X9_judge 0 S) fun x108 S109 => bd (f_X10_judge 103 S109) fun x111 S112 => if x108 = x111 then f_L_law_L18 n xs Ln (l3 + (4 : Int32)) S112 else some ((0 : Int32), S112) else if ((xs (Int32.toNatClampNeg l3)) &&& (31 : Int32)) = (11 : Int32) then ob (l3 + (1 : Int32)) Ln (bd (f_X9_made 0 (xs (Int32.toNatClampNeg (l3 + (1 : Int32)))) S) fun x117 S118 => ob (l3 + (1 : Int32)) Ln (bd (f_X10_made 103 (xs (Int32.toNatClampNeg (l3 + (1 : Int32)))) S118) fun x121 S122 => if x117 = x121 then f_L_law_L18 n xs Ln (l3 + (4 : Int32)) S122 else some ((0 : Int32), S122))) else if ((xs (Int32.toNatClampNeg l3)) &&& (31 : Int32)) = (12 : Int32) then ob (l3 + (1 : Int32)) Ln (bd (f_X9_just 0 (xs (Int32.toNatClampNeg (l3 + (1 : Int32)))) S) fun x127 S128 => ob (l3 + (1 : Int32)) Ln (bd (f_X10_just 103 (xs (Int32.toNatClampNeg (l3 + (1 : Int32)))) S128) fun x131 S132 => if x127 = x131 then f_L_law_L18 n xs Ln (l3 + (4 : Int32)) S132 else some ((0 : Int32), S132))) else if ((xs (Int32.toNatClampNeg l3)) &&& (31 : Int32)) = (13 : Int32) then bd (f_X9_fails 0 S) fun x136 S137 => bd (f_X10_fails 103 S137) fun x139 S140 => if x136 = x139 then f_L_law_L18 n xs Ln (l3 + (4 : Int32)) S140 else some ((0 : Int32), S140) else if ((xs (Int32.toNatClampNeg l3)) &&& (31 : Int32)) = (14 : Int32) then ob (l3 + (1 : Int32)) Ln (bd (f_X9_bestBar 0 (xs (Int32.toNatClampNeg (l3 + (1 : Int32)))) S) fun x145 S146 => ob (l3 + (1 : Int32)) Ln (bd (f_X10_bestBar 103 (xs (Int32.toNatClampNeg (l3 + (1 : Int32)))) S146) fun x149 S150 => if x145 = x149 then f_L_law_L18 n xs Ln (l3 + (4 : Int32)) S150 else some ((0 : Int32), S150))) else if ((xs (Int32.toNatClampNeg l3)) &&& (31 : Int32)) = (15 : Int32) then bd (f_X9_bestDay 0 S) fun x154 S155 => bd (f_X10_bestDay 103 S155) fun x157 S158 => if x154 = x157 then f_L_law_L18 n xs Ln (l3 + (4 : Int32)) S158 else some ((0 : Int32), S158) else if ((xs (Int32.toNatClampNeg l3)) &&& (31 : Int32)) = (16 : Int32) then ob (l3 + (1 : Int32)) Ln (bd (f_X9_extra 0 (xs (Int32.toNatClampNeg (l3 + (1 : Int32)))) S) fun x163 S164 => ob (l3 + (1 : Int32)) Ln (bd (f_X10_extra 103 (xs (Int32.toNatClampNeg (l3 + (1 : Int32)))) S164) fun x167 S168 => if x163 = x167 then f_L_law_L18 n xs Ln (l3 + (4 : Int32)) S168 else some ((0 : Int32), S168))) else if ((xs (Int32.toNatClampNeg l3)) &&& (31 : Int32)) = (17 : Int32) then bd (f_X9_bestShow 0 S) fun x172 S173 => bd (f_X10_bestShow 103 S173) fun x175 S176 => if x172 = x175 then f_L_law_L18 n xs Ln (l3 + (4 : Int32)) S176 else some ((0 : Int32), S176) else if ((xs (Int32.toNatClampNeg l3)) &&& (31 : Int32)) = (18 : Int32) then ob (l3 + (1 : Int32)) Ln (ob (l3 + (2 : Int32)) Ln (bd (f_X9_rich 0 (xs (Int32.toNatClampNeg (l3 + (1 : Int32)))) (xs (Int32.toNatClampNeg (l3 + (2 : Int32)))) S) fun x182 S183 => ob (l3 + (1 : Int32)) Ln (ob (l3 + (2 : Int32)) Ln (bd (f_X10_rich 103 (xs (Int32.toNatClampNeg (l3 + (1 : Int32)))) (xs (Int32.toNatClampNeg (l3 + (2 : Int32)))) S183) fun x187 S188 => if x182 = x187 then f_L_law_L18 n xs Ln (l3 + (4 : Int32)) S188 else some ((0 : Int32), S188))))) else if ((xs (Int32.toNatClampNeg l3)) &&& (31 : Int32)) = (19 : Int32) then ob (l3 + (1 : Int32)) Ln (bd (f_X9_richDay 0 (xs (Int32.toNatClampNeg (l3 + (1 : Int32)))) S) fun x193 S194 => ob (l3 + (1 : Int32)) Ln (bd (f_X10_richDay 103 (xs (Int32.toNatClampNeg (l3 + (1 : Int32)))) S194) fun x197 S198 => if x193 = x197 then f_L_law_L18 n xs Ln (l3 + (4 : Int32)) S198 else some ((0 : Int32), S198))) else if ((xs (Int32.toNatClampNeg l3)) &&& (31 : Int32)) = (20 : Int32) then ob (l3 + (1 : Int32)) Ln (bd (f_X9_two 0 (xs (Int32.toNatClampNeg (l3 + (1 : Int32)))) S) fun x203 S204 => ob (l3 + (1 : Int32)) Ln (bd (f_X10_two 103 (xs (Int32.toNatClampNeg (l3 + (1 : Int32)))) S204) fun x207 S208 => if x203 = x207 then f_L_law_L18 n xs Ln (l3 + (4 : Int32)) S208 else some ((0 : Int32), S208))) else if ((xs (Int32.toNatClampNeg l3)) &&& (31 : Int32)) = (21 : Int32) then ob (l3 + (1 : Int32)) Ln (ob (l3 + (2 : Int32)) Ln (ob (l3 + (3 : Int32)) Ln (bd (f_X9_evening 0 (xs (Int32.toNatClampNeg (l3 + (1 : Int32)))) (xs (Int32.toNatClampNeg (l3 + (2 : Int32)))) (xs (Int32.toNatClampNeg (l3 + (3 : Int32)))) S) fun x215 S216 => ob (l3 + (1 : Int32)) Ln (ob (l3 + (2 : Int32)) Ln (ob (l3 + (3 : Int32)) Ln (bd (f_X10_evening 103 (xs (Int32.toNatClampNeg (l3 + (1 : Int32)))) (xs (Int32.toNatClampNeg (l3 + (2 : Int32)))) (xs (Int32.toNatClampNeg (l3 + (3 : Int32)))) S216) fun x221 S222 => if x215 = x221 then f_L_law_L18 n xs Ln (l3 + (4 : Int32)) S222 else some ((0 : Int32), S222))))))) else if ((xs (Int32.toNatClampNeg l3)) &&& (31 : Int32)) = (22 : Int32) then ob (l3 + (1 : Int32)) Ln (ob (l3 + (2 : Int32)) Ln (bd (f_X9_whole 0 (xs (Int32.toNatClampNeg (l3 + (1 : Int32)))) (xs (Int32.toNatClampNeg (l3 + (2 : Int32)))) S) fun x228 S229 => ob (l3 + (1 : Int32)) Ln (ob (l3 + (2 : Int32)) Ln (bd (f_X10_whole 103 (xs (Int32.toNatClampNeg (l3 + (1 : Int32)))) (xs (Int32.toNatClampNeg (l3 + (2 : Int32)))) S229) fun x233 S234 => if x228 = x233 then f_L_law_L18 n xs Ln (l3 + (4 : Int32)) S234 else some ((0 : Int32), S234))))) else if ((xs (Int32.toNatClampNeg l3)) &&& (31 : Int32)) = (23 : Int32) then bd (f_X9_keep 0 S) fun x238 S239 => bd (f_X10_keep 103 S239) fun x241 S242 => if x238 = x241 then f_L_law_L18 n xs Ln (l3 + (4 : Int32)) S242 else some ((0 : Int32), S242) else if ((xs (Int32.toNatClampNeg l3)) &&& (31 : Int32)) = (24 : Int32) then bd (f_X9_back 0 S) fun x246 S247 => bd (f_X10_back 103 S247) fun x249 S250 => if x246 = x249 then f_L_law_L18 n xs Ln (l3 + (4 : Int32)) S250 else some ((0 : Int32), S250) else if ((xs (Int32.toNatClampNeg l3)) &&& (31 : Int32)) = (25 : Int32) then ob (l3 + (1 : Int32)) Ln (bd (f_X9_count 0 (xs (Int32.toNatClampNeg (l3 + (1 : Int32)))) S) fun x255 S256 => ob (l3 + (1 : Int32)) Ln (bd (f_X10_count 103 (xs (Int32.toNatClampNeg (l3 + (1 : Int32)))) S256) fun x259 S260 => if x255 = x259 then f_L_law_L18 n xs Ln (l3 + (4 : Int32)) S260 else some ((0 : Int32), S260))) else f_L_law_L18 n xs Ln (l3 + (4 : Int32)) S)
set_option maxHeartbeats 40000000 in
set_option maxRecDepth 1000000 in
theorem w_L_law_L18 {p : Program} {l : Launch} {e : Env} {s : State} {m : MethodId} {below : List Frame} {meth : Method} {c : Code} {g : Gl} {A : Nat → Prop} {b Ln : Nat} {xs : Nat → Int32} {r : Int32 × St} (cx : Cx p s m #[Value.ref b] meth c cL_law 4 ret RL g A) (hA : A = fun q => s.heap.size ≤ q) (hX : va_X b Ln xs s s.heap) (hbl : b < s.heap.size) (hbA : ¬ A b) (h_x : kd g 0 = 9) (h_m : kd g 103 = 10) (hr : r.1 = 1) : ∀ (n : Nat) (l3 : Int32) (S : St), f_L_law_L18 n xs Ln l3 S = some r → WA p l e room_1 s m #[Value.ref b] below meth c 129 12358 (lw_Z below #[Value.ref b] s) 4 g A S 18 [(0, .ref b), (1, .ref (ad g 0)), (2, .ref (ad g 103)), (3, .int l3)] [] := by
  intro n
  induction n with
  | zero => intro l3 S h; rw [f_L_law_L18] at h; cases h
  | succ n ih =>
    intro l3 S h
    rw [f_L_law_L18] at h
    refine wa_iload_n cx (i := 3) dL_law_18 rfl rfl ?_
    refine wa_aload_n cx (i := 0) dL_law_19 rfl rfl ?_
    refine wa_slen cx hX hbl hbA dL_law_20 ?_
    refine wa_iconst cx dL_law_21 (4 : Int32) (by decide) ?_
    refine wa_isub cx dL_law_22 ?_
    refine wa_icmp_gt cx dL_law_23 784 (by decide) (fun q1 => ?_) (fun q1 => ?_)
    · rw [if_pos q1] at h
      refine wa_iconst cx dL_law_784 (1 : Int32) (by decide) ?_
      exact wa_lret1 cx hA dL_law_785
    · rw [if_neg q1] at h
      refine wa_aload_n cx (i := 0) dL_law_26 rfl rfl ?_
      refine wa_iload_n cx (i := 3) dL_law_27 rfl rfl ?_
      obtain ⟨b2, h⟩ := ob_some h
      refine wa_sld cx hX hbl hbA dL_law_28 b2 ?_
      refine wa_bipush cx dL_law_29 (31 : Int32) (by decide) ?_
      refine wa_iand cx dL_law_31 ?_
      by_cases q3 : ((xs (Int32.toNatClampNeg l3)) &&& (31 : Int32)) = (0 : Int32)
      · rw [if_pos q3] at h
        refine wa_tabIn cx dL_law_32 152 (by rw [q3]; decide) (by rw [q3]; decide) (by rw [q3] <;> rfl) (by decide) ?_
        refine wa_aload_n cx (i := 1) dL_law_152 rfl rfl ?_
        refine wa_aload_n cx (i := 0) dL_law_153 rfl rfl ?_
        refine wa_iload_n cx (i := 3) dL_law_154 rfl rfl ?_
        refine wa_iconst cx dL_law_155 (1 : Int32) (by decide) ?_
        refine wa_iadd cx dL_law_156 ?_
        obtain ⟨b4, h⟩ := ob_some h
        refine wa_sld cx hX hbl hbA dL_law_157 b4 ?_
        refine wa_aload_n cx (i := 0) dL_law_158 rfl rfl ?_
        refine wa_iload_n cx (i := 3) dL_law_159 rfl rfl ?_
        refine wa_iconst cx dL_law_160 (2 : Int32) (by decide) ?_
        refine wa_iadd cx dL_law_161 ?_
        obtain ⟨b5, h⟩ := ob_some h
        refine wa_sld cx hX hbl hbA dL_law_162 b5 ?_
        refine wa_i2l cx dL_law_163 ?_
        refine wa_bipush cx dL_law_164 (32 : Int32) (by decide) ?_
        refine wa_lshl cx dL_law_166 ?_
        refine wa_aload_n cx (i := 0) dL_law_167 rfl rfl ?_
        refine wa_iload_n cx (i := 3) dL_law_168 rfl rfl ?_
        refine wa_iconst cx dL_law_169 (3 : Int32) (by decide) ?_
        refine wa_iadd cx dL_law_170 ?_
        obtain ⟨b6, h⟩ := ob_some h
        refine wa_sld cx hX hbl hbA dL_law_171 b6 ?_
        refine wa_i2l cx dL_law_172 ?_
        refine wa_ldc2 cx dL_law_173 (4294967295 : Int64) kc_L_13 ?_
        refine wa_land cx dL_law_176 ?_
        refine wa_lor cx dL_law_177 ?_
        obtain ⟨x7, S8, e9, h⟩ := bd_some h
        refine wa_callVi cx (m_X9_write l cx.2.2.2.2.2.2.1 h_x e9) vl_L_15 h_x (by decide) rfl rfl ⟨_, cell_eq9 (kd_lt h_x (by decide)).2⟩ ⟨Nat.le_of_ble_eq_true rfl, Nat.le_of_ble_eq_true rfl⟩ ⟨rfl, rfl⟩ ⟨Nat.le_of_ble_eq_true rfl, Nat.le_of_ble_eq_true rfl⟩ rfl (Nat.le_of_ble_eq_true rfl) dL_law_178 rfl ?_
        refine wa_aload_n cx (i := 2) dL_law_181 rfl rfl ?_
        refine wa_aload_n cx (i := 0) dL_law_182 rfl rfl ?_
        refine wa_iload_n cx (i := 3) dL_law_183 rfl rfl ?_
        refine wa_iconst cx dL_law_184 (1 : Int32) (by decide) ?_
        refine wa_iadd cx dL_law_185 ?_
        obtain ⟨b10, h⟩ := ob_some h
        refine wa_sld cx hX hbl hbA dL_law_186 b10 ?_
        refine wa_aload_n cx (i := 0) dL_law_187 rfl rfl ?_
        refine wa_iload_n cx (i := 3) dL_law_188 rfl rfl ?_
        refine wa_iconst cx dL_law_189 (2 : Int32) (by decide) ?_
        refine wa_iadd cx dL_law_190 ?_
        obtain ⟨b11, h⟩ := ob_some h
        refine wa_sld cx hX hbl hbA dL_law_191 b11 ?_
        refine wa_i2l cx dL_law_192 ?_
        refine wa_bipush cx dL_law_193 (32 : Int32) (by decide) ?_
        refine wa_lshl cx dL_law_195 ?_
        refine wa_aload_n cx (i := 0) dL_law_196 rfl rfl ?_
        refine wa_iload_n cx (i := 3) dL_law_197 rfl rfl ?_
        refine wa_iconst cx dL_law_198 (3 : Int32) (by decide) ?_
        refine wa_iadd cx dL_law_199 ?_
        obtain ⟨b12, h⟩ := ob_some h
        refine wa_sld cx hX hbl hbA dL_law_200 b12 ?_
        refine wa_i2l cx dL_law_201 ?_
        refine wa_ldc2 cx dL_law_202 (4294967295 : Int64) kc_L_13 ?_
        refine wa_land cx dL_law_205 ?_
        refine wa_lor cx dL_law_206 ?_
        obtain ⟨x13, S14, e15, h⟩ := bd_some h
        refine wa_callVi cx (m_X10_write l cx.2.2.2.2.2.2.1 h_m e15) vl_L_19 h_m (by decide) rfl rfl ⟨_, cell_eq10 (kd_lt h_m (by decide)).2⟩ ⟨Nat.le_of_ble_eq_true rfl, Nat.le_of_ble_eq_true rfl⟩ ⟨rfl, rfl⟩ ⟨Nat.le_of_ble_eq_true rfl, Nat.le_of_ble_eq_true rfl⟩ rfl (Nat.le_of_ble_eq_true rfl) dL_law_207 rfl ?_
        refine wa_icmp_eq cx dL_law_210 778 (by decide) (fun q16 => ?_) (fun q16 => ?_)
        · rw [if_pos q16] at h
          refine wa_iinc cx dL_law_778 (l3 + (4 : Int32)) [(0, .ref b), (1, .ref (ad g 0)), (2, .ref (ad g 103)), (3, .int (l3 + (4 : Int32)))] rfl rfl (Nat.le_of_ble_eq_true rfl) rfl (lvs_c rfl (lvs_c rfl (lvs_c rfl (lvs_c rfl (lvs_n))))) ?_
          refine wa_goto cx dL_law_781 18 (by decide) ?_
          refine wa_sub (lv' := [(0, .ref b), (1, .ref (ad g 0)), (2, .ref (ad g 103)), (3, .int (l3 + (4 : Int32)))]) (lvs_c rfl (lvs_c rfl (lvs_c rfl (lvs_c rfl (lvs_n))))) ?_
          exact ih (l3 + (4 : Int32)) S14  h
        · rw [if_neg q16] at h
          refine wa_iconst cx dL_law_213 (0 : Int32) (by decide) ?_
          cases h; exact absurd (show (0 : Int32) = 1 from hr) (by decide)
      rw [if_neg q3] at h
      by_cases q17 : ((xs (Int32.toNatClampNeg l3)) &&& (31 : Int32)) = (1 : Int32)
      · rw [if_pos q17] at h
        refine wa_tabIn cx dL_law_32 215 (by rw [q17]; decide) (by rw [q17]; decide) (by rw [q17] <;> rfl) (by decide) ?_
        refine wa_aload_n cx (i := 1) dL_law_215 rfl rfl ?_
        obtain ⟨x18, S19, e20, h⟩ := bd_some h
        refine wa_callVi cx (m_X9_wipe l cx.2.2.2.2.2.2.1 h_x e20) vl_L_20 h_x (by decide) rfl rfl ⟨_, cell_eq9 (kd_lt h_x (by decide)).2⟩ ⟨Nat.le_of_ble_eq_true rfl, Nat.le_of_ble_eq_true rfl⟩ ⟨rfl, rfl⟩ ⟨Nat.le_of_ble_eq_true rfl, Nat.le_of_ble_eq_true rfl⟩ rfl (Nat.le_of_ble_eq_true rfl) dL_law_216 rfl ?_
        refine wa_aload_n cx (i := 2) dL_law_219 rfl rfl ?_
        obtain ⟨x21, S22, e23, h⟩ := bd_some h
        refine wa_callVi cx (m_X10_wipe l cx.2.2.2.2.2.2.1 h_m e23) vl_L_24 h_m (by decide) rfl rfl ⟨_, cell_eq10 (kd_lt h_m (by decide)).2⟩ ⟨Nat.le_of_ble_eq_true rfl, Nat.le_of_ble_eq_true rfl⟩ ⟨rfl, rfl⟩ ⟨Nat.le_of_ble_eq_true rfl, Nat.le_of_ble_eq_true rfl⟩ rfl (Nat.le_of_ble_eq_true rfl) dL_law_220 rfl ?_
        refine wa_icmp_eq cx dL_law_223 778 (by decide) (fun q24 => ?_) (fun q24 => ?_)
        · rw [if_pos q24] at h
          refine wa_iinc cx dL_law_778 (l3 + (4 : Int32)) [(0, .ref b), (1, .ref (ad g 0)), (2, .ref (ad g 103)), (3, .int (l3 + (4 : Int32)))] rfl rfl (Nat.le_of_ble_eq_true rfl) rfl (lvs_c rfl (lvs_c rfl (lvs_c rfl (lvs_c rfl (lvs_n))))) ?_
          refine wa_goto cx dL_law_781 18 (by decide) ?_
          refine wa_sub (lv' := [(0, .ref b), (1, .ref (ad g 0)), (2, .ref (ad g 103)), (3, .int (l3 + (4 : Int32)))]) (lvs_c rfl (lvs_c rfl (lvs_c rfl (lvs_c rfl (lvs_n))))) ?_
          exact ih (l3 + (4 : Int32)) S22  h
        · rw [if_neg q24] at h
          refine wa_iconst cx dL_law_226 (0 : Int32) (by decide) ?_
          cases h; exact absurd (show (0 : Int32) = 1 from hr) (by decide)
      rw [if_neg q17] at h
      by_cases q25 : ((xs (Int32.toNatClampNeg l3)) &&& (31 : Int32)) = (2 : Int32)
      · rw [if_pos q25] at h
        refine wa_tabIn cx dL_law_32 228 (by rw [q25]; decide) (by rw [q25]; decide) (by rw [q25] <;> rfl) (by decide) ?_
        refine wa_aload_n cx (i := 1) dL_law_228 rfl rfl ?_
        obtain ⟨x26, S27, e28, h⟩ := bd_some h
        refine wa_callVi cx (m_X9_fault l cx.2.2.2.2.2.2.1 h_x e28) vl_L_25 h_x (by decide) rfl rfl ⟨_, cell_eq9 (kd_lt h_x (by decide)).2⟩ ⟨Nat.le_of_ble_eq_true rfl, Nat.le_of_ble_eq_true rfl⟩ ⟨rfl, rfl⟩ ⟨Nat.le_of_ble_eq_true rfl, Nat.le_of_ble_eq_true rfl⟩ rfl (Nat.le_of_ble_eq_true rfl) dL_law_229 rfl ?_
        refine wa_aload_n cx (i := 2) dL_law_232 rfl rfl ?_
        obtain ⟨x29, S30, e31, h⟩ := bd_some h
        refine wa_callVi cx (m_X10_fault l cx.2.2.2.2.2.2.1 h_m e31) vl_L_28 h_m (by decide) rfl rfl ⟨_, cell_eq10 (kd_lt h_m (by decide)).2⟩ ⟨Nat.le_of_ble_eq_true rfl, Nat.le_of_ble_eq_true rfl⟩ ⟨rfl, rfl⟩ ⟨Nat.le_of_ble_eq_true rfl, Nat.le_of_ble_eq_true rfl⟩ rfl (Nat.le_of_ble_eq_true rfl) dL_law_233 rfl ?_
        refine wa_icmp_eq cx dL_law_236 778 (by decide) (fun q32 => ?_) (fun q32 => ?_)
        · rw [if_pos q32] at h
          refine wa_iinc cx dL_law_778 (l3 + (4 : Int32)) [(0, .ref b), (1, .ref (ad g 0)), (2, .ref (ad g 103)), (3, .int (l3 + (4 : Int32)))] rfl rfl (Nat.le_of_ble_eq_true rfl) rfl (lvs_c rfl (lvs_c rfl (lvs_c rfl (lvs_c rfl (lvs_n))))) ?_
          refine wa_goto cx dL_law_781 18 (by decide) ?_
          refine wa_sub (lv' := [(0, .ref b), (1, .ref (ad g 0)), (2, .ref (ad g 103)), (3, .int (l3 + (4 : Int32)))]) (lvs_c rfl (lvs_c rfl (lvs_c rfl (lvs_c rfl (lvs_n))))) ?_
          exact ih (l3 + (4 : Int32)) S30  h
        · rw [if_neg q32] at h
          refine wa_iconst cx dL_law_239 (0 : Int32) (by decide) ?_
          cases h; exact absurd (show (0 : Int32) = 1 from hr) (by decide)
      rw [if_neg q25] at h
      by_cases q33 : ((xs (Int32.toNatClampNeg l3)) &&& (31 : Int32)) = (3 : Int32)
      · rw [if_pos q33] at h
        refine wa_tabIn cx dL_law_32 241 (by rw [q33]; decide) (by rw [q33]; decide) (by rw [q33] <;> rfl) (by decide) ?_
        refine wa_aload_n cx (i := 1) dL_law_241 rfl rfl ?_
        obtain ⟨x34, S35, e36, h⟩ := bd_some h
        refine wa_callVi cx (m_X9_lay l cx.2.2.2.2.2.2.1 h_x e36) vl_L_29 h_x (by decide) rfl rfl ⟨_, cell_eq9 (kd_lt h_x (by decide)).2⟩ ⟨Nat.le_of_ble_eq_true rfl, Nat.le_of_ble_eq_true rfl⟩ ⟨rfl, rfl⟩ ⟨Nat.le_of_ble_eq_true rfl, Nat.le_of_ble_eq_true rfl⟩ rfl (Nat.le_of_ble_eq_true rfl) dL_law_242 rfl ?_
        refine wa_aload_n cx (i := 2) dL_law_245 rfl rfl ?_
        obtain ⟨x37, S38, e39, h⟩ := bd_some h
        refine wa_callVi cx (m_X10_lay l cx.2.2.2.2.2.2.1 h_m e39) vl_L_32 h_m (by decide) rfl rfl ⟨_, cell_eq10 (kd_lt h_m (by decide)).2⟩ ⟨Nat.le_of_ble_eq_true rfl, Nat.le_of_ble_eq_true rfl⟩ ⟨rfl, rfl⟩ ⟨Nat.le_of_ble_eq_true rfl, Nat.le_of_ble_eq_true rfl⟩ rfl (Nat.le_of_ble_eq_true rfl) dL_law_246 rfl ?_
        refine wa_icmp_eq cx dL_law_249 778 (by decide) (fun q40 => ?_) (fun q40 => ?_)
        · rw [if_pos q40] at h
          refine wa_iinc cx dL_law_778 (l3 + (4 : Int32)) [(0, .ref b), (1, .ref (ad g 0)), (2, .ref (ad g 103)), (3, .int (l3 + (4 : Int32)))] rfl rfl (Nat.le_of_ble_eq_true rfl) rfl (lvs_c rfl (lvs_c rfl (lvs_c rfl (lvs_c rfl (lvs_n))))) ?_
          refine wa_goto cx dL_law_781 18 (by decide) ?_
          refine wa_sub (lv' := [(0, .ref b), (1, .ref (ad g 0)), (2, .ref (ad g 103)), (3, .int (l3 + (4 : Int32)))]) (lvs_c rfl (lvs_c rfl (lvs_c rfl (lvs_c rfl (lvs_n))))) ?_
          exact ih (l3 + (4 : Int32)) S38  h
        · rw [if_neg q40] at h
          refine wa_iconst cx dL_law_252 (0 : Int32) (by decide) ?_
          cases h; exact absurd (show (0 : Int32) = 1 from hr) (by decide)
      rw [if_neg q33] at h
      by_cases q41 : ((xs (Int32.toNatClampNeg l3)) &&& (31 : Int32)) = (4 : Int32)
      · rw [if_pos q41] at h
        refine wa_tabIn cx dL_law_32 254 (by rw [q41]; decide) (by rw [q41]; decide) (by rw [q41] <;> rfl) (by decide) ?_
        refine wa_aload_n cx (i := 1) dL_law_254 rfl rfl ?_
        refine wa_aload_n cx (i := 0) dL_law_255 rfl rfl ?_
        refine wa_iload_n cx (i := 3) dL_law_256 rfl rfl ?_
        refine wa_iconst cx dL_law_257 (1 : Int32) (by decide) ?_
        refine wa_iadd cx dL_law_258 ?_
        obtain ⟨b42, h⟩ := ob_some h
        refine wa_sld cx hX hbl hbA dL_law_259 b42 ?_
        refine wa_aload_n cx (i := 0) dL_law_260 rfl rfl ?_
        refine wa_iload_n cx (i := 3) dL_law_261 rfl rfl ?_
        refine wa_iconst cx dL_law_262 (2 : Int32) (by decide) ?_
        refine wa_iadd cx dL_law_263 ?_
        obtain ⟨b43, h⟩ := ob_some h
        refine wa_sld cx hX hbl hbA dL_law_264 b43 ?_
        obtain ⟨x44, S45, e46, h⟩ := bd_some h
        refine wa_callVi cx (m_X9_giver l cx.2.2.2.2.2.2.1 h_x e46) vl_L_33 h_x (by decide) rfl rfl ⟨_, cell_eq9 (kd_lt h_x (by decide)).2⟩ ⟨Nat.le_of_ble_eq_true rfl, Nat.le_of_ble_eq_true rfl⟩ ⟨rfl, rfl⟩ ⟨Nat.le_of_ble_eq_true rfl, Nat.le_of_ble_eq_true rfl⟩ rfl (Nat.le_of_ble_eq_true rfl) dL_law_265 rfl ?_
        refine wa_aload_n cx (i := 2) dL_law_268 rfl rfl ?_
        refine wa_aload_n cx (i := 0) dL_law_269 rfl rfl ?_
        refine wa_iload_n cx (i := 3) dL_law_270 rfl rfl ?_
        refine wa_iconst cx dL_law_271 (1 : Int32) (by decide) ?_
        refine wa_iadd cx dL_law_272 ?_
        obtain ⟨b47, h⟩ := ob_some h
        refine wa_sld cx hX hbl hbA dL_law_273 b47 ?_
        refine wa_aload_n cx (i := 0) dL_law_274 rfl rfl ?_
        refine wa_iload_n cx (i := 3) dL_law_275 rfl rfl ?_
        refine wa_iconst cx dL_law_276 (2 : Int32) (by decide) ?_
        refine wa_iadd cx dL_law_277 ?_
        obtain ⟨b48, h⟩ := ob_some h
        refine wa_sld cx hX hbl hbA dL_law_278 b48 ?_
        obtain ⟨x49, S50, e51, h⟩ := bd_some h
        refine wa_callVi cx (m_X10_giver l cx.2.2.2.2.2.2.1 h_m e51) vl_L_37 h_m (by decide) rfl rfl ⟨_, cell_eq10 (kd_lt h_m (by decide)).2⟩ ⟨Nat.le_of_ble_eq_true rfl, Nat.le_of_ble_eq_true rfl⟩ ⟨rfl, rfl⟩ ⟨Nat.le_of_ble_eq_true rfl, Nat.le_of_ble_eq_true rfl⟩ rfl (Nat.le_of_ble_eq_true rfl) dL_law_279 rfl ?_
        refine wa_icmp_eq cx dL_law_282 778 (by decide) (fun q52 => ?_) (fun q52 => ?_)
        · rw [if_pos q52] at h
          refine wa_iinc cx dL_law_778 (l3 + (4 : Int32)) [(0, .ref b), (1, .ref (ad g 0)), (2, .ref (ad g 103)), (3, .int (l3 + (4 : Int32)))] rfl rfl (Nat.le_of_ble_eq_true rfl) rfl (lvs_c rfl (lvs_c rfl (lvs_c rfl (lvs_c rfl (lvs_n))))) ?_
          refine wa_goto cx dL_law_781 18 (by decide) ?_
          refine wa_sub (lv' := [(0, .ref b), (1, .ref (ad g 0)), (2, .ref (ad g 103)), (3, .int (l3 + (4 : Int32)))]) (lvs_c rfl (lvs_c rfl (lvs_c rfl (lvs_c rfl (lvs_n))))) ?_
          exact ih (l3 + (4 : Int32)) S50  h
        · rw [if_neg q52] at h
          refine wa_iconst cx dL_law_285 (0 : Int32) (by decide) ?_
          cases h; exact absurd (show (0 : Int32) = 1 from hr) (by decide)
      rw [if_neg q41] at h
      by_cases q53 : ((xs (Int32.toNatClampNeg l3)) &&& (31 : Int32)) = (5 : Int32)
      · rw [if_pos q53] at h
        refine wa_tabIn cx dL_law_32 287 (by rw [q53]; decide) (by rw [q53]; decide) (by rw [q53] <;> rfl) (by decide) ?_
        refine wa_aload_n cx (i := 1) dL_law_287 rfl rfl ?_
        refine wa_aload_n cx (i := 0) dL_law_288 rfl rfl ?_
        refine wa_iload_n cx (i := 3) dL_law_289 rfl rfl ?_
        refine wa_iconst cx dL_law_290 (1 : Int32) (by decide) ?_
        refine wa_iadd cx dL_law_291 ?_
        obtain ⟨b54, h⟩ := ob_some h
        refine wa_sld cx hX hbl hbA dL_law_292 b54 ?_
        obtain ⟨x55, S56, e57, h⟩ := bd_some h
        refine wa_callVi cx (m_X9_show l cx.2.2.2.2.2.2.1 h_x e57) vl_L_38 h_x (by decide) rfl rfl ⟨_, cell_eq9 (kd_lt h_x (by decide)).2⟩ ⟨Nat.le_of_ble_eq_true rfl, Nat.le_of_ble_eq_true rfl⟩ ⟨rfl, rfl⟩ ⟨Nat.le_of_ble_eq_true rfl, Nat.le_of_ble_eq_true rfl⟩ rfl (Nat.le_of_ble_eq_true rfl) dL_law_293 rfl ?_
        refine wa_aload_n cx (i := 2) dL_law_296 rfl rfl ?_
        refine wa_aload_n cx (i := 0) dL_law_297 rfl rfl ?_
        refine wa_iload_n cx (i := 3) dL_law_298 rfl rfl ?_
        refine wa_iconst cx dL_law_299 (1 : Int32) (by decide) ?_
        refine wa_iadd cx dL_law_300 ?_
        obtain ⟨b58, h⟩ := ob_some h
        refine wa_sld cx hX hbl hbA dL_law_301 b58 ?_
        obtain ⟨x59, S60, e61, h⟩ := bd_some h
        refine wa_callVi cx (m_X10_show l cx.2.2.2.2.2.2.1 h_m e61) vl_L_42 h_m (by decide) rfl rfl ⟨_, cell_eq10 (kd_lt h_m (by decide)).2⟩ ⟨Nat.le_of_ble_eq_true rfl, Nat.le_of_ble_eq_true rfl⟩ ⟨rfl, rfl⟩ ⟨Nat.le_of_ble_eq_true rfl, Nat.le_of_ble_eq_true rfl⟩ rfl (Nat.le_of_ble_eq_true rfl) dL_law_302 rfl ?_
        refine wa_icmp_eq cx dL_law_305 778 (by decide) (fun q62 => ?_) (fun q62 => ?_)
        · rw [if_pos q62] at h
          refine wa_iinc cx dL_law_778 (l3 + (4 : Int32)) [(0, .ref b), (1, .ref (ad g 0)), (2, .ref (ad g 103)), (3, .int (l3 + (4 : Int32)))] rfl rfl (Nat.le_of_ble_eq_true rfl) rfl (lvs_c rfl (lvs_c rfl (lvs_c rfl (lvs_c rfl (lvs_n))))) ?_
          refine wa_goto cx dL_law_781 18 (by decide) ?_
          refine wa_sub (lv' := [(0, .ref b), (1, .ref (ad g 0)), (2, .ref (ad g 103)), (3, .int (l3 + (4 : Int32)))]) (lvs_c rfl (lvs_c rfl (lvs_c rfl (lvs_c rfl (lvs_n))))) ?_
          exact ih (l3 + (4 : Int32)) S60  h
        · rw [if_neg q62] at h
          refine wa_iconst cx dL_law_308 (0 : Int32) (by decide) ?_
          cases h; exact absurd (show (0 : Int32) = 1 from hr) (by decide)
      rw [if_neg q53] at h
      by_cases q63 : ((xs (Int32.toNatClampNeg l3)) &&& (31 : Int32)) = (6 : Int32)
      · rw [if_pos q63] at h
        refine wa_tabIn cx dL_law_32 310 (by rw [q63]; decide) (by rw [q63]; decide) (by rw [q63] <;> rfl) (by decide) ?_
        refine wa_aload_n cx (i := 1) dL_law_310 rfl rfl ?_
        refine wa_aload_n cx (i := 0) dL_law_311 rfl rfl ?_
        refine wa_iload_n cx (i := 3) dL_law_312 rfl rfl ?_
        refine wa_iconst cx dL_law_313 (1 : Int32) (by decide) ?_
        refine wa_iadd cx dL_law_314 ?_
        obtain ⟨b64, h⟩ := ob_some h
        refine wa_sld cx hX hbl hbA dL_law_315 b64 ?_
        obtain ⟨x65, S66, e67, h⟩ := bd_some h
        refine wa_callVl cx (m_X9_odds l cx.2.2.2.2.2.2.1 h_x e67) vl_L_43 h_x (by decide) rfl rfl ⟨_, cell_eq9 (kd_lt h_x (by decide)).2⟩ ⟨Nat.le_of_ble_eq_true rfl, Nat.le_of_ble_eq_true rfl⟩ ⟨rfl, rfl⟩ ⟨Nat.le_of_ble_eq_true rfl, Nat.le_of_ble_eq_true rfl⟩ rfl (Nat.le_of_ble_eq_true rfl) dL_law_316 rfl ?_
        refine wa_aload_n cx (i := 2) dL_law_319 rfl rfl ?_
        refine wa_aload_n cx (i := 0) dL_law_320 rfl rfl ?_
        refine wa_iload_n cx (i := 3) dL_law_321 rfl rfl ?_
        refine wa_iconst cx dL_law_322 (1 : Int32) (by decide) ?_
        refine wa_iadd cx dL_law_323 ?_
        obtain ⟨b68, h⟩ := ob_some h
        refine wa_sld cx hX hbl hbA dL_law_324 b68 ?_
        obtain ⟨x69, S70, e71, h⟩ := bd_some h
        refine wa_callVl cx (m_X10_odds l cx.2.2.2.2.2.2.1 h_m e71) vl_L_47 h_m (by decide) rfl rfl ⟨_, cell_eq10 (kd_lt h_m (by decide)).2⟩ ⟨Nat.le_of_ble_eq_true rfl, Nat.le_of_ble_eq_true rfl⟩ ⟨rfl, rfl⟩ ⟨Nat.le_of_ble_eq_true rfl, Nat.le_of_ble_eq_true rfl⟩ rfl (Nat.le_of_ble_eq_true rfl) dL_law_325 rfl ?_
        refine wa_lcmp_eq cx dL_law_328 dL_law_329 778 (by decide) (fun q72 => ?_) (fun q72 => ?_)
        · rw [if_pos q72] at h
          refine wa_iinc cx dL_law_778 (l3 + (4 : Int32)) [(0, .ref b), (1, .ref (ad g 0)), (2, .ref (ad g 103)), (3, .int (l3 + (4 : Int32)))] rfl rfl (Nat.le_of_ble_eq_true rfl) rfl (lvs_c rfl (lvs_c rfl (lvs_c rfl (lvs_c rfl (lvs_n))))) ?_
          refine wa_goto cx dL_law_781 18 (by decide) ?_
          refine wa_sub (lv' := [(0, .ref b), (1, .ref (ad g 0)), (2, .ref (ad g 103)), (3, .int (l3 + (4 : Int32)))]) (lvs_c rfl (lvs_c rfl (lvs_c rfl (lvs_c rfl (lvs_n))))) ?_
          exact ih (l3 + (4 : Int32)) S70  h
        · rw [if_neg q72] at h
          refine wa_iconst cx dL_law_332 (0 : Int32) (by decide) ?_
          cases h; exact absurd (show (0 : Int32) = 1 from hr) (by decide)
      rw [if_neg q63] at h
      by_cases q73 : ((xs (Int32.toNatClampNeg l3)) &&& (31 : Int32)) = (7 : Int32)
      · rw [if_pos q73] at h
        refine wa_tabIn cx dL_law_32 334 (by rw [q73]; decide) (by rw [q73]; decide) (by rw [q73] <;> rfl) (by decide) ?_
        refine wa_aload_n cx (i := 1) dL_law_334 rfl rfl ?_
        refine wa_aload_n cx (i := 0) dL_law_335 rfl rfl ?_
        refine wa_iload_n cx (i := 3) dL_law_336 rfl rfl ?_
        refine wa_iconst cx dL_law_337 (1 : Int32) (by decide) ?_
        refine wa_iadd cx dL_law_338 ?_
        obtain ⟨b74, h⟩ := ob_some h
        refine wa_sld cx hX hbl hbA dL_law_339 b74 ?_
        refine wa_aload_n cx (i := 0) dL_law_340 rfl rfl ?_
        refine wa_iload_n cx (i := 3) dL_law_341 rfl rfl ?_
        refine wa_iconst cx dL_law_342 (2 : Int32) (by decide) ?_
        refine wa_iadd cx dL_law_343 ?_
        obtain ⟨b75, h⟩ := ob_some h
        refine wa_sld cx hX hbl hbA dL_law_344 b75 ?_
        obtain ⟨x76, S77, e78, h⟩ := bd_some h
        refine wa_callVl cx (m_X9_mean l cx.2.2.2.2.2.2.1 h_x e78) vl_L_48 h_x (by decide) rfl rfl ⟨_, cell_eq9 (kd_lt h_x (by decide)).2⟩ ⟨Nat.le_of_ble_eq_true rfl, Nat.le_of_ble_eq_true rfl⟩ ⟨rfl, rfl⟩ ⟨Nat.le_of_ble_eq_true rfl, Nat.le_of_ble_eq_true rfl⟩ rfl (Nat.le_of_ble_eq_true rfl) dL_law_345 rfl ?_
        refine wa_aload_n cx (i := 2) dL_law_348 rfl rfl ?_
        refine wa_aload_n cx (i := 0) dL_law_349 rfl rfl ?_
        refine wa_iload_n cx (i := 3) dL_law_350 rfl rfl ?_
        refine wa_iconst cx dL_law_351 (1 : Int32) (by decide) ?_
        refine wa_iadd cx dL_law_352 ?_
        obtain ⟨b79, h⟩ := ob_some h
        refine wa_sld cx hX hbl hbA dL_law_353 b79 ?_
        refine wa_aload_n cx (i := 0) dL_law_354 rfl rfl ?_
        refine wa_iload_n cx (i := 3) dL_law_355 rfl rfl ?_
        refine wa_iconst cx dL_law_356 (2 : Int32) (by decide) ?_
        refine wa_iadd cx dL_law_357 ?_
        obtain ⟨b80, h⟩ := ob_some h
        refine wa_sld cx hX hbl hbA dL_law_358 b80 ?_
        obtain ⟨x81, S82, e83, h⟩ := bd_some h
        refine wa_callVl cx (m_X10_mean l cx.2.2.2.2.2.2.1 h_m e83) vl_L_52 h_m (by decide) rfl rfl ⟨_, cell_eq10 (kd_lt h_m (by decide)).2⟩ ⟨Nat.le_of_ble_eq_true rfl, Nat.le_of_ble_eq_true rfl⟩ ⟨rfl, rfl⟩ ⟨Nat.le_of_ble_eq_true rfl, Nat.le_of_ble_eq_true rfl⟩ rfl (Nat.le_of_ble_eq_true rfl) dL_law_359 rfl ?_
        refine wa_lcmp_eq cx dL_law_362 dL_law_363 778 (by decide) (fun q84 => ?_) (fun q84 => ?_)
        · rw [if_pos q84] at h
          refine wa_iinc cx dL_law_778 (l3 + (4 : Int32)) [(0, .ref b), (1, .ref (ad g 0)), (2, .ref (ad g 103)), (3, .int (l3 + (4 : Int32)))] rfl rfl (Nat.le_of_ble_eq_true rfl) rfl (lvs_c rfl (lvs_c rfl (lvs_c rfl (lvs_c rfl (lvs_n))))) ?_
          refine wa_goto cx dL_law_781 18 (by decide) ?_
          refine wa_sub (lv' := [(0, .ref b), (1, .ref (ad g 0)), (2, .ref (ad g 103)), (3, .int (l3 + (4 : Int32)))]) (lvs_c rfl (lvs_c rfl (lvs_c rfl (lvs_c rfl (lvs_n))))) ?_
          exact ih (l3 + (4 : Int32)) S82  h
        · rw [if_neg q84] at h
          refine wa_iconst cx dL_law_366 (0 : Int32) (by decide) ?_
          cases h; exact absurd (show (0 : Int32) = 1 from hr) (by decide)
      rw [if_neg q73] at h
      by_cases q85 : ((xs (Int32.toNatClampNeg l3)) &&& (31 : Int32)) = (8 : Int32)
      · rw [if_pos q85] at h
        refine wa_tabIn cx dL_law_32 368 (by rw [q85]; decide) (by rw [q85]; decide) (by rw [q85] <;> rfl) (by decide) ?_
        refine wa_aload_n cx (i := 1) dL_law_368 rfl rfl ?_
        refine wa_aload_n cx (i := 0) dL_law_369 rfl rfl ?_
        refine wa_iload_n cx (i := 3) dL_law_370 rfl rfl ?_
        refine wa_iconst cx dL_law_371 (1 : Int32) (by decide) ?_
        refine wa_iadd cx dL_law_372 ?_
        obtain ⟨b86, h⟩ := ob_some h
        refine wa_sld cx hX hbl hbA dL_law_373 b86 ?_
        obtain ⟨x87, S88, e89, h⟩ := bd_some h
        refine wa_callVl cx (m_X9_wrong l cx.2.2.2.2.2.2.1 h_x e89) vl_L_53 h_x (by decide) rfl rfl ⟨_, cell_eq9 (kd_lt h_x (by decide)).2⟩ ⟨Nat.le_of_ble_eq_true rfl, Nat.le_of_ble_eq_true rfl⟩ ⟨rfl, rfl⟩ ⟨Nat.le_of_ble_eq_true rfl, Nat.le_of_ble_eq_true rfl⟩ rfl (Nat.le_of_ble_eq_true rfl) dL_law_374 rfl ?_
        refine wa_aload_n cx (i := 2) dL_law_377 rfl rfl ?_
        refine wa_aload_n cx (i := 0) dL_law_378 rfl rfl ?_
        refine wa_iload_n cx (i := 3) dL_law_379 rfl rfl ?_
        refine wa_iconst cx dL_law_380 (1 : Int32) (by decide) ?_
        refine wa_iadd cx dL_law_381 ?_
        obtain ⟨b90, h⟩ := ob_some h
        refine wa_sld cx hX hbl hbA dL_law_382 b90 ?_
        obtain ⟨x91, S92, e93, h⟩ := bd_some h
        refine wa_callVl cx (m_X10_wrong l cx.2.2.2.2.2.2.1 h_m e93) vl_L_56 h_m (by decide) rfl rfl ⟨_, cell_eq10 (kd_lt h_m (by decide)).2⟩ ⟨Nat.le_of_ble_eq_true rfl, Nat.le_of_ble_eq_true rfl⟩ ⟨rfl, rfl⟩ ⟨Nat.le_of_ble_eq_true rfl, Nat.le_of_ble_eq_true rfl⟩ rfl (Nat.le_of_ble_eq_true rfl) dL_law_383 rfl ?_
        refine wa_lcmp_eq cx dL_law_386 dL_law_387 778 (by decide) (fun q94 => ?_) (fun q94 => ?_)
        · rw [if_pos q94] at h
          refine wa_iinc cx dL_law_778 (l3 + (4 : Int32)) [(0, .ref b), (1, .ref (ad g 0)), (2, .ref (ad g 103)), (3, .int (l3 + (4 : Int32)))] rfl rfl (Nat.le_of_ble_eq_true rfl) rfl (lvs_c rfl (lvs_c rfl (lvs_c rfl (lvs_c rfl (lvs_n))))) ?_
          refine wa_goto cx dL_law_781 18 (by decide) ?_
          refine wa_sub (lv' := [(0, .ref b), (1, .ref (ad g 0)), (2, .ref (ad g 103)), (3, .int (l3 + (4 : Int32)))]) (lvs_c rfl (lvs_c rfl (lvs_c rfl (lvs_c rfl (lvs_n))))) ?_
          exact ih (l3 + (4 : Int32)) S92  h
        · rw [if_neg q94] at h
          refine wa_iconst cx dL_law_390 (0 : Int32) (by decide) ?_
          cases h; exact absurd (show (0 : Int32) = 1 from hr) (by decide)
      rw [if_neg q85] at h
      by_cases q95 : ((xs (Int32.toNatClampNeg l3)) &&& (31 : Int32)) = (9 : Int32)
      · rw [if_pos q95] at h
        refine wa_tabIn cx dL_law_32 392 (by rw [q95]; decide) (by rw [q95]; decide) (by rw [q95] <;> rfl) (by decide) ?_
        refine wa_aload_n cx (i := 1) dL_law_392 rfl rfl ?_
        refine wa_aload_n cx (i := 0) dL_law_393 rfl rfl ?_
        refine wa_iload_n cx (i := 3) dL_law_394 rfl rfl ?_
        refine wa_iconst cx dL_law_395 (1 : Int32) (by decide) ?_
        refine wa_iadd cx dL_law_396 ?_
        obtain ⟨b96, h⟩ := ob_some h
        refine wa_sld cx hX hbl hbA dL_law_397 b96 ?_
        refine wa_aload_n cx (i := 0) dL_law_398 rfl rfl ?_
        refine wa_iload_n cx (i := 3) dL_law_399 rfl rfl ?_
        refine wa_iconst cx dL_law_400 (2 : Int32) (by decide) ?_
        refine wa_iadd cx dL_law_401 ?_
        obtain ⟨b97, h⟩ := ob_some h
        refine wa_sld cx hX hbl hbA dL_law_402 b97 ?_
        obtain ⟨x98, S99, e100, h⟩ := bd_some h
        refine wa_callVi cx (m_X9_row l cx.2.2.2.2.2.2.1 h_x e100) vl_L_57 h_x (by decide) rfl rfl ⟨_, cell_eq9 (kd_lt h_x (by decide)).2⟩ ⟨Nat.le_of_ble_eq_true rfl, Nat.le_of_ble_eq_true rfl⟩ ⟨rfl, rfl⟩ ⟨Nat.le_of_ble_eq_true rfl, Nat.le_of_ble_eq_true rfl⟩ rfl (Nat.le_of_ble_eq_true rfl) dL_law_403 rfl ?_
        refine wa_aload_n cx (i := 2) dL_law_406 rfl rfl ?_
        refine wa_aload_n cx (i := 0) dL_law_407 rfl rfl ?_
        refine wa_iload_n cx (i := 3) dL_law_408 rfl rfl ?_
        refine wa_iconst cx dL_law_409 (1 : Int32) (by decide) ?_
        refine wa_iadd cx dL_law_410 ?_
        obtain ⟨b101, h⟩ := ob_some h
        refine wa_sld cx hX hbl hbA dL_law_411 b101 ?_
        refine wa_aload_n cx (i := 0) dL_law_412 rfl rfl ?_
        refine wa_iload_n cx (i := 3) dL_law_413 rfl rfl ?_
        refine wa_iconst cx dL_law_414 (2 : Int32) (by decide) ?_
        refine wa_iadd cx dL_law_415 ?_
        obtain ⟨b102, h⟩ := ob_some h
        refine wa_sld cx hX hbl hbA dL_law_416 b102 ?_
        obtain ⟨x103, S104, e105, h⟩ := bd_some h
        refine wa_callVi cx (m_X10_row l cx.2.2.2.2.2.2.1 h_m e105) vl_L_60 h_m (by decide) rfl rfl ⟨_, cell_eq10 (kd_lt h_m (by decide)).2⟩ ⟨Nat.le_of_ble_eq_true rfl, Nat.le_of_ble_eq_true rfl⟩ ⟨rfl, rfl⟩ ⟨Nat.le_of_ble_eq_true rfl, Nat.le_of_ble_eq_true rfl⟩ rfl (Nat.le_of_ble_eq_true rfl) dL_law_417 rfl ?_
        refine wa_icmp_eq cx dL_law_420 778 (by decide) (fun q106 => ?_) (fun q106 => ?_)
        · rw [if_pos q106] at h
          refine wa_iinc cx dL_law_778 (l3 + (4 : Int32)) [(0, .ref b), (1, .ref (ad g 0)), (2, .ref (ad g 103)), (3, .int (l3 + (4 : Int32)))] rfl rfl (Nat.le_of_ble_eq_true rfl) rfl (lvs_c rfl (lvs_c rfl (lvs_c rfl (lvs_c rfl (lvs_n))))) ?_
          refine wa_goto cx dL_law_781 18 (by decide) ?_
          refine wa_sub (lv' := [(0, .ref b), (1, .ref (ad g 0)), (2, .ref (ad g 103)), (3, .int (l3 + (4 : Int32)))]) (lvs_c rfl (lvs_c rfl (lvs_c rfl (lvs_c rfl (lvs_n))))) ?_
          exact ih (l3 + (4 : Int32)) S104  h
        · rw [if_neg q106] at h
          refine wa_iconst cx dL_law_423 (0 : Int32) (by decide) ?_
          cases h; exact absurd (show (0 : Int32) = 1 from hr) (by decide)
      rw [if_neg q95] at h
      by_cases q107 : ((xs (Int32.toNatClampNeg l3)) &&& (31 : Int32)) = (10 : Int32)
      · rw [if_pos q107] at h
        refine wa_tabIn cx dL_law_32 425 (by rw [q107]; decide) (by rw [q107]; decide) (by rw [q107] <;> rfl) (by decide) ?_
        refine wa_aload_n cx (i := 1) dL_law_425 rfl rfl ?_
        obtain ⟨x108, S109, e110, h⟩ := bd_some h
        refine wa_callVi cx (m_X9_judge l cx.2.2.2.2.2.2.1 h_x e110) vl_L_61 h_x (by decide) rfl rfl ⟨_, cell_eq9 (kd_lt h_x (by decide)).2⟩ ⟨Nat.le_of_ble_eq_true rfl, Nat.le_of_ble_eq_true rfl⟩ ⟨rfl, rfl⟩ ⟨Nat.le_of_ble_eq_true rfl, Nat.le_of_ble_eq_true rfl⟩ rfl (Nat.le_of_ble_eq_true rfl) dL_law_426 rfl ?_
        refine wa_aload_n cx (i := 2) dL_law_429 rfl rfl ?_
        obtain ⟨x111, S112, e113, h⟩ := bd_some h
        refine wa_callVi cx (m_X10_judge l cx.2.2.2.2.2.2.1 h_m e113) vl_L_64 h_m (by decide) rfl rfl ⟨_, cell_eq10 (kd_lt h_m (by decide)).2⟩ ⟨Nat.le_of_ble_eq_true rfl, Nat.le_of_ble_eq_true rfl⟩ ⟨rfl, rfl⟩ ⟨Nat.le_of_ble_eq_true rfl, Nat.le_of_ble_eq_true rfl⟩ rfl (Nat.le_of_ble_eq_true rfl) dL_law_430 rfl ?_
        refine wa_icmp_eq cx dL_law_433 778 (by decide) (fun q114 => ?_) (fun q114 => ?_)
        · rw [if_pos q114] at h
          refine wa_iinc cx dL_law_778 (l3 + (4 : Int32)) [(0, .ref b), (1, .ref (ad g 0)), (2, .ref (ad g 103)), (3, .int (l3 + (4 : Int32)))] rfl rfl (Nat.le_of_ble_eq_true rfl) rfl (lvs_c rfl (lvs_c rfl (lvs_c rfl (lvs_c rfl (lvs_n))))) ?_
          refine wa_goto cx dL_law_781 18 (by decide) ?_
          refine wa_sub (lv' := [(0, .ref b), (1, .ref (ad g 0)), (2, .ref (ad g 103)), (3, .int (l3 + (4 : Int32)))]) (lvs_c rfl (lvs_c rfl (lvs_c rfl (lvs_c rfl (lvs_n))))) ?_
          exact ih (l3 + (4 : Int32)) S112  h
        · rw [if_neg q114] at h
          refine wa_iconst cx dL_law_436 (0 : Int32) (by decide) ?_
          cases h; exact absurd (show (0 : Int32) = 1 from hr) (by decide)
      rw [if_neg q107] at h
      by_cases q115 : ((xs (Int32.toNatClampNeg l3)) &&& (31 : Int32)) = (11 : Int32)
      · rw [if_pos q115] at h
        refine wa_tabIn cx dL_law_32 438 (by rw [q115]; decide) (by rw [q115]; decide) (by rw [q115] <;> rfl) (by decide) ?_
        refine wa_aload_n cx (i := 1) dL_law_438 rfl rfl ?_
        refine wa_aload_n cx (i := 0) dL_law_439 rfl rfl ?_
        refine wa_iload_n cx (i := 3) dL_law_440 rfl rfl ?_
        refine wa_iconst cx dL_law_441 (1 : Int32) (by decide) ?_
        refine wa_iadd cx dL_law_442 ?_
        obtain ⟨b116, h⟩ := ob_some h
        refine wa_sld cx hX hbl hbA dL_law_443 b116 ?_
        obtain ⟨x117, S118, e119, h⟩ := bd_some h
        refine wa_callVi cx (m_X9_made l cx.2.2.2.2.2.2.1 h_x e119) vl_L_65 h_x (by decide) rfl rfl ⟨_, cell_eq9 (kd_lt h_x (by decide)).2⟩ ⟨Nat.le_of_ble_eq_true rfl, Nat.le_of_ble_eq_true rfl⟩ ⟨rfl, rfl⟩ ⟨Nat.le_of_ble_eq_true rfl, Nat.le_of_ble_eq_true rfl⟩ rfl (Nat.le_of_ble_eq_true rfl) dL_law_444 rfl ?_
        refine wa_aload_n cx (i := 2) dL_law_447 rfl rfl ?_
        refine wa_aload_n cx (i := 0) dL_law_448 rfl rfl ?_
        refine wa_iload_n cx (i := 3) dL_law_449 rfl rfl ?_
        refine wa_iconst cx dL_law_450 (1 : Int32) (by decide) ?_
        refine wa_iadd cx dL_law_451 ?_
        obtain ⟨b120, h⟩ := ob_some h
        refine wa_sld cx hX hbl hbA dL_law_452 b120 ?_
        obtain ⟨x121, S122, e123, h⟩ := bd_some h
        refine wa_callVi cx (m_X10_made l cx.2.2.2.2.2.2.1 h_m e123) vl_L_68 h_m (by decide) rfl rfl ⟨_, cell_eq10 (kd_lt h_m (by decide)).2⟩ ⟨Nat.le_of_ble_eq_true rfl, Nat.le_of_ble_eq_true rfl⟩ ⟨rfl, rfl⟩ ⟨Nat.le_of_ble_eq_true rfl, Nat.le_of_ble_eq_true rfl⟩ rfl (Nat.le_of_ble_eq_true rfl) dL_law_453 rfl ?_
        refine wa_icmp_eq cx dL_law_456 778 (by decide) (fun q124 => ?_) (fun q124 => ?_)
        · rw [if_pos q124] at h
          refine wa_iinc cx dL_law_778 (l3 + (4 : Int32)) [(0, .ref b), (1, .ref (ad g 0)), (2, .ref (ad g 103)), (3, .int (l3 + (4 : Int32)))] rfl rfl (Nat.le_of_ble_eq_true rfl) rfl (lvs_c rfl (lvs_c rfl (lvs_c rfl (lvs_c rfl (lvs_n))))) ?_
          refine wa_goto cx dL_law_781 18 (by decide) ?_
          refine wa_sub (lv' := [(0, .ref b), (1, .ref (ad g 0)), (2, .ref (ad g 103)), (3, .int (l3 + (4 : Int32)))]) (lvs_c rfl (lvs_c rfl (lvs_c rfl (lvs_c rfl (lvs_n))))) ?_
          exact ih (l3 + (4 : Int32)) S122  h
        · rw [if_neg q124] at h
          refine wa_iconst cx dL_law_459 (0 : Int32) (by decide) ?_
          cases h; exact absurd (show (0 : Int32) = 1 from hr) (by decide)
      rw [if_neg q115] at h
      by_cases q125 : ((xs (Int32.toNatClampNeg l3)) &&& (31 : Int32)) = (12 : Int32)
      · rw [if_pos q125] at h
        refine wa_tabIn cx dL_law_32 461 (by rw [q125]; decide) (by rw [q125]; decide) (by rw [q125] <;> rfl) (by decide) ?_
        refine wa_aload_n cx (i := 1) dL_law_461 rfl rfl ?_
        refine wa_aload_n cx (i := 0) dL_law_462 rfl rfl ?_
        refine wa_iload_n cx (i := 3) dL_law_463 rfl rfl ?_
        refine wa_iconst cx dL_law_464 (1 : Int32) (by decide) ?_
        refine wa_iadd cx dL_law_465 ?_
        obtain ⟨b126, h⟩ := ob_some h
        refine wa_sld cx hX hbl hbA dL_law_466 b126 ?_
        obtain ⟨x127, S128, e129, h⟩ := bd_some h
        refine wa_callVl cx (m_X9_just l cx.2.2.2.2.2.2.1 h_x e129) vl_L_69 h_x (by decide) rfl rfl ⟨_, cell_eq9 (kd_lt h_x (by decide)).2⟩ ⟨Nat.le_of_ble_eq_true rfl, Nat.le_of_ble_eq_true rfl⟩ ⟨rfl, rfl⟩ ⟨Nat.le_of_ble_eq_true rfl, Nat.le_of_ble_eq_true rfl⟩ rfl (Nat.le_of_ble_eq_true rfl) dL_law_467 rfl ?_
        refine wa_aload_n cx (i := 2) dL_law_470 rfl rfl ?_
        refine wa_aload_n cx (i := 0) dL_law_471 rfl rfl ?_
        refine wa_iload_n cx (i := 3) dL_law_472 rfl rfl ?_
        refine wa_iconst cx dL_law_473 (1 : Int32) (by decide) ?_
        refine wa_iadd cx dL_law_474 ?_
        obtain ⟨b130, h⟩ := ob_some h
        refine wa_sld cx hX hbl hbA dL_law_475 b130 ?_
        obtain ⟨x131, S132, e133, h⟩ := bd_some h
        refine wa_callVl cx (m_X10_just l cx.2.2.2.2.2.2.1 h_m e133) vl_L_72 h_m (by decide) rfl rfl ⟨_, cell_eq10 (kd_lt h_m (by decide)).2⟩ ⟨Nat.le_of_ble_eq_true rfl, Nat.le_of_ble_eq_true rfl⟩ ⟨rfl, rfl⟩ ⟨Nat.le_of_ble_eq_true rfl, Nat.le_of_ble_eq_true rfl⟩ rfl (Nat.le_of_ble_eq_true rfl) dL_law_476 rfl ?_
        refine wa_lcmp_eq cx dL_law_479 dL_law_480 778 (by decide) (fun q134 => ?_) (fun q134 => ?_)
        · rw [if_pos q134] at h
          refine wa_iinc cx dL_law_778 (l3 + (4 : Int32)) [(0, .ref b), (1, .ref (ad g 0)), (2, .ref (ad g 103)), (3, .int (l3 + (4 : Int32)))] rfl rfl (Nat.le_of_ble_eq_true rfl) rfl (lvs_c rfl (lvs_c rfl (lvs_c rfl (lvs_c rfl (lvs_n))))) ?_
          refine wa_goto cx dL_law_781 18 (by decide) ?_
          refine wa_sub (lv' := [(0, .ref b), (1, .ref (ad g 0)), (2, .ref (ad g 103)), (3, .int (l3 + (4 : Int32)))]) (lvs_c rfl (lvs_c rfl (lvs_c rfl (lvs_c rfl (lvs_n))))) ?_
          exact ih (l3 + (4 : Int32)) S132  h
        · rw [if_neg q134] at h
          refine wa_iconst cx dL_law_483 (0 : Int32) (by decide) ?_
          cases h; exact absurd (show (0 : Int32) = 1 from hr) (by decide)
      rw [if_neg q125] at h
      by_cases q135 : ((xs (Int32.toNatClampNeg l3)) &&& (31 : Int32)) = (13 : Int32)
      · rw [if_pos q135] at h
        refine wa_tabIn cx dL_law_32 485 (by rw [q135]; decide) (by rw [q135]; decide) (by rw [q135] <;> rfl) (by decide) ?_
        refine wa_aload_n cx (i := 1) dL_law_485 rfl rfl ?_
        obtain ⟨x136, S137, e138, h⟩ := bd_some h
        refine wa_callVl cx (m_X9_fails l cx.2.2.2.2.2.2.1 h_x e138) vl_L_73 h_x (by decide) rfl rfl ⟨_, cell_eq9 (kd_lt h_x (by decide)).2⟩ ⟨Nat.le_of_ble_eq_true rfl, Nat.le_of_ble_eq_true rfl⟩ ⟨rfl, rfl⟩ ⟨Nat.le_of_ble_eq_true rfl, Nat.le_of_ble_eq_true rfl⟩ rfl (Nat.le_of_ble_eq_true rfl) dL_law_486 rfl ?_
        refine wa_aload_n cx (i := 2) dL_law_489 rfl rfl ?_
        obtain ⟨x139, S140, e141, h⟩ := bd_some h
        refine wa_callVl cx (m_X10_fails l cx.2.2.2.2.2.2.1 h_m e141) vl_L_77 h_m (by decide) rfl rfl ⟨_, cell_eq10 (kd_lt h_m (by decide)).2⟩ ⟨Nat.le_of_ble_eq_true rfl, Nat.le_of_ble_eq_true rfl⟩ ⟨rfl, rfl⟩ ⟨Nat.le_of_ble_eq_true rfl, Nat.le_of_ble_eq_true rfl⟩ rfl (Nat.le_of_ble_eq_true rfl) dL_law_490 rfl ?_
        refine wa_lcmp_eq cx dL_law_493 dL_law_494 778 (by decide) (fun q142 => ?_) (fun q142 => ?_)
        · rw [if_pos q142] at h
          refine wa_iinc cx dL_law_778 (l3 + (4 : Int32)) [(0, .ref b), (1, .ref (ad g 0)), (2, .ref (ad g 103)), (3, .int (l3 + (4 : Int32)))] rfl rfl (Nat.le_of_ble_eq_true rfl) rfl (lvs_c rfl (lvs_c rfl (lvs_c rfl (lvs_c rfl (lvs_n))))) ?_
          refine wa_goto cx dL_law_781 18 (by decide) ?_
          refine wa_sub (lv' := [(0, .ref b), (1, .ref (ad g 0)), (2, .ref (ad g 103)), (3, .int (l3 + (4 : Int32)))]) (lvs_c rfl (lvs_c rfl (lvs_c rfl (lvs_c rfl (lvs_n))))) ?_
          exact ih (l3 + (4 : Int32)) S140  h
        · rw [if_neg q142] at h
          refine wa_iconst cx dL_law_497 (0 : Int32) (by decide) ?_
          cases h; exact absurd (show (0 : Int32) = 1 from hr) (by decide)
      rw [if_neg q135] at h
      by_cases q143 : ((xs (Int32.toNatClampNeg l3)) &&& (31 : Int32)) = (14 : Int32)
      · rw [if_pos q143] at h
        refine wa_tabIn cx dL_law_32 499 (by rw [q143]; decide) (by rw [q143]; decide) (by rw [q143] <;> rfl) (by decide) ?_
        refine wa_aload_n cx (i := 1) dL_law_499 rfl rfl ?_
        refine wa_aload_n cx (i := 0) dL_law_500 rfl rfl ?_
        refine wa_iload_n cx (i := 3) dL_law_501 rfl rfl ?_
        refine wa_iconst cx dL_law_502 (1 : Int32) (by decide) ?_
        refine wa_iadd cx dL_law_503 ?_
        obtain ⟨b144, h⟩ := ob_some h
        refine wa_sld cx hX hbl hbA dL_law_504 b144 ?_
        obtain ⟨x145, S146, e147, h⟩ := bd_some h
        refine wa_callVl cx (m_X9_bestBar l cx.2.2.2.2.2.2.1 h_x e147) vl_L_78 h_x (by decide) rfl rfl ⟨_, cell_eq9 (kd_lt h_x (by decide)).2⟩ ⟨Nat.le_of_ble_eq_true rfl, Nat.le_of_ble_eq_true rfl⟩ ⟨rfl, rfl⟩ ⟨Nat.le_of_ble_eq_true rfl, Nat.le_of_ble_eq_true rfl⟩ rfl (Nat.le_of_ble_eq_true rfl) dL_law_505 rfl ?_
        refine wa_aload_n cx (i := 2) dL_law_508 rfl rfl ?_
        refine wa_aload_n cx (i := 0) dL_law_509 rfl rfl ?_
        refine wa_iload_n cx (i := 3) dL_law_510 rfl rfl ?_
        refine wa_iconst cx dL_law_511 (1 : Int32) (by decide) ?_
        refine wa_iadd cx dL_law_512 ?_
        obtain ⟨b148, h⟩ := ob_some h
        refine wa_sld cx hX hbl hbA dL_law_513 b148 ?_
        obtain ⟨x149, S150, e151, h⟩ := bd_some h
        refine wa_callVl cx (m_X10_bestBar l cx.2.2.2.2.2.2.1 h_m e151) vl_L_81 h_m (by decide) rfl rfl ⟨_, cell_eq10 (kd_lt h_m (by decide)).2⟩ ⟨Nat.le_of_ble_eq_true rfl, Nat.le_of_ble_eq_true rfl⟩ ⟨rfl, rfl⟩ ⟨Nat.le_of_ble_eq_true rfl, Nat.le_of_ble_eq_true rfl⟩ rfl (Nat.le_of_ble_eq_true rfl) dL_law_514 rfl ?_
        refine wa_lcmp_eq cx dL_law_517 dL_law_518 778 (by decide) (fun q152 => ?_) (fun q152 => ?_)
        · rw [if_pos q152] at h
          refine wa_iinc cx dL_law_778 (l3 + (4 : Int32)) [(0, .ref b), (1, .ref (ad g 0)), (2, .ref (ad g 103)), (3, .int (l3 + (4 : Int32)))] rfl rfl (Nat.le_of_ble_eq_true rfl) rfl (lvs_c rfl (lvs_c rfl (lvs_c rfl (lvs_c rfl (lvs_n))))) ?_
          refine wa_goto cx dL_law_781 18 (by decide) ?_
          refine wa_sub (lv' := [(0, .ref b), (1, .ref (ad g 0)), (2, .ref (ad g 103)), (3, .int (l3 + (4 : Int32)))]) (lvs_c rfl (lvs_c rfl (lvs_c rfl (lvs_c rfl (lvs_n))))) ?_
          exact ih (l3 + (4 : Int32)) S150  h
        · rw [if_neg q152] at h
          refine wa_iconst cx dL_law_521 (0 : Int32) (by decide) ?_
          cases h; exact absurd (show (0 : Int32) = 1 from hr) (by decide)
      rw [if_neg q143] at h
      by_cases q153 : ((xs (Int32.toNatClampNeg l3)) &&& (31 : Int32)) = (15 : Int32)
      · rw [if_pos q153] at h
        refine wa_tabIn cx dL_law_32 523 (by rw [q153]; decide) (by rw [q153]; decide) (by rw [q153] <;> rfl) (by decide) ?_
        refine wa_aload_n cx (i := 1) dL_law_523 rfl rfl ?_
        obtain ⟨x154, S155, e156, h⟩ := bd_some h
        refine wa_callVi cx (m_X9_bestDay l cx.2.2.2.2.2.2.1 h_x e156) vl_L_82 h_x (by decide) rfl rfl ⟨_, cell_eq9 (kd_lt h_x (by decide)).2⟩ ⟨Nat.le_of_ble_eq_true rfl, Nat.le_of_ble_eq_true rfl⟩ ⟨rfl, rfl⟩ ⟨Nat.le_of_ble_eq_true rfl, Nat.le_of_ble_eq_true rfl⟩ rfl (Nat.le_of_ble_eq_true rfl) dL_law_524 rfl ?_
        refine wa_aload_n cx (i := 2) dL_law_527 rfl rfl ?_
        obtain ⟨x157, S158, e159, h⟩ := bd_some h
        refine wa_callVi cx (m_X10_bestDay l cx.2.2.2.2.2.2.1 h_m e159) vl_L_85 h_m (by decide) rfl rfl ⟨_, cell_eq10 (kd_lt h_m (by decide)).2⟩ ⟨Nat.le_of_ble_eq_true rfl, Nat.le_of_ble_eq_true rfl⟩ ⟨rfl, rfl⟩ ⟨Nat.le_of_ble_eq_true rfl, Nat.le_of_ble_eq_true rfl⟩ rfl (Nat.le_of_ble_eq_true rfl) dL_law_528 rfl ?_
        refine wa_icmp_eq cx dL_law_531 778 (by decide) (fun q160 => ?_) (fun q160 => ?_)
        · rw [if_pos q160] at h
          refine wa_iinc cx dL_law_778 (l3 + (4 : Int32)) [(0, .ref b), (1, .ref (ad g 0)), (2, .ref (ad g 103)), (3, .int (l3 + (4 : Int32)))] rfl rfl (Nat.le_of_ble_eq_true rfl) rfl (lvs_c rfl (lvs_c rfl (lvs_c rfl (lvs_c rfl (lvs_n))))) ?_
          refine wa_goto cx dL_law_781 18 (by decide) ?_
          refine wa_sub (lv' := [(0, .ref b), (1, .ref (ad g 0)), (2, .ref (ad g 103)), (3, .int (l3 + (4 : Int32)))]) (lvs_c rfl (lvs_c rfl (lvs_c rfl (lvs_c rfl (lvs_n))))) ?_
          exact ih (l3 + (4 : Int32)) S158  h
        · rw [if_neg q160] at h
          refine wa_iconst cx dL_law_534 (0 : Int32) (by decide) ?_
          cases h; exact absurd (show (0 : Int32) = 1 from hr) (by decide)
      rw [if_neg q153] at h
      by_cases q161 : ((xs (Int32.toNatClampNeg l3)) &&& (31 : Int32)) = (16 : Int32)
      · rw [if_pos q161] at h
        refine wa_tabIn cx dL_law_32 536 (by rw [q161]; decide) (by rw [q161]; decide) (by rw [q161] <;> rfl) (by decide) ?_
        refine wa_aload_n cx (i := 1) dL_law_536 rfl rfl ?_
        refine wa_aload_n cx (i := 0) dL_law_537 rfl rfl ?_
        refine wa_iload_n cx (i := 3) dL_law_538 rfl rfl ?_
        refine wa_iconst cx dL_law_539 (1 : Int32) (by decide) ?_
        refine wa_iadd cx dL_law_540 ?_
        obtain ⟨b162, h⟩ := ob_some h
        refine wa_sld cx hX hbl hbA dL_law_541 b162 ?_
        obtain ⟨x163, S164, e165, h⟩ := bd_some h
        refine wa_callVi cx (m_X9_extra l cx.2.2.2.2.2.2.1 h_x e165) vl_L_86 h_x (by decide) rfl rfl ⟨_, cell_eq9 (kd_lt h_x (by decide)).2⟩ ⟨Nat.le_of_ble_eq_true rfl, Nat.le_of_ble_eq_true rfl⟩ ⟨rfl, rfl⟩ ⟨Nat.le_of_ble_eq_true rfl, Nat.le_of_ble_eq_true rfl⟩ rfl (Nat.le_of_ble_eq_true rfl) dL_law_542 rfl ?_
        refine wa_aload_n cx (i := 2) dL_law_545 rfl rfl ?_
        refine wa_aload_n cx (i := 0) dL_law_546 rfl rfl ?_
        refine wa_iload_n cx (i := 3) dL_law_547 rfl rfl ?_
        refine wa_iconst cx dL_law_548 (1 : Int32) (by decide) ?_
        refine wa_iadd cx dL_law_549 ?_
        obtain ⟨b166, h⟩ := ob_some h
        refine wa_sld cx hX hbl hbA dL_law_550 b166 ?_
        obtain ⟨x167, S168, e169, h⟩ := bd_some h
        refine wa_callVi cx (m_X10_extra l cx.2.2.2.2.2.2.1 h_m e169) vl_L_89 h_m (by decide) rfl rfl ⟨_, cell_eq10 (kd_lt h_m (by decide)).2⟩ ⟨Nat.le_of_ble_eq_true rfl, Nat.le_of_ble_eq_true rfl⟩ ⟨rfl, rfl⟩ ⟨Nat.le_of_ble_eq_true rfl, Nat.le_of_ble_eq_true rfl⟩ rfl (Nat.le_of_ble_eq_true rfl) dL_law_551 rfl ?_
        refine wa_icmp_eq cx dL_law_554 778 (by decide) (fun q170 => ?_) (fun q170 => ?_)
        · rw [if_pos q170] at h
          refine wa_iinc cx dL_law_778 (l3 + (4 : Int32)) [(0, .ref b), (1, .ref (ad g 0)), (2, .ref (ad g 103)), (3, .int (l3 + (4 : Int32)))] rfl rfl (Nat.le_of_ble_eq_true rfl) rfl (lvs_c rfl (lvs_c rfl (lvs_c rfl (lvs_c rfl (lvs_n))))) ?_
          refine wa_goto cx dL_law_781 18 (by decide) ?_
          refine wa_sub (lv' := [(0, .ref b), (1, .ref (ad g 0)), (2, .ref (ad g 103)), (3, .int (l3 + (4 : Int32)))]) (lvs_c rfl (lvs_c rfl (lvs_c rfl (lvs_c rfl (lvs_n))))) ?_
          exact ih (l3 + (4 : Int32)) S168  h
        · rw [if_neg q170] at h
          refine wa_iconst cx dL_law_557 (0 : Int32) (by decide) ?_
          cases h; exact absurd (show (0 : Int32) = 1 from hr) (by decide)
      rw [if_neg q161] at h
      by_cases q171 : ((xs (Int32.toNatClampNeg l3)) &&& (31 : Int32)) = (17 : Int32)
      · rw [if_pos q171] at h
        refine wa_tabIn cx dL_law_32 559 (by rw [q171]; decide) (by rw [q171]; decide) (by rw [q171] <;> rfl) (by decide) ?_
        refine wa_aload_n cx (i := 1) dL_law_559 rfl rfl ?_
        obtain ⟨x172, S173, e174, h⟩ := bd_some h
        refine wa_callVi cx (m_X9_bestShow l cx.2.2.2.2.2.2.1 h_x e174) vl_L_90 h_x (by decide) rfl rfl ⟨_, cell_eq9 (kd_lt h_x (by decide)).2⟩ ⟨Nat.le_of_ble_eq_true rfl, Nat.le_of_ble_eq_true rfl⟩ ⟨rfl, rfl⟩ ⟨Nat.le_of_ble_eq_true rfl, Nat.le_of_ble_eq_true rfl⟩ rfl (Nat.le_of_ble_eq_true rfl) dL_law_560 rfl ?_
        refine wa_aload_n cx (i := 2) dL_law_563 rfl rfl ?_
        obtain ⟨x175, S176, e177, h⟩ := bd_some h
        refine wa_callVi cx (m_X10_bestShow l cx.2.2.2.2.2.2.1 h_m e177) vl_L_93 h_m (by decide) rfl rfl ⟨_, cell_eq10 (kd_lt h_m (by decide)).2⟩ ⟨Nat.le_of_ble_eq_true rfl, Nat.le_of_ble_eq_true rfl⟩ ⟨rfl, rfl⟩ ⟨Nat.le_of_ble_eq_true rfl, Nat.le_of_ble_eq_true rfl⟩ rfl (Nat.le_of_ble_eq_true rfl) dL_law_564 rfl ?_
        refine wa_icmp_eq cx dL_law_567 778 (by decide) (fun q178 => ?_) (fun q178 => ?_)
        · rw [if_pos q178] at h
          refine wa_iinc cx dL_law_778 (l3 + (4 : Int32)) [(0, .ref b), (1, .ref (ad g 0)), (2, .ref (ad g 103)), (3, .int (l3 + (4 : Int32)))] rfl rfl (Nat.le_of_ble_eq_true rfl) rfl (lvs_c rfl (lvs_c rfl (lvs_c rfl (lvs_c rfl (lvs_n))))) ?_
          refine wa_goto cx dL_law_781 18 (by decide) ?_
          refine wa_sub (lv' := [(0, .ref b), (1, .ref (ad g 0)), (2, .ref (ad g 103)), (3, .int (l3 + (4 : Int32)))]) (lvs_c rfl (lvs_c rfl (lvs_c rfl (lvs_c rfl (lvs_n))))) ?_
          exact ih (l3 + (4 : Int32)) S176  h
        · rw [if_neg q178] at h
          refine wa_iconst cx dL_law_570 (0 : Int32) (by decide) ?_
          cases h; exact absurd (show (0 : Int32) = 1 from hr) (by decide)
      rw [if_neg q171] at h
      by_cases q179 : ((xs (Int32.toNatClampNeg l3)) &&& (31 : Int32)) = (18 : Int32)
      · rw [if_pos q179] at h
        refine wa_tabIn cx dL_law_32 572 (by rw [q179]; decide) (by rw [q179]; decide) (by rw [q179] <;> rfl) (by decide) ?_
        refine wa_aload_n cx (i := 1) dL_law_572 rfl rfl ?_
        refine wa_aload_n cx (i := 0) dL_law_573 rfl rfl ?_
        refine wa_iload_n cx (i := 3) dL_law_574 rfl rfl ?_
        refine wa_iconst cx dL_law_575 (1 : Int32) (by decide) ?_
        refine wa_iadd cx dL_law_576 ?_
        obtain ⟨b180, h⟩ := ob_some h
        refine wa_sld cx hX hbl hbA dL_law_577 b180 ?_
        refine wa_aload_n cx (i := 0) dL_law_578 rfl rfl ?_
        refine wa_iload_n cx (i := 3) dL_law_579 rfl rfl ?_
        refine wa_iconst cx dL_law_580 (2 : Int32) (by decide) ?_
        refine wa_iadd cx dL_law_581 ?_
        obtain ⟨b181, h⟩ := ob_some h
        refine wa_sld cx hX hbl hbA dL_law_582 b181 ?_
        obtain ⟨x182, S183, e184, h⟩ := bd_some h
        refine wa_callVl cx (m_X9_rich l cx.2.2.2.2.2.2.1 h_x e184) vl_L_94 h_x (by decide) rfl rfl ⟨_, cell_eq9 (kd_lt h_x (by decide)).2⟩ ⟨Nat.le_of_ble_eq_true rfl, Nat.le_of_ble_eq_true rfl⟩ ⟨rfl, rfl⟩ ⟨Nat.le_of_ble_eq_true rfl, Nat.le_of_ble_eq_true rfl⟩ rfl (Nat.le_of_ble_eq_true rfl) dL_law_583 rfl ?_
        refine wa_aload_n cx (i := 2) dL_law_586 rfl rfl ?_
        refine wa_aload_n cx (i := 0) dL_law_587 rfl rfl ?_
        refine wa_iload_n cx (i := 3) dL_law_588 rfl rfl ?_
        refine wa_iconst cx dL_law_589 (1 : Int32) (by decide) ?_
        refine wa_iadd cx dL_law_590 ?_
        obtain ⟨b185, h⟩ := ob_some h
        refine wa_sld cx hX hbl hbA dL_law_591 b185 ?_
        refine wa_aload_n cx (i := 0) dL_law_592 rfl rfl ?_
        refine wa_iload_n cx (i := 3) dL_law_593 rfl rfl ?_
        refine wa_iconst cx dL_law_594 (2 : Int32) (by decide) ?_
        refine wa_iadd cx dL_law_595 ?_
        obtain ⟨b186, h⟩ := ob_some h
        refine wa_sld cx hX hbl hbA dL_law_596 b186 ?_
        obtain ⟨x187, S188, e189, h⟩ := bd_some h
        refine wa_callVl cx (m_X10_rich l cx.2.2.2.2.2.2.1 h_m e189) vl_L_97 h_m (by decide) rfl rfl ⟨_, cell_eq10 (kd_lt h_m (by decide)).2⟩ ⟨Nat.le_of_ble_eq_true rfl, Nat.le_of_ble_eq_true rfl⟩ ⟨rfl, rfl⟩ ⟨Nat.le_of_ble_eq_true rfl, Nat.le_of_ble_eq_true rfl⟩ rfl (Nat.le_of_ble_eq_true rfl) dL_law_597 rfl ?_
        refine wa_lcmp_eq cx dL_law_600 dL_law_601 778 (by decide) (fun q190 => ?_) (fun q190 => ?_)
        · rw [if_pos q190] at h
          refine wa_iinc cx dL_law_778 (l3 + (4 : Int32)) [(0, .ref b), (1, .ref (ad g 0)), (2, .ref (ad g 103)), (3, .int (l3 + (4 : Int32)))] rfl rfl (Nat.le_of_ble_eq_true rfl) rfl (lvs_c rfl (lvs_c rfl (lvs_c rfl (lvs_c rfl (lvs_n))))) ?_
          refine wa_goto cx dL_law_781 18 (by decide) ?_
          refine wa_sub (lv' := [(0, .ref b), (1, .ref (ad g 0)), (2, .ref (ad g 103)), (3, .int (l3 + (4 : Int32)))]) (lvs_c rfl (lvs_c rfl (lvs_c rfl (lvs_c rfl (lvs_n))))) ?_
          exact ih (l3 + (4 : Int32)) S188  h
        · rw [if_neg q190] at h
          refine wa_iconst cx dL_law_604 (0 : Int32) (by decide) ?_
          cases h; exact absurd (show (0 : Int32) = 1 from hr) (by decide)
      rw [if_neg q179] at h
      by_cases q191 : ((xs (Int32.toNatClampNeg l3)) &&& (31 : Int32)) = (19 : Int32)
      · rw [if_pos q191] at h
        refine wa_tabIn cx dL_law_32 606 (by rw [q191]; decide) (by rw [q191]; decide) (by rw [q191] <;> rfl) (by decide) ?_
        refine wa_aload_n cx (i := 1) dL_law_606 rfl rfl ?_
        refine wa_aload_n cx (i := 0) dL_law_607 rfl rfl ?_
        refine wa_iload_n cx (i := 3) dL_law_608 rfl rfl ?_
        refine wa_iconst cx dL_law_609 (1 : Int32) (by decide) ?_
        refine wa_iadd cx dL_law_610 ?_
        obtain ⟨b192, h⟩ := ob_some h
        refine wa_sld cx hX hbl hbA dL_law_611 b192 ?_
        obtain ⟨x193, S194, e195, h⟩ := bd_some h
        refine wa_callVi cx (m_X9_richDay l cx.2.2.2.2.2.2.1 h_x e195) vl_L_98 h_x (by decide) rfl rfl ⟨_, cell_eq9 (kd_lt h_x (by decide)).2⟩ ⟨Nat.le_of_ble_eq_true rfl, Nat.le_of_ble_eq_true rfl⟩ ⟨rfl, rfl⟩ ⟨Nat.le_of_ble_eq_true rfl, Nat.le_of_ble_eq_true rfl⟩ rfl (Nat.le_of_ble_eq_true rfl) dL_law_612 rfl ?_
        refine wa_aload_n cx (i := 2) dL_law_615 rfl rfl ?_
        refine wa_aload_n cx (i := 0) dL_law_616 rfl rfl ?_
        refine wa_iload_n cx (i := 3) dL_law_617 rfl rfl ?_
        refine wa_iconst cx dL_law_618 (1 : Int32) (by decide) ?_
        refine wa_iadd cx dL_law_619 ?_
        obtain ⟨b196, h⟩ := ob_some h
        refine wa_sld cx hX hbl hbA dL_law_620 b196 ?_
        obtain ⟨x197, S198, e199, h⟩ := bd_some h
        refine wa_callVi cx (m_X10_richDay l cx.2.2.2.2.2.2.1 h_m e199) vl_L_101 h_m (by decide) rfl rfl ⟨_, cell_eq10 (kd_lt h_m (by decide)).2⟩ ⟨Nat.le_of_ble_eq_true rfl, Nat.le_of_ble_eq_true rfl⟩ ⟨rfl, rfl⟩ ⟨Nat.le_of_ble_eq_true rfl, Nat.le_of_ble_eq_true rfl⟩ rfl (Nat.le_of_ble_eq_true rfl) dL_law_621 rfl ?_
        refine wa_icmp_eq cx dL_law_624 778 (by decide) (fun q200 => ?_) (fun q200 => ?_)
        · rw [if_pos q200] at h
          refine wa_iinc cx dL_law_778 (l3 + (4 : Int32)) [(0, .ref b), (1, .ref (ad g 0)), (2, .ref (ad g 103)), (3, .int (l3 + (4 : Int32)))] rfl rfl (Nat.le_of_ble_eq_true rfl) rfl (lvs_c rfl (lvs_c rfl (lvs_c rfl (lvs_c rfl (lvs_n))))) ?_
          refine wa_goto cx dL_law_781 18 (by decide) ?_
          refine wa_sub (lv' := [(0, .ref b), (1, .ref (ad g 0)), (2, .ref (ad g 103)), (3, .int (l3 + (4 : Int32)))]) (lvs_c rfl (lvs_c rfl (lvs_c rfl (lvs_c rfl (lvs_n))))) ?_
          exact ih (l3 + (4 : Int32)) S198  h
        · rw [if_neg q200] at h
          refine wa_iconst cx dL_law_627 (0 : Int32) (by decide) ?_
          cases h; exact absurd (show (0 : Int32) = 1 from hr) (by decide)
      rw [if_neg q191] at h
      by_cases q201 : ((xs (Int32.toNatClampNeg l3)) &&& (31 : Int32)) = (20 : Int32)
      · rw [if_pos q201] at h
        refine wa_tabIn cx dL_law_32 629 (by rw [q201]; decide) (by rw [q201]; decide) (by rw [q201] <;> rfl) (by decide) ?_
        refine wa_aload_n cx (i := 1) dL_law_629 rfl rfl ?_
        refine wa_aload_n cx (i := 0) dL_law_630 rfl rfl ?_
        refine wa_iload_n cx (i := 3) dL_law_631 rfl rfl ?_
        refine wa_iconst cx dL_law_632 (1 : Int32) (by decide) ?_
        refine wa_iadd cx dL_law_633 ?_
        obtain ⟨b202, h⟩ := ob_some h
        refine wa_sld cx hX hbl hbA dL_law_634 b202 ?_
        obtain ⟨x203, S204, e205, h⟩ := bd_some h
        refine wa_callVl cx (m_X9_two l cx.2.2.2.2.2.2.1 h_x e205) vl_L_102 h_x (by decide) rfl rfl ⟨_, cell_eq9 (kd_lt h_x (by decide)).2⟩ ⟨Nat.le_of_ble_eq_true rfl, Nat.le_of_ble_eq_true rfl⟩ ⟨rfl, rfl⟩ ⟨Nat.le_of_ble_eq_true rfl, Nat.le_of_ble_eq_true rfl⟩ rfl (Nat.le_of_ble_eq_true rfl) dL_law_635 rfl ?_
        refine wa_aload_n cx (i := 2) dL_law_638 rfl rfl ?_
        refine wa_aload_n cx (i := 0) dL_law_639 rfl rfl ?_
        refine wa_iload_n cx (i := 3) dL_law_640 rfl rfl ?_
        refine wa_iconst cx dL_law_641 (1 : Int32) (by decide) ?_
        refine wa_iadd cx dL_law_642 ?_
        obtain ⟨b206, h⟩ := ob_some h
        refine wa_sld cx hX hbl hbA dL_law_643 b206 ?_
        obtain ⟨x207, S208, e209, h⟩ := bd_some h
        refine wa_callVl cx (m_X10_two l cx.2.2.2.2.2.2.1 h_m e209) vl_L_105 h_m (by decide) rfl rfl ⟨_, cell_eq10 (kd_lt h_m (by decide)).2⟩ ⟨Nat.le_of_ble_eq_true rfl, Nat.le_of_ble_eq_true rfl⟩ ⟨rfl, rfl⟩ ⟨Nat.le_of_ble_eq_true rfl, Nat.le_of_ble_eq_true rfl⟩ rfl (Nat.le_of_ble_eq_true rfl) dL_law_644 rfl ?_
        refine wa_lcmp_eq cx dL_law_647 dL_law_648 778 (by decide) (fun q210 => ?_) (fun q210 => ?_)
        · rw [if_pos q210] at h
          refine wa_iinc cx dL_law_778 (l3 + (4 : Int32)) [(0, .ref b), (1, .ref (ad g 0)), (2, .ref (ad g 103)), (3, .int (l3 + (4 : Int32)))] rfl rfl (Nat.le_of_ble_eq_true rfl) rfl (lvs_c rfl (lvs_c rfl (lvs_c rfl (lvs_c rfl (lvs_n))))) ?_
          refine wa_goto cx dL_law_781 18 (by decide) ?_
          refine wa_sub (lv' := [(0, .ref b), (1, .ref (ad g 0)), (2, .ref (ad g 103)), (3, .int (l3 + (4 : Int32)))]) (lvs_c rfl (lvs_c rfl (lvs_c rfl (lvs_c rfl (lvs_n))))) ?_
          exact ih (l3 + (4 : Int32)) S208  h
        · rw [if_neg q210] at h
          refine wa_iconst cx dL_law_651 (0 : Int32) (by decide) ?_
          cases h; exact absurd (show (0 : Int32) = 1 from hr) (by decide)
      rw [if_neg q201] at h
      by_cases q211 : ((xs (Int32.toNatClampNeg l3)) &&& (31 : Int32)) = (21 : Int32)
      · rw [if_pos q211] at h
        refine wa_tabIn cx dL_law_32 653 (by rw [q211]; decide) (by rw [q211]; decide) (by rw [q211] <;> rfl) (by decide) ?_
        refine wa_aload_n cx (i := 1) dL_law_653 rfl rfl ?_
        refine wa_aload_n cx (i := 0) dL_law_654 rfl rfl ?_
        refine wa_iload_n cx (i := 3) dL_law_655 rfl rfl ?_
        refine wa_iconst cx dL_law_656 (1 : Int32) (by decide) ?_
        refine wa_iadd cx dL_law_657 ?_
        obtain ⟨b212, h⟩ := ob_some h
        refine wa_sld cx hX hbl hbA dL_law_658 b212 ?_
        refine wa_aload_n cx (i := 0) dL_law_659 rfl rfl ?_
        refine wa_iload_n cx (i := 3) dL_law_660 rfl rfl ?_
        refine wa_iconst cx dL_law_661 (2 : Int32) (by decide) ?_
        refine wa_iadd cx dL_law_662 ?_
        obtain ⟨b213, h⟩ := ob_some h
        refine wa_sld cx hX hbl hbA dL_law_663 b213 ?_
        refine wa_aload_n cx (i := 0) dL_law_664 rfl rfl ?_
        refine wa_iload_n cx (i := 3) dL_law_665 rfl rfl ?_
        refine wa_iconst cx dL_law_666 (3 : Int32) (by decide) ?_
        refine wa_iadd cx dL_law_667 ?_
        obtain ⟨b214, h⟩ := ob_some h
        refine wa_sld cx hX hbl hbA dL_law_668 b214 ?_
        obtain ⟨x215, S216, e217, h⟩ := bd_some h
        refine wa_callVi cx (m_X9_evening l cx.2.2.2.2.2.2.1 h_x e217) vl_L_106 h_x (by decide) rfl rfl ⟨_, cell_eq9 (kd_lt h_x (by decide)).2⟩ ⟨Nat.le_of_ble_eq_true rfl, Nat.le_of_ble_eq_true rfl⟩ ⟨rfl, rfl⟩ ⟨Nat.le_of_ble_eq_true rfl, Nat.le_of_ble_eq_true rfl⟩ rfl (Nat.le_of_ble_eq_true rfl) dL_law_669 rfl ?_
        refine wa_aload_n cx (i := 2) dL_law_672 rfl rfl ?_
        refine wa_aload_n cx (i := 0) dL_law_673 rfl rfl ?_
        refine wa_iload_n cx (i := 3) dL_law_674 rfl rfl ?_
        refine wa_iconst cx dL_law_675 (1 : Int32) (by decide) ?_
        refine wa_iadd cx dL_law_676 ?_
        obtain ⟨b218, h⟩ := ob_some h
        refine wa_sld cx hX hbl hbA dL_law_677 b218 ?_
        refine wa_aload_n cx (i := 0) dL_law_678 rfl rfl ?_
        refine wa_iload_n cx (i := 3) dL_law_679 rfl rfl ?_
        refine wa_iconst cx dL_law_680 (2 : Int32) (by decide) ?_
        refine wa_iadd cx dL_law_681 ?_
        obtain ⟨b219, h⟩ := ob_some h
        refine wa_sld cx hX hbl hbA dL_law_682 b219 ?_
        refine wa_aload_n cx (i := 0) dL_law_683 rfl rfl ?_
        refine wa_iload_n cx (i := 3) dL_law_684 rfl rfl ?_
        refine wa_iconst cx dL_law_685 (3 : Int32) (by decide) ?_
        refine wa_iadd cx dL_law_686 ?_
        obtain ⟨b220, h⟩ := ob_some h
        refine wa_sld cx hX hbl hbA dL_law_687 b220 ?_
        obtain ⟨x221, S222, e223, h⟩ := bd_some h
        refine wa_callVi cx (m_X10_evening l cx.2.2.2.2.2.2.1 h_m e223) vl_L_110 h_m (by decide) rfl rfl ⟨_, cell_eq10 (kd_lt h_m (by decide)).2⟩ ⟨Nat.le_of_ble_eq_true rfl, Nat.le_of_ble_eq_true rfl⟩ ⟨rfl, rfl⟩ ⟨Nat.le_of_ble_eq_true rfl, Nat.le_of_ble_eq_true rfl⟩ rfl (Nat.le_of_ble_eq_true rfl) dL_law_688 rfl ?_
        refine wa_icmp_eq cx dL_law_691 778 (by decide) (fun q224 => ?_) (fun q224 => ?_)
        · rw [if_pos q224] at h
          refine wa_iinc cx dL_law_778 (l3 + (4 : Int32)) [(0, .ref b), (1, .ref (ad g 0)), (2, .ref (ad g 103)), (3, .int (l3 + (4 : Int32)))] rfl rfl (Nat.le_of_ble_eq_true rfl) rfl (lvs_c rfl (lvs_c rfl (lvs_c rfl (lvs_c rfl (lvs_n))))) ?_
          refine wa_goto cx dL_law_781 18 (by decide) ?_
          refine wa_sub (lv' := [(0, .ref b), (1, .ref (ad g 0)), (2, .ref (ad g 103)), (3, .int (l3 + (4 : Int32)))]) (lvs_c rfl (lvs_c rfl (lvs_c rfl (lvs_c rfl (lvs_n))))) ?_
          exact ih (l3 + (4 : Int32)) S222  h
        · rw [if_neg q224] at h
          refine wa_iconst cx dL_law_694 (0 : Int32) (by decide) ?_
          cases h; exact absurd (show (0 : Int32) = 1 from hr) (by decide)
      rw [if_neg q211] at h
      by_cases q225 : ((xs (Int32.toNatClampNeg l3)) &&& (31 : Int32)) = (22 : Int32)
      · rw [if_pos q225] at h
        refine wa_tabIn cx dL_law_32 696 (by rw [q225]; decide) (by rw [q225]; decide) (by rw [q225] <;> rfl) (by decide) ?_
        refine wa_aload_n cx (i := 1) dL_law_696 rfl rfl ?_
        refine wa_aload_n cx (i := 0) dL_law_697 rfl rfl ?_
        refine wa_iload_n cx (i := 3) dL_law_698 rfl rfl ?_
        refine wa_iconst cx dL_law_699 (1 : Int32) (by decide) ?_
        refine wa_iadd cx dL_law_700 ?_
        obtain ⟨b226, h⟩ := ob_some h
        refine wa_sld cx hX hbl hbA dL_law_701 b226 ?_
        refine wa_aload_n cx (i := 0) dL_law_702 rfl rfl ?_
        refine wa_iload_n cx (i := 3) dL_law_703 rfl rfl ?_
        refine wa_iconst cx dL_law_704 (2 : Int32) (by decide) ?_
        refine wa_iadd cx dL_law_705 ?_
        obtain ⟨b227, h⟩ := ob_some h
        refine wa_sld cx hX hbl hbA dL_law_706 b227 ?_
        obtain ⟨x228, S229, e230, h⟩ := bd_some h
        refine wa_callVi cx (m_X9_whole l cx.2.2.2.2.2.2.1 h_x e230) vl_L_111 h_x (by decide) rfl rfl ⟨_, cell_eq9 (kd_lt h_x (by decide)).2⟩ ⟨Nat.le_of_ble_eq_true rfl, Nat.le_of_ble_eq_true rfl⟩ ⟨rfl, rfl⟩ ⟨Nat.le_of_ble_eq_true rfl, Nat.le_of_ble_eq_true rfl⟩ rfl (Nat.le_of_ble_eq_true rfl) dL_law_707 rfl ?_
        refine wa_aload_n cx (i := 2) dL_law_710 rfl rfl ?_
        refine wa_aload_n cx (i := 0) dL_law_711 rfl rfl ?_
        refine wa_iload_n cx (i := 3) dL_law_712 rfl rfl ?_
        refine wa_iconst cx dL_law_713 (1 : Int32) (by decide) ?_
        refine wa_iadd cx dL_law_714 ?_
        obtain ⟨b231, h⟩ := ob_some h
        refine wa_sld cx hX hbl hbA dL_law_715 b231 ?_
        refine wa_aload_n cx (i := 0) dL_law_716 rfl rfl ?_
        refine wa_iload_n cx (i := 3) dL_law_717 rfl rfl ?_
        refine wa_iconst cx dL_law_718 (2 : Int32) (by decide) ?_
        refine wa_iadd cx dL_law_719 ?_
        obtain ⟨b232, h⟩ := ob_some h
        refine wa_sld cx hX hbl hbA dL_law_720 b232 ?_
        obtain ⟨x233, S234, e235, h⟩ := bd_some h
        refine wa_callVi cx (m_X10_whole l cx.2.2.2.2.2.2.1 h_m e235) vl_L_114 h_m (by decide) rfl rfl ⟨_, cell_eq10 (kd_lt h_m (by decide)).2⟩ ⟨Nat.le_of_ble_eq_true rfl, Nat.le_of_ble_eq_true rfl⟩ ⟨rfl, rfl⟩ ⟨Nat.le_of_ble_eq_true rfl, Nat.le_of_ble_eq_true rfl⟩ rfl (Nat.le_of_ble_eq_true rfl) dL_law_721 rfl ?_
        refine wa_icmp_eq cx dL_law_724 778 (by decide) (fun q236 => ?_) (fun q236 => ?_)
        · rw [if_pos q236] at h
          refine wa_iinc cx dL_law_778 (l3 + (4 : Int32)) [(0, .ref b), (1, .ref (ad g 0)), (2, .ref (ad g 103)), (3, .int (l3 + (4 : Int32)))] rfl rfl (Nat.le_of_ble_eq_true rfl) rfl (lvs_c rfl (lvs_c rfl (lvs_c rfl (lvs_c rfl (lvs_n))))) ?_
          refine wa_goto cx dL_law_781 18 (by decide) ?_
          refine wa_sub (lv' := [(0, .ref b), (1, .ref (ad g 0)), (2, .ref (ad g 103)), (3, .int (l3 + (4 : Int32)))]) (lvs_c rfl (lvs_c rfl (lvs_c rfl (lvs_c rfl (lvs_n))))) ?_
          exact ih (l3 + (4 : Int32)) S234  h
        · rw [if_neg q236] at h
          refine wa_iconst cx dL_law_727 (0 : Int32) (by decide) ?_
          cases h; exact absurd (show (0 : Int32) = 1 from hr) (by decide)
      rw [if_neg q225] at h
      by_cases q237 : ((xs (Int32.toNatClampNeg l3)) &&& (31 : Int32)) = (23 : Int32)
      · rw [if_pos q237] at h
        refine wa_tabIn cx dL_law_32 729 (by rw [q237]; decide) (by rw [q237]; decide) (by rw [q237] <;> rfl) (by decide) ?_
        refine wa_aload_n cx (i := 1) dL_law_729 rfl rfl ?_
        obtain ⟨x238, S239, e240, h⟩ := bd_some h
        refine wa_callVi cx (m_X9_keep l cx.2.2.2.2.2.2.1 h_x e240) vl_L_115 h_x (by decide) rfl rfl ⟨_, cell_eq9 (kd_lt h_x (by decide)).2⟩ ⟨Nat.le_of_ble_eq_true rfl, Nat.le_of_ble_eq_true rfl⟩ ⟨rfl, rfl⟩ ⟨Nat.le_of_ble_eq_true rfl, Nat.le_of_ble_eq_true rfl⟩ rfl (Nat.le_of_ble_eq_true rfl) dL_law_730 rfl ?_
        refine wa_aload_n cx (i := 2) dL_law_733 rfl rfl ?_
        obtain ⟨x241, S242, e243, h⟩ := bd_some h
        refine wa_callVi cx (m_X10_keep l cx.2.2.2.2.2.2.1 h_m e243) vl_L_118 h_m (by decide) rfl rfl ⟨_, cell_eq10 (kd_lt h_m (by decide)).2⟩ ⟨Nat.le_of_ble_eq_true rfl, Nat.le_of_ble_eq_true rfl⟩ ⟨rfl, rfl⟩ ⟨Nat.le_of_ble_eq_true rfl, Nat.le_of_ble_eq_true rfl⟩ rfl (Nat.le_of_ble_eq_true rfl) dL_law_734 rfl ?_
        refine wa_icmp_eq cx dL_law_737 778 (by decide) (fun q244 => ?_) (fun q244 => ?_)
        · rw [if_pos q244] at h
          refine wa_iinc cx dL_law_778 (l3 + (4 : Int32)) [(0, .ref b), (1, .ref (ad g 0)), (2, .ref (ad g 103)), (3, .int (l3 + (4 : Int32)))] rfl rfl (Nat.le_of_ble_eq_true rfl) rfl (lvs_c rfl (lvs_c rfl (lvs_c rfl (lvs_c rfl (lvs_n))))) ?_
          refine wa_goto cx dL_law_781 18 (by decide) ?_
          refine wa_sub (lv' := [(0, .ref b), (1, .ref (ad g 0)), (2, .ref (ad g 103)), (3, .int (l3 + (4 : Int32)))]) (lvs_c rfl (lvs_c rfl (lvs_c rfl (lvs_c rfl (lvs_n))))) ?_
          exact ih (l3 + (4 : Int32)) S242  h
        · rw [if_neg q244] at h
          refine wa_iconst cx dL_law_740 (0 : Int32) (by decide) ?_
          cases h; exact absurd (show (0 : Int32) = 1 from hr) (by decide)
      rw [if_neg q237] at h
      by_cases q245 : ((xs (Int32.toNatClampNeg l3)) &&& (31 : Int32)) = (24 : Int32)
      · rw [if_pos q245] at h
        refine wa_tabIn cx dL_law_32 742 (by rw [q245]; decide) (by rw [q245]; decide) (by rw [q245] <;> rfl) (by decide) ?_
        refine wa_aload_n cx (i := 1) dL_law_742 rfl rfl ?_
        obtain ⟨x246, S247, e248, h⟩ := bd_some h
        refine wa_callVi cx (m_X9_back l cx.2.2.2.2.2.2.1 h_x e248) vl_L_119 h_x (by decide) rfl rfl ⟨_, cell_eq9 (kd_lt h_x (by decide)).2⟩ ⟨Nat.le_of_ble_eq_true rfl, Nat.le_of_ble_eq_true rfl⟩ ⟨rfl, rfl⟩ ⟨Nat.le_of_ble_eq_true rfl, Nat.le_of_ble_eq_true rfl⟩ rfl (Nat.le_of_ble_eq_true rfl) dL_law_743 rfl ?_
        refine wa_aload_n cx (i := 2) dL_law_746 rfl rfl ?_
        obtain ⟨x249, S250, e251, h⟩ := bd_some h
        refine wa_callVi cx (m_X10_back l cx.2.2.2.2.2.2.1 h_m e251) vl_L_122 h_m (by decide) rfl rfl ⟨_, cell_eq10 (kd_lt h_m (by decide)).2⟩ ⟨Nat.le_of_ble_eq_true rfl, Nat.le_of_ble_eq_true rfl⟩ ⟨rfl, rfl⟩ ⟨Nat.le_of_ble_eq_true rfl, Nat.le_of_ble_eq_true rfl⟩ rfl (Nat.le_of_ble_eq_true rfl) dL_law_747 rfl ?_
        refine wa_icmp_eq cx dL_law_750 778 (by decide) (fun q252 => ?_) (fun q252 => ?_)
        · rw [if_pos q252] at h
          refine wa_iinc cx dL_law_778 (l3 + (4 : Int32)) [(0, .ref b), (1, .ref (ad g 0)), (2, .ref (ad g 103)), (3, .int (l3 + (4 : Int32)))] rfl rfl (Nat.le_of_ble_eq_true rfl) rfl (lvs_c rfl (lvs_c rfl (lvs_c rfl (lvs_c rfl (lvs_n))))) ?_
          refine wa_goto cx dL_law_781 18 (by decide) ?_
          refine wa_sub (lv' := [(0, .ref b), (1, .ref (ad g 0)), (2, .ref (ad g 103)), (3, .int (l3 + (4 : Int32)))]) (lvs_c rfl (lvs_c rfl (lvs_c rfl (lvs_c rfl (lvs_n))))) ?_
          exact ih (l3 + (4 : Int32)) S250  h
        · rw [if_neg q252] at h
          refine wa_iconst cx dL_law_753 (0 : Int32) (by decide) ?_
          cases h; exact absurd (show (0 : Int32) = 1 from hr) (by decide)
      rw [if_neg q245] at h
      by_cases q253 : ((xs (Int32.toNatClampNeg l3)) &&& (31 : Int32)) = (25 : Int32)
      · rw [if_pos q253] at h
        refine wa_tabIn cx dL_law_32 755 (by rw [q253]; decide) (by rw [q253]; decide) (by rw [q253] <;> rfl) (by decide) ?_
        refine wa_aload_n cx (i := 1) dL_law_755 rfl rfl ?_
        refine wa_aload_n cx (i := 0) dL_law_756 rfl rfl ?_
        refine wa_iload_n cx (i := 3) dL_law_757 rfl rfl ?_
        refine wa_iconst cx dL_law_758 (1 : Int32) (by decide) ?_
        refine wa_iadd cx dL_law_759 ?_
        obtain ⟨b254, h⟩ := ob_some h
        refine wa_sld cx hX hbl hbA dL_law_760 b254 ?_
        obtain ⟨x255, S256, e257, h⟩ := bd_some h
        refine wa_callVi cx (m_X9_count l cx.2.2.2.2.2.2.1 h_x e257) vl_L_123 h_x (by decide) rfl rfl ⟨_, cell_eq9 (kd_lt h_x (by decide)).2⟩ ⟨Nat.le_of_ble_eq_true rfl, Nat.le_of_ble_eq_true rfl⟩ ⟨rfl, rfl⟩ ⟨Nat.le_of_ble_eq_true rfl, Nat.le_of_ble_eq_true rfl⟩ rfl (Nat.le_of_ble_eq_true rfl) dL_law_761 rfl ?_
        refine wa_aload_n cx (i := 2) dL_law_764 rfl rfl ?_
        refine wa_aload_n cx (i := 0) dL_law_765 rfl rfl ?_
        refine wa_iload_n cx (i := 3) dL_law_766 rfl rfl ?_
        refine wa_iconst cx dL_law_767 (1 : Int32) (by decide) ?_
        refine wa_iadd cx dL_law_768 ?_
        obtain ⟨b258, h⟩ := ob_some h
        refine wa_sld cx hX hbl hbA dL_law_769 b258 ?_
        obtain ⟨x259, S260, e261, h⟩ := bd_some h
        refine wa_callVi cx (m_X10_count l cx.2.2.2.2.2.2.1 h_m e261) vl_L_126 h_m (by decide) rfl rfl ⟨_, cell_eq10 (kd_lt h_m (by decide)).2⟩ ⟨Nat.le_of_ble_eq_true rfl, Nat.le_of_ble_eq_true rfl⟩ ⟨rfl, rfl⟩ ⟨Nat.le_of_ble_eq_true rfl, Nat.le_of_ble_eq_true rfl⟩ rfl (Nat.le_of_ble_eq_true rfl) dL_law_770 rfl ?_
        refine wa_icmp_eq cx dL_law_773 778 (by decide) (fun q262 => ?_) (fun q262 => ?_)
        · rw [if_pos q262] at h
          refine wa_iinc cx dL_law_778 (l3 + (4 : Int32)) [(0, .ref b), (1, .ref (ad g 0)), (2, .ref (ad g 103)), (3, .int (l3 + (4 : Int32)))] rfl rfl (Nat.le_of_ble_eq_true rfl) rfl (lvs_c rfl (lvs_c rfl (lvs_c rfl (lvs_c rfl (lvs_n))))) ?_
          refine wa_goto cx dL_law_781 18 (by decide) ?_
          refine wa_sub (lv' := [(0, .ref b), (1, .ref (ad g 0)), (2, .ref (ad g 103)), (3, .int (l3 + (4 : Int32)))]) (lvs_c rfl (lvs_c rfl (lvs_c rfl (lvs_c rfl (lvs_n))))) ?_
          exact ih (l3 + (4 : Int32)) S260  h
        · rw [if_neg q262] at h
          refine wa_iconst cx dL_law_776 (0 : Int32) (by decide) ?_
          cases h; exact absurd (show (0 : Int32) = 1 from hr) (by decide)
      rw [if_neg q253] at h
      refine wa_tabDef cx dL_law_32 778 [0, 1, 2, 3, 4, 5, 6, 7, 8, 9, 10, 11, 12, 13, 14, 15, 16, 17, 18, 19, 20, 21, 22, 23, 24, 25] (by decide) (by decide) (show allne _ _ from ⟨ne_toInt q3, ne_toInt q17, ne_toInt q25, ne_toInt q33, ne_toInt q41, ne_toInt q53, ne_toInt q63, ne_toInt q73, ne_toInt q85, ne_toInt q95, ne_toInt q107, ne_toInt q115, ne_toInt q125, ne_toInt q135, ne_toInt q143, ne_toInt q153, ne_toInt q161, ne_toInt q171, ne_toInt q179, ne_toInt q191, ne_toInt q201, ne_toInt q211, ne_toInt q225, ne_toInt q237, ne_toInt q245, ne_toInt q253, trivial⟩) (by decide) ?_
      refine wa_iinc cx dL_law_778 (l3 + (4 : Int32)) [(0, .ref b), (1, .ref (ad g 0)), (2, .ref (ad g 103)), (3, .int (l3 + (4 : Int32)))] rfl rfl (Nat.le_of_ble_eq_true rfl) rfl (lvs_c rfl (lvs_c rfl (lvs_c rfl (lvs_c rfl (lvs_n))))) ?_
      refine wa_goto cx dL_law_781 18 (by decide) ?_
      refine wa_sub (lv' := [(0, .ref b), (1, .ref (ad g 0)), (2, .ref (ad g 103)), (3, .int (l3 + (4 : Int32)))]) (lvs_c rfl (lvs_c rfl (lvs_c rfl (lvs_c rfl (lvs_n))))) ?_
      exact ih (l3 + (4 : Int32)) S  h
set_option maxHeartbeats 40000000 in
set_option maxRecDepth 1000000 in
theorem whole_start_of {I : Nat → Nat → Int32} {J : Nat → Nat → Int64} {S2 : St} (hE : f_X9_initB 0 S0 = some ((), (I, J, R0))) (hM : f_X10_initB 103 (mrg I J) = some ((), S2)) {p : Program} {e : Env} {s : State} {m : MethodId} {below : List Frame} {meth : Method} {c : Code} (l : Launch) {b Ln : Nat} {xs : Nat → Int32} (hL : ∃ r : Int32 × St, r.1 = 1 ∧ f_L_law_L18 FU xs Ln 0 S2 = some r) (C0 : lw_At p s m meth c b Ln xs) : W p l e room_1 s m #[Value.ref b] below meth c s.heap [] 0 0 (lw_Z below #[Value.ref b] s) (entryFrame m ([Value.ref b] : List Value).toArray 4) := by
  obtain ⟨hx, hb, hr, hml, hown, hts, hX, hbl, hlocks, hgv⟩ := id C0
  obtain ⟨A, hAe⟩ : ∃ A : Nat → Prop, A = fun q => s.heap.size ≤ q := ⟨_, rfl⟩
  have hbA : ¬ A b := by rw [hAe]; exact Nat.not_le.mpr hbl
  have htg : ∀ w ∈ lw_g, w.before #[Value.ref b] s = true := fun w h => hts w (List.mem_filter.mp h).1
  have hNW : NW s := fun w hw hn => by
    cases w <;> first | (exact va_Nw.of rfl (hts _ hw)) | (cases hn)
  obtain ⟨c0, iS0, hKn0⟩ := u_known (C := RX0) (T := TX0) (N := 11) (n := 11) htg inW0 (htg _ ins_0)
  obtain ⟨c1, iS1, hKn1⟩ := u_known (C := RX1) (T := TX1) (N := 11) (n := 11) htg inW1 (htg _ ins_1)
  obtain ⟨c2, iS2, hKn2⟩ := u_known (C := RX2) (T := TX2) (N := 11) (n := 11) htg inW2 (htg _ ins_2)
  obtain ⟨c3, iS3, hKn3⟩ := u_known (C := RX3) (T := TX3) (N := 2) (n := 2) htg inW3 (htg _ ins_3)
  obtain ⟨c4, iS4, hKn4⟩ := u_known (C := RX4) (T := TX4) (N := 6) (n := 6) htg inW4 (htg _ ins_4)
  obtain ⟨c5, iS5, hKn5⟩ := u_known (C := RX5) (T := TX5) (N := 3) (n := 3) htg inW5 (htg _ ins_5)
  obtain ⟨c6, iS6, hKn6⟩ := u_known (C := RX6) (T := TX6) (N := 10) (n := 10) htg inW6 (htg _ ins_6)
  obtain ⟨c7, iS7, hKn7⟩ := u_known (C := RX7) (T := TX7) (N := 2) (n := 2) htg inW7 (htg _ ins_7)
  obtain ⟨c8, iS8, hKn8⟩ := u_known (C := RX8) (T := TX8) (N := 10) (n := 10) htg inW8 (htg _ ins_8)
  obtain ⟨c9, iS9, hKn9⟩ := u_known (C := RX9) (T := TX9) (N := 19) (n := 19) htg inW9 (htg _ ins_9)
  obtain ⟨c10, iS10, hKn10⟩ := u_known (C := RX10) (T := TX10) (N := 39) (n := 39) htg inW10 (htg _ ins_10)
  obtain ⟨dC, dI, hKc⟩ : ∃ (dC : Nat → ClassId) (dI : Nat → Nat → Nat), ∀ (k : Nat) (q : vw_C), vwCl[k]? = some q → u_Kn s q.1 q.2.1 q.2.2 (dC k) (dI k) := by
    refine ⟨fun k => if k = 0 then c0 else if k = 1 then c1 else if k = 2 then c2 else if k = 3 then c3 else if k = 4 then c4 else if k = 5 then c5 else if k = 6 then c6 else if k = 7 then c7 else if k = 8 then c8 else if k = 9 then c9 else c10, fun k => if k = 0 then iS0 else if k = 1 then iS1 else if k = 2 then iS2 else if k = 3 then iS3 else if k = 4 then iS4 else if k = 5 then iS5 else if k = 6 then iS6 else if k = 7 then iS7 else if k = 8 then iS8 else if k = 9 then iS9 else iS10, ?_⟩
    intro k q hq
    match k, hq with
    | 0, hq => cases hq; exact hKn0
    | 1, hq => cases hq; exact hKn1
    | 2, hq => cases hq; exact hKn2
    | 3, hq => cases hq; exact hKn3
    | 4, hq => cases hq; exact hKn4
    | 5, hq => cases hq; exact hKn5
    | 6, hq => cases hq; exact hKn6
    | 7, hq => cases hq; exact hKn7
    | 8, hq => cases hq; exact hKn8
    | 9, hq => cases hq; exact hKn9
    | 10, hq => cases hq; exact hKn10
    | k + 11, hq => simp [vwCl] at hq
  have arr : ∀ ty : FieldType, Cond.arrayClass ty ∈ lw_g → (∀ C, ty ≠ .object C) → ∃ cA : ClassId, ArrOfT s cA ty ∧ va_RA s cA ty := fun ty h hno => by
    obtain ⟨cA, kA, comp, h1, h2, h3⟩ := Cond.arrayClass_spec (htg _ h)
    exact ⟨cA, fun n z => ⟨fun k h => (by cases h), kA, h2, comp, h3⟩, by cases ty <;> first | exact h1 | exact absurd rfl (hno _)⟩
  obtain ⟨cI, hI1, hI2⟩ := arr .int ar_I (fun _ h => by cases h)
  obtain ⟨cJ, hJ1, hJ2⟩ := arr .long ar_J (fun _ h => by cases h)
  obtain ⟨D, hDe⟩ : ∃ D : va_G, D = (dC, dI) := ⟨_, rfl⟩
  obtain ⟨cy, hcy⟩ : ∃ cy : ClassId × ClassId, cy = (cI, cJ) := ⟨_, rfl⟩
  have hK : va_K D vwCl [(cy.1, .int), (cy.2, .long)] s := by
    rw [hDe, hcy]
    refine ⟨hKc, fun k q h => ?_⟩
    match k, h with
    | 0, h => cases h; exact ⟨hI1, hI2⟩
    | 1, h => cases h; exact ⟨hJ1, hJ2⟩
    | k + 2, h => simp at h
  have cx : CxL p s m #[Value.ref b] meth c cL_law 4 ret RL D cy A := ⟨hx, hb, hml, hown, htg, hK, fun q h => by rw [hAe]; exact h, hr, hlocks, hNW⟩
  have hl := lv_entry ([.ref b]) (n := 4) (Nat.le_of_ble_eq_true rfl)
  rw [lg_entry_eq]
  generalize (lg_sl ([.ref b]) ++ List.replicate (4 - (lg_sl ([.ref b])).length) Slot.unset).toArray = ls at hl ⊢
  have hl : lv_has ls 4 [(0, .ref b)] := hl
  obtain ⟨r, hr1, hlaw⟩ := hL
  suffices hWL : WL p l e room_1 s m #[Value.ref b] below meth c 0 0 (lw_Z below #[Value.ref b] s) 4 D A [] 0 [(0, .ref b)] [] from hWL s.heap [] ls (fun k q h => by simp at h) ⟨fun i j p q h => by simp at h, fun k q h => by simp at h⟩ va_S.rf hl
  refine wl_new (ci := 9) cx dL_law_0 1 19 nul9 tyX9 tyX9_ok inW9 (show Cond.classLink RL 7 RX9 ∈ lw_g from (lwm 77 (by decide +kernel) rfl)) ins_9 ini_9 rfl nulv9 ⟨rfl, rfl⟩ ⟨Nat.le_of_ble_eq_true rfl, Nat.le_of_ble_eq_true rfl⟩ (fun p8 => ?_)
  refine wl_dup cx dL_law_3 rfl ?_
  refine wl_callI (wr := ([] : va_W)) cx dL_law_4 103 1853 (fun sz => c_X9 l D cy hE  p8 sz) (show IL RL 9 yX9_init cX9_init 1 from ⟨⟨(lwm 79 (by decide +kernel) rfl), (lwm 80 (by decide +kernel) rfl), (lwm 63 (by decide +kernel) rfl), (lwm 81 (by decide +kernel) rfl)⟩, by decide, by decide, by decide +kernel⟩) rfl ⟨Nat.le_of_ble_eq_true rfl, Nat.le_of_ble_eq_true rfl⟩ ⟨rfl, rfl⟩ ⟨rfl, rfl⟩ ⟨Nat.le_of_ble_eq_true rfl, Nat.le_of_ble_eq_true rfl⟩ (Nat.le_of_ble_eq_true rfl) (fun u8 hu8 => ?_)
  subst hu8
  refine wl_re (List.nil_append _) ?_
  refine wl_astore_n cx (i := 1) dL_law_7 [(0, .ref b), (1, .ref (u8 0))] rfl (Nat.le_of_ble_eq_true rfl) rfl (lvs_c rfl (lvs_c rfl lvs_n)) ?_
  refine wl_new (ci := 10) cx dL_law_8 104 1892 nul10 tyX10 tyX10_ok inW10 (show Cond.classLink RL 10 RX10 ∈ lw_g from (lwm 884 (by decide +kernel) rfl)) ins_10 ini_10 rfl nulv10 ⟨rfl, rfl⟩ ⟨Nat.le_of_ble_eq_true rfl, Nat.le_of_ble_eq_true rfl⟩ (fun p9 => ?_)
  refine wl_dup cx dL_law_11 rfl ?_
  refine wl_re (List.nil_append _).symm ?_
  refine wl_callI (wr := ([] : va_W)) cx dL_law_12 129 12358 (fun sz => c_X10 l D cy u8 hM p9 sz) (show IL RL 12 yX10_init cX10_init 1 from ⟨⟨(lwm 886 (by decide +kernel) rfl), (lwm 887 (by decide +kernel) rfl), (lwm 74 (by decide +kernel) rfl), (lwm 888 (by decide +kernel) rfl)⟩, by decide, by decide, by decide +kernel⟩) rfl ⟨Nat.le_of_ble_eq_true rfl, Nat.le_of_ble_eq_true rfl⟩ ⟨rfl, rfl⟩ ⟨rfl, rfl⟩ ⟨Nat.le_of_ble_eq_true rfl, Nat.le_of_ble_eq_true rfl⟩ (Nat.le_of_ble_eq_true rfl) (fun u9 hu9 => ?_)
  subst hu9
  refine wl_re (List.nil_append _) ?_
  refine wl_astore_n cx (i := 2) dL_law_15 [(0, .ref b), (1, .ref (u8 0)), (2, .ref (u9 0))] rfl (Nat.le_of_ble_eq_true rfl) rfl (lvs_c rfl (lvs_c rfl (lvs_c rfl lvs_n))) ?_
  refine wl_iconst cx dL_law_16 (0 : Int32) (by decide) ?_
  refine wl_istore_n cx (i := 3) dL_law_17 [(0, .ref b), (1, .ref (u8 0)), (2, .ref (u9 0)), (3, .int (0 : Int32))] rfl (Nat.le_of_ble_eq_true rfl) rfl (lvs_c rfl (lvs_c rfl (lvs_c rfl (lvs_c rfl lvs_n)))) ?_
  refine wl_wa (g := (D, cy, qcat u8 u9, 129)) (S := S2) cx (Or.inr rfl) rfl (fun cx => ?_)
  refine wa_sub (lv' := [(0, .ref b), (1, .ref (ad (D, cy, qcat u8 u9, 129) 0)), (2, .ref (ad (D, cy, qcat u8 u9, 129) 103)), (3, .int (0 : Int32))]) (lvs_c rfl (lvs_c rfl (lvs_c rfl (lvs_c rfl lvs_n)))) ?_
  exact w_L_law_L18 cx hAe hX hbl hbA rfl rfl hr1 FU 0 S2 hlaw
