theorem dJ7_fill_d0a16_0 : decode cJ7_fill_d0a16 0 = .ok (.iconst 0, 1) := by decide +kernel
theorem dJ7_fill_d0a16_1 : decode cJ7_fill_d0a16 1 = .ok (.istore_n 3, 1) := by decide +kernel
theorem dJ7_fill_d0a16_2 : decode cJ7_fill_d0a16 2 = .ok (.aload_n 0, 1) := by decide +kernel
theorem dJ7_fill_d0a16_3 : decode cJ7_fill_d0a16 3 = .ok (.arraylength, 1) := by decide +kernel
theorem dJ7_fill_d0a16_4 : decode cJ7_fill_d0a16 4 = .ok (.istore 4, 2) := by decide +kernel
theorem dJ7_fill_d0a16_6 : decode cJ7_fill_d0a16 6 = .ok (.iload_n 3, 1) := by decide +kernel
theorem dJ7_fill_d0a16_7 : decode cJ7_fill_d0a16 7 = .ok (.iload 4, 2) := by decide +kernel
theorem dJ7_fill_d0a16_9 : decode cJ7_fill_d0a16 9 = .ok (.if_icmp .ge 13, 3) := by decide +kernel
theorem dJ7_fill_d0a16_12 : decode cJ7_fill_d0a16 12 = .ok (.aload_n 0, 1) := by decide +kernel
theorem dJ7_fill_d0a16_13 : decode cJ7_fill_d0a16 13 = .ok (.iload_n 3, 1) := by decide +kernel
theorem dJ7_fill_d0a16_14 : decode cJ7_fill_d0a16 14 = .ok (.lload_n 1, 1) := by decide +kernel
theorem dJ7_fill_d0a16_15 : decode cJ7_fill_d0a16 15 = .ok (.lastore, 1) := by decide +kernel
theorem dJ7_fill_d0a16_16 : decode cJ7_fill_d0a16 16 = .ok (.iinc 3 1, 3) := by decide +kernel
theorem dJ7_fill_d0a16_19 : decode cJ7_fill_d0a16 19 = .ok (.goto (-13), 3) := by decide +kernel
theorem dJ7_fill_d0a16_22 : decode cJ7_fill_d0a16 22 = .ok (.return_, 1) := by decide +kernel
theorem dJ7_fill_53178_0 : decode cJ7_fill_53178 0 = .ok (.iconst 0, 1) := by decide +kernel
theorem dJ7_fill_53178_1 : decode cJ7_fill_53178 1 = .ok (.istore_n 2, 1) := by decide +kernel
theorem dJ7_fill_53178_2 : decode cJ7_fill_53178 2 = .ok (.aload_n 0, 1) := by decide +kernel
theorem dJ7_fill_53178_3 : decode cJ7_fill_53178 3 = .ok (.arraylength, 1) := by decide +kernel
theorem dJ7_fill_53178_4 : decode cJ7_fill_53178 4 = .ok (.istore_n 3, 1) := by decide +kernel
theorem dJ7_fill_53178_5 : decode cJ7_fill_53178 5 = .ok (.iload_n 2, 1) := by decide +kernel
theorem dJ7_fill_53178_6 : decode cJ7_fill_53178 6 = .ok (.iload_n 3, 1) := by decide +kernel
theorem dJ7_fill_53178_7 : decode cJ7_fill_53178 7 = .ok (.if_icmp .ge 13, 3) := by decide +kernel
theorem dJ7_fill_53178_10 : decode cJ7_fill_53178 10 = .ok (.aload_n 0, 1) := by decide +kernel
theorem dJ7_fill_53178_11 : decode cJ7_fill_53178 11 = .ok (.iload_n 2, 1) := by decide +kernel
theorem dJ7_fill_53178_12 : decode cJ7_fill_53178 12 = .ok (.iload_n 1, 1) := by decide +kernel
theorem dJ7_fill_53178_13 : decode cJ7_fill_53178 13 = .ok (.iastore, 1) := by decide +kernel
theorem dJ7_fill_53178_14 : decode cJ7_fill_53178 14 = .ok (.iinc 2 1, 3) := by decide +kernel
theorem dJ7_fill_53178_17 : decode cJ7_fill_53178 17 = .ok (.goto (-12), 3) := by decide +kernel
theorem dJ7_fill_53178_20 : decode cJ7_fill_53178 20 = .ok (.return_, 1) := by decide +kernel
theorem dJ9_max_7cf53_0 : decode cJ9_max_7cf53 0 = .ok (.iload_n 0, 1) := by decide +kernel
theorem dJ9_max_7cf53_1 : decode cJ9_max_7cf53 1 = .ok (.iload_n 1, 1) := by decide +kernel
theorem dJ9_max_7cf53_2 : decode cJ9_max_7cf53 2 = .ok (.if_icmp .lt 7, 3) := by decide +kernel
theorem dJ9_max_7cf53_5 : decode cJ9_max_7cf53 5 = .ok (.iload_n 0, 1) := by decide +kernel
theorem dJ9_max_7cf53_6 : decode cJ9_max_7cf53 6 = .ok (.goto 4, 3) := by decide +kernel
theorem dJ9_max_7cf53_9 : decode cJ9_max_7cf53 9 = .ok (.iload_n 1, 1) := by decide +kernel
theorem dJ9_max_7cf53_10 : decode cJ9_max_7cf53 10 = .ok (.ireturn, 1) := by decide +kernel
theorem dJ9_min_7cf53_0 : decode cJ9_min_7cf53 0 = .ok (.iload_n 0, 1) := by decide +kernel
theorem dJ9_min_7cf53_1 : decode cJ9_min_7cf53 1 = .ok (.iload_n 1, 1) := by decide +kernel
theorem dJ9_min_7cf53_2 : decode cJ9_min_7cf53 2 = .ok (.if_icmp .gt 7, 3) := by decide +kernel
theorem dJ9_min_7cf53_5 : decode cJ9_min_7cf53 5 = .ok (.iload_n 0, 1) := by decide +kernel
theorem dJ9_min_7cf53_6 : decode cJ9_min_7cf53 6 = .ok (.goto 4, 3) := by decide +kernel
theorem dJ9_min_7cf53_9 : decode cJ9_min_7cf53 9 = .ok (.iload_n 1, 1) := by decide +kernel
theorem dJ9_min_7cf53_10 : decode cJ9_min_7cf53 10 = .ok (.ireturn, 1) := by decide +kernel
theorem dX0_init_0 : decode cX0_init 0 = .ok (.aload_n 0, 1) := by decide +kernel
theorem dX0_init_1 : decode cX0_init 1 = .ok (.invokespecial 3, 3) := by decide +kernel
theorem dX0_init_4 : decode cX0_init 4 = .ok (.aload_n 0, 1) := by decide +kernel
theorem dX0_init_5 : decode cX0_init 5 = .ok (.bipush 8, 2) := by decide +kernel
theorem dX0_init_7 : decode cX0_init 7 = .ok (.newarray .int, 2) := by decide +kernel
theorem dX0_init_9 : decode cX0_init 9 = .ok (.putfield 11, 3) := by decide +kernel
theorem dX0_init_12 : decode cX0_init 12 = .ok (.aload_n 0, 1) := by decide +kernel
theorem dX0_init_13 : decode cX0_init 13 = .ok (.bipush 8, 2) := by decide +kernel
theorem dX0_init_15 : decode cX0_init 15 = .ok (.newarray .int, 2) := by decide +kernel
theorem dX0_init_17 : decode cX0_init 17 = .ok (.putfield 17, 3) := by decide +kernel
theorem dX0_init_20 : decode cX0_init 20 = .ok (.aload_n 0, 1) := by decide +kernel
theorem dX0_init_21 : decode cX0_init 21 = .ok (.bipush 8, 2) := by decide +kernel
theorem dX0_init_23 : decode cX0_init 23 = .ok (.newarray .int, 2) := by decide +kernel
theorem dX0_init_25 : decode cX0_init 25 = .ok (.putfield 20, 3) := by decide +kernel
theorem dX0_init_28 : decode cX0_init 28 = .ok (.aload_n 0, 1) := by decide +kernel
theorem dX0_init_29 : decode cX0_init 29 = .ok (.bipush 8, 2) := by decide +kernel
theorem dX0_init_31 : decode cX0_init 31 = .ok (.newarray .int, 2) := by decide +kernel
theorem dX0_init_33 : decode cX0_init 33 = .ok (.putfield 23, 3) := by decide +kernel
theorem dX0_init_36 : decode cX0_init 36 = .ok (.aload_n 0, 1) := by decide +kernel
theorem dX0_init_37 : decode cX0_init 37 = .ok (.bipush 8, 2) := by decide +kernel
theorem dX0_init_39 : decode cX0_init 39 = .ok (.newarray .int, 2) := by decide +kernel
theorem dX0_init_41 : decode cX0_init 41 = .ok (.putfield 26, 3) := by decide +kernel
theorem dX0_init_44 : decode cX0_init 44 = .ok (.aload_n 0, 1) := by decide +kernel
theorem dX0_init_45 : decode cX0_init 45 = .ok (.bipush 8, 2) := by decide +kernel
theorem dX0_init_47 : decode cX0_init 47 = .ok (.newarray .int, 2) := by decide +kernel
theorem dX0_init_49 : decode cX0_init 49 = .ok (.putfield 29, 3) := by decide +kernel
theorem dX0_init_52 : decode cX0_init 52 = .ok (.aload_n 0, 1) := by decide +kernel
theorem dX0_init_53 : decode cX0_init 53 = .ok (.bipush 8, 2) := by decide +kernel
theorem dX0_init_55 : decode cX0_init 55 = .ok (.newarray .int, 2) := by decide +kernel
theorem dX0_init_57 : decode cX0_init 57 = .ok (.putfield 32, 3) := by decide +kernel
theorem dX0_init_60 : decode cX0_init 60 = .ok (.aload_n 0, 1) := by decide +kernel
theorem dX0_init_61 : decode cX0_init 61 = .ok (.bipush 24, 2) := by decide +kernel
theorem dX0_init_63 : decode cX0_init 63 = .ok (.newarray .int, 2) := by decide +kernel
theorem dX0_init_65 : decode cX0_init 65 = .ok (.putfield 35, 3) := by decide +kernel
theorem dX0_init_68 : decode cX0_init 68 = .ok (.aload_n 0, 1) := by decide +kernel
theorem dX0_init_69 : decode cX0_init 69 = .ok (.bipush 24, 2) := by decide +kernel
theorem dX0_init_71 : decode cX0_init 71 = .ok (.newarray .int, 2) := by decide +kernel
theorem dX0_init_73 : decode cX0_init 73 = .ok (.putfield 38, 3) := by decide +kernel
theorem dX0_init_76 : decode cX0_init 76 = .ok (.aload_n 0, 1) := by decide +kernel
theorem dX0_init_77 : decode cX0_init 77 = .ok (.bipush 8, 2) := by decide +kernel
theorem dX0_init_79 : decode cX0_init 79 = .ok (.newarray .int, 2) := by decide +kernel
theorem dX0_init_81 : decode cX0_init 81 = .ok (.putfield 41, 3) := by decide +kernel
theorem dX0_init_84 : decode cX0_init 84 = .ok (.return_, 1) := by decide +kernel
theorem dX0_arrange_0 : decode cX0_arrange 0 = .ok (.aload_n 1, 1) := by decide +kernel
theorem dX0_arrange_1 : decode cX0_arrange 1 = .ok (.getfield 44, 3) := by decide +kernel
theorem dX0_arrange_4 : decode cX0_arrange 4 = .ok (.astore_n 3, 1) := by decide +kernel
theorem dX0_arrange_5 : decode cX0_arrange 5 = .ok (.iconst 0, 1) := by decide +kernel
theorem dX0_arrange_6 : decode cX0_arrange 6 = .ok (.istore 4, 2) := by decide +kernel
theorem dX0_arrange_8 : decode cX0_arrange 8 = .ok (.iload 4, 2) := by decide +kernel
theorem dX0_arrange_10 : decode cX0_arrange 10 = .ok (.aload_n 3, 1) := by decide +kernel
theorem dX0_arrange_11 : decode cX0_arrange 11 = .ok (.getfield 50, 3) := by decide +kernel
theorem dX0_arrange_14 : decode cX0_arrange 14 = .ok (.if_icmp .ge 78, 3) := by decide +kernel
theorem dX0_arrange_17 : decode cX0_arrange 17 = .ok (.aload_n 3, 1) := by decide +kernel
theorem dX0_arrange_18 : decode cX0_arrange 18 = .ok (.getfield 54, 3) := by decide +kernel
theorem dX0_arrange_21 : decode cX0_arrange 21 = .ok (.aload_n 3, 1) := by decide +kernel
theorem dX0_arrange_22 : decode cX0_arrange 22 = .ok (.getfield 55, 3) := by decide +kernel
theorem dX0_arrange_25 : decode cX0_arrange 25 = .ok (.iload 4, 2) := by decide +kernel
theorem dX0_arrange_27 : decode cX0_arrange 27 = .ok (.iaload, 1) := by decide +kernel
theorem dX0_arrange_28 : decode cX0_arrange 28 = .ok (.iaload, 1) := by decide +kernel
theorem dX0_arrange_29 : decode cX0_arrange 29 = .ok (.iconst 4, 1) := by decide +kernel
theorem dX0_arrange_30 : decode cX0_arrange 30 = .ok (.if_icmp .ne 7, 3) := by decide +kernel
theorem dX0_arrange_33 : decode cX0_arrange 33 = .ok (.iconst 1, 1) := by decide +kernel
theorem dX0_arrange_34 : decode cX0_arrange 34 = .ok (.goto 4, 3) := by decide +kernel
theorem dX0_arrange_37 : decode cX0_arrange 37 = .ok (.iconst 0, 1) := by decide +kernel
theorem dX0_arrange_38 : decode cX0_arrange 38 = .ok (.istore 5, 2) := by decide +kernel
theorem dX0_arrange_40 : decode cX0_arrange 40 = .ok (.iload 5, 2) := by decide +kernel
theorem dX0_arrange_42 : decode cX0_arrange 42 = .ok (.ifCond .eq 14, 3) := by decide +kernel
theorem dX0_arrange_45 : decode cX0_arrange 45 = .ok (.aload_n 0, 1) := by decide +kernel
theorem dX0_arrange_46 : decode cX0_arrange 46 = .ok (.getfield 41, 3) := by decide +kernel
theorem dX0_arrange_49 : decode cX0_arrange 49 = .ok (.iload 4, 2) := by decide +kernel
theorem dX0_arrange_51 : decode cX0_arrange 51 = .ok (.iload_n 2, 1) := by decide +kernel
theorem dX0_arrange_52 : decode cX0_arrange 52 = .ok (.iastore, 1) := by decide +kernel
theorem dX0_arrange_53 : decode cX0_arrange 53 = .ok (.goto 33, 3) := by decide +kernel
theorem dX0_arrange_56 : decode cX0_arrange 56 = .ok (.aload_n 0, 1) := by decide +kernel
theorem dX0_arrange_57 : decode cX0_arrange 57 = .ok (.getfield 41, 3) := by decide +kernel
theorem dX0_arrange_60 : decode cX0_arrange 60 = .ok (.iload 4, 2) := by decide +kernel
theorem dX0_arrange_62 : decode cX0_arrange 62 = .ok (.aload_n 3, 1) := by decide +kernel
theorem dX0_arrange_63 : decode cX0_arrange 63 = .ok (.getfield 58, 3) := by decide +kernel
theorem dX0_arrange_66 : decode cX0_arrange 66 = .ok (.iload 4, 2) := by decide +kernel
theorem dX0_arrange_68 : decode cX0_arrange 68 = .ok (.iaload, 1) := by decide +kernel
theorem dX0_arrange_69 : decode cX0_arrange 69 = .ok (.iload_n 2, 1) := by decide +kernel
theorem dX0_arrange_70 : decode cX0_arrange 70 = .ok (.if_icmp .gt 13, 3) := by decide +kernel
theorem dX0_arrange_73 : decode cX0_arrange 73 = .ok (.aload_n 3, 1) := by decide +kernel
theorem dX0_arrange_74 : decode cX0_arrange 74 = .ok (.getfield 58, 3) := by decide +kernel
theorem dX0_arrange_77 : decode cX0_arrange 77 = .ok (.iload 4, 2) := by decide +kernel
theorem dX0_arrange_79 : decode cX0_arrange 79 = .ok (.iaload, 1) := by decide +kernel
theorem dX0_arrange_80 : decode cX0_arrange 80 = .ok (.goto 5, 3) := by decide +kernel
theorem dX0_arrange_83 : decode cX0_arrange 83 = .ok (.bipush (-4), 2) := by decide +kernel
theorem dX0_arrange_85 : decode cX0_arrange 85 = .ok (.iastore, 1) := by decide +kernel
theorem dX0_arrange_86 : decode cX0_arrange 86 = .ok (.iinc 4 1, 3) := by decide +kernel
theorem dX0_arrange_89 : decode cX0_arrange 89 = .ok (.goto (-81), 3) := by decide +kernel
theorem dX0_arrange_92 : decode cX0_arrange 92 = .ok (.aload_n 0, 1) := by decide +kernel
theorem dX0_arrange_93 : decode cX0_arrange 93 = .ok (.getfield 61, 3) := by decide +kernel
theorem dX0_arrange_96 : decode cX0_arrange 96 = .ok (.istore 4, 2) := by decide +kernel
theorem dX0_arrange_98 : decode cX0_arrange 98 = .ok (.aload_n 0, 1) := by decide +kernel
theorem dX0_arrange_99 : decode cX0_arrange 99 = .ok (.iconst 0, 1) := by decide +kernel
theorem dX0_arrange_100 : decode cX0_arrange 100 = .ok (.putfield 61, 3) := by decide +kernel
theorem dX0_arrange_103 : decode cX0_arrange 103 = .ok (.iconst 0, 1) := by decide +kernel
theorem dX0_arrange_104 : decode cX0_arrange 104 = .ok (.istore 5, 2) := by decide +kernel
theorem dX0_arrange_106 : decode cX0_arrange 106 = .ok (.iconst 0, 1) := by decide +kernel
theorem dX0_arrange_107 : decode cX0_arrange 107 = .ok (.istore 6, 2) := by decide +kernel
theorem dX0_arrange_109 : decode cX0_arrange 109 = .ok (.iload 6, 2) := by decide +kernel
theorem dX0_arrange_111 : decode cX0_arrange 111 = .ok (.iload_n 2, 1) := by decide +kernel
theorem dX0_arrange_112 : decode cX0_arrange 112 = .ok (.if_icmp .gt 86, 3) := by decide +kernel
theorem dX0_arrange_115 : decode cX0_arrange 115 = .ok (.iconst 0, 1) := by decide +kernel
theorem dX0_arrange_116 : decode cX0_arrange 116 = .ok (.istore 7, 2) := by decide +kernel
theorem dX0_arrange_118 : decode cX0_arrange 118 = .ok (.iload 7, 2) := by decide +kernel
theorem dX0_arrange_120 : decode cX0_arrange 120 = .ok (.aload_n 3, 1) := by decide +kernel
theorem dX0_arrange_121 : decode cX0_arrange 121 = .ok (.getfield 50, 3) := by decide +kernel
theorem dX0_arrange_124 : decode cX0_arrange 124 = .ok (.if_icmp .ge 68, 3) := by decide +kernel
theorem dX0_arrange_127 : decode cX0_arrange 127 = .ok (.aload_n 0, 1) := by decide +kernel
theorem dX0_arrange_128 : decode cX0_arrange 128 = .ok (.getfield 41, 3) := by decide +kernel
theorem dX0_arrange_131 : decode cX0_arrange 131 = .ok (.iload 7, 2) := by decide +kernel
theorem dX0_arrange_133 : decode cX0_arrange 133 = .ok (.iaload, 1) := by decide +kernel
theorem dX0_arrange_134 : decode cX0_arrange 134 = .ok (.iload 6, 2) := by decide +kernel
theorem dX0_arrange_136 : decode cX0_arrange 136 = .ok (.if_icmp .ne 50, 3) := by decide +kernel
theorem dX0_arrange_139 : decode cX0_arrange 139 = .ok (.aload_n 0, 1) := by decide +kernel
theorem dX0_arrange_140 : decode cX0_arrange 140 = .ok (.getfield 61, 3) := by decide +kernel
theorem dX0_arrange_143 : decode cX0_arrange 143 = .ok (.bipush 8, 2) := by decide +kernel
theorem dX0_arrange_145 : decode cX0_arrange 145 = .ok (.if_icmp .lt 6, 3) := by decide +kernel
theorem dX0_arrange_148 : decode cX0_arrange 148 = .ok (.goto 38, 3) := by decide +kernel
theorem dX0_arrange_151 : decode cX0_arrange 151 = .ok (.aload_n 0, 1) := by decide +kernel
theorem dX0_arrange_152 : decode cX0_arrange 152 = .ok (.getfield 61, 3) := by decide +kernel
theorem dX0_arrange_155 : decode cX0_arrange 155 = .ok (.iload 4, 2) := by decide +kernel
theorem dX0_arrange_157 : decode cX0_arrange 157 = .ok (.if_icmp .ge 17, 3) := by decide +kernel
theorem dX0_arrange_160 : decode cX0_arrange 160 = .ok (.aload_n 0, 1) := by decide +kernel
theorem dX0_arrange_161 : decode cX0_arrange 161 = .ok (.getfield 11, 3) := by decide +kernel
theorem dX0_arrange_164 : decode cX0_arrange 164 = .ok (.aload_n 0, 1) := by decide +kernel
theorem dX0_arrange_165 : decode cX0_arrange 165 = .ok (.getfield 61, 3) := by decide +kernel
theorem dX0_arrange_168 : decode cX0_arrange 168 = .ok (.iaload, 1) := by decide +kernel
theorem dX0_arrange_169 : decode cX0_arrange 169 = .ok (.iload 7, 2) := by decide +kernel
theorem dX0_arrange_171 : decode cX0_arrange 171 = .ok (.if_icmp .eq 6, 3) := by decide +kernel
theorem dX0_arrange_174 : decode cX0_arrange 174 = .ok (.iconst 1, 1) := by decide +kernel
theorem dX0_arrange_175 : decode cX0_arrange 175 = .ok (.istore 5, 2) := by decide +kernel
theorem dX0_arrange_177 : decode cX0_arrange 177 = .ok (.aload_n 0, 1) := by decide +kernel
theorem dX0_arrange_178 : decode cX0_arrange 178 = .ok (.aload_n 3, 1) := by decide +kernel
theorem dX0_arrange_179 : decode cX0_arrange 179 = .ok (.iload 7, 2) := by decide +kernel
theorem dX0_arrange_181 : decode cX0_arrange 181 = .ok (.iload 6, 2) := by decide +kernel
theorem dX0_arrange_183 : decode cX0_arrange 183 = .ok (.invokevirtual 64, 3) := by decide +kernel
theorem dX0_arrange_186 : decode cX0_arrange 186 = .ok (.iinc 7 1, 3) := by decide +kernel
theorem dX0_arrange_189 : decode cX0_arrange 189 = .ok (.goto (-71), 3) := by decide +kernel
theorem dX0_arrange_192 : decode cX0_arrange 192 = .ok (.iinc 6 1, 3) := by decide +kernel
theorem dX0_arrange_195 : decode cX0_arrange 195 = .ok (.goto (-86), 3) := by decide +kernel
theorem dX0_arrange_198 : decode cX0_arrange 198 = .ok (.iload 5, 2) := by decide +kernel
theorem dX0_arrange_200 : decode cX0_arrange 200 = .ok (.ifCond .ne 12, 3) := by decide +kernel
theorem dX0_arrange_203 : decode cX0_arrange 203 = .ok (.aload_n 0, 1) := by decide +kernel
theorem dX0_arrange_204 : decode cX0_arrange 204 = .ok (.getfield 61, 3) := by decide +kernel
theorem dX0_arrange_207 : decode cX0_arrange 207 = .ok (.iload 4, 2) := by decide +kernel
theorem dX0_arrange_209 : decode cX0_arrange 209 = .ok (.if_icmp .eq 7, 3) := by decide +kernel
theorem dX0_arrange_212 : decode cX0_arrange 212 = .ok (.iconst 1, 1) := by decide +kernel
theorem dX0_arrange_213 : decode cX0_arrange 213 = .ok (.goto 4, 3) := by decide +kernel
theorem dX0_arrange_216 : decode cX0_arrange 216 = .ok (.iconst 0, 1) := by decide +kernel
theorem dX0_arrange_217 : decode cX0_arrange 217 = .ok (.ireturn, 1) := by decide +kernel
theorem dX0_seat_0 : decode cX0_seat 0 = .ok (.aload_n 1, 1) := by decide +kernel
theorem dX0_seat_1 : decode cX0_seat 1 = .ok (.iload_n 2, 1) := by decide +kernel
theorem dX0_seat_2 : decode cX0_seat 2 = .ok (.invokevirtual 68, 3) := by decide +kernel
theorem dX0_seat_5 : decode cX0_seat 5 = .ok (.istore 4, 2) := by decide +kernel
theorem dX0_seat_7 : decode cX0_seat 7 = .ok (.aload_n 0, 1) := by decide +kernel
theorem dX0_seat_8 : decode cX0_seat 8 = .ok (.getfield 11, 3) := by decide +kernel
theorem dX0_seat_11 : decode cX0_seat 11 = .ok (.aload_n 0, 1) := by decide +kernel
theorem dX0_seat_12 : decode cX0_seat 12 = .ok (.getfield 61, 3) := by decide +kernel
theorem dX0_seat_15 : decode cX0_seat 15 = .ok (.iload_n 2, 1) := by decide +kernel
theorem dX0_seat_16 : decode cX0_seat 16 = .ok (.iastore, 1) := by decide +kernel
theorem dX0_seat_17 : decode cX0_seat 17 = .ok (.aload_n 0, 1) := by decide +kernel
theorem dX0_seat_18 : decode cX0_seat 18 = .ok (.getfield 17, 3) := by decide +kernel
theorem dX0_seat_21 : decode cX0_seat 21 = .ok (.aload_n 0, 1) := by decide +kernel
theorem dX0_seat_22 : decode cX0_seat 22 = .ok (.getfield 61, 3) := by decide +kernel
theorem dX0_seat_25 : decode cX0_seat 25 = .ok (.iload_n 3, 1) := by decide +kernel
theorem dX0_seat_26 : decode cX0_seat 26 = .ok (.iastore, 1) := by decide +kernel
theorem dX0_seat_27 : decode cX0_seat 27 = .ok (.aload_n 0, 1) := by decide +kernel
theorem dX0_seat_28 : decode cX0_seat 28 = .ok (.getfield 20, 3) := by decide +kernel
theorem dX0_seat_31 : decode cX0_seat 31 = .ok (.aload_n 0, 1) := by decide +kernel
theorem dX0_seat_32 : decode cX0_seat 32 = .ok (.getfield 61, 3) := by decide +kernel
theorem dX0_seat_35 : decode cX0_seat 35 = .ok (.aload_n 1, 1) := by decide +kernel
theorem dX0_seat_36 : decode cX0_seat 36 = .ok (.getfield 54, 3) := by decide +kernel
theorem dX0_seat_39 : decode cX0_seat 39 = .ok (.iload 4, 2) := by decide +kernel
theorem dX0_seat_41 : decode cX0_seat 41 = .ok (.iaload, 1) := by decide +kernel
theorem dX0_seat_42 : decode cX0_seat 42 = .ok (.iastore, 1) := by decide +kernel
theorem dX0_seat_43 : decode cX0_seat 43 = .ok (.aload_n 0, 1) := by decide +kernel
theorem dX0_seat_44 : decode cX0_seat 44 = .ok (.getfield 23, 3) := by decide +kernel
theorem dX0_seat_47 : decode cX0_seat 47 = .ok (.aload_n 0, 1) := by decide +kernel
theorem dX0_seat_48 : decode cX0_seat 48 = .ok (.getfield 61, 3) := by decide +kernel
theorem dX0_seat_51 : decode cX0_seat 51 = .ok (.aload_n 1, 1) := by decide +kernel
theorem dX0_seat_52 : decode cX0_seat 52 = .ok (.getfield 72, 3) := by decide +kernel
theorem dX0_seat_55 : decode cX0_seat 55 = .ok (.iload 4, 2) := by decide +kernel
theorem dX0_seat_57 : decode cX0_seat 57 = .ok (.iaload, 1) := by decide +kernel
theorem dX0_seat_58 : decode cX0_seat 58 = .ok (.iastore, 1) := by decide +kernel
theorem dX0_seat_59 : decode cX0_seat 59 = .ok (.aload_n 0, 1) := by decide +kernel
theorem dX0_seat_60 : decode cX0_seat 60 = .ok (.getfield 26, 3) := by decide +kernel
theorem dX0_seat_63 : decode cX0_seat 63 = .ok (.aload_n 0, 1) := by decide +kernel
theorem dX0_seat_64 : decode cX0_seat 64 = .ok (.getfield 61, 3) := by decide +kernel
theorem dX0_seat_67 : decode cX0_seat 67 = .ok (.aload_n 1, 1) := by decide +kernel
theorem dX0_seat_68 : decode cX0_seat 68 = .ok (.getfield 73, 3) := by decide +kernel
theorem dX0_seat_71 : decode cX0_seat 71 = .ok (.iload 4, 2) := by decide +kernel
theorem dX0_seat_73 : decode cX0_seat 73 = .ok (.iaload, 1) := by decide +kernel
theorem dX0_seat_74 : decode cX0_seat 74 = .ok (.iastore, 1) := by decide +kernel
theorem dX0_seat_75 : decode cX0_seat 75 = .ok (.aload_n 0, 1) := by decide +kernel
theorem dX0_seat_76 : decode cX0_seat 76 = .ok (.getfield 32, 3) := by decide +kernel
theorem dX0_seat_79 : decode cX0_seat 79 = .ok (.aload_n 0, 1) := by decide +kernel
theorem dX0_seat_80 : decode cX0_seat 80 = .ok (.getfield 61, 3) := by decide +kernel
theorem dX0_seat_83 : decode cX0_seat 83 = .ok (.aload_n 1, 1) := by decide +kernel
theorem dX0_seat_84 : decode cX0_seat 84 = .ok (.getfield 74, 3) := by decide +kernel
theorem dX0_seat_87 : decode cX0_seat 87 = .ok (.iload 4, 2) := by decide +kernel
theorem dX0_seat_89 : decode cX0_seat 89 = .ok (.iaload, 1) := by decide +kernel
theorem dX0_seat_90 : decode cX0_seat 90 = .ok (.iastore, 1) := by decide +kernel
theorem dX0_seat_91 : decode cX0_seat 91 = .ok (.aload_n 0, 1) := by decide +kernel
theorem dX0_seat_92 : decode cX0_seat 92 = .ok (.getfield 29, 3) := by decide +kernel
theorem dX0_seat_95 : decode cX0_seat 95 = .ok (.aload_n 0, 1) := by decide +kernel
theorem dX0_seat_96 : decode cX0_seat 96 = .ok (.getfield 61, 3) := by decide +kernel
theorem dX0_seat_99 : decode cX0_seat 99 = .ok (.iconst 0, 1) := by decide +kernel
theorem dX0_seat_100 : decode cX0_seat 100 = .ok (.iastore, 1) := by decide +kernel
theorem dX0_seat_101 : decode cX0_seat 101 = .ok (.iconst 0, 1) := by decide +kernel
theorem dX0_seat_102 : decode cX0_seat 102 = .ok (.istore 5, 2) := by decide +kernel
theorem dX0_seat_104 : decode cX0_seat 104 = .ok (.iload 5, 2) := by decide +kernel
theorem dX0_seat_106 : decode cX0_seat 106 = .ok (.aload_n 1, 1) := by decide +kernel
theorem dX0_seat_107 : decode cX0_seat 107 = .ok (.getfield 74, 3) := by decide +kernel
theorem dX0_seat_110 : decode cX0_seat 110 = .ok (.iload 4, 2) := by decide +kernel
theorem dX0_seat_112 : decode cX0_seat 112 = .ok (.iaload, 1) := by decide +kernel
theorem dX0_seat_113 : decode cX0_seat 113 = .ok (.if_icmp .ge 88, 3) := by decide +kernel
theorem dX0_seat_116 : decode cX0_seat 116 = .ok (.aload_n 1, 1) := by decide +kernel
theorem dX0_seat_117 : decode cX0_seat 117 = .ok (.getfield 75, 3) := by decide +kernel
theorem dX0_seat_120 : decode cX0_seat 120 = .ok (.iload 4, 2) := by decide +kernel
theorem dX0_seat_122 : decode cX0_seat 122 = .ok (.iconst 3, 1) := by decide +kernel
theorem dX0_seat_123 : decode cX0_seat 123 = .ok (.imul, 1) := by decide +kernel
theorem dX0_seat_124 : decode cX0_seat 124 = .ok (.iload 5, 2) := by decide +kernel
theorem dX0_seat_126 : decode cX0_seat 126 = .ok (.iadd, 1) := by decide +kernel
theorem dX0_seat_127 : decode cX0_seat 127 = .ok (.iaload, 1) := by decide +kernel
theorem dX0_seat_128 : decode cX0_seat 128 = .ok (.istore 6, 2) := by decide +kernel
theorem dX0_seat_130 : decode cX0_seat 130 = .ok (.aload_n 0, 1) := by decide +kernel
theorem dX0_seat_131 : decode cX0_seat 131 = .ok (.getfield 35, 3) := by decide +kernel
theorem dX0_seat_134 : decode cX0_seat 134 = .ok (.aload_n 0, 1) := by decide +kernel
theorem dX0_seat_135 : decode cX0_seat 135 = .ok (.getfield 61, 3) := by decide +kernel
theorem dX0_seat_138 : decode cX0_seat 138 = .ok (.iconst 3, 1) := by decide +kernel
theorem dX0_seat_139 : decode cX0_seat 139 = .ok (.imul, 1) := by decide +kernel
theorem dX0_seat_140 : decode cX0_seat 140 = .ok (.iload 5, 2) := by decide +kernel
theorem dX0_seat_142 : decode cX0_seat 142 = .ok (.iadd, 1) := by decide +kernel
theorem dX0_seat_143 : decode cX0_seat 143 = .ok (.iload 6, 2) := by decide +kernel
theorem dX0_seat_145 : decode cX0_seat 145 = .ok (.iastore, 1) := by decide +kernel
theorem dX0_seat_146 : decode cX0_seat 146 = .ok (.aload_n 0, 1) := by decide +kernel
theorem dX0_seat_147 : decode cX0_seat 147 = .ok (.getfield 38, 3) := by decide +kernel
theorem dX0_seat_150 : decode cX0_seat 150 = .ok (.aload_n 0, 1) := by decide +kernel
theorem dX0_seat_151 : decode cX0_seat 151 = .ok (.getfield 61, 3) := by decide +kernel
theorem dX0_seat_154 : decode cX0_seat 154 = .ok (.iconst 3, 1) := by decide +kernel
theorem dX0_seat_155 : decode cX0_seat 155 = .ok (.imul, 1) := by decide +kernel
theorem dX0_seat_156 : decode cX0_seat 156 = .ok (.iload 5, 2) := by decide +kernel
theorem dX0_seat_158 : decode cX0_seat 158 = .ok (.iadd, 1) := by decide +kernel
theorem dX0_seat_159 : decode cX0_seat 159 = .ok (.aload_n 1, 1) := by decide +kernel
theorem dX0_seat_160 : decode cX0_seat 160 = .ok (.getfield 76, 3) := by decide +kernel
theorem dX0_seat_163 : decode cX0_seat 163 = .ok (.iload 4, 2) := by decide +kernel
theorem dX0_seat_165 : decode cX0_seat 165 = .ok (.iconst 3, 1) := by decide +kernel
theorem dX0_seat_166 : decode cX0_seat 166 = .ok (.imul, 1) := by decide +kernel
theorem dX0_seat_167 : decode cX0_seat 167 = .ok (.iload 5, 2) := by decide +kernel
theorem dX0_seat_169 : decode cX0_seat 169 = .ok (.iadd, 1) := by decide +kernel
theorem dX0_seat_170 : decode cX0_seat 170 = .ok (.iaload, 1) := by decide +kernel
theorem dX0_seat_171 : decode cX0_seat 171 = .ok (.iastore, 1) := by decide +kernel
theorem dX0_seat_172 : decode cX0_seat 172 = .ok (.aload_n 0, 1) := by decide +kernel
theorem dX0_seat_173 : decode cX0_seat 173 = .ok (.getfield 29, 3) := by decide +kernel
theorem dX0_seat_176 : decode cX0_seat 176 = .ok (.aload_n 0, 1) := by decide +kernel
theorem dX0_seat_177 : decode cX0_seat 177 = .ok (.getfield 61, 3) := by decide +kernel
theorem dX0_seat_180 : decode cX0_seat 180 = .ok (.aload_n 0, 1) := by decide +kernel
theorem dX0_seat_181 : decode cX0_seat 181 = .ok (.getfield 29, 3) := by decide +kernel
theorem dX0_seat_184 : decode cX0_seat 184 = .ok (.aload_n 0, 1) := by decide +kernel
theorem dX0_seat_185 : decode cX0_seat 185 = .ok (.getfield 61, 3) := by decide +kernel
theorem dX0_seat_188 : decode cX0_seat 188 = .ok (.iaload, 1) := by decide +kernel
theorem dX0_seat_189 : decode cX0_seat 189 = .ok (.iload 6, 2) := by decide +kernel
theorem dX0_seat_191 : decode cX0_seat 191 = .ok (.invokestatic 77, 3) := by decide +kernel
theorem dX0_seat_194 : decode cX0_seat 194 = .ok (.iastore, 1) := by decide +kernel
theorem dX0_seat_195 : decode cX0_seat 195 = .ok (.iinc 5 1, 3) := by decide +kernel
theorem dX0_seat_198 : decode cX0_seat 198 = .ok (.goto (-94), 3) := by decide +kernel
theorem dX0_seat_201 : decode cX0_seat 201 = .ok (.aload_n 0, 1) := by decide +kernel
theorem dX0_seat_202 : decode cX0_seat 202 = .ok (.dup, 1) := by decide +kernel
theorem dX0_seat_203 : decode cX0_seat 203 = .ok (.getfield 61, 3) := by decide +kernel
theorem dX0_seat_206 : decode cX0_seat 206 = .ok (.iconst 1, 1) := by decide +kernel
theorem dX0_seat_207 : decode cX0_seat 207 = .ok (.iadd, 1) := by decide +kernel
theorem dX0_seat_208 : decode cX0_seat 208 = .ok (.putfield 61, 3) := by decide +kernel
theorem dX0_seat_211 : decode cX0_seat 211 = .ok (.return_, 1) := by decide +kernel
theorem dX0_placeOf_0 : decode cX0_placeOf 0 = .ok (.iconst 0, 1) := by decide +kernel
theorem dX0_placeOf_1 : decode cX0_placeOf 1 = .ok (.istore_n 2, 1) := by decide +kernel
theorem dX0_placeOf_2 : decode cX0_placeOf 2 = .ok (.iload_n 2, 1) := by decide +kernel
theorem dX0_placeOf_3 : decode cX0_placeOf 3 = .ok (.aload_n 0, 1) := by decide +kernel
theorem dX0_placeOf_4 : decode cX0_placeOf 4 = .ok (.getfield 61, 3) := by decide +kernel
theorem dX0_placeOf_7 : decode cX0_placeOf 7 = .ok (.if_icmp .ge 21, 3) := by decide +kernel
theorem dX0_placeOf_10 : decode cX0_placeOf 10 = .ok (.aload_n 0, 1) := by decide +kernel
theorem dX0_placeOf_11 : decode cX0_placeOf 11 = .ok (.getfield 11, 3) := by decide +kernel
theorem dX0_placeOf_14 : decode cX0_placeOf 14 = .ok (.iload_n 2, 1) := by decide +kernel
theorem dX0_placeOf_15 : decode cX0_placeOf 15 = .ok (.iaload, 1) := by decide +kernel
theorem dX0_placeOf_16 : decode cX0_placeOf 16 = .ok (.iload_n 1, 1) := by decide +kernel
theorem dX0_placeOf_17 : decode cX0_placeOf 17 = .ok (.if_icmp .ne 5, 3) := by decide +kernel
theorem dX0_placeOf_20 : decode cX0_placeOf 20 = .ok (.iload_n 2, 1) := by decide +kernel
theorem dX0_placeOf_21 : decode cX0_placeOf 21 = .ok (.ireturn, 1) := by decide +kernel
theorem dX0_placeOf_22 : decode cX0_placeOf 22 = .ok (.iinc 2 1, 3) := by decide +kernel
theorem dX0_placeOf_25 : decode cX0_placeOf 25 = .ok (.goto (-23), 3) := by decide +kernel
theorem dX0_placeOf_28 : decode cX0_placeOf 28 = .ok (.bipush (-4), 2) := by decide +kernel
theorem dX0_placeOf_30 : decode cX0_placeOf 30 = .ok (.ireturn, 1) := by decide +kernel
theorem dX0_comeBy_0 : decode cX0_comeBy 0 = .ok (.iconst 0, 1) := by decide +kernel
theorem dX0_comeBy_1 : decode cX0_comeBy 1 = .ok (.istore_n 2, 1) := by decide +kernel
theorem dX0_comeBy_2 : decode cX0_comeBy 2 = .ok (.iconst 0, 1) := by decide +kernel
theorem dX0_comeBy_3 : decode cX0_comeBy 3 = .ok (.istore_n 3, 1) := by decide +kernel
theorem dX0_comeBy_4 : decode cX0_comeBy 4 = .ok (.iload_n 3, 1) := by decide +kernel
theorem dX0_comeBy_5 : decode cX0_comeBy 5 = .ok (.aload_n 0, 1) := by decide +kernel
theorem dX0_comeBy_6 : decode cX0_comeBy 6 = .ok (.getfield 61, 3) := by decide +kernel
theorem dX0_comeBy_9 : decode cX0_comeBy 9 = .ok (.if_icmp .ge 22, 3) := by decide +kernel
theorem dX0_comeBy_12 : decode cX0_comeBy 12 = .ok (.aload_n 0, 1) := by decide +kernel
theorem dX0_comeBy_13 : decode cX0_comeBy 13 = .ok (.getfield 17, 3) := by decide +kernel
theorem dX0_comeBy_16 : decode cX0_comeBy 16 = .ok (.iload_n 3, 1) := by decide +kernel
theorem dX0_comeBy_17 : decode cX0_comeBy 17 = .ok (.iaload, 1) := by decide +kernel
theorem dX0_comeBy_18 : decode cX0_comeBy 18 = .ok (.iload_n 1, 1) := by decide +kernel
theorem dX0_comeBy_19 : decode cX0_comeBy 19 = .ok (.if_icmp .gt 6, 3) := by decide +kernel
theorem dX0_comeBy_22 : decode cX0_comeBy 22 = .ok (.iinc 2 1, 3) := by decide +kernel
theorem dX0_comeBy_25 : decode cX0_comeBy 25 = .ok (.iinc 3 1, 3) := by decide +kernel
theorem dX0_comeBy_28 : decode cX0_comeBy 28 = .ok (.goto (-24), 3) := by decide +kernel
theorem dX0_comeBy_31 : decode cX0_comeBy 31 = .ok (.iload_n 2, 1) := by decide +kernel
theorem dX0_comeBy_32 : decode cX0_comeBy 32 = .ok (.ireturn, 1) := by decide +kernel
theorem dX0_allWays_0 : decode cX0_allWays 0 = .ok (.aload_n 0, 1) := by decide +kernel
theorem dX0_allWays_1 : decode cX0_allWays 1 = .ok (.getfield 61, 3) := by decide +kernel
theorem dX0_allWays_4 : decode cX0_allWays 4 = .ok (.invokestatic 83, 3) := by decide +kernel
theorem dX0_allWays_7 : decode cX0_allWays 7 = .ok (.lreturn, 1) := by decide +kernel
theorem dX0_waysOfAbsent_0 : decode cX0_waysOfAbsent 0 = .ok (.bipush 8, 2) := by decide +kernel
theorem dX0_waysOfAbsent_2 : decode cX0_waysOfAbsent 2 = .ok (.aload_n 0, 1) := by decide +kernel
theorem dX0_waysOfAbsent_3 : decode cX0_waysOfAbsent 3 = .ok (.getfield 61, 3) := by decide +kernel
theorem dX0_waysOfAbsent_6 : decode cX0_waysOfAbsent 6 = .ok (.isub, 1) := by decide +kernel
theorem dX0_waysOfAbsent_7 : decode cX0_waysOfAbsent 7 = .ok (.invokestatic 83, 3) := by decide +kernel
theorem dX0_waysOfAbsent_10 : decode cX0_waysOfAbsent 10 = .ok (.lreturn, 1) := by decide +kernel
theorem dX0_power_0 : decode cX0_power 0 = .ok (.lconst 1, 1) := by decide +kernel
theorem dX0_power_1 : decode cX0_power 1 = .ok (.lstore_n 1, 1) := by decide +kernel
theorem dX0_power_2 : decode cX0_power 2 = .ok (.iconst 0, 1) := by decide +kernel
theorem dX0_power_3 : decode cX0_power 3 = .ok (.istore_n 3, 1) := by decide +kernel
theorem dX0_power_4 : decode cX0_power 4 = .ok (.iload_n 3, 1) := by decide +kernel
theorem dX0_power_5 : decode cX0_power 5 = .ok (.iload_n 0, 1) := by decide +kernel
theorem dX0_power_6 : decode cX0_power 6 = .ok (.if_icmp .ge 15, 3) := by decide +kernel
theorem dX0_power_9 : decode cX0_power 9 = .ok (.lload_n 1, 1) := by decide +kernel
theorem dX0_power_10 : decode cX0_power 10 = .ok (.ldc2_w 87, 3) := by decide +kernel
theorem dX0_power_13 : decode cX0_power 13 = .ok (.lmul, 1) := by decide +kernel
theorem dX0_power_14 : decode cX0_power 14 = .ok (.lstore_n 1, 1) := by decide +kernel
theorem dX0_power_15 : decode cX0_power 15 = .ok (.iinc 3 1, 3) := by decide +kernel
theorem dX0_power_18 : decode cX0_power 18 = .ok (.goto (-14), 3) := by decide +kernel
theorem dX0_power_21 : decode cX0_power 21 = .ok (.lload_n 1, 1) := by decide +kernel
theorem dX0_power_22 : decode cX0_power 22 = .ok (.lreturn, 1) := by decide +kernel
theorem dX0_worthBy_0 : decode cX0_worthBy 0 = .ok (.iload_n 1, 1) := by decide +kernel
theorem dX0_worthBy_1 : decode cX0_worthBy 1 = .ok (.ifCond .lt 11, 3) := by decide +kernel
theorem dX0_worthBy_4 : decode cX0_worthBy 4 = .ok (.iload_n 1, 1) := by decide +kernel
theorem dX0_worthBy_5 : decode cX0_worthBy 5 = .ok (.aload_n 0, 1) := by decide +kernel
theorem dX0_worthBy_6 : decode cX0_worthBy 6 = .ok (.getfield 61, 3) := by decide +kernel
theorem dX0_worthBy_9 : decode cX0_worthBy 9 = .ok (.if_icmp .lt 5, 3) := by decide +kernel
theorem dX0_worthBy_12 : decode cX0_worthBy 12 = .ok (.iconst 0, 1) := by decide +kernel
theorem dX0_worthBy_13 : decode cX0_worthBy 13 = .ok (.ireturn, 1) := by decide +kernel
theorem dX0_worthBy_14 : decode cX0_worthBy 14 = .ok (.iconst 0, 1) := by decide +kernel
theorem dX0_worthBy_15 : decode cX0_worthBy 15 = .ok (.istore_n 3, 1) := by decide +kernel
theorem dX0_worthBy_16 : decode cX0_worthBy 16 = .ok (.iconst 0, 1) := by decide +kernel
theorem dX0_worthBy_17 : decode cX0_worthBy 17 = .ok (.istore 4, 2) := by decide +kernel
theorem dX0_worthBy_19 : decode cX0_worthBy 19 = .ok (.iload 4, 2) := by decide +kernel
theorem dX0_worthBy_21 : decode cX0_worthBy 21 = .ok (.aload_n 0, 1) := by decide +kernel
theorem dX0_worthBy_22 : decode cX0_worthBy 22 = .ok (.getfield 32, 3) := by decide +kernel
theorem dX0_worthBy_25 : decode cX0_worthBy 25 = .ok (.iload_n 1, 1) := by decide +kernel
theorem dX0_worthBy_26 : decode cX0_worthBy 26 = .ok (.iaload, 1) := by decide +kernel
theorem dX0_worthBy_27 : decode cX0_worthBy 27 = .ok (.if_icmp .ge 40, 3) := by decide +kernel
theorem dX0_worthBy_30 : decode cX0_worthBy 30 = .ok (.iload_n 3, 1) := by decide +kernel
theorem dX0_worthBy_31 : decode cX0_worthBy 31 = .ok (.aload_n 0, 1) := by decide +kernel
theorem dX0_worthBy_32 : decode cX0_worthBy 32 = .ok (.getfield 38, 3) := by decide +kernel
theorem dX0_worthBy_35 : decode cX0_worthBy 35 = .ok (.iload_n 1, 1) := by decide +kernel
theorem dX0_worthBy_36 : decode cX0_worthBy 36 = .ok (.iconst 3, 1) := by decide +kernel
theorem dX0_worthBy_37 : decode cX0_worthBy 37 = .ok (.imul, 1) := by decide +kernel
theorem dX0_worthBy_38 : decode cX0_worthBy 38 = .ok (.iload 4, 2) := by decide +kernel
theorem dX0_worthBy_40 : decode cX0_worthBy 40 = .ok (.iadd, 1) := by decide +kernel
theorem dX0_worthBy_41 : decode cX0_worthBy 41 = .ok (.iaload, 1) := by decide +kernel
theorem dX0_worthBy_42 : decode cX0_worthBy 42 = .ok (.iadd, 1) := by decide +kernel
theorem dX0_worthBy_43 : decode cX0_worthBy 43 = .ok (.istore_n 3, 1) := by decide +kernel
theorem dX0_worthBy_44 : decode cX0_worthBy 44 = .ok (.iload_n 2, 1) := by decide +kernel
theorem dX0_worthBy_45 : decode cX0_worthBy 45 = .ok (.iload_n 3, 1) := by decide +kernel
theorem dX0_worthBy_46 : decode cX0_worthBy 46 = .ok (.if_icmp .ge 15, 3) := by decide +kernel
theorem dX0_worthBy_49 : decode cX0_worthBy 49 = .ok (.aload_n 0, 1) := by decide +kernel
theorem dX0_worthBy_50 : decode cX0_worthBy 50 = .ok (.getfield 35, 3) := by decide +kernel
theorem dX0_worthBy_53 : decode cX0_worthBy 53 = .ok (.iload_n 1, 1) := by decide +kernel
theorem dX0_worthBy_54 : decode cX0_worthBy 54 = .ok (.iconst 3, 1) := by decide +kernel
theorem dX0_worthBy_55 : decode cX0_worthBy 55 = .ok (.imul, 1) := by decide +kernel
theorem dX0_worthBy_56 : decode cX0_worthBy 56 = .ok (.iload 4, 2) := by decide +kernel
theorem dX0_worthBy_58 : decode cX0_worthBy 58 = .ok (.iadd, 1) := by decide +kernel
theorem dX0_worthBy_59 : decode cX0_worthBy 59 = .ok (.iaload, 1) := by decide +kernel
theorem dX0_worthBy_60 : decode cX0_worthBy 60 = .ok (.ireturn, 1) := by decide +kernel
theorem dX0_worthBy_61 : decode cX0_worthBy 61 = .ok (.iinc 4 1, 3) := by decide +kernel
theorem dX0_worthBy_64 : decode cX0_worthBy 64 = .ok (.goto (-45), 3) := by decide +kernel
theorem dX0_worthBy_67 : decode cX0_worthBy 67 = .ok (.iconst 0, 1) := by decide +kernel
theorem dX0_worthBy_68 : decode cX0_worthBy 68 = .ok (.ireturn, 1) := by decide +kernel
theorem dX1_init_0 : decode cX1_init 0 = .ok (.aload_n 0, 1) := by decide +kernel
theorem dX1_init_1 : decode cX1_init 1 = .ok (.invokespecial 1, 3) := by decide +kernel
theorem dX1_init_4 : decode cX1_init 4 = .ok (.aload_n 0, 1) := by decide +kernel
theorem dX1_init_5 : decode cX1_init 5 = .ok (.new 7, 3) := by decide +kernel
theorem dX1_init_8 : decode cX1_init 8 = .ok (.dup, 1) := by decide +kernel
theorem dX1_init_9 : decode cX1_init 9 = .ok (.invokespecial 9, 3) := by decide +kernel
theorem dX1_init_12 : decode cX1_init 12 = .ok (.putfield 10, 3) := by decide +kernel
theorem dX1_init_15 : decode cX1_init 15 = .ok (.aload_n 0, 1) := by decide +kernel
theorem dX1_init_16 : decode cX1_init 16 = .ok (.new 16, 3) := by decide +kernel
theorem dX1_init_19 : decode cX1_init 19 = .ok (.dup, 1) := by decide +kernel
theorem dX1_init_20 : decode cX1_init 20 = .ok (.invokespecial 18, 3) := by decide +kernel
theorem dX1_init_23 : decode cX1_init 23 = .ok (.putfield 19, 3) := by decide +kernel
theorem dX1_init_26 : decode cX1_init 26 = .ok (.aload_n 0, 1) := by decide +kernel
theorem dX1_init_27 : decode cX1_init 27 = .ok (.bipush 8, 2) := by decide +kernel
theorem dX1_init_29 : decode cX1_init 29 = .ok (.newarray .int, 2) := by decide +kernel
theorem dX1_init_31 : decode cX1_init 31 = .ok (.putfield 25, 3) := by decide +kernel
theorem dX1_init_34 : decode cX1_init 34 = .ok (.aload_n 0, 1) := by decide +kernel
theorem dX1_init_35 : decode cX1_init 35 = .ok (.bipush 9, 2) := by decide +kernel
theorem dX1_init_37 : decode cX1_init 37 = .ok (.newarray .int, 2) := by decide +kernel
theorem dX1_init_39 : decode cX1_init 39 = .ok (.putfield 29, 3) := by decide +kernel
theorem dX1_init_42 : decode cX1_init 42 = .ok (.aload_n 0, 1) := by decide +kernel
theorem dX1_init_43 : decode cX1_init 43 = .ok (.bipush 9, 2) := by decide +kernel
theorem dX1_init_45 : decode cX1_init 45 = .ok (.newarray .int, 2) := by decide +kernel
theorem dX1_init_47 : decode cX1_init 47 = .ok (.putfield 32, 3) := by decide +kernel
theorem dX1_init_50 : decode cX1_init 50 = .ok (.aload_n 0, 1) := by decide +kernel
theorem dX1_init_51 : decode cX1_init 51 = .ok (.bipush 9, 2) := by decide +kernel
theorem dX1_init_53 : decode cX1_init 53 = .ok (.newarray .int, 2) := by decide +kernel
theorem dX1_init_55 : decode cX1_init 55 = .ok (.putfield 35, 3) := by decide +kernel
theorem dX1_init_58 : decode cX1_init 58 = .ok (.return_, 1) := by decide +kernel
theorem dX1_set_0 : decode cX1_set 0 = .ok (.aload_n 0, 1) := by decide +kernel
theorem dX1_set_1 : decode cX1_set 1 = .ok (.aload_n 1, 1) := by decide +kernel
theorem dX1_set_2 : decode cX1_set 2 = .ok (.putfield 10, 3) := by decide +kernel
theorem dX1_set_5 : decode cX1_set 5 = .ok (.aload_n 0, 1) := by decide +kernel
theorem dX1_set_6 : decode cX1_set 6 = .ok (.aload_n 2, 1) := by decide +kernel
theorem dX1_set_7 : decode cX1_set 7 = .ok (.putfield 19, 3) := by decide +kernel
theorem dX1_set_10 : decode cX1_set 10 = .ok (.aload_n 0, 1) := by decide +kernel
theorem dX1_set_11 : decode cX1_set 11 = .ok (.iload_n 3, 1) := by decide +kernel
theorem dX1_set_12 : decode cX1_set 12 = .ok (.putfield 38, 3) := by decide +kernel
theorem dX1_set_15 : decode cX1_set 15 = .ok (.aload_n 0, 1) := by decide +kernel
theorem dX1_set_16 : decode cX1_set 16 = .ok (.aload_n 0, 1) := by decide +kernel
theorem dX1_set_17 : decode cX1_set 17 = .ok (.getfield 10, 3) := by decide +kernel
theorem dX1_set_20 : decode cX1_set 20 = .ok (.getfield 42, 3) := by decide +kernel
theorem dX1_set_23 : decode cX1_set 23 = .ok (.putfield 45, 3) := by decide +kernel
theorem dX1_set_26 : decode cX1_set 26 = .ok (.aload_n 0, 1) := by decide +kernel
theorem dX1_set_27 : decode cX1_set 27 = .ok (.aload_n 0, 1) := by decide +kernel
theorem dX1_set_28 : decode cX1_set 28 = .ok (.getfield 10, 3) := by decide +kernel
theorem dX1_set_31 : decode cX1_set 31 = .ok (.getfield 46, 3) := by decide +kernel
theorem dX1_set_34 : decode cX1_set 34 = .ok (.putfield 49, 3) := by decide +kernel
theorem dX1_set_37 : decode cX1_set 37 = .ok (.aload_n 0, 1) := by decide +kernel
theorem dX1_set_38 : decode cX1_set 38 = .ok (.iconst 0, 1) := by decide +kernel
theorem dX1_set_39 : decode cX1_set 39 = .ok (.putfield 50, 3) := by decide +kernel
theorem dX1_set_42 : decode cX1_set 42 = .ok (.aload_n 0, 1) := by decide +kernel
theorem dX1_set_43 : decode cX1_set 43 = .ok (.iconst (-1), 1) := by decide +kernel
theorem dX1_set_44 : decode cX1_set 44 = .ok (.putfield 53, 3) := by decide +kernel
theorem dX1_set_47 : decode cX1_set 47 = .ok (.return_, 1) := by decide +kernel
theorem dX1_whoCome_0 : decode cX1_whoCome 0 = .ok (.aload_n 0, 1) := by decide +kernel
theorem dX1_whoCome_1 : decode cX1_whoCome 1 = .ok (.getfield 19, 3) := by decide +kernel
theorem dX1_whoCome_4 : decode cX1_whoCome 4 = .ok (.areturn, 1) := by decide +kernel
theorem dX1_cost_0 : decode cX1_cost 0 = .ok (.aload_n 0, 1) := by decide +kernel
theorem dX1_cost_1 : decode cX1_cost 1 = .ok (.getfield 10, 3) := by decide +kernel
theorem dX1_cost_4 : decode cX1_cost 4 = .ok (.getfield 56, 3) := by decide +kernel
theorem dX1_cost_7 : decode cX1_cost 7 = .ok (.ireturn, 1) := by decide +kernel
theorem dX1_play_0 : decode cX1_play 0 = .ok (.iload_n 1, 1) := by decide +kernel
theorem dX1_play_1 : decode cX1_play 1 = .ok (.ifCond .lt 14, 3) := by decide +kernel
theorem dX1_play_4 : decode cX1_play 4 = .ok (.iload_n 1, 1) := by decide +kernel
theorem dX1_play_5 : decode cX1_play 5 = .ok (.aload_n 0, 1) := by decide +kernel
theorem dX1_play_6 : decode cX1_play 6 = .ok (.getfield 19, 3) := by decide +kernel
theorem dX1_play_9 : decode cX1_play 9 = .ok (.getfield 59, 3) := by decide +kernel
theorem dX1_play_12 : decode cX1_play 12 = .ok (.if_icmp .lt 4, 3) := by decide +kernel
theorem dX1_play_15 : decode cX1_play 15 = .ok (.return_, 1) := by decide +kernel
theorem dX1_play_16 : decode cX1_play 16 = .ok (.aload_n 0, 1) := by decide +kernel
theorem dX1_play_17 : decode cX1_play 17 = .ok (.iload_n 1, 1) := by decide +kernel
theorem dX1_play_18 : decode cX1_play 18 = .ok (.iload_n 2, 1) := by decide +kernel
theorem dX1_play_19 : decode cX1_play 19 = .ok (.aload_n 0, 1) := by decide +kernel
theorem dX1_play_20 : decode cX1_play 20 = .ok (.getfield 29, 3) := by decide +kernel
theorem dX1_play_23 : decode cX1_play 23 = .ok (.iload_n 1, 1) := by decide +kernel
theorem dX1_play_24 : decode cX1_play 24 = .ok (.iaload, 1) := by decide +kernel
theorem dX1_play_25 : decode cX1_play 25 = .ok (.invokevirtual 62, 3) := by decide +kernel
theorem dX1_play_28 : decode cX1_play 28 = .ok (.istore_n 3, 1) := by decide +kernel
theorem dX1_play_29 : decode cX1_play 29 = .ok (.aload_n 0, 1) := by decide +kernel
theorem dX1_play_30 : decode cX1_play 30 = .ok (.getfield 25, 3) := by decide +kernel
theorem dX1_play_33 : decode cX1_play 33 = .ok (.iload_n 1, 1) := by decide +kernel
theorem dX1_play_34 : decode cX1_play 34 = .ok (.iload_n 3, 1) := by decide +kernel
theorem dX1_play_35 : decode cX1_play 35 = .ok (.iastore, 1) := by decide +kernel
theorem dX1_play_36 : decode cX1_play 36 = .ok (.aload_n 0, 1) := by decide +kernel
theorem dX1_play_37 : decode cX1_play 37 = .ok (.getfield 29, 3) := by decide +kernel
theorem dX1_play_40 : decode cX1_play 40 = .ok (.iload_n 1, 1) := by decide +kernel
theorem dX1_play_41 : decode cX1_play 41 = .ok (.iconst 1, 1) := by decide +kernel
theorem dX1_play_42 : decode cX1_play 42 = .ok (.iadd, 1) := by decide +kernel
theorem dX1_play_43 : decode cX1_play 43 = .ok (.aload_n 0, 1) := by decide +kernel
theorem dX1_play_44 : decode cX1_play 44 = .ok (.getfield 29, 3) := by decide +kernel
theorem dX1_play_47 : decode cX1_play 47 = .ok (.iload_n 1, 1) := by decide +kernel
theorem dX1_play_48 : decode cX1_play 48 = .ok (.iaload, 1) := by decide +kernel
theorem dX1_play_49 : decode cX1_play 49 = .ok (.iload_n 3, 1) := by decide +kernel
theorem dX1_play_50 : decode cX1_play 50 = .ok (.iadd, 1) := by decide +kernel
theorem dX1_play_51 : decode cX1_play 51 = .ok (.iastore, 1) := by decide +kernel
theorem dX1_play_52 : decode cX1_play 52 = .ok (.iload_n 1, 1) := by decide +kernel
theorem dX1_play_53 : decode cX1_play 53 = .ok (.aload_n 0, 1) := by decide +kernel
theorem dX1_play_54 : decode cX1_play 54 = .ok (.getfield 53, 3) := by decide +kernel
theorem dX1_play_57 : decode cX1_play 57 = .ok (.if_icmp .ne 29, 3) := by decide +kernel
theorem dX1_play_60 : decode cX1_play 60 = .ok (.aload_n 0, 1) := by decide +kernel
theorem dX1_play_61 : decode cX1_play 61 = .ok (.getfield 29, 3) := by decide +kernel
theorem dX1_play_64 : decode cX1_play 64 = .ok (.iload_n 1, 1) := by decide +kernel
theorem dX1_play_65 : decode cX1_play 65 = .ok (.iconst 1, 1) := by decide +kernel
theorem dX1_play_66 : decode cX1_play 66 = .ok (.iadd, 1) := by decide +kernel
theorem dX1_play_67 : decode cX1_play 67 = .ok (.dup2, 1) := by decide +kernel
theorem dX1_play_68 : decode cX1_play 68 = .ok (.iaload, 1) := by decide +kernel
theorem dX1_play_69 : decode cX1_play 69 = .ok (.aload_n 0, 1) := by decide +kernel
theorem dX1_play_70 : decode cX1_play 70 = .ok (.getfield 29, 3) := by decide +kernel
theorem dX1_play_73 : decode cX1_play 73 = .ok (.iload_n 1, 1) := by decide +kernel
theorem dX1_play_74 : decode cX1_play 74 = .ok (.iconst 1, 1) := by decide +kernel
theorem dX1_play_75 : decode cX1_play 75 = .ok (.iadd, 1) := by decide +kernel
theorem dX1_play_76 : decode cX1_play 76 = .ok (.iaload, 1) := by decide +kernel
theorem dX1_play_77 : decode cX1_play 77 = .ok (.aload_n 0, 1) := by decide +kernel
theorem dX1_play_78 : decode cX1_play 78 = .ok (.getfield 50, 3) := by decide +kernel
theorem dX1_play_81 : decode cX1_play 81 = .ok (.invokestatic 66, 3) := by decide +kernel
theorem dX1_play_84 : decode cX1_play 84 = .ok (.iadd, 1) := by decide +kernel
theorem dX1_play_85 : decode cX1_play 85 = .ok (.iastore, 1) := by decide +kernel
theorem dX1_play_86 : decode cX1_play 86 = .ok (.aload_n 0, 1) := by decide +kernel
theorem dX1_play_87 : decode cX1_play 87 = .ok (.getfield 32, 3) := by decide +kernel
theorem dX1_play_90 : decode cX1_play 90 = .ok (.iload_n 1, 1) := by decide +kernel
theorem dX1_play_91 : decode cX1_play 91 = .ok (.iconst 1, 1) := by decide +kernel
theorem dX1_play_92 : decode cX1_play 92 = .ok (.iadd, 1) := by decide +kernel
theorem dX1_play_93 : decode cX1_play 93 = .ok (.aload_n 0, 1) := by decide +kernel
theorem dX1_play_94 : decode cX1_play 94 = .ok (.getfield 32, 3) := by decide +kernel
theorem dX1_play_97 : decode cX1_play 97 = .ok (.iload_n 1, 1) := by decide +kernel
theorem dX1_play_98 : decode cX1_play 98 = .ok (.iaload, 1) := by decide +kernel
theorem dX1_play_99 : decode cX1_play 99 = .ok (.iload_n 3, 1) := by decide +kernel
theorem dX1_play_100 : decode cX1_play 100 = .ok (.ifCond .le 7, 3) := by decide +kernel
theorem dX1_play_103 : decode cX1_play 103 = .ok (.iconst 1, 1) := by decide +kernel
theorem dX1_play_104 : decode cX1_play 104 = .ok (.goto 4, 3) := by decide +kernel
theorem dX1_play_107 : decode cX1_play 107 = .ok (.iconst 0, 1) := by decide +kernel
theorem dX1_play_108 : decode cX1_play 108 = .ok (.iadd, 1) := by decide +kernel
theorem dX1_play_109 : decode cX1_play 109 = .ok (.iastore, 1) := by decide +kernel
theorem dX1_play_110 : decode cX1_play 110 = .ok (.aload_n 0, 1) := by decide +kernel
theorem dX1_play_111 : decode cX1_play 111 = .ok (.getfield 10, 3) := by decide +kernel
theorem dX1_play_114 : decode cX1_play 114 = .ok (.getfield 72, 3) := by decide +kernel
theorem dX1_play_117 : decode cX1_play 117 = .ok (.ifCond .le 30, 3) := by decide +kernel
theorem dX1_play_120 : decode cX1_play 120 = .ok (.aload_n 0, 1) := by decide +kernel
theorem dX1_play_121 : decode cX1_play 121 = .ok (.getfield 35, 3) := by decide +kernel
theorem dX1_play_124 : decode cX1_play 124 = .ok (.iload_n 1, 1) := by decide +kernel
theorem dX1_play_125 : decode cX1_play 125 = .ok (.iconst 1, 1) := by decide +kernel
theorem dX1_play_126 : decode cX1_play 126 = .ok (.iadd, 1) := by decide +kernel
theorem dX1_play_127 : decode cX1_play 127 = .ok (.aload_n 0, 1) := by decide +kernel
theorem dX1_play_128 : decode cX1_play 128 = .ok (.getfield 35, 3) := by decide +kernel
theorem dX1_play_131 : decode cX1_play 131 = .ok (.iload_n 1, 1) := by decide +kernel
theorem dX1_play_132 : decode cX1_play 132 = .ok (.iaload, 1) := by decide +kernel
theorem dX1_play_133 : decode cX1_play 133 = .ok (.aload_n 0, 1) := by decide +kernel
theorem dX1_play_134 : decode cX1_play 134 = .ok (.iload_n 1, 1) := by decide +kernel
theorem dX1_play_135 : decode cX1_play 135 = .ok (.iload_n 2, 1) := by decide +kernel
theorem dX1_play_136 : decode cX1_play 136 = .ok (.aload_n 0, 1) := by decide +kernel
theorem dX1_play_137 : decode cX1_play 137 = .ok (.getfield 35, 3) := by decide +kernel
theorem dX1_play_140 : decode cX1_play 140 = .ok (.iload_n 1, 1) := by decide +kernel
theorem dX1_play_141 : decode cX1_play 141 = .ok (.iaload, 1) := by decide +kernel
theorem dX1_play_142 : decode cX1_play 142 = .ok (.invokevirtual 75, 3) := by decide +kernel
theorem dX1_play_145 : decode cX1_play 145 = .ok (.iadd, 1) := by decide +kernel
theorem dX1_play_146 : decode cX1_play 146 = .ok (.iastore, 1) := by decide +kernel
theorem dX1_play_147 : decode cX1_play 147 = .ok (.return_, 1) := by decide +kernel
theorem dX1_giftAt_0 : decode cX1_giftAt 0 = .ok (.iload_n 1, 1) := by decide +kernel
theorem dX1_giftAt_1 : decode cX1_giftAt 1 = .ok (.ifCond .lt 14, 3) := by decide +kernel
theorem dX1_giftAt_4 : decode cX1_giftAt 4 = .ok (.iload_n 1, 1) := by decide +kernel
theorem dX1_giftAt_5 : decode cX1_giftAt 5 = .ok (.aload_n 0, 1) := by decide +kernel
theorem dX1_giftAt_6 : decode cX1_giftAt 6 = .ok (.getfield 19, 3) := by decide +kernel
theorem dX1_giftAt_9 : decode cX1_giftAt 9 = .ok (.getfield 59, 3) := by decide +kernel
theorem dX1_giftAt_12 : decode cX1_giftAt 12 = .ok (.if_icmp .lt 5, 3) := by decide +kernel
theorem dX1_giftAt_15 : decode cX1_giftAt 15 = .ok (.iconst 0, 1) := by decide +kernel
theorem dX1_giftAt_16 : decode cX1_giftAt 16 = .ok (.ireturn, 1) := by decide +kernel
theorem dX1_giftAt_17 : decode cX1_giftAt 17 = .ok (.aload_n 0, 1) := by decide +kernel
theorem dX1_giftAt_18 : decode cX1_giftAt 18 = .ok (.getfield 19, 3) := by decide +kernel
theorem dX1_giftAt_21 : decode cX1_giftAt 21 = .ok (.getfield 78, 3) := by decide +kernel
theorem dX1_giftAt_24 : decode cX1_giftAt 24 = .ok (.iload_n 1, 1) := by decide +kernel
theorem dX1_giftAt_25 : decode cX1_giftAt 25 = .ok (.iaload, 1) := by decide +kernel
theorem dX1_giftAt_26 : decode cX1_giftAt 26 = .ok (.istore 4, 2) := by decide +kernel
theorem dX1_giftAt_28 : decode cX1_giftAt 28 = .ok (.iload_n 2, 1) := by decide +kernel
theorem dX1_giftAt_29 : decode cX1_giftAt 29 = .ok (.iload 4, 2) := by decide +kernel
theorem dX1_giftAt_31 : decode cX1_giftAt 31 = .ok (.invokestatic 66, 3) := by decide +kernel
theorem dX1_giftAt_34 : decode cX1_giftAt 34 = .ok (.istore 5, 2) := by decide +kernel
theorem dX1_giftAt_36 : decode cX1_giftAt 36 = .ok (.aload_n 0, 1) := by decide +kernel
theorem dX1_giftAt_37 : decode cX1_giftAt 37 = .ok (.aload_n 0, 1) := by decide +kernel
theorem dX1_giftAt_38 : decode cX1_giftAt 38 = .ok (.getfield 45, 3) := by decide +kernel
theorem dX1_giftAt_41 : decode cX1_giftAt 41 = .ok (.iload_n 3, 1) := by decide +kernel
theorem dX1_giftAt_42 : decode cX1_giftAt 42 = .ok (.invokevirtual 81, 3) := by decide +kernel
theorem dX1_giftAt_45 : decode cX1_giftAt 45 = .ok (.istore 6, 2) := by decide +kernel
theorem dX1_giftAt_47 : decode cX1_giftAt 47 = .ok (.aload_n 0, 1) := by decide +kernel
theorem dX1_giftAt_48 : decode cX1_giftAt 48 = .ok (.getfield 19, 3) := by decide +kernel
theorem dX1_giftAt_51 : decode cX1_giftAt 51 = .ok (.getfield 84, 3) := by decide +kernel
theorem dX1_giftAt_54 : decode cX1_giftAt 54 = .ok (.iload_n 1, 1) := by decide +kernel
theorem dX1_giftAt_55 : decode cX1_giftAt 55 = .ok (.iaload, 1) := by decide +kernel
theorem dX1_giftAt_56 : decode cX1_giftAt 56 = .ok (.istore 7, 2) := by decide +kernel
theorem dX1_giftAt_58 : decode cX1_giftAt 58 = .ok (.iload 7, 2) := by decide +kernel
theorem dX1_giftAt_60 : decode cX1_giftAt 60 = .ok (.iconst 5, 1) := by decide +kernel
theorem dX1_giftAt_61 : decode cX1_giftAt 61 = .ok (.if_icmp .ne 18, 3) := by decide +kernel
theorem dX1_giftAt_64 : decode cX1_giftAt 64 = .ok (.aload_n 0, 1) := by decide +kernel
theorem dX1_giftAt_65 : decode cX1_giftAt 65 = .ok (.getfield 19, 3) := by decide +kernel
theorem dX1_giftAt_68 : decode cX1_giftAt 68 = .ok (.getfield 87, 3) := by decide +kernel
theorem dX1_giftAt_71 : decode cX1_giftAt 71 = .ok (.iload_n 1, 1) := by decide +kernel
theorem dX1_giftAt_72 : decode cX1_giftAt 72 = .ok (.iaload, 1) := by decide +kernel
theorem dX1_giftAt_73 : decode cX1_giftAt 73 = .ok (.iload 4, 2) := by decide +kernel
theorem dX1_giftAt_75 : decode cX1_giftAt 75 = .ok (.invokestatic 66, 3) := by decide +kernel
theorem dX1_giftAt_78 : decode cX1_giftAt 78 = .ok (.ireturn, 1) := by decide +kernel
theorem dX1_giftAt_79 : decode cX1_giftAt 79 = .ok (.iload 7, 2) := by decide +kernel
theorem dX1_giftAt_81 : decode cX1_giftAt 81 = .ok (.iconst 3, 1) := by decide +kernel
theorem dX1_giftAt_82 : decode cX1_giftAt 82 = .ok (.if_icmp .ne 40, 3) := by decide +kernel
theorem dX1_giftAt_85 : decode cX1_giftAt 85 = .ok (.aload_n 0, 1) := by decide +kernel
theorem dX1_giftAt_86 : decode cX1_giftAt 86 = .ok (.getfield 19, 3) := by decide +kernel
theorem dX1_giftAt_89 : decode cX1_giftAt 89 = .ok (.getfield 90, 3) := by decide +kernel
theorem dX1_giftAt_92 : decode cX1_giftAt 92 = .ok (.iload_n 1, 1) := by decide +kernel
theorem dX1_giftAt_93 : decode cX1_giftAt 93 = .ok (.iaload, 1) := by decide +kernel
theorem dX1_giftAt_94 : decode cX1_giftAt 94 = .ok (.aload_n 0, 1) := by decide +kernel
theorem dX1_giftAt_95 : decode cX1_giftAt 95 = .ok (.getfield 10, 3) := by decide +kernel
theorem dX1_giftAt_98 : decode cX1_giftAt 98 = .ok (.getfield 93, 3) := by decide +kernel
theorem dX1_giftAt_101 : decode cX1_giftAt 101 = .ok (.if_icmp .gt 21, 3) := by decide +kernel
theorem dX1_giftAt_104 : decode cX1_giftAt 104 = .ok (.iload 6, 2) := by decide +kernel
theorem dX1_giftAt_106 : decode cX1_giftAt 106 = .ok (.iload 5, 2) := by decide +kernel
theorem dX1_giftAt_108 : decode cX1_giftAt 108 = .ok (.aload_n 0, 1) := by decide +kernel
theorem dX1_giftAt_109 : decode cX1_giftAt 109 = .ok (.getfield 49, 3) := by decide +kernel
theorem dX1_giftAt_112 : decode cX1_giftAt 112 = .ok (.iadd, 1) := by decide +kernel
theorem dX1_giftAt_113 : decode cX1_giftAt 113 = .ok (.iload 4, 2) := by decide +kernel
theorem dX1_giftAt_115 : decode cX1_giftAt 115 = .ok (.invokestatic 66, 3) := by decide +kernel
theorem dX1_giftAt_118 : decode cX1_giftAt 118 = .ok (.invokestatic 66, 3) := by decide +kernel
theorem dX1_giftAt_121 : decode cX1_giftAt 121 = .ok (.ireturn, 1) := by decide +kernel
theorem dX1_giftAt_122 : decode cX1_giftAt 122 = .ok (.iload 7, 2) := by decide +kernel
theorem dX1_giftAt_124 : decode cX1_giftAt 124 = .ok (.iload 5, 2) := by decide +kernel
theorem dX1_giftAt_126 : decode cX1_giftAt 126 = .ok (.iload 6, 2) := by decide +kernel
theorem dX1_giftAt_128 : decode cX1_giftAt 128 = .ok (.aload_n 0, 1) := by decide +kernel
theorem dX1_giftAt_129 : decode cX1_giftAt 129 = .ok (.getfield 19, 3) := by decide +kernel
theorem dX1_giftAt_132 : decode cX1_giftAt 132 = .ok (.getfield 59, 3) := by decide +kernel
theorem dX1_giftAt_135 : decode cX1_giftAt 135 = .ok (.iload_n 1, 1) := by decide +kernel
theorem dX1_giftAt_136 : decode cX1_giftAt 136 = .ok (.isub, 1) := by decide +kernel
theorem dX1_giftAt_137 : decode cX1_giftAt 137 = .ok (.invokestatic 96, 3) := by decide +kernel
theorem dX1_giftAt_140 : decode cX1_giftAt 140 = .ok (.ireturn, 1) := by decide +kernel
theorem dX1_secondGiftAt_0 : decode cX1_secondGiftAt 0 = .ok (.iload_n 2, 1) := by decide +kernel
theorem dX1_secondGiftAt_1 : decode cX1_secondGiftAt 1 = .ok (.aload_n 0, 1) := by decide +kernel
theorem dX1_secondGiftAt_2 : decode cX1_secondGiftAt 2 = .ok (.getfield 10, 3) := by decide +kernel
theorem dX1_secondGiftAt_5 : decode cX1_secondGiftAt 5 = .ok (.getfield 100, 3) := by decide +kernel
theorem dX1_secondGiftAt_8 : decode cX1_secondGiftAt 8 = .ok (.imul, 1) := by decide +kernel
theorem dX1_secondGiftAt_9 : decode cX1_secondGiftAt 9 = .ok (.bipush 100, 2) := by decide +kernel
theorem dX1_secondGiftAt_11 : decode cX1_secondGiftAt 11 = .ok (.idiv, 1) := by decide +kernel
theorem dX1_secondGiftAt_12 : decode cX1_secondGiftAt 12 = .ok (.aload_n 0, 1) := by decide +kernel
theorem dX1_secondGiftAt_13 : decode cX1_secondGiftAt 13 = .ok (.getfield 19, 3) := by decide +kernel
theorem dX1_secondGiftAt_16 : decode cX1_secondGiftAt 16 = .ok (.getfield 78, 3) := by decide +kernel
theorem dX1_secondGiftAt_19 : decode cX1_secondGiftAt 19 = .ok (.iload_n 1, 1) := by decide +kernel
theorem dX1_secondGiftAt_20 : decode cX1_secondGiftAt 20 = .ok (.iaload, 1) := by decide +kernel
theorem dX1_secondGiftAt_21 : decode cX1_secondGiftAt 21 = .ok (.aload_n 0, 1) := by decide +kernel
theorem dX1_secondGiftAt_22 : decode cX1_secondGiftAt 22 = .ok (.getfield 25, 3) := by decide +kernel
theorem dX1_secondGiftAt_25 : decode cX1_secondGiftAt 25 = .ok (.iload_n 1, 1) := by decide +kernel
theorem dX1_secondGiftAt_26 : decode cX1_secondGiftAt 26 = .ok (.iaload, 1) := by decide +kernel
theorem dX1_secondGiftAt_27 : decode cX1_secondGiftAt 27 = .ok (.isub, 1) := by decide +kernel
theorem dX1_secondGiftAt_28 : decode cX1_secondGiftAt 28 = .ok (.invokestatic 66, 3) := by decide +kernel
theorem dX1_secondGiftAt_31 : decode cX1_secondGiftAt 31 = .ok (.istore 4, 2) := by decide +kernel
theorem dX1_secondGiftAt_33 : decode cX1_secondGiftAt 33 = .ok (.aload_n 0, 1) := by decide +kernel
theorem dX1_secondGiftAt_34 : decode cX1_secondGiftAt 34 = .ok (.getfield 19, 3) := by decide +kernel
theorem dX1_secondGiftAt_37 : decode cX1_secondGiftAt 37 = .ok (.getfield 84, 3) := by decide +kernel
theorem dX1_secondGiftAt_40 : decode cX1_secondGiftAt 40 = .ok (.iload_n 1, 1) := by decide +kernel
theorem dX1_secondGiftAt_41 : decode cX1_secondGiftAt 41 = .ok (.iaload, 1) := by decide +kernel
theorem dX1_secondGiftAt_42 : decode cX1_secondGiftAt 42 = .ok (.iload 4, 2) := by decide +kernel
theorem dX1_secondGiftAt_44 : decode cX1_secondGiftAt 44 = .ok (.aload_n 0, 1) := by decide +kernel
theorem dX1_secondGiftAt_45 : decode cX1_secondGiftAt 45 = .ok (.aload_n 0, 1) := by decide +kernel
theorem dX1_secondGiftAt_46 : decode cX1_secondGiftAt 46 = .ok (.getfield 10, 3) := by decide +kernel
theorem dX1_secondGiftAt_49 : decode cX1_secondGiftAt 49 = .ok (.getfield 72, 3) := by decide +kernel
theorem dX1_secondGiftAt_52 : decode cX1_secondGiftAt 52 = .ok (.iload_n 3, 1) := by decide +kernel
theorem dX1_secondGiftAt_53 : decode cX1_secondGiftAt 53 = .ok (.invokevirtual 81, 3) := by decide +kernel
theorem dX1_secondGiftAt_56 : decode cX1_secondGiftAt 56 = .ok (.aload_n 0, 1) := by decide +kernel
theorem dX1_secondGiftAt_57 : decode cX1_secondGiftAt 57 = .ok (.getfield 19, 3) := by decide +kernel
theorem dX1_secondGiftAt_60 : decode cX1_secondGiftAt 60 = .ok (.getfield 59, 3) := by decide +kernel
theorem dX1_secondGiftAt_63 : decode cX1_secondGiftAt 63 = .ok (.iload_n 1, 1) := by decide +kernel
theorem dX1_secondGiftAt_64 : decode cX1_secondGiftAt 64 = .ok (.isub, 1) := by decide +kernel
theorem dX1_secondGiftAt_65 : decode cX1_secondGiftAt 65 = .ok (.invokestatic 96, 3) := by decide +kernel
theorem dX1_secondGiftAt_68 : decode cX1_secondGiftAt 68 = .ok (.ireturn, 1) := by decide +kernel
theorem dX1_lackOf_0 : decode cX1_lackOf 0 = .ok (.iload_n 2, 1) := by decide +kernel
theorem dX1_lackOf_1 : decode cX1_lackOf 1 = .ok (.istore_n 3, 1) := by decide +kernel
theorem dX1_lackOf_2 : decode cX1_lackOf 2 = .ok (.aload_n 0, 1) := by decide +kernel
theorem dX1_lackOf_3 : decode cX1_lackOf 3 = .ok (.getfield 38, 3) := by decide +kernel
theorem dX1_lackOf_6 : decode cX1_lackOf 6 = .ok (.iconst 1, 1) := by decide +kernel
theorem dX1_lackOf_7 : decode cX1_lackOf 7 = .ok (.if_icmp .ne 5, 3) := by decide +kernel
theorem dX1_lackOf_10 : decode cX1_lackOf 10 = .ok (.iconst 0, 1) := by decide +kernel
theorem dX1_lackOf_11 : decode cX1_lackOf 11 = .ok (.istore_n 3, 1) := by decide +kernel
theorem dX1_lackOf_12 : decode cX1_lackOf 12 = .ok (.aload_n 0, 1) := by decide +kernel
theorem dX1_lackOf_13 : decode cX1_lackOf 13 = .ok (.getfield 38, 3) := by decide +kernel
theorem dX1_lackOf_16 : decode cX1_lackOf 16 = .ok (.iconst 2, 1) := by decide +kernel
theorem dX1_lackOf_17 : decode cX1_lackOf 17 = .ok (.if_icmp .ne 11, 3) := by decide +kernel
theorem dX1_lackOf_20 : decode cX1_lackOf 20 = .ok (.iload_n 2, 1) := by decide +kernel
theorem dX1_lackOf_21 : decode cX1_lackOf 21 = .ok (.bipush 10, 2) := by decide +kernel
theorem dX1_lackOf_23 : decode cX1_lackOf 23 = .ok (.idiv, 1) := by decide +kernel
theorem dX1_lackOf_24 : decode cX1_lackOf 24 = .ok (.bipush 10, 2) := by decide +kernel
theorem dX1_lackOf_26 : decode cX1_lackOf 26 = .ok (.imul, 1) := by decide +kernel
theorem dX1_lackOf_27 : decode cX1_lackOf 27 = .ok (.istore_n 3, 1) := by decide +kernel
theorem dX1_lackOf_28 : decode cX1_lackOf 28 = .ok (.iconst 0, 1) := by decide +kernel
theorem dX1_lackOf_29 : decode cX1_lackOf 29 = .ok (.iload_n 1, 1) := by decide +kernel
theorem dX1_lackOf_30 : decode cX1_lackOf 30 = .ok (.iload_n 3, 1) := by decide +kernel
theorem dX1_lackOf_31 : decode cX1_lackOf 31 = .ok (.isub, 1) := by decide +kernel
theorem dX1_lackOf_32 : decode cX1_lackOf 32 = .ok (.invokestatic 103, 3) := by decide +kernel
theorem dX1_lackOf_35 : decode cX1_lackOf 35 = .ok (.ireturn, 1) := by decide +kernel
theorem dX1_giftByKind_0 : decode cX1_giftByKind 0 = .ok (.iload_n 0, 1) := by decide +kernel
theorem dX1_giftByKind_1 : decode cX1_giftByKind 1 = .ok (.tableswitch 68 0 4 #[35, 68, 51, 68, 57], 35) := by decide +kernel
theorem dX1_giftByKind_36 : decode cX1_giftByKind 36 = .ok (.iload_n 3, 1) := by decide +kernel
theorem dX1_giftByKind_37 : decode cX1_giftByKind 37 = .ok (.iconst 1, 1) := by decide +kernel
theorem dX1_giftByKind_38 : decode cX1_giftByKind 38 = .ok (.if_icmp .ne 12, 3) := by decide +kernel
theorem dX1_giftByKind_41 : decode cX1_giftByKind 41 = .ok (.iload_n 2, 1) := by decide +kernel
theorem dX1_giftByKind_42 : decode cX1_giftByKind 42 = .ok (.iload_n 1, 1) := by decide +kernel
theorem dX1_giftByKind_43 : decode cX1_giftByKind 43 = .ok (.if_icmp .gt 7, 3) := by decide +kernel
theorem dX1_giftByKind_46 : decode cX1_giftByKind 46 = .ok (.iload_n 2, 1) := by decide +kernel
theorem dX1_giftByKind_47 : decode cX1_giftByKind 47 = .ok (.goto 4, 3) := by decide +kernel
theorem dX1_giftByKind_50 : decode cX1_giftByKind 50 = .ok (.iconst 0, 1) := by decide +kernel
theorem dX1_giftByKind_51 : decode cX1_giftByKind 51 = .ok (.ireturn, 1) := by decide +kernel
theorem dX1_giftByKind_52 : decode cX1_giftByKind 52 = .ok (.iload_n 1, 1) := by decide +kernel
theorem dX1_giftByKind_53 : decode cX1_giftByKind 53 = .ok (.iconst 1, 1) := by decide +kernel
theorem dX1_giftByKind_54 : decode cX1_giftByKind 54 = .ok (.iadd, 1) := by decide +kernel
theorem dX1_giftByKind_55 : decode cX1_giftByKind 55 = .ok (.iconst 2, 1) := by decide +kernel
theorem dX1_giftByKind_56 : decode cX1_giftByKind 56 = .ok (.idiv, 1) := by decide +kernel
theorem dX1_giftByKind_57 : decode cX1_giftByKind 57 = .ok (.ireturn, 1) := by decide +kernel
theorem dX1_giftByKind_58 : decode cX1_giftByKind 58 = .ok (.iload_n 2, 1) := by decide +kernel
theorem dX1_giftByKind_59 : decode cX1_giftByKind 59 = .ok (.iload_n 1, 1) := by decide +kernel
theorem dX1_giftByKind_60 : decode cX1_giftByKind 60 = .ok (.if_icmp .gt 7, 3) := by decide +kernel
theorem dX1_giftByKind_63 : decode cX1_giftByKind 63 = .ok (.iload_n 2, 1) := by decide +kernel
theorem dX1_giftByKind_64 : decode cX1_giftByKind 64 = .ok (.goto 4, 3) := by decide +kernel
theorem dX1_giftByKind_67 : decode cX1_giftByKind 67 = .ok (.iconst 0, 1) := by decide +kernel
theorem dX1_giftByKind_68 : decode cX1_giftByKind 68 = .ok (.ireturn, 1) := by decide +kernel
theorem dX1_giftByKind_69 : decode cX1_giftByKind 69 = .ok (.iload_n 3, 1) := by decide +kernel
theorem dX1_giftByKind_70 : decode cX1_giftByKind 70 = .ok (.iconst 1, 1) := by decide +kernel
theorem dX1_giftByKind_71 : decode cX1_giftByKind 71 = .ok (.if_icmp .ge 7, 3) := by decide +kernel
theorem dX1_giftByKind_74 : decode cX1_giftByKind 74 = .ok (.iconst 0, 1) := by decide +kernel
theorem dX1_giftByKind_75 : decode cX1_giftByKind 75 = .ok (.goto 14, 3) := by decide +kernel
theorem dX1_giftByKind_78 : decode cX1_giftByKind 78 = .ok (.iload_n 2, 1) := by decide +kernel
theorem dX1_giftByKind_79 : decode cX1_giftByKind 79 = .ok (.iload_n 3, 1) := by decide +kernel
theorem dX1_giftByKind_80 : decode cX1_giftByKind 80 = .ok (.iadd, 1) := by decide +kernel
theorem dX1_giftByKind_81 : decode cX1_giftByKind 81 = .ok (.iconst 1, 1) := by decide +kernel
theorem dX1_giftByKind_82 : decode cX1_giftByKind 82 = .ok (.isub, 1) := by decide +kernel
theorem dX1_giftByKind_83 : decode cX1_giftByKind 83 = .ok (.iload_n 3, 1) := by decide +kernel
theorem dX1_giftByKind_84 : decode cX1_giftByKind 84 = .ok (.idiv, 1) := by decide +kernel
theorem dX1_giftByKind_85 : decode cX1_giftByKind 85 = .ok (.iload_n 1, 1) := by decide +kernel
theorem dX1_giftByKind_86 : decode cX1_giftByKind 86 = .ok (.invokestatic 66, 3) := by decide +kernel
theorem dX1_giftByKind_89 : decode cX1_giftByKind 89 = .ok (.ireturn, 1) := by decide +kernel
theorem dX1_isBuilt_0 : decode cX1_isBuilt 0 = .ok (.aload_n 0, 1) := by decide +kernel
theorem dX1_isBuilt_1 : decode cX1_isBuilt 1 = .ok (.getfield 29, 3) := by decide +kernel
theorem dX1_isBuilt_4 : decode cX1_isBuilt 4 = .ok (.aload_n 0, 1) := by decide +kernel
theorem dX1_isBuilt_5 : decode cX1_isBuilt 5 = .ok (.getfield 19, 3) := by decide +kernel
theorem dX1_isBuilt_8 : decode cX1_isBuilt 8 = .ok (.getfield 59, 3) := by decide +kernel
theorem dX1_isBuilt_11 : decode cX1_isBuilt 11 = .ok (.iaload, 1) := by decide +kernel
theorem dX1_isBuilt_12 : decode cX1_isBuilt 12 = .ok (.aload_n 0, 1) := by decide +kernel
theorem dX1_isBuilt_13 : decode cX1_isBuilt 13 = .ok (.getfield 45, 3) := by decide +kernel
theorem dX1_isBuilt_16 : decode cX1_isBuilt 16 = .ok (.if_icmp .lt 29, 3) := by decide +kernel
theorem dX1_isBuilt_19 : decode cX1_isBuilt 19 = .ok (.aload_n 0, 1) := by decide +kernel
theorem dX1_isBuilt_20 : decode cX1_isBuilt 20 = .ok (.getfield 32, 3) := by decide +kernel
theorem dX1_isBuilt_23 : decode cX1_isBuilt 23 = .ok (.aload_n 0, 1) := by decide +kernel
theorem dX1_isBuilt_24 : decode cX1_isBuilt 24 = .ok (.getfield 19, 3) := by decide +kernel
theorem dX1_isBuilt_27 : decode cX1_isBuilt 27 = .ok (.getfield 59, 3) := by decide +kernel
theorem dX1_isBuilt_30 : decode cX1_isBuilt 30 = .ok (.iaload, 1) := by decide +kernel
theorem dX1_isBuilt_31 : decode cX1_isBuilt 31 = .ok (.aload_n 0, 1) := by decide +kernel
theorem dX1_isBuilt_32 : decode cX1_isBuilt 32 = .ok (.getfield 10, 3) := by decide +kernel
theorem dX1_isBuilt_35 : decode cX1_isBuilt 35 = .ok (.getfield 106, 3) := by decide +kernel
theorem dX1_isBuilt_38 : decode cX1_isBuilt 38 = .ok (.if_icmp .lt 7, 3) := by decide +kernel
theorem dX1_isBuilt_41 : decode cX1_isBuilt 41 = .ok (.iconst 1, 1) := by decide +kernel
theorem dX1_isBuilt_42 : decode cX1_isBuilt 42 = .ok (.goto 4, 3) := by decide +kernel
theorem dX1_isBuilt_45 : decode cX1_isBuilt 45 = .ok (.iconst 0, 1) := by decide +kernel
theorem dX1_isBuilt_46 : decode cX1_isBuilt 46 = .ok (.ireturn, 1) := by decide +kernel
theorem dX1_isSecondBuilt_0 : decode cX1_isSecondBuilt 0 = .ok (.aload_n 0, 1) := by decide +kernel
theorem dX1_isSecondBuilt_1 : decode cX1_isSecondBuilt 1 = .ok (.getfield 10, 3) := by decide +kernel
theorem dX1_isSecondBuilt_4 : decode cX1_isSecondBuilt 4 = .ok (.getfield 72, 3) := by decide +kernel
theorem dX1_isSecondBuilt_7 : decode cX1_isSecondBuilt 7 = .ok (.ifCond .le 29, 3) := by decide +kernel
theorem dX1_isSecondBuilt_10 : decode cX1_isSecondBuilt 10 = .ok (.aload_n 0, 1) := by decide +kernel
theorem dX1_isSecondBuilt_11 : decode cX1_isSecondBuilt 11 = .ok (.getfield 35, 3) := by decide +kernel
theorem dX1_isSecondBuilt_14 : decode cX1_isSecondBuilt 14 = .ok (.aload_n 0, 1) := by decide +kernel
theorem dX1_isSecondBuilt_15 : decode cX1_isSecondBuilt 15 = .ok (.getfield 19, 3) := by decide +kernel
theorem dX1_isSecondBuilt_18 : decode cX1_isSecondBuilt 18 = .ok (.getfield 59, 3) := by decide +kernel
theorem dX1_isSecondBuilt_21 : decode cX1_isSecondBuilt 21 = .ok (.iaload, 1) := by decide +kernel
theorem dX1_isSecondBuilt_22 : decode cX1_isSecondBuilt 22 = .ok (.aload_n 0, 1) := by decide +kernel
theorem dX1_isSecondBuilt_23 : decode cX1_isSecondBuilt 23 = .ok (.getfield 10, 3) := by decide +kernel
theorem dX1_isSecondBuilt_26 : decode cX1_isSecondBuilt 26 = .ok (.getfield 72, 3) := by decide +kernel
theorem dX1_isSecondBuilt_29 : decode cX1_isSecondBuilt 29 = .ok (.if_icmp .lt 7, 3) := by decide +kernel
theorem dX1_isSecondBuilt_32 : decode cX1_isSecondBuilt 32 = .ok (.iconst 1, 1) := by decide +kernel
theorem dX1_isSecondBuilt_33 : decode cX1_isSecondBuilt 33 = .ok (.goto 4, 3) := by decide +kernel
theorem dX1_isSecondBuilt_36 : decode cX1_isSecondBuilt 36 = .ok (.iconst 0, 1) := by decide +kernel
theorem dX1_isSecondBuilt_37 : decode cX1_isSecondBuilt 37 = .ok (.ireturn, 1) := by decide +kernel
theorem dX1_hasAt_0 : decode cX1_hasAt 0 = .ok (.iload_n 1, 1) := by decide +kernel
theorem dX1_hasAt_1 : decode cX1_hasAt 1 = .ok (.ifCond .lt 14, 3) := by decide +kernel
theorem dX1_hasAt_4 : decode cX1_hasAt 4 = .ok (.iload_n 1, 1) := by decide +kernel
theorem dX1_hasAt_5 : decode cX1_hasAt 5 = .ok (.aload_n 0, 1) := by decide +kernel
theorem dX1_hasAt_6 : decode cX1_hasAt 6 = .ok (.getfield 19, 3) := by decide +kernel
theorem dX1_hasAt_9 : decode cX1_hasAt 9 = .ok (.getfield 59, 3) := by decide +kernel
theorem dX1_hasAt_12 : decode cX1_hasAt 12 = .ok (.if_icmp .lt 5, 3) := by decide +kernel
theorem dX1_hasAt_15 : decode cX1_hasAt 15 = .ok (.iconst 0, 1) := by decide +kernel
theorem dX1_hasAt_16 : decode cX1_hasAt 16 = .ok (.ireturn, 1) := by decide +kernel
theorem dX1_hasAt_17 : decode cX1_hasAt 17 = .ok (.aload_n 0, 1) := by decide +kernel
theorem dX1_hasAt_18 : decode cX1_hasAt 18 = .ok (.getfield 25, 3) := by decide +kernel
theorem dX1_hasAt_21 : decode cX1_hasAt 21 = .ok (.iload_n 1, 1) := by decide +kernel
theorem dX1_hasAt_22 : decode cX1_hasAt 22 = .ok (.iaload, 1) := by decide +kernel
theorem dX1_hasAt_23 : decode cX1_hasAt 23 = .ok (.istore_n 3, 1) := by decide +kernel
theorem dX1_hasAt_24 : decode cX1_hasAt 24 = .ok (.aload_n 0, 1) := by decide +kernel
theorem dX1_hasAt_25 : decode cX1_hasAt 25 = .ok (.invokevirtual 109, 3) := by decide +kernel
theorem dX1_hasAt_28 : decode cX1_hasAt 28 = .ok (.ifCond .ne 19, 3) := by decide +kernel
theorem dX1_hasAt_31 : decode cX1_hasAt 31 = .ok (.iload_n 3, 1) := by decide +kernel
theorem dX1_hasAt_32 : decode cX1_hasAt 32 = .ok (.ifCond .le 13, 3) := by decide +kernel
theorem dX1_hasAt_35 : decode cX1_hasAt 35 = .ok (.aload_n 0, 1) := by decide +kernel
theorem dX1_hasAt_36 : decode cX1_hasAt 36 = .ok (.getfield 10, 3) := by decide +kernel
theorem dX1_hasAt_39 : decode cX1_hasAt 39 = .ok (.getfield 113, 3) := by decide +kernel
theorem dX1_hasAt_42 : decode cX1_hasAt 42 = .ok (.goto 4, 3) := by decide +kernel
theorem dX1_hasAt_45 : decode cX1_hasAt 45 = .ok (.iconst 0, 1) := by decide +kernel
theorem dX1_hasAt_46 : decode cX1_hasAt 46 = .ok (.ireturn, 1) := by decide +kernel
theorem dX1_hasAt_47 : decode cX1_hasAt 47 = .ok (.iload_n 2, 1) := by decide +kernel
theorem dX1_hasAt_48 : decode cX1_hasAt 48 = .ok (.iload_n 3, 1) := by decide +kernel
theorem dX1_hasAt_49 : decode cX1_hasAt 49 = .ok (.isub, 1) := by decide +kernel
theorem dX1_hasAt_50 : decode cX1_hasAt 50 = .ok (.istore 4, 2) := by decide +kernel
theorem dX1_hasAt_52 : decode cX1_hasAt 52 = .ok (.iload_n 3, 1) := by decide +kernel
theorem dX1_hasAt_53 : decode cX1_hasAt 53 = .ok (.ifCond .le 31, 3) := by decide +kernel
theorem dX1_hasAt_56 : decode cX1_hasAt 56 = .ok (.aload_n 0, 1) := by decide +kernel
theorem dX1_hasAt_57 : decode cX1_hasAt 57 = .ok (.getfield 19, 3) := by decide +kernel
theorem dX1_hasAt_60 : decode cX1_hasAt 60 = .ok (.getfield 90, 3) := by decide +kernel
theorem dX1_hasAt_63 : decode cX1_hasAt 63 = .ok (.iload_n 1, 1) := by decide +kernel
theorem dX1_hasAt_64 : decode cX1_hasAt 64 = .ok (.iaload, 1) := by decide +kernel
theorem dX1_hasAt_65 : decode cX1_hasAt 65 = .ok (.aload_n 0, 1) := by decide +kernel
theorem dX1_hasAt_66 : decode cX1_hasAt 66 = .ok (.getfield 10, 3) := by decide +kernel
theorem dX1_hasAt_69 : decode cX1_hasAt 69 = .ok (.getfield 93, 3) := by decide +kernel
theorem dX1_hasAt_72 : decode cX1_hasAt 72 = .ok (.if_icmp .gt 12, 3) := by decide +kernel
theorem dX1_hasAt_75 : decode cX1_hasAt 75 = .ok (.iload 4, 2) := by decide +kernel
theorem dX1_hasAt_77 : decode cX1_hasAt 77 = .ok (.aload_n 0, 1) := by decide +kernel
theorem dX1_hasAt_78 : decode cX1_hasAt 78 = .ok (.getfield 49, 3) := by decide +kernel
theorem dX1_hasAt_81 : decode cX1_hasAt 81 = .ok (.iadd, 1) := by decide +kernel
theorem dX1_hasAt_82 : decode cX1_hasAt 82 = .ok (.istore 4, 2) := by decide +kernel
theorem dX1_hasAt_84 : decode cX1_hasAt 84 = .ok (.aload_n 0, 1) := by decide +kernel
theorem dX1_hasAt_85 : decode cX1_hasAt 85 = .ok (.getfield 29, 3) := by decide +kernel
theorem dX1_hasAt_88 : decode cX1_hasAt 88 = .ok (.aload_n 0, 1) := by decide +kernel
theorem dX1_hasAt_89 : decode cX1_hasAt 89 = .ok (.getfield 19, 3) := by decide +kernel
theorem dX1_hasAt_92 : decode cX1_hasAt 92 = .ok (.getfield 59, 3) := by decide +kernel
theorem dX1_hasAt_95 : decode cX1_hasAt 95 = .ok (.iaload, 1) := by decide +kernel
theorem dX1_hasAt_96 : decode cX1_hasAt 96 = .ok (.istore 5, 2) := by decide +kernel
theorem dX1_hasAt_98 : decode cX1_hasAt 98 = .ok (.aload_n 0, 1) := by decide +kernel
theorem dX1_hasAt_99 : decode cX1_hasAt 99 = .ok (.getfield 10, 3) := by decide +kernel
theorem dX1_hasAt_102 : decode cX1_hasAt 102 = .ok (.getfield 116, 3) := by decide +kernel
theorem dX1_hasAt_105 : decode cX1_hasAt 105 = .ok (.ifCond .eq 25, 3) := by decide +kernel
theorem dX1_hasAt_108 : decode cX1_hasAt 108 = .ok (.iload 5, 2) := by decide +kernel
theorem dX1_hasAt_110 : decode cX1_hasAt 110 = .ok (.ifCond .le 20, 3) := by decide +kernel
theorem dX1_hasAt_113 : decode cX1_hasAt 113 = .ok (.iload 4, 2) := by decide +kernel
theorem dX1_hasAt_115 : decode cX1_hasAt 115 = .ok (.iload_n 3, 1) := by decide +kernel
theorem dX1_hasAt_116 : decode cX1_hasAt 116 = .ok (.iload 5, 2) := by decide +kernel
theorem dX1_hasAt_118 : decode cX1_hasAt 118 = .ok (.aload_n 0, 1) := by decide +kernel
theorem dX1_hasAt_119 : decode cX1_hasAt 119 = .ok (.getfield 45, 3) := by decide +kernel
theorem dX1_hasAt_122 : decode cX1_hasAt 122 = .ok (.isub, 1) := by decide +kernel
theorem dX1_hasAt_123 : decode cX1_hasAt 123 = .ok (.imul, 1) := by decide +kernel
theorem dX1_hasAt_124 : decode cX1_hasAt 124 = .ok (.iload 5, 2) := by decide +kernel
theorem dX1_hasAt_126 : decode cX1_hasAt 126 = .ok (.idiv, 1) := by decide +kernel
theorem dX1_hasAt_127 : decode cX1_hasAt 127 = .ok (.iadd, 1) := by decide +kernel
theorem dX1_hasAt_128 : decode cX1_hasAt 128 = .ok (.istore 4, 2) := by decide +kernel
theorem dX1_hasAt_130 : decode cX1_hasAt 130 = .ok (.iload 4, 2) := by decide +kernel
theorem dX1_hasAt_132 : decode cX1_hasAt 132 = .ok (.ireturn, 1) := by decide +kernel
theorem dX2_init_0 : decode cX2_init 0 = .ok (.aload_n 0, 1) := by decide +kernel
theorem dX2_init_1 : decode cX2_init 1 = .ok (.invokespecial 1, 3) := by decide +kernel
theorem dX2_init_4 : decode cX2_init 4 = .ok (.aload_n 0, 1) := by decide +kernel
theorem dX2_init_5 : decode cX2_init 5 = .ok (.new 7, 3) := by decide +kernel
theorem dX2_init_8 : decode cX2_init 8 = .ok (.dup, 1) := by decide +kernel
theorem dX2_init_9 : decode cX2_init 9 = .ok (.invokespecial 9, 3) := by decide +kernel
theorem dX2_init_12 : decode cX2_init 12 = .ok (.putfield 10, 3) := by decide +kernel
theorem dX2_init_15 : decode cX2_init 15 = .ok (.return_, 1) := by decide +kernel
theorem dX2_clear_0 : decode cX2_clear 0 = .ok (.aload_n 0, 1) := by decide +kernel
theorem dX2_clear_1 : decode cX2_clear 1 = .ok (.bipush 20, 2) := by decide +kernel
theorem dX2_clear_3 : decode cX2_clear 3 = .ok (.putfield 16, 3) := by decide +kernel
theorem dX2_clear_6 : decode cX2_clear 6 = .ok (.aload_n 0, 1) := by decide +kernel
theorem dX2_clear_7 : decode cX2_clear 7 = .ok (.iconst 0, 1) := by decide +kernel
theorem dX2_clear_8 : decode cX2_clear 8 = .ok (.putfield 20, 3) := by decide +kernel
theorem dX2_clear_11 : decode cX2_clear 11 = .ok (.aload_n 0, 1) := by decide +kernel
theorem dX2_clear_12 : decode cX2_clear 12 = .ok (.bipush 9, 2) := by decide +kernel
theorem dX2_clear_14 : decode cX2_clear 14 = .ok (.putfield 23, 3) := by decide +kernel
theorem dX2_clear_17 : decode cX2_clear 17 = .ok (.aload_n 0, 1) := by decide +kernel
theorem dX2_clear_18 : decode cX2_clear 18 = .ok (.bipush 20, 2) := by decide +kernel
theorem dX2_clear_20 : decode cX2_clear 20 = .ok (.putfield 26, 3) := by decide +kernel
theorem dX2_clear_23 : decode cX2_clear 23 = .ok (.aload_n 0, 1) := by decide +kernel
theorem dX2_clear_24 : decode cX2_clear 24 = .ok (.iconst 0, 1) := by decide +kernel
theorem dX2_clear_25 : decode cX2_clear 25 = .ok (.putfield 29, 3) := by decide +kernel
theorem dX2_clear_28 : decode cX2_clear 28 = .ok (.aload_n 0, 1) := by decide +kernel
theorem dX2_clear_29 : decode cX2_clear 29 = .ok (.iconst 0, 1) := by decide +kernel
theorem dX2_clear_30 : decode cX2_clear 30 = .ok (.putfield 32, 3) := by decide +kernel
theorem dX2_clear_33 : decode cX2_clear 33 = .ok (.aload_n 0, 1) := by decide +kernel
theorem dX2_clear_34 : decode cX2_clear 34 = .ok (.iconst 0, 1) := by decide +kernel
theorem dX2_clear_35 : decode cX2_clear 35 = .ok (.putfield 35, 3) := by decide +kernel
theorem dX2_clear_38 : decode cX2_clear 38 = .ok (.aload_n 0, 1) := by decide +kernel
theorem dX2_clear_39 : decode cX2_clear 39 = .ok (.iconst 0, 1) := by decide +kernel
theorem dX2_clear_40 : decode cX2_clear 40 = .ok (.putfield 38, 3) := by decide +kernel
theorem dX2_clear_43 : decode cX2_clear 43 = .ok (.aload_n 0, 1) := by decide +kernel
theorem dX2_clear_44 : decode cX2_clear 44 = .ok (.iconst 0, 1) := by decide +kernel
theorem dX2_clear_45 : decode cX2_clear 45 = .ok (.putfield 42, 3) := by decide +kernel
theorem dX2_clear_48 : decode cX2_clear 48 = .ok (.aload_n 0, 1) := by decide +kernel
theorem dX2_clear_49 : decode cX2_clear 49 = .ok (.iconst 0, 1) := by decide +kernel
theorem dX2_clear_50 : decode cX2_clear 50 = .ok (.putfield 45, 3) := by decide +kernel
theorem dX2_clear_53 : decode cX2_clear 53 = .ok (.aload_n 0, 1) := by decide +kernel
theorem dX2_clear_54 : decode cX2_clear 54 = .ok (.getfield 10, 3) := by decide +kernel
theorem dX2_clear_57 : decode cX2_clear 57 = .ok (.invokevirtual 48, 3) := by decide +kernel
theorem dX2_clear_60 : decode cX2_clear 60 = .ok (.return_, 1) := by decide +kernel
theorem dX2_setBar_0 : decode cX2_setBar 0 = .ok (.aload_n 0, 1) := by decide +kernel
theorem dX2_setBar_1 : decode cX2_setBar 1 = .ok (.iload_n 1, 1) := by decide +kernel
theorem dX2_setBar_2 : decode cX2_setBar 2 = .ok (.putfield 16, 3) := by decide +kernel
theorem dX2_setBar_5 : decode cX2_setBar 5 = .ok (.aload_n 0, 1) := by decide +kernel
theorem dX2_setBar_6 : decode cX2_setBar 6 = .ok (.iload_n 2, 1) := by decide +kernel
theorem dX2_setBar_7 : decode cX2_setBar 7 = .ok (.putfield 20, 3) := by decide +kernel
theorem dX2_setBar_10 : decode cX2_setBar 10 = .ok (.return_, 1) := by decide +kernel
theorem dX2_setExtra_0 : decode cX2_setExtra 0 = .ok (.aload_n 0, 1) := by decide +kernel
theorem dX2_setExtra_1 : decode cX2_setExtra 1 = .ok (.iload_n 1, 1) := by decide +kernel
theorem dX2_setExtra_2 : decode cX2_setExtra 2 = .ok (.putfield 32, 3) := by decide +kernel
theorem dX2_setExtra_5 : decode cX2_setExtra 5 = .ok (.aload_n 0, 1) := by decide +kernel
theorem dX2_setExtra_6 : decode cX2_setExtra 6 = .ok (.iload_n 2, 1) := by decide +kernel
theorem dX2_setExtra_7 : decode cX2_setExtra 7 = .ok (.putfield 35, 3) := by decide +kernel
theorem dX2_setExtra_10 : decode cX2_setExtra 10 = .ok (.return_, 1) := by decide +kernel
theorem dX2_setSecond_0 : decode cX2_setSecond 0 = .ok (.aload_n 0, 1) := by decide +kernel
theorem dX2_setSecond_1 : decode cX2_setSecond 1 = .ok (.iload_n 1, 1) := by decide +kernel
theorem dX2_setSecond_2 : decode cX2_setSecond 2 = .ok (.putfield 42, 3) := by decide +kernel
theorem dX2_setSecond_5 : decode cX2_setSecond 5 = .ok (.aload_n 0, 1) := by decide +kernel
theorem dX2_setSecond_6 : decode cX2_setSecond 6 = .ok (.iload_n 2, 1) := by decide +kernel
theorem dX2_setSecond_7 : decode cX2_setSecond 7 = .ok (.putfield 45, 3) := by decide +kernel
theorem dX2_setSecond_10 : decode cX2_setSecond 10 = .ok (.return_, 1) := by decide +kernel
theorem dX3_init_0 : decode cX3_init 0 = .ok (.aload_n 0, 1) := by decide +kernel
theorem dX3_init_1 : decode cX3_init 1 = .ok (.invokespecial 3, 3) := by decide +kernel
theorem dX3_init_4 : decode cX3_init 4 = .ok (.aload_n 0, 1) := by decide +kernel
theorem dX3_init_5 : decode cX3_init 5 = .ok (.iconst 5, 1) := by decide +kernel
theorem dX3_init_6 : decode cX3_init 6 = .ok (.newarray .int, 2) := by decide +kernel
theorem dX3_init_8 : decode cX3_init 8 = .ok (.putfield 11, 3) := by decide +kernel
theorem dX3_init_11 : decode cX3_init 11 = .ok (.return_, 1) := by decide +kernel
theorem dX3_read_0 : decode cX3_read 0 = .ok (.aload_n 2, 1) := by decide +kernel
theorem dX3_read_1 : decode cX3_read 1 = .ok (.invokevirtual 15, 3) := by decide +kernel
theorem dX3_read_4 : decode cX3_read 4 = .ok (.aload_n 0, 1) := by decide +kernel
theorem dX3_read_5 : decode cX3_read 5 = .ok (.iconst 0, 1) := by decide +kernel
theorem dX3_read_6 : decode cX3_read 6 = .ok (.putfield 20, 3) := by decide +kernel
theorem dX3_read_9 : decode cX3_read 9 = .ok (.iconst 0, 1) := by decide +kernel
theorem dX3_read_10 : decode cX3_read 10 = .ok (.istore_n 3, 1) := by decide +kernel
theorem dX3_read_11 : decode cX3_read 11 = .ok (.iload_n 3, 1) := by decide +kernel
theorem dX3_read_12 : decode cX3_read 12 = .ok (.sipush 300, 3) := by decide +kernel
theorem dX3_read_15 : decode cX3_read 15 = .ok (.if_icmp .ge 70, 3) := by decide +kernel
theorem dX3_read_18 : decode cX3_read 18 = .ok (.aload_n 0, 1) := by decide +kernel
theorem dX3_read_19 : decode cX3_read 19 = .ok (.getfield 20, 3) := by decide +kernel
theorem dX3_read_22 : decode cX3_read 22 = .ok (.aload_n 1, 1) := by decide +kernel
theorem dX3_read_23 : decode cX3_read 23 = .ok (.getfield 26, 3) := by decide +kernel
theorem dX3_read_26 : decode cX3_read 26 = .ok (.if_icmp .ge 59, 3) := by decide +kernel
theorem dX3_read_29 : decode cX3_read 29 = .ok (.aload_n 0, 1) := by decide +kernel
theorem dX3_read_30 : decode cX3_read 30 = .ok (.getfield 20, 3) := by decide +kernel
theorem dX3_read_33 : decode cX3_read 33 = .ok (.istore 4, 2) := by decide +kernel
theorem dX3_read_35 : decode cX3_read 35 = .ok (.aload_n 1, 1) := by decide +kernel
theorem dX3_read_36 : decode cX3_read 36 = .ok (.iload 4, 2) := by decide +kernel
theorem dX3_read_38 : decode cX3_read 38 = .ok (.invokevirtual 29, 3) := by decide +kernel
theorem dX3_read_41 : decode cX3_read 41 = .ok (.istore 5, 2) := by decide +kernel
theorem dX3_read_43 : decode cX3_read 43 = .ok (.aload_n 0, 1) := by decide +kernel
theorem dX3_read_44 : decode cX3_read 44 = .ok (.dup, 1) := by decide +kernel
theorem dX3_read_45 : decode cX3_read 45 = .ok (.getfield 20, 3) := by decide +kernel
theorem dX3_read_48 : decode cX3_read 48 = .ok (.iconst 1, 1) := by decide +kernel
theorem dX3_read_49 : decode cX3_read 49 = .ok (.iadd, 1) := by decide +kernel
theorem dX3_read_50 : decode cX3_read 50 = .ok (.putfield 20, 3) := by decide +kernel
theorem dX3_read_53 : decode cX3_read 53 = .ok (.aload_n 0, 1) := by decide +kernel
theorem dX3_read_54 : decode cX3_read 54 = .ok (.aload_n 1, 1) := by decide +kernel
theorem dX3_read_55 : decode cX3_read 55 = .ok (.iload 5, 2) := by decide +kernel
theorem dX3_read_57 : decode cX3_read 57 = .ok (.invokestatic 33, 3) := by decide +kernel
theorem dX3_read_60 : decode cX3_read 60 = .ok (.invokevirtual 36, 3) := by decide +kernel
theorem dX3_read_63 : decode cX3_read 63 = .ok (.ifCond .eq 13, 3) := by decide +kernel
theorem dX3_read_66 : decode cX3_read 66 = .ok (.aload_n 0, 1) := by decide +kernel
theorem dX3_read_67 : decode cX3_read 67 = .ok (.iload 5, 2) := by decide +kernel
theorem dX3_read_69 : decode cX3_read 69 = .ok (.aload_n 2, 1) := by decide +kernel
theorem dX3_read_70 : decode cX3_read 70 = .ok (.invokevirtual 40, 3) := by decide +kernel
theorem dX3_read_73 : decode cX3_read 73 = .ok (.ifCond .ne 6, 3) := by decide +kernel
theorem dX3_read_76 : decode cX3_read 76 = .ok (.iload 4, 2) := by decide +kernel
theorem dX3_read_78 : decode cX3_read 78 = .ok (.ireturn, 1) := by decide +kernel
theorem dX3_read_79 : decode cX3_read 79 = .ok (.iinc 3 1, 3) := by decide +kernel
theorem dX3_read_82 : decode cX3_read 82 = .ok (.goto (-71), 3) := by decide +kernel
theorem dX3_read_85 : decode cX3_read 85 = .ok (.aload_n 2, 1) := by decide +kernel
theorem dX3_read_86 : decode cX3_read 86 = .ok (.getfield 44, 3) := by decide +kernel
theorem dX3_read_89 : decode cX3_read 89 = .ok (.invokevirtual 48, 3) := by decide +kernel
theorem dX3_read_92 : decode cX3_read 92 = .ok (.ifCond .eq 8, 3) := by decide +kernel
theorem dX3_read_95 : decode cX3_read 95 = .ok (.bipush (-4), 2) := by decide +kernel
theorem dX3_read_97 : decode cX3_read 97 = .ok (.goto 7, 3) := by decide +kernel
theorem dX3_read_100 : decode cX3_read 100 = .ok (.aload_n 1, 1) := by decide +kernel
theorem dX3_read_101 : decode cX3_read 101 = .ok (.getfield 26, 3) := by decide +kernel
theorem dX3_read_104 : decode cX3_read 104 = .ok (.ireturn, 1) := by decide +kernel
theorem dX3_numbersOf_0 : decode cX3_numbersOf 0 = .ok (.iload_n 0, 1) := by decide +kernel
theorem dX3_numbersOf_1 : decode cX3_numbersOf 1 = .ok (.tableswitch 111 98 119 #[105, 103, 103, 105, 111, 109, 111, 111, 111, 111, 111, 111, 111, 103, 103, 111, 111, 105, 105, 111, 111, 107], 103) := by decide +kernel
theorem dX3_numbersOf_104 : decode cX3_numbersOf 104 = .ok (.iconst 1, 1) := by decide +kernel
theorem dX3_numbersOf_105 : decode cX3_numbersOf 105 = .ok (.ireturn, 1) := by decide +kernel
theorem dX3_numbersOf_106 : decode cX3_numbersOf 106 = .ok (.iconst 2, 1) := by decide +kernel
theorem dX3_numbersOf_107 : decode cX3_numbersOf 107 = .ok (.ireturn, 1) := by decide +kernel
theorem dX3_numbersOf_108 : decode cX3_numbersOf 108 = .ok (.iconst 3, 1) := by decide +kernel
theorem dX3_numbersOf_109 : decode cX3_numbersOf 109 = .ok (.ireturn, 1) := by decide +kernel
theorem dX3_numbersOf_110 : decode cX3_numbersOf 110 = .ok (.iconst 5, 1) := by decide +kernel
theorem dX3_numbersOf_111 : decode cX3_numbersOf 111 = .ok (.ireturn, 1) := by decide +kernel
theorem dX3_numbersOf_112 : decode cX3_numbersOf 112 = .ok (.iconst 0, 1) := by decide +kernel
theorem dX3_numbersOf_113 : decode cX3_numbersOf 113 = .ok (.ireturn, 1) := by decide +kernel
theorem dX3_readNumbers_0 : decode cX3_readNumbers 0 = .ok (.iload_n 2, 1) := by decide +kernel
theorem dX3_readNumbers_1 : decode cX3_readNumbers 1 = .ok (.iconst 1, 1) := by decide +kernel
theorem dX3_readNumbers_2 : decode cX3_readNumbers 2 = .ok (.if_icmp .lt 8, 3) := by decide +kernel
theorem dX3_readNumbers_5 : decode cX3_readNumbers 5 = .ok (.iload_n 2, 1) := by decide +kernel
theorem dX3_readNumbers_6 : decode cX3_readNumbers 6 = .ok (.iconst 5, 1) := by decide +kernel
theorem dX3_readNumbers_7 : decode cX3_readNumbers 7 = .ok (.if_icmp .le 5, 3) := by decide +kernel
theorem dX3_readNumbers_10 : decode cX3_readNumbers 10 = .ok (.iconst 0, 1) := by decide +kernel
theorem dX3_readNumbers_11 : decode cX3_readNumbers 11 = .ok (.ireturn, 1) := by decide +kernel
theorem dX3_readNumbers_12 : decode cX3_readNumbers 12 = .ok (.iconst 0, 1) := by decide +kernel
theorem dX3_readNumbers_13 : decode cX3_readNumbers 13 = .ok (.istore_n 3, 1) := by decide +kernel
theorem dX3_readNumbers_14 : decode cX3_readNumbers 14 = .ok (.iload_n 3, 1) := by decide +kernel
theorem dX3_readNumbers_15 : decode cX3_readNumbers 15 = .ok (.iload_n 2, 1) := by decide +kernel
theorem dX3_readNumbers_16 : decode cX3_readNumbers 16 = .ok (.if_icmp .ge 66, 3) := by decide +kernel
theorem dX3_readNumbers_19 : decode cX3_readNumbers 19 = .ok (.aload_n 0, 1) := by decide +kernel
theorem dX3_readNumbers_20 : decode cX3_readNumbers 20 = .ok (.getfield 11, 3) := by decide +kernel
theorem dX3_readNumbers_23 : decode cX3_readNumbers 23 = .ok (.iload_n 3, 1) := by decide +kernel
theorem dX3_readNumbers_24 : decode cX3_readNumbers 24 = .ok (.aload_n 0, 1) := by decide +kernel
theorem dX3_readNumbers_25 : decode cX3_readNumbers 25 = .ok (.aload_n 1, 1) := by decide +kernel
theorem dX3_readNumbers_26 : decode cX3_readNumbers 26 = .ok (.invokevirtual 54, 3) := by decide +kernel
theorem dX3_readNumbers_29 : decode cX3_readNumbers 29 = .ok (.iastore, 1) := by decide +kernel
theorem dX3_readNumbers_30 : decode cX3_readNumbers 30 = .ok (.aload_n 0, 1) := by decide +kernel
theorem dX3_readNumbers_31 : decode cX3_readNumbers 31 = .ok (.getfield 11, 3) := by decide +kernel
theorem dX3_readNumbers_34 : decode cX3_readNumbers 34 = .ok (.iload_n 3, 1) := by decide +kernel
theorem dX3_readNumbers_35 : decode cX3_readNumbers 35 = .ok (.iaload, 1) := by decide +kernel
theorem dX3_readNumbers_36 : decode cX3_readNumbers 36 = .ok (.ifCond .lt 28, 3) := by decide +kernel
theorem dX3_readNumbers_39 : decode cX3_readNumbers 39 = .ok (.aload_n 1, 1) := by decide +kernel
theorem dX3_readNumbers_40 : decode cX3_readNumbers 40 = .ok (.aload_n 0, 1) := by decide +kernel
theorem dX3_readNumbers_41 : decode cX3_readNumbers 41 = .ok (.getfield 20, 3) := by decide +kernel
theorem dX3_readNumbers_44 : decode cX3_readNumbers 44 = .ok (.invokevirtual 29, 3) := by decide +kernel
theorem dX3_readNumbers_47 : decode cX3_readNumbers 47 = .ok (.iload_n 3, 1) := by decide +kernel
theorem dX3_readNumbers_48 : decode cX3_readNumbers 48 = .ok (.iload_n 2, 1) := by decide +kernel
theorem dX3_readNumbers_49 : decode cX3_readNumbers 49 = .ok (.iconst 1, 1) := by decide +kernel
theorem dX3_readNumbers_50 : decode cX3_readNumbers 50 = .ok (.isub, 1) := by decide +kernel
theorem dX3_readNumbers_51 : decode cX3_readNumbers 51 = .ok (.if_icmp .ge 8, 3) := by decide +kernel
theorem dX3_readNumbers_54 : decode cX3_readNumbers 54 = .ok (.bipush 44, 2) := by decide +kernel
theorem dX3_readNumbers_56 : decode cX3_readNumbers 56 = .ok (.goto 5, 3) := by decide +kernel
theorem dX3_readNumbers_59 : decode cX3_readNumbers 59 = .ok (.bipush 59, 2) := by decide +kernel
theorem dX3_readNumbers_61 : decode cX3_readNumbers 61 = .ok (.if_icmp .eq 5, 3) := by decide +kernel
theorem dX3_readNumbers_64 : decode cX3_readNumbers 64 = .ok (.iconst 0, 1) := by decide +kernel
theorem dX3_readNumbers_65 : decode cX3_readNumbers 65 = .ok (.ireturn, 1) := by decide +kernel
theorem dX3_readNumbers_66 : decode cX3_readNumbers 66 = .ok (.aload_n 0, 1) := by decide +kernel
theorem dX3_readNumbers_67 : decode cX3_readNumbers 67 = .ok (.dup, 1) := by decide +kernel
theorem dX3_readNumbers_68 : decode cX3_readNumbers 68 = .ok (.getfield 20, 3) := by decide +kernel
theorem dX3_readNumbers_71 : decode cX3_readNumbers 71 = .ok (.iconst 1, 1) := by decide +kernel
theorem dX3_readNumbers_72 : decode cX3_readNumbers 72 = .ok (.iadd, 1) := by decide +kernel
theorem dX3_readNumbers_73 : decode cX3_readNumbers 73 = .ok (.putfield 20, 3) := by decide +kernel
theorem dX3_readNumbers_76 : decode cX3_readNumbers 76 = .ok (.iinc 3 1, 3) := by decide +kernel
theorem dX3_readNumbers_79 : decode cX3_readNumbers 79 = .ok (.goto (-65), 3) := by decide +kernel
theorem dX3_readNumbers_82 : decode cX3_readNumbers 82 = .ok (.iconst 1, 1) := by decide +kernel
theorem dX3_readNumbers_83 : decode cX3_readNumbers 83 = .ok (.ireturn, 1) := by decide +kernel
theorem dX3_readNumber_0 : decode cX3_readNumber 0 = .ok (.iconst 0, 1) := by decide +kernel
theorem dX3_readNumber_1 : decode cX3_readNumber 1 = .ok (.istore_n 2, 1) := by decide +kernel
theorem dX3_readNumber_2 : decode cX3_readNumber 2 = .ok (.iconst 0, 1) := by decide +kernel
theorem dX3_readNumber_3 : decode cX3_readNumber 3 = .ok (.istore_n 3, 1) := by decide +kernel
theorem dX3_readNumber_4 : decode cX3_readNumber 4 = .ok (.iload_n 3, 1) := by decide +kernel
theorem dX3_readNumber_5 : decode cX3_readNumber 5 = .ok (.iconst 3, 1) := by decide +kernel
theorem dX3_readNumber_6 : decode cX3_readNumber 6 = .ok (.if_icmp .gt 54, 3) := by decide +kernel
theorem dX3_readNumber_9 : decode cX3_readNumber 9 = .ok (.aload_n 1, 1) := by decide +kernel
theorem dX3_readNumber_10 : decode cX3_readNumber 10 = .ok (.aload_n 0, 1) := by decide +kernel
theorem dX3_readNumber_11 : decode cX3_readNumber 11 = .ok (.getfield 20, 3) := by decide +kernel
theorem dX3_readNumber_14 : decode cX3_readNumber 14 = .ok (.invokevirtual 29, 3) := by decide +kernel
theorem dX3_readNumber_17 : decode cX3_readNumber 17 = .ok (.bipush 48, 2) := by decide +kernel
theorem dX3_readNumber_19 : decode cX3_readNumber 19 = .ok (.bipush 57, 2) := by decide +kernel
theorem dX3_readNumber_21 : decode cX3_readNumber 21 = .ok (.invokestatic 58, 3) := by decide +kernel
theorem dX3_readNumber_24 : decode cX3_readNumber 24 = .ok (.ifCond .eq 36, 3) := by decide +kernel
theorem dX3_readNumber_27 : decode cX3_readNumber 27 = .ok (.iload_n 2, 1) := by decide +kernel
theorem dX3_readNumber_28 : decode cX3_readNumber 28 = .ok (.bipush 10, 2) := by decide +kernel
theorem dX3_readNumber_30 : decode cX3_readNumber 30 = .ok (.imul, 1) := by decide +kernel
theorem dX3_readNumber_31 : decode cX3_readNumber 31 = .ok (.aload_n 1, 1) := by decide +kernel
theorem dX3_readNumber_32 : decode cX3_readNumber 32 = .ok (.aload_n 0, 1) := by decide +kernel
theorem dX3_readNumber_33 : decode cX3_readNumber 33 = .ok (.getfield 20, 3) := by decide +kernel
theorem dX3_readNumber_36 : decode cX3_readNumber 36 = .ok (.invokevirtual 29, 3) := by decide +kernel
theorem dX3_readNumber_39 : decode cX3_readNumber 39 = .ok (.iadd, 1) := by decide +kernel
theorem dX3_readNumber_40 : decode cX3_readNumber 40 = .ok (.bipush 48, 2) := by decide +kernel
theorem dX3_readNumber_42 : decode cX3_readNumber 42 = .ok (.isub, 1) := by decide +kernel
theorem dX3_readNumber_43 : decode cX3_readNumber 43 = .ok (.istore_n 2, 1) := by decide +kernel
theorem dX3_readNumber_44 : decode cX3_readNumber 44 = .ok (.iinc 3 1, 3) := by decide +kernel
theorem dX3_readNumber_47 : decode cX3_readNumber 47 = .ok (.aload_n 0, 1) := by decide +kernel
theorem dX3_readNumber_48 : decode cX3_readNumber 48 = .ok (.dup, 1) := by decide +kernel
theorem dX3_readNumber_49 : decode cX3_readNumber 49 = .ok (.getfield 20, 3) := by decide +kernel
theorem dX3_readNumber_52 : decode cX3_readNumber 52 = .ok (.iconst 1, 1) := by decide +kernel
theorem dX3_readNumber_53 : decode cX3_readNumber 53 = .ok (.iadd, 1) := by decide +kernel
theorem dX3_readNumber_54 : decode cX3_readNumber 54 = .ok (.putfield 20, 3) := by decide +kernel
theorem dX3_readNumber_57 : decode cX3_readNumber 57 = .ok (.goto (-53), 3) := by decide +kernel
theorem dX3_readNumber_60 : decode cX3_readNumber 60 = .ok (.iload_n 3, 1) := by decide +kernel
theorem dX3_readNumber_61 : decode cX3_readNumber 61 = .ok (.iconst 1, 1) := by decide +kernel
theorem dX3_readNumber_62 : decode cX3_readNumber 62 = .ok (.if_icmp .lt 12, 3) := by decide +kernel
theorem dX3_readNumber_65 : decode cX3_readNumber 65 = .ok (.iload_n 3, 1) := by decide +kernel
theorem dX3_readNumber_66 : decode cX3_readNumber 66 = .ok (.iconst 3, 1) := by decide +kernel
theorem dX3_readNumber_67 : decode cX3_readNumber 67 = .ok (.if_icmp .gt 7, 3) := by decide +kernel
theorem dX3_readNumber_70 : decode cX3_readNumber 70 = .ok (.iload_n 2, 1) := by decide +kernel
theorem dX3_readNumber_71 : decode cX3_readNumber 71 = .ok (.goto 4, 3) := by decide +kernel
theorem dX3_readNumber_74 : decode cX3_readNumber 74 = .ok (.iconst (-1), 1) := by decide +kernel
theorem dX3_readNumber_75 : decode cX3_readNumber 75 = .ok (.ireturn, 1) := by decide +kernel
theorem dX3_upTo_0 : decode cX3_upTo 0 = .ok (.iload_n 1, 1) := by decide +kernel
theorem dX3_upTo_1 : decode cX3_upTo 1 = .ok (.ifCond .lt 22, 3) := by decide +kernel
theorem dX3_upTo_4 : decode cX3_upTo 4 = .ok (.iload_n 1, 1) := by decide +kernel
theorem dX3_upTo_5 : decode cX3_upTo 5 = .ok (.iconst 5, 1) := by decide +kernel
theorem dX3_upTo_6 : decode cX3_upTo 6 = .ok (.if_icmp .ge 17, 3) := by decide +kernel
theorem dX3_upTo_9 : decode cX3_upTo 9 = .ok (.aload_n 0, 1) := by decide +kernel
theorem dX3_upTo_10 : decode cX3_upTo 10 = .ok (.getfield 11, 3) := by decide +kernel
theorem dX3_upTo_13 : decode cX3_upTo 13 = .ok (.iload_n 1, 1) := by decide +kernel
theorem dX3_upTo_14 : decode cX3_upTo 14 = .ok (.iaload, 1) := by decide +kernel
theorem dX3_upTo_15 : decode cX3_upTo 15 = .ok (.iload_n 2, 1) := by decide +kernel
theorem dX3_upTo_16 : decode cX3_upTo 16 = .ok (.if_icmp .gt 7, 3) := by decide +kernel
theorem dX3_upTo_19 : decode cX3_upTo 19 = .ok (.iconst 1, 1) := by decide +kernel
theorem dX3_upTo_20 : decode cX3_upTo 20 = .ok (.goto 4, 3) := by decide +kernel
theorem dX3_upTo_23 : decode cX3_upTo 23 = .ok (.iconst 0, 1) := by decide +kernel
theorem dX3_upTo_24 : decode cX3_upTo 24 = .ok (.ireturn, 1) := by decide +kernel
theorem dX3_take_0 : decode cX3_take 0 = .ok (.iload_n 1, 1) := by decide +kernel
theorem dX3_take_1 : decode cX3_take 1 = .ok (.tableswitch 312 98 115 #[87, 155, 137, 192, 312, 312, 312, 312, 312, 312, 312, 312, 312, 234, 174, 312, 312, 260], 87) := by decide +kernel
theorem dX3_take_88 : decode cX3_take 88 = .ok (.aload_n 0, 1) := by decide +kernel
theorem dX3_take_89 : decode cX3_take 89 = .ok (.getfield 11, 3) := by decide +kernel
theorem dX3_take_92 : decode cX3_take 92 = .ok (.iconst 0, 1) := by decide +kernel
theorem dX3_take_93 : decode cX3_take 93 = .ok (.iaload, 1) := by decide +kernel
theorem dX3_take_94 : decode cX3_take 94 = .ok (.iconst 1, 1) := by decide +kernel
theorem dX3_take_95 : decode cX3_take 95 = .ok (.if_icmp .lt 23, 3) := by decide +kernel
theorem dX3_take_98 : decode cX3_take 98 = .ok (.aload_n 0, 1) := by decide +kernel
theorem dX3_take_99 : decode cX3_take 99 = .ok (.iconst 0, 1) := by decide +kernel
theorem dX3_take_100 : decode cX3_take 100 = .ok (.bipush 60, 2) := by decide +kernel
theorem dX3_take_102 : decode cX3_take 102 = .ok (.invokevirtual 62, 3) := by decide +kernel
theorem dX3_take_105 : decode cX3_take 105 = .ok (.ifCond .eq 13, 3) := by decide +kernel
theorem dX3_take_108 : decode cX3_take 108 = .ok (.aload_n 0, 1) := by decide +kernel
theorem dX3_take_109 : decode cX3_take 109 = .ok (.iconst 1, 1) := by decide +kernel
theorem dX3_take_110 : decode cX3_take 110 = .ok (.bipush 8, 2) := by decide +kernel
theorem dX3_take_112 : decode cX3_take 112 = .ok (.invokevirtual 62, 3) := by decide +kernel
theorem dX3_take_115 : decode cX3_take 115 = .ok (.ifCond .ne 5, 3) := by decide +kernel
theorem dX3_take_118 : decode cX3_take 118 = .ok (.iconst 0, 1) := by decide +kernel
theorem dX3_take_119 : decode cX3_take 119 = .ok (.ireturn, 1) := by decide +kernel
theorem dX3_take_120 : decode cX3_take 120 = .ok (.aload_n 2, 1) := by decide +kernel
theorem dX3_take_121 : decode cX3_take 121 = .ok (.aload_n 0, 1) := by decide +kernel
theorem dX3_take_122 : decode cX3_take 122 = .ok (.getfield 11, 3) := by decide +kernel
theorem dX3_take_125 : decode cX3_take 125 = .ok (.iconst 0, 1) := by decide +kernel
theorem dX3_take_126 : decode cX3_take 126 = .ok (.iaload, 1) := by decide +kernel
theorem dX3_take_127 : decode cX3_take 127 = .ok (.aload_n 0, 1) := by decide +kernel
theorem dX3_take_128 : decode cX3_take 128 = .ok (.getfield 11, 3) := by decide +kernel
theorem dX3_take_131 : decode cX3_take 131 = .ok (.iconst 1, 1) := by decide +kernel
theorem dX3_take_132 : decode cX3_take 132 = .ok (.iaload, 1) := by decide +kernel
theorem dX3_take_133 : decode cX3_take 133 = .ok (.invokevirtual 66, 3) := by decide +kernel
theorem dX3_take_136 : decode cX3_take 136 = .ok (.iconst 1, 1) := by decide +kernel
theorem dX3_take_137 : decode cX3_take 137 = .ok (.ireturn, 1) := by decide +kernel
theorem dX3_take_138 : decode cX3_take 138 = .ok (.aload_n 2, 1) := by decide +kernel
theorem dX3_take_139 : decode cX3_take 139 = .ok (.aload_n 0, 1) := by decide +kernel
theorem dX3_take_140 : decode cX3_take 140 = .ok (.getfield 11, 3) := by decide +kernel
theorem dX3_take_143 : decode cX3_take 143 = .ok (.iconst 0, 1) := by decide +kernel
theorem dX3_take_144 : decode cX3_take 144 = .ok (.iaload, 1) := by decide +kernel
theorem dX3_take_145 : decode cX3_take 145 = .ok (.putfield 70, 3) := by decide +kernel
theorem dX3_take_148 : decode cX3_take 148 = .ok (.aload_n 0, 1) := by decide +kernel
theorem dX3_take_149 : decode cX3_take 149 = .ok (.iconst 0, 1) := by decide +kernel
theorem dX3_take_150 : decode cX3_take 150 = .ok (.bipush 30, 2) := by decide +kernel
theorem dX3_take_152 : decode cX3_take 152 = .ok (.invokevirtual 62, 3) := by decide +kernel
theorem dX3_take_155 : decode cX3_take 155 = .ok (.ireturn, 1) := by decide +kernel
theorem dX3_take_156 : decode cX3_take 156 = .ok (.aload_n 2, 1) := by decide +kernel
theorem dX3_take_157 : decode cX3_take 157 = .ok (.aload_n 0, 1) := by decide +kernel
theorem dX3_take_158 : decode cX3_take 158 = .ok (.getfield 11, 3) := by decide +kernel
theorem dX3_take_161 : decode cX3_take 161 = .ok (.iconst 0, 1) := by decide +kernel
theorem dX3_take_162 : decode cX3_take 162 = .ok (.iaload, 1) := by decide +kernel
theorem dX3_take_163 : decode cX3_take 163 = .ok (.putfield 73, 3) := by decide +kernel
theorem dX3_take_166 : decode cX3_take 166 = .ok (.aload_n 0, 1) := by decide +kernel
theorem dX3_take_167 : decode cX3_take 167 = .ok (.iconst 0, 1) := by decide +kernel
theorem dX3_take_168 : decode cX3_take 168 = .ok (.sipush 199, 3) := by decide +kernel
theorem dX3_take_171 : decode cX3_take 171 = .ok (.invokevirtual 62, 3) := by decide +kernel
theorem dX3_take_174 : decode cX3_take 174 = .ok (.ireturn, 1) := by decide +kernel
theorem dX3_take_175 : decode cX3_take 175 = .ok (.aload_n 2, 1) := by decide +kernel
theorem dX3_take_176 : decode cX3_take 176 = .ok (.aload_n 0, 1) := by decide +kernel
theorem dX3_take_177 : decode cX3_take 177 = .ok (.getfield 11, 3) := by decide +kernel
theorem dX3_take_180 : decode cX3_take 180 = .ok (.iconst 0, 1) := by decide +kernel
theorem dX3_take_181 : decode cX3_take 181 = .ok (.iaload, 1) := by decide +kernel
theorem dX3_take_182 : decode cX3_take 182 = .ok (.putfield 76, 3) := by decide +kernel
theorem dX3_take_185 : decode cX3_take 185 = .ok (.aload_n 0, 1) := by decide +kernel
theorem dX3_take_186 : decode cX3_take 186 = .ok (.iconst 0, 1) := by decide +kernel
theorem dX3_take_187 : decode cX3_take 187 = .ok (.bipush 9, 2) := by decide +kernel
theorem dX3_take_189 : decode cX3_take 189 = .ok (.invokevirtual 62, 3) := by decide +kernel
theorem dX3_take_192 : decode cX3_take 192 = .ok (.ireturn, 1) := by decide +kernel
theorem dX3_take_193 : decode cX3_take 193 = .ok (.aload_n 2, 1) := by decide +kernel
theorem dX3_take_194 : decode cX3_take 194 = .ok (.aload_n 0, 1) := by decide +kernel
theorem dX3_take_195 : decode cX3_take 195 = .ok (.getfield 11, 3) := by decide +kernel
theorem dX3_take_198 : decode cX3_take 198 = .ok (.iconst 0, 1) := by decide +kernel
theorem dX3_take_199 : decode cX3_take 199 = .ok (.iaload, 1) := by decide +kernel
theorem dX3_take_200 : decode cX3_take 200 = .ok (.aload_n 0, 1) := by decide +kernel
theorem dX3_take_201 : decode cX3_take 201 = .ok (.getfield 11, 3) := by decide +kernel
theorem dX3_take_204 : decode cX3_take 204 = .ok (.iconst 1, 1) := by decide +kernel
theorem dX3_take_205 : decode cX3_take 205 = .ok (.iaload, 1) := by decide +kernel
theorem dX3_take_206 : decode cX3_take 206 = .ok (.invokevirtual 79, 3) := by decide +kernel
theorem dX3_take_209 : decode cX3_take 209 = .ok (.aload_n 0, 1) := by decide +kernel
theorem dX3_take_210 : decode cX3_take 210 = .ok (.iconst 0, 1) := by decide +kernel
theorem dX3_take_211 : decode cX3_take 211 = .ok (.bipush 9, 2) := by decide +kernel
theorem dX3_take_213 : decode cX3_take 213 = .ok (.invokevirtual 62, 3) := by decide +kernel
theorem dX3_take_216 : decode cX3_take 216 = .ok (.ifCond .eq 17, 3) := by decide +kernel
theorem dX3_take_219 : decode cX3_take 219 = .ok (.aload_n 0, 1) := by decide +kernel
theorem dX3_take_220 : decode cX3_take 220 = .ok (.iconst 1, 1) := by decide +kernel
theorem dX3_take_221 : decode cX3_take 221 = .ok (.bipush 30, 2) := by decide +kernel
theorem dX3_take_223 : decode cX3_take 223 = .ok (.invokevirtual 62, 3) := by decide +kernel
theorem dX3_take_226 : decode cX3_take 226 = .ok (.ifCond .eq 7, 3) := by decide +kernel
theorem dX3_take_229 : decode cX3_take 229 = .ok (.iconst 1, 1) := by decide +kernel
theorem dX3_take_230 : decode cX3_take 230 = .ok (.goto 4, 3) := by decide +kernel
theorem dX3_take_233 : decode cX3_take 233 = .ok (.iconst 0, 1) := by decide +kernel
theorem dX3_take_234 : decode cX3_take 234 = .ok (.ireturn, 1) := by decide +kernel
theorem dX3_take_235 : decode cX3_take 235 = .ok (.aload_n 2, 1) := by decide +kernel
theorem dX3_take_236 : decode cX3_take 236 = .ok (.aload_n 0, 1) := by decide +kernel
theorem dX3_take_237 : decode cX3_take 237 = .ok (.getfield 11, 3) := by decide +kernel
theorem dX3_take_240 : decode cX3_take 240 = .ok (.iconst 0, 1) := by decide +kernel
theorem dX3_take_241 : decode cX3_take 241 = .ok (.iaload, 1) := by decide +kernel
theorem dX3_take_242 : decode cX3_take 242 = .ok (.iconst 1, 1) := by decide +kernel
theorem dX3_take_243 : decode cX3_take 243 = .ok (.if_icmp .ne 7, 3) := by decide +kernel
theorem dX3_take_246 : decode cX3_take 246 = .ok (.iconst 1, 1) := by decide +kernel
theorem dX3_take_247 : decode cX3_take 247 = .ok (.goto 4, 3) := by decide +kernel
theorem dX3_take_250 : decode cX3_take 250 = .ok (.iconst 0, 1) := by decide +kernel
theorem dX3_take_251 : decode cX3_take 251 = .ok (.putfield 82, 3) := by decide +kernel
theorem dX3_take_254 : decode cX3_take 254 = .ok (.aload_n 0, 1) := by decide +kernel
theorem dX3_take_255 : decode cX3_take 255 = .ok (.iconst 0, 1) := by decide +kernel
theorem dX3_take_256 : decode cX3_take 256 = .ok (.iconst 1, 1) := by decide +kernel
theorem dX3_take_257 : decode cX3_take 257 = .ok (.invokevirtual 62, 3) := by decide +kernel
theorem dX3_take_260 : decode cX3_take 260 = .ok (.ireturn, 1) := by decide +kernel
theorem dX3_take_261 : decode cX3_take 261 = .ok (.aload_n 2, 1) := by decide +kernel
theorem dX3_take_262 : decode cX3_take 262 = .ok (.aload_n 0, 1) := by decide +kernel
theorem dX3_take_263 : decode cX3_take 263 = .ok (.getfield 11, 3) := by decide +kernel
theorem dX3_take_266 : decode cX3_take 266 = .ok (.iconst 0, 1) := by decide +kernel
theorem dX3_take_267 : decode cX3_take 267 = .ok (.iaload, 1) := by decide +kernel
theorem dX3_take_268 : decode cX3_take 268 = .ok (.aload_n 0, 1) := by decide +kernel
theorem dX3_take_269 : decode cX3_take 269 = .ok (.getfield 11, 3) := by decide +kernel
theorem dX3_take_272 : decode cX3_take 272 = .ok (.iconst 1, 1) := by decide +kernel
theorem dX3_take_273 : decode cX3_take 273 = .ok (.iaload, 1) := by decide +kernel
theorem dX3_take_274 : decode cX3_take 274 = .ok (.invokevirtual 86, 3) := by decide +kernel
theorem dX3_take_277 : decode cX3_take 277 = .ok (.aload_n 0, 1) := by decide +kernel
theorem dX3_take_278 : decode cX3_take 278 = .ok (.getfield 11, 3) := by decide +kernel
theorem dX3_take_281 : decode cX3_take 281 = .ok (.iconst 0, 1) := by decide +kernel
theorem dX3_take_282 : decode cX3_take 282 = .ok (.iaload, 1) := by decide +kernel
theorem dX3_take_283 : decode cX3_take 283 = .ok (.iconst 1, 1) := by decide +kernel
theorem dX3_take_284 : decode cX3_take 284 = .ok (.if_icmp .lt 27, 3) := by decide +kernel
theorem dX3_take_287 : decode cX3_take 287 = .ok (.aload_n 0, 1) := by decide +kernel
theorem dX3_take_288 : decode cX3_take 288 = .ok (.iconst 0, 1) := by decide +kernel
theorem dX3_take_289 : decode cX3_take 289 = .ok (.bipush 60, 2) := by decide +kernel
theorem dX3_take_291 : decode cX3_take 291 = .ok (.invokevirtual 62, 3) := by decide +kernel
theorem dX3_take_294 : decode cX3_take 294 = .ok (.ifCond .eq 17, 3) := by decide +kernel
theorem dX3_take_297 : decode cX3_take 297 = .ok (.aload_n 0, 1) := by decide +kernel
theorem dX3_take_298 : decode cX3_take 298 = .ok (.iconst 1, 1) := by decide +kernel
theorem dX3_take_299 : decode cX3_take 299 = .ok (.bipush 99, 2) := by decide +kernel
theorem dX3_take_301 : decode cX3_take 301 = .ok (.invokevirtual 62, 3) := by decide +kernel
theorem dX3_take_304 : decode cX3_take 304 = .ok (.ifCond .eq 7, 3) := by decide +kernel
theorem dX3_take_307 : decode cX3_take 307 = .ok (.iconst 1, 1) := by decide +kernel
theorem dX3_take_308 : decode cX3_take 308 = .ok (.goto 4, 3) := by decide +kernel
theorem dX3_take_311 : decode cX3_take 311 = .ok (.iconst 0, 1) := by decide +kernel
theorem dX3_take_312 : decode cX3_take 312 = .ok (.ireturn, 1) := by decide +kernel
theorem dX3_take_313 : decode cX3_take 313 = .ok (.aload_n 0, 1) := by decide +kernel
theorem dX3_take_314 : decode cX3_take 314 = .ok (.iload_n 1, 1) := by decide +kernel
theorem dX3_take_315 : decode cX3_take 315 = .ok (.aload_n 2, 1) := by decide +kernel
theorem dX3_take_316 : decode cX3_take 316 = .ok (.getfield 44, 3) := by decide +kernel
theorem dX3_take_319 : decode cX3_take 319 = .ok (.invokevirtual 89, 3) := by decide +kernel
theorem dX3_take_322 : decode cX3_take 322 = .ok (.ireturn, 1) := by decide +kernel
theorem dX3_takeSort_0 : decode cX3_takeSort 0 = .ok (.iload_n 1, 1) := by decide +kernel
theorem dX3_takeSort_1 : decode cX3_takeSort 1 = .ok (.lookupswitch 213 #[(103, 35), (116, 178), (119, 117)], 35) := by decide +kernel
theorem dX3_takeSort_36 : decode cX3_takeSort 36 = .ok (.aload_n 0, 1) := by decide +kernel
theorem dX3_takeSort_37 : decode cX3_takeSort 37 = .ok (.iconst 1, 1) := by decide +kernel
theorem dX3_takeSort_38 : decode cX3_takeSort 38 = .ok (.iconst 5, 1) := by decide +kernel
theorem dX3_takeSort_39 : decode cX3_takeSort 39 = .ok (.invokevirtual 62, 3) := by decide +kernel
theorem dX3_takeSort_42 : decode cX3_takeSort 42 = .ok (.ifCond .eq 74, 3) := by decide +kernel
theorem dX3_takeSort_45 : decode cX3_takeSort 45 = .ok (.aload_n 0, 1) := by decide +kernel
theorem dX3_takeSort_46 : decode cX3_takeSort 46 = .ok (.iconst 2, 1) := by decide +kernel
theorem dX3_takeSort_47 : decode cX3_takeSort 47 = .ok (.bipush 30, 2) := by decide +kernel
theorem dX3_takeSort_49 : decode cX3_takeSort 49 = .ok (.invokevirtual 62, 3) := by decide +kernel
theorem dX3_takeSort_52 : decode cX3_takeSort 52 = .ok (.ifCond .eq 64, 3) := by decide +kernel
theorem dX3_takeSort_55 : decode cX3_takeSort 55 = .ok (.aload_n 0, 1) := by decide +kernel
theorem dX3_takeSort_56 : decode cX3_takeSort 56 = .ok (.iconst 3, 1) := by decide +kernel
theorem dX3_takeSort_57 : decode cX3_takeSort 57 = .ok (.bipush 30, 2) := by decide +kernel
theorem dX3_takeSort_59 : decode cX3_takeSort 59 = .ok (.invokevirtual 62, 3) := by decide +kernel
theorem dX3_takeSort_62 : decode cX3_takeSort 62 = .ok (.ifCond .eq 54, 3) := by decide +kernel
theorem dX3_takeSort_65 : decode cX3_takeSort 65 = .ok (.aload_n 0, 1) := by decide +kernel
theorem dX3_takeSort_66 : decode cX3_takeSort 66 = .ok (.iconst 4, 1) := by decide +kernel
theorem dX3_takeSort_67 : decode cX3_takeSort 67 = .ok (.bipush 9, 2) := by decide +kernel
theorem dX3_takeSort_69 : decode cX3_takeSort 69 = .ok (.invokevirtual 62, 3) := by decide +kernel
theorem dX3_takeSort_72 : decode cX3_takeSort 72 = .ok (.ifCond .eq 44, 3) := by decide +kernel
theorem dX3_takeSort_75 : decode cX3_takeSort 75 = .ok (.aload_n 2, 1) := by decide +kernel
theorem dX3_takeSort_76 : decode cX3_takeSort 76 = .ok (.aload_n 0, 1) := by decide +kernel
theorem dX3_takeSort_77 : decode cX3_takeSort 77 = .ok (.getfield 11, 3) := by decide +kernel
theorem dX3_takeSort_80 : decode cX3_takeSort 80 = .ok (.iconst 0, 1) := by decide +kernel
theorem dX3_takeSort_81 : decode cX3_takeSort 81 = .ok (.iaload, 1) := by decide +kernel
theorem dX3_takeSort_82 : decode cX3_takeSort 82 = .ok (.aload_n 0, 1) := by decide +kernel
theorem dX3_takeSort_83 : decode cX3_takeSort 83 = .ok (.getfield 11, 3) := by decide +kernel
theorem dX3_takeSort_86 : decode cX3_takeSort 86 = .ok (.iconst 1, 1) := by decide +kernel
theorem dX3_takeSort_87 : decode cX3_takeSort 87 = .ok (.iaload, 1) := by decide +kernel
theorem dX3_takeSort_88 : decode cX3_takeSort 88 = .ok (.aload_n 0, 1) := by decide +kernel
theorem dX3_takeSort_89 : decode cX3_takeSort 89 = .ok (.getfield 11, 3) := by decide +kernel
theorem dX3_takeSort_92 : decode cX3_takeSort 92 = .ok (.iconst 2, 1) := by decide +kernel
theorem dX3_takeSort_93 : decode cX3_takeSort 93 = .ok (.iaload, 1) := by decide +kernel
theorem dX3_takeSort_94 : decode cX3_takeSort 94 = .ok (.aload_n 0, 1) := by decide +kernel
theorem dX3_takeSort_95 : decode cX3_takeSort 95 = .ok (.getfield 11, 3) := by decide +kernel
theorem dX3_takeSort_98 : decode cX3_takeSort 98 = .ok (.iconst 3, 1) := by decide +kernel
theorem dX3_takeSort_99 : decode cX3_takeSort 99 = .ok (.iaload, 1) := by decide +kernel
theorem dX3_takeSort_100 : decode cX3_takeSort 100 = .ok (.aload_n 0, 1) := by decide +kernel
theorem dX3_takeSort_101 : decode cX3_takeSort 101 = .ok (.getfield 11, 3) := by decide +kernel
theorem dX3_takeSort_104 : decode cX3_takeSort 104 = .ok (.iconst 4, 1) := by decide +kernel
theorem dX3_takeSort_105 : decode cX3_takeSort 105 = .ok (.iaload, 1) := by decide +kernel
theorem dX3_takeSort_106 : decode cX3_takeSort 106 = .ok (.invokevirtual 93, 3) := by decide +kernel
theorem dX3_takeSort_109 : decode cX3_takeSort 109 = .ok (.ifCond .eq 7, 3) := by decide +kernel
theorem dX3_takeSort_112 : decode cX3_takeSort 112 = .ok (.iconst 1, 1) := by decide +kernel
theorem dX3_takeSort_113 : decode cX3_takeSort 113 = .ok (.goto 4, 3) := by decide +kernel
theorem dX3_takeSort_116 : decode cX3_takeSort 116 = .ok (.iconst 0, 1) := by decide +kernel
theorem dX3_takeSort_117 : decode cX3_takeSort 117 = .ok (.ireturn, 1) := by decide +kernel
theorem dX3_takeSort_118 : decode cX3_takeSort 118 = .ok (.aload_n 0, 1) := by decide +kernel
theorem dX3_takeSort_119 : decode cX3_takeSort 119 = .ok (.iconst 1, 1) := by decide +kernel
theorem dX3_takeSort_120 : decode cX3_takeSort 120 = .ok (.bipush 30, 2) := by decide +kernel
theorem dX3_takeSort_122 : decode cX3_takeSort 122 = .ok (.invokevirtual 62, 3) := by decide +kernel
theorem dX3_takeSort_125 : decode cX3_takeSort 125 = .ok (.ifCond .eq 52, 3) := by decide +kernel
theorem dX3_takeSort_128 : decode cX3_takeSort 128 = .ok (.aload_n 0, 1) := by decide +kernel
theorem dX3_takeSort_129 : decode cX3_takeSort 129 = .ok (.getfield 11, 3) := by decide +kernel
theorem dX3_takeSort_132 : decode cX3_takeSort 132 = .ok (.iconst 2, 1) := by decide +kernel
theorem dX3_takeSort_133 : decode cX3_takeSort 133 = .ok (.iaload, 1) := by decide +kernel
theorem dX3_takeSort_134 : decode cX3_takeSort 134 = .ok (.iconst 1, 1) := by decide +kernel
theorem dX3_takeSort_135 : decode cX3_takeSort 135 = .ok (.if_icmp .lt 42, 3) := by decide +kernel
theorem dX3_takeSort_138 : decode cX3_takeSort 138 = .ok (.aload_n 0, 1) := by decide +kernel
theorem dX3_takeSort_139 : decode cX3_takeSort 139 = .ok (.iconst 2, 1) := by decide +kernel
theorem dX3_takeSort_140 : decode cX3_takeSort 140 = .ok (.bipush 10, 2) := by decide +kernel
theorem dX3_takeSort_142 : decode cX3_takeSort 142 = .ok (.invokevirtual 62, 3) := by decide +kernel
theorem dX3_takeSort_145 : decode cX3_takeSort 145 = .ok (.ifCond .eq 32, 3) := by decide +kernel
theorem dX3_takeSort_148 : decode cX3_takeSort 148 = .ok (.aload_n 2, 1) := by decide +kernel
theorem dX3_takeSort_149 : decode cX3_takeSort 149 = .ok (.aload_n 0, 1) := by decide +kernel
theorem dX3_takeSort_150 : decode cX3_takeSort 150 = .ok (.getfield 11, 3) := by decide +kernel
theorem dX3_takeSort_153 : decode cX3_takeSort 153 = .ok (.iconst 0, 1) := by decide +kernel
theorem dX3_takeSort_154 : decode cX3_takeSort 154 = .ok (.iaload, 1) := by decide +kernel
theorem dX3_takeSort_155 : decode cX3_takeSort 155 = .ok (.aload_n 0, 1) := by decide +kernel
theorem dX3_takeSort_156 : decode cX3_takeSort 156 = .ok (.getfield 11, 3) := by decide +kernel
theorem dX3_takeSort_159 : decode cX3_takeSort 159 = .ok (.iconst 1, 1) := by decide +kernel
theorem dX3_takeSort_160 : decode cX3_takeSort 160 = .ok (.iaload, 1) := by decide +kernel
theorem dX3_takeSort_161 : decode cX3_takeSort 161 = .ok (.aload_n 0, 1) := by decide +kernel
theorem dX3_takeSort_162 : decode cX3_takeSort 162 = .ok (.getfield 11, 3) := by decide +kernel
theorem dX3_takeSort_165 : decode cX3_takeSort 165 = .ok (.iconst 2, 1) := by decide +kernel
theorem dX3_takeSort_166 : decode cX3_takeSort 166 = .ok (.iaload, 1) := by decide +kernel
theorem dX3_takeSort_167 : decode cX3_takeSort 167 = .ok (.invokevirtual 97, 3) := by decide +kernel
theorem dX3_takeSort_170 : decode cX3_takeSort 170 = .ok (.ifCond .eq 7, 3) := by decide +kernel
theorem dX3_takeSort_173 : decode cX3_takeSort 173 = .ok (.iconst 1, 1) := by decide +kernel
theorem dX3_takeSort_174 : decode cX3_takeSort 174 = .ok (.goto 4, 3) := by decide +kernel
theorem dX3_takeSort_177 : decode cX3_takeSort 177 = .ok (.iconst 0, 1) := by decide +kernel
theorem dX3_takeSort_178 : decode cX3_takeSort 178 = .ok (.ireturn, 1) := by decide +kernel
theorem dX3_takeSort_179 : decode cX3_takeSort 179 = .ok (.aload_n 0, 1) := by decide +kernel
theorem dX3_takeSort_180 : decode cX3_takeSort 180 = .ok (.iconst 1, 1) := by decide +kernel
theorem dX3_takeSort_181 : decode cX3_takeSort 181 = .ok (.bipush 30, 2) := by decide +kernel
theorem dX3_takeSort_183 : decode cX3_takeSort 183 = .ok (.invokevirtual 62, 3) := by decide +kernel
theorem dX3_takeSort_186 : decode cX3_takeSort 186 = .ok (.ifCond .eq 26, 3) := by decide +kernel
theorem dX3_takeSort_189 : decode cX3_takeSort 189 = .ok (.aload_n 2, 1) := by decide +kernel
theorem dX3_takeSort_190 : decode cX3_takeSort 190 = .ok (.aload_n 0, 1) := by decide +kernel
theorem dX3_takeSort_191 : decode cX3_takeSort 191 = .ok (.getfield 11, 3) := by decide +kernel
theorem dX3_takeSort_194 : decode cX3_takeSort 194 = .ok (.iconst 0, 1) := by decide +kernel
theorem dX3_takeSort_195 : decode cX3_takeSort 195 = .ok (.iaload, 1) := by decide +kernel
theorem dX3_takeSort_196 : decode cX3_takeSort 196 = .ok (.aload_n 0, 1) := by decide +kernel
theorem dX3_takeSort_197 : decode cX3_takeSort 197 = .ok (.getfield 11, 3) := by decide +kernel
theorem dX3_takeSort_200 : decode cX3_takeSort 200 = .ok (.iconst 1, 1) := by decide +kernel
theorem dX3_takeSort_201 : decode cX3_takeSort 201 = .ok (.iaload, 1) := by decide +kernel
theorem dX3_takeSort_202 : decode cX3_takeSort 202 = .ok (.invokevirtual 100, 3) := by decide +kernel
theorem dX3_takeSort_205 : decode cX3_takeSort 205 = .ok (.ifCond .eq 7, 3) := by decide +kernel
theorem dX3_takeSort_208 : decode cX3_takeSort 208 = .ok (.iconst 1, 1) := by decide +kernel
theorem dX3_takeSort_209 : decode cX3_takeSort 209 = .ok (.goto 4, 3) := by decide +kernel
theorem dX3_takeSort_212 : decode cX3_takeSort 212 = .ok (.iconst 0, 1) := by decide +kernel
theorem dX3_takeSort_213 : decode cX3_takeSort 213 = .ok (.ireturn, 1) := by decide +kernel
theorem dX3_takeSort_214 : decode cX3_takeSort 214 = .ok (.iconst 0, 1) := by decide +kernel
theorem dX3_takeSort_215 : decode cX3_takeSort 215 = .ok (.ireturn, 1) := by decide +kernel
theorem dX4_init_0 : decode cX4_init 0 = .ok (.aload_n 0, 1) := by decide +kernel
theorem dX4_init_1 : decode cX4_init 1 = .ok (.invokespecial 3, 3) := by decide +kernel
theorem dX4_init_4 : decode cX4_init 4 = .ok (.aload_n 0, 1) := by decide +kernel
theorem dX4_init_5 : decode cX4_init 5 = .ok (.new 9, 3) := by decide +kernel
theorem dX4_init_8 : decode cX4_init 8 = .ok (.dup, 1) := by decide +kernel
theorem dX4_init_9 : decode cX4_init 9 = .ok (.invokespecial 11, 3) := by decide +kernel
theorem dX4_init_12 : decode cX4_init 12 = .ok (.putfield 12, 3) := by decide +kernel
theorem dX4_init_15 : decode cX4_init 15 = .ok (.aload_n 0, 1) := by decide +kernel
theorem dX4_init_16 : decode cX4_init 16 = .ok (.bipush 8, 2) := by decide +kernel
theorem dX4_init_18 : decode cX4_init 18 = .ok (.newarray .int, 2) := by decide +kernel
theorem dX4_init_20 : decode cX4_init 20 = .ok (.putfield 20, 3) := by decide +kernel
theorem dX4_init_23 : decode cX4_init 23 = .ok (.aload_n 0, 1) := by decide +kernel
theorem dX4_init_24 : decode cX4_init 24 = .ok (.sipush 549, 3) := by decide +kernel
theorem dX4_init_27 : decode cX4_init 27 = .ok (.newarray .long, 2) := by decide +kernel
theorem dX4_init_29 : decode cX4_init 29 = .ok (.putfield 24, 3) := by decide +kernel
theorem dX4_init_32 : decode cX4_init 32 = .ok (.return_, 1) := by decide +kernel
theorem dX4_take_0 : decode cX4_take 0 = .ok (.aload_n 0, 1) := by decide +kernel
theorem dX4_take_1 : decode cX4_take 1 = .ok (.aload_n 2, 1) := by decide +kernel
theorem dX4_take_2 : decode cX4_take 2 = .ok (.putfield 12, 3) := by decide +kernel
theorem dX4_take_5 : decode cX4_take 5 = .ok (.aload_n 0, 1) := by decide +kernel
theorem dX4_take_6 : decode cX4_take 6 = .ok (.aload_n 1, 1) := by decide +kernel
theorem dX4_take_7 : decode cX4_take 7 = .ok (.getfield 28, 3) := by decide +kernel
theorem dX4_take_10 : decode cX4_take 10 = .ok (.putfield 34, 3) := by decide +kernel
theorem dX4_take_13 : decode cX4_take 13 = .ok (.aload_n 0, 1) := by decide +kernel
theorem dX4_take_14 : decode cX4_take 14 = .ok (.aload_n 1, 1) := by decide +kernel
theorem dX4_take_15 : decode cX4_take 15 = .ok (.getfield 35, 3) := by decide +kernel
theorem dX4_take_18 : decode cX4_take 18 = .ok (.putfield 38, 3) := by decide +kernel
theorem dX4_take_21 : decode cX4_take 21 = .ok (.aload_n 0, 1) := by decide +kernel
theorem dX4_take_22 : decode cX4_take 22 = .ok (.aload_n 1, 1) := by decide +kernel
theorem dX4_take_23 : decode cX4_take 23 = .ok (.getfield 39, 3) := by decide +kernel
theorem dX4_take_26 : decode cX4_take 26 = .ok (.putfield 42, 3) := by decide +kernel
theorem dX4_take_29 : decode cX4_take 29 = .ok (.iconst 0, 1) := by decide +kernel
theorem dX4_take_30 : decode cX4_take 30 = .ok (.istore_n 3, 1) := by decide +kernel
theorem dX4_take_31 : decode cX4_take 31 = .ok (.iload_n 3, 1) := by decide +kernel
theorem dX4_take_32 : decode cX4_take 32 = .ok (.aload_n 0, 1) := by decide +kernel
theorem dX4_take_33 : decode cX4_take 33 = .ok (.getfield 12, 3) := by decide +kernel
theorem dX4_take_36 : decode cX4_take 36 = .ok (.getfield 43, 3) := by decide +kernel
theorem dX4_take_39 : decode cX4_take 39 = .ok (.if_icmp .ge 36, 3) := by decide +kernel
theorem dX4_take_42 : decode cX4_take 42 = .ok (.aload_n 0, 1) := by decide +kernel
theorem dX4_take_43 : decode cX4_take 43 = .ok (.getfield 20, 3) := by decide +kernel
theorem dX4_take_46 : decode cX4_take 46 = .ok (.iload_n 3, 1) := by decide +kernel
theorem dX4_take_47 : decode cX4_take 47 = .ok (.aload_n 0, 1) := by decide +kernel
theorem dX4_take_48 : decode cX4_take 48 = .ok (.getfield 12, 3) := by decide +kernel
theorem dX4_take_51 : decode cX4_take 51 = .ok (.getfield 46, 3) := by decide +kernel
theorem dX4_take_54 : decode cX4_take 54 = .ok (.iload_n 3, 1) := by decide +kernel
theorem dX4_take_55 : decode cX4_take 55 = .ok (.iaload, 1) := by decide +kernel
theorem dX4_take_56 : decode cX4_take 56 = .ok (.aload_n 0, 1) := by decide +kernel
theorem dX4_take_57 : decode cX4_take 57 = .ok (.getfield 12, 3) := by decide +kernel
theorem dX4_take_60 : decode cX4_take 60 = .ok (.getfield 49, 3) := by decide +kernel
theorem dX4_take_63 : decode cX4_take 63 = .ok (.iload_n 3, 1) := by decide +kernel
theorem dX4_take_64 : decode cX4_take 64 = .ok (.iaload, 1) := by decide +kernel
theorem dX4_take_65 : decode cX4_take 65 = .ok (.invokestatic 52, 3) := by decide +kernel
theorem dX4_take_68 : decode cX4_take 68 = .ok (.iastore, 1) := by decide +kernel
theorem dX4_take_69 : decode cX4_take 69 = .ok (.iinc 3 1, 3) := by decide +kernel
theorem dX4_take_72 : decode cX4_take 72 = .ok (.goto (-41), 3) := by decide +kernel
theorem dX4_take_75 : decode cX4_take 75 = .ok (.return_, 1) := by decide +kernel
theorem dX4_clearTable_0 : decode cX4_clearTable 0 = .ok (.aload_n 0, 1) := by decide +kernel
theorem dX4_clearTable_1 : decode cX4_clearTable 1 = .ok (.getfield 24, 3) := by decide +kernel
theorem dX4_clearTable_4 : decode cX4_clearTable 4 = .ok (.lconst 0, 1) := by decide +kernel
theorem dX4_clearTable_5 : decode cX4_clearTable 5 = .ok (.invokestatic 58, 3) := by decide +kernel
theorem dX4_clearTable_8 : decode cX4_clearTable 8 = .ok (.aload_n 0, 1) := by decide +kernel
theorem dX4_clearTable_9 : decode cX4_clearTable 9 = .ok (.getfield 24, 3) := by decide +kernel
theorem dX4_clearTable_12 : decode cX4_clearTable 12 = .ok (.iconst 0, 1) := by decide +kernel
theorem dX4_clearTable_13 : decode cX4_clearTable 13 = .ok (.lconst 1, 1) := by decide +kernel
theorem dX4_clearTable_14 : decode cX4_clearTable 14 = .ok (.lastore, 1) := by decide +kernel
theorem dX4_clearTable_15 : decode cX4_clearTable 15 = .ok (.return_, 1) := by decide +kernel
theorem dX4_join_0 : decode cX4_join 0 = .ok (.iload_n 1, 1) := by decide +kernel
theorem dX4_join_1 : decode cX4_join 1 = .ok (.iconst 1, 1) := by decide +kernel
theorem dX4_join_2 : decode cX4_join 2 = .ok (.if_icmp .lt 24, 3) := by decide +kernel
theorem dX4_join_5 : decode cX4_join 5 = .ok (.iload_n 2, 1) := by decide +kernel
theorem dX4_join_6 : decode cX4_join 6 = .ok (.iload_n 1, 1) := by decide +kernel
theorem dX4_join_7 : decode cX4_join 7 = .ok (.iconst 1, 1) := by decide +kernel
theorem dX4_join_8 : decode cX4_join 8 = .ok (.isub, 1) := by decide +kernel
theorem dX4_join_9 : decode cX4_join 9 = .ok (.if_icmp .lt 17, 3) := by decide +kernel
theorem dX4_join_12 : decode cX4_join 12 = .ok (.iload 4, 2) := by decide +kernel
theorem dX4_join_14 : decode cX4_join 14 = .ok (.bipush 61, 2) := by decide +kernel
theorem dX4_join_16 : decode cX4_join 16 = .ok (.if_icmp .ge 10, 3) := by decide +kernel
theorem dX4_join_19 : decode cX4_join 19 = .ok (.iload 5, 2) := by decide +kernel
theorem dX4_join_21 : decode cX4_join 21 = .ok (.bipush 8, 2) := by decide +kernel
theorem dX4_join_23 : decode cX4_join 23 = .ok (.if_icmp .le 4, 3) := by decide +kernel
theorem dX4_join_26 : decode cX4_join 26 = .ok (.return_, 1) := by decide +kernel
theorem dX4_join_27 : decode cX4_join 27 = .ok (.iload 5, 2) := by decide +kernel
theorem dX4_join_29 : decode cX4_join 29 = .ok (.istore 6, 2) := by decide +kernel
theorem dX4_join_31 : decode cX4_join 31 = .ok (.iload 6, 2) := by decide +kernel
theorem dX4_join_33 : decode cX4_join 33 = .ok (.ifCond .lt 130, 3) := by decide +kernel
theorem dX4_join_36 : decode cX4_join 36 = .ok (.iload 6, 2) := by decide +kernel
theorem dX4_join_38 : decode cX4_join 38 = .ok (.bipush 61, 2) := by decide +kernel
theorem dX4_join_40 : decode cX4_join 40 = .ok (.imul, 1) := by decide +kernel
theorem dX4_join_41 : decode cX4_join 41 = .ok (.istore 7, 2) := by decide +kernel
theorem dX4_join_43 : decode cX4_join 43 = .ok (.lconst 0, 1) := by decide +kernel
theorem dX4_join_44 : decode cX4_join 44 = .ok (.lstore 8, 2) := by decide +kernel
theorem dX4_join_46 : decode cX4_join 46 = .ok (.iconst 0, 1) := by decide +kernel
theorem dX4_join_47 : decode cX4_join 47 = .ok (.istore 10, 2) := by decide +kernel
theorem dX4_join_49 : decode cX4_join 49 = .ok (.iload 10, 2) := by decide +kernel
theorem dX4_join_51 : decode cX4_join 51 = .ok (.iload 4, 2) := by decide +kernel
theorem dX4_join_53 : decode cX4_join 53 = .ok (.if_icmp .gt 104, 3) := by decide +kernel
theorem dX4_join_56 : decode cX4_join 56 = .ok (.iload 6, 2) := by decide +kernel
theorem dX4_join_58 : decode cX4_join 58 = .ok (.ifCond .le 29, 3) := by decide +kernel
theorem dX4_join_61 : decode cX4_join 61 = .ok (.iload 10, 2) := by decide +kernel
theorem dX4_join_63 : decode cX4_join 63 = .ok (.iload_n 1, 1) := by decide +kernel
theorem dX4_join_64 : decode cX4_join 64 = .ok (.if_icmp .lt 23, 3) := by decide +kernel
theorem dX4_join_67 : decode cX4_join 67 = .ok (.lload 8, 2) := by decide +kernel
theorem dX4_join_69 : decode cX4_join 69 = .ok (.aload_n 0, 1) := by decide +kernel
theorem dX4_join_70 : decode cX4_join 70 = .ok (.getfield 24, 3) := by decide +kernel
theorem dX4_join_73 : decode cX4_join 73 = .ok (.iload 7, 2) := by decide +kernel
theorem dX4_join_75 : decode cX4_join 75 = .ok (.bipush 61, 2) := by decide +kernel
theorem dX4_join_77 : decode cX4_join 77 = .ok (.isub, 1) := by decide +kernel
theorem dX4_join_78 : decode cX4_join 78 = .ok (.iload 10, 2) := by decide +kernel
theorem dX4_join_80 : decode cX4_join 80 = .ok (.iadd, 1) := by decide +kernel
theorem dX4_join_81 : decode cX4_join 81 = .ok (.iload_n 1, 1) := by decide +kernel
theorem dX4_join_82 : decode cX4_join 82 = .ok (.isub, 1) := by decide +kernel
theorem dX4_join_83 : decode cX4_join 83 = .ok (.laload, 1) := by decide +kernel
theorem dX4_join_84 : decode cX4_join 84 = .ok (.ladd, 1) := by decide +kernel
theorem dX4_join_85 : decode cX4_join 85 = .ok (.lstore 8, 2) := by decide +kernel
theorem dX4_join_87 : decode cX4_join 87 = .ok (.iload 6, 2) := by decide +kernel
theorem dX4_join_89 : decode cX4_join 89 = .ok (.ifCond .le 31, 3) := by decide +kernel
theorem dX4_join_92 : decode cX4_join 92 = .ok (.iload 10, 2) := by decide +kernel
theorem dX4_join_94 : decode cX4_join 94 = .ok (.iload_n 2, 1) := by decide +kernel
theorem dX4_join_95 : decode cX4_join 95 = .ok (.if_icmp .le 25, 3) := by decide +kernel
theorem dX4_join_98 : decode cX4_join 98 = .ok (.lload 8, 2) := by decide +kernel
theorem dX4_join_100 : decode cX4_join 100 = .ok (.aload_n 0, 1) := by decide +kernel
theorem dX4_join_101 : decode cX4_join 101 = .ok (.getfield 24, 3) := by decide +kernel
theorem dX4_join_104 : decode cX4_join 104 = .ok (.iload 7, 2) := by decide +kernel
theorem dX4_join_106 : decode cX4_join 106 = .ok (.bipush 61, 2) := by decide +kernel
theorem dX4_join_108 : decode cX4_join 108 = .ok (.isub, 1) := by decide +kernel
theorem dX4_join_109 : decode cX4_join 109 = .ok (.iload 10, 2) := by decide +kernel
theorem dX4_join_111 : decode cX4_join 111 = .ok (.iadd, 1) := by decide +kernel
theorem dX4_join_112 : decode cX4_join 112 = .ok (.iload_n 2, 1) := by decide +kernel
theorem dX4_join_113 : decode cX4_join 113 = .ok (.isub, 1) := by decide +kernel
theorem dX4_join_114 : decode cX4_join 114 = .ok (.iconst 1, 1) := by decide +kernel
theorem dX4_join_115 : decode cX4_join 115 = .ok (.isub, 1) := by decide +kernel
theorem dX4_join_116 : decode cX4_join 116 = .ok (.laload, 1) := by decide +kernel
theorem dX4_join_117 : decode cX4_join 117 = .ok (.lsub, 1) := by decide +kernel
theorem dX4_join_118 : decode cX4_join 118 = .ok (.lstore 8, 2) := by decide +kernel
theorem dX4_join_120 : decode cX4_join 120 = .ok (.aload_n 0, 1) := by decide +kernel
theorem dX4_join_121 : decode cX4_join 121 = .ok (.getfield 24, 3) := by decide +kernel
theorem dX4_join_124 : decode cX4_join 124 = .ok (.iload 7, 2) := by decide +kernel
theorem dX4_join_126 : decode cX4_join 126 = .ok (.iload 10, 2) := by decide +kernel
theorem dX4_join_128 : decode cX4_join 128 = .ok (.iadd, 1) := by decide +kernel
theorem dX4_join_129 : decode cX4_join 129 = .ok (.lload 8, 2) := by decide +kernel
theorem dX4_join_131 : decode cX4_join 131 = .ok (.iload_n 3, 1) := by decide +kernel
theorem dX4_join_132 : decode cX4_join 132 = .ok (.ifCond .eq 16, 3) := by decide +kernel
theorem dX4_join_135 : decode cX4_join 135 = .ok (.aload_n 0, 1) := by decide +kernel
theorem dX4_join_136 : decode cX4_join 136 = .ok (.getfield 24, 3) := by decide +kernel
theorem dX4_join_139 : decode cX4_join 139 = .ok (.iload 7, 2) := by decide +kernel
theorem dX4_join_141 : decode cX4_join 141 = .ok (.iload 10, 2) := by decide +kernel
theorem dX4_join_143 : decode cX4_join 143 = .ok (.iadd, 1) := by decide +kernel
theorem dX4_join_144 : decode cX4_join 144 = .ok (.laload, 1) := by decide +kernel
theorem dX4_join_145 : decode cX4_join 145 = .ok (.goto 4, 3) := by decide +kernel
theorem dX4_join_148 : decode cX4_join 148 = .ok (.lconst 0, 1) := by decide +kernel
theorem dX4_join_149 : decode cX4_join 149 = .ok (.ladd, 1) := by decide +kernel
theorem dX4_join_150 : decode cX4_join 150 = .ok (.lastore, 1) := by decide +kernel
theorem dX4_join_151 : decode cX4_join 151 = .ok (.iinc 10 1, 3) := by decide +kernel
theorem dX4_join_154 : decode cX4_join 154 = .ok (.goto (-105), 3) := by decide +kernel
theorem dX4_join_157 : decode cX4_join 157 = .ok (.iinc 6 (-1), 3) := by decide +kernel
theorem dX4_join_160 : decode cX4_join 160 = .ok (.goto (-129), 3) := by decide +kernel
theorem dX4_join_163 : decode cX4_join 163 = .ok (.return_, 1) := by decide +kernel
theorem dX4_justWays_0 : decode cX4_justWays 0 = .ok (.aload_n 0, 1) := by decide +kernel
theorem dX4_justWays_1 : decode cX4_justWays 1 = .ok (.invokevirtual 64, 3) := by decide +kernel
theorem dX4_justWays_4 : decode cX4_justWays 4 = .ok (.iconst 0, 1) := by decide +kernel
theorem dX4_justWays_5 : decode cX4_justWays 5 = .ok (.istore_n 1, 1) := by decide +kernel
theorem dX4_justWays_6 : decode cX4_justWays 6 = .ok (.iload_n 1, 1) := by decide +kernel
theorem dX4_justWays_7 : decode cX4_justWays 7 = .ok (.aload_n 0, 1) := by decide +kernel
theorem dX4_justWays_8 : decode cX4_justWays 8 = .ok (.getfield 12, 3) := by decide +kernel
theorem dX4_justWays_11 : decode cX4_justWays 11 = .ok (.getfield 43, 3) := by decide +kernel
theorem dX4_justWays_14 : decode cX4_justWays 14 = .ok (.if_icmp .ge 32, 3) := by decide +kernel
theorem dX4_justWays_17 : decode cX4_justWays 17 = .ok (.aload_n 0, 1) := by decide +kernel
theorem dX4_justWays_18 : decode cX4_justWays 18 = .ok (.iconst 1, 1) := by decide +kernel
theorem dX4_justWays_19 : decode cX4_justWays 19 = .ok (.aload_n 0, 1) := by decide +kernel
theorem dX4_justWays_20 : decode cX4_justWays 20 = .ok (.getfield 20, 3) := by decide +kernel
theorem dX4_justWays_23 : decode cX4_justWays 23 = .ok (.iload_n 1, 1) := by decide +kernel
theorem dX4_justWays_24 : decode cX4_justWays 24 = .ok (.iaload, 1) := by decide +kernel
theorem dX4_justWays_25 : decode cX4_justWays 25 = .ok (.iconst 1, 1) := by decide +kernel
theorem dX4_justWays_26 : decode cX4_justWays 26 = .ok (.aload_n 0, 1) := by decide +kernel
theorem dX4_justWays_27 : decode cX4_justWays 27 = .ok (.getfield 34, 3) := by decide +kernel
theorem dX4_justWays_30 : decode cX4_justWays 30 = .ok (.aload_n 0, 1) := by decide +kernel
theorem dX4_justWays_31 : decode cX4_justWays 31 = .ok (.getfield 12, 3) := by decide +kernel
theorem dX4_justWays_34 : decode cX4_justWays 34 = .ok (.getfield 43, 3) := by decide +kernel
theorem dX4_justWays_37 : decode cX4_justWays 37 = .ok (.invokevirtual 67, 3) := by decide +kernel
theorem dX4_justWays_40 : decode cX4_justWays 40 = .ok (.iinc 1 1, 3) := by decide +kernel
theorem dX4_justWays_43 : decode cX4_justWays 43 = .ok (.goto (-37), 3) := by decide +kernel
theorem dX4_justWays_46 : decode cX4_justWays 46 = .ok (.lconst 0, 1) := by decide +kernel
theorem dX4_justWays_47 : decode cX4_justWays 47 = .ok (.lstore_n 1, 1) := by decide +kernel
theorem dX4_justWays_48 : decode cX4_justWays 48 = .ok (.aload_n 0, 1) := by decide +kernel
theorem dX4_justWays_49 : decode cX4_justWays 49 = .ok (.getfield 38, 3) := by decide +kernel
theorem dX4_justWays_52 : decode cX4_justWays 52 = .ok (.istore_n 3, 1) := by decide +kernel
theorem dX4_justWays_53 : decode cX4_justWays 53 = .ok (.iload_n 3, 1) := by decide +kernel
theorem dX4_justWays_54 : decode cX4_justWays 54 = .ok (.aload_n 0, 1) := by decide +kernel
theorem dX4_justWays_55 : decode cX4_justWays 55 = .ok (.getfield 12, 3) := by decide +kernel
theorem dX4_justWays_58 : decode cX4_justWays 58 = .ok (.getfield 43, 3) := by decide +kernel
theorem dX4_justWays_61 : decode cX4_justWays 61 = .ok (.if_icmp .gt 26, 3) := by decide +kernel
theorem dX4_justWays_64 : decode cX4_justWays 64 = .ok (.lload_n 1, 1) := by decide +kernel
theorem dX4_justWays_65 : decode cX4_justWays 65 = .ok (.aload_n 0, 1) := by decide +kernel
theorem dX4_justWays_66 : decode cX4_justWays 66 = .ok (.getfield 24, 3) := by decide +kernel
theorem dX4_justWays_69 : decode cX4_justWays 69 = .ok (.iload_n 3, 1) := by decide +kernel
theorem dX4_justWays_70 : decode cX4_justWays 70 = .ok (.bipush 61, 2) := by decide +kernel
theorem dX4_justWays_72 : decode cX4_justWays 72 = .ok (.imul, 1) := by decide +kernel
theorem dX4_justWays_73 : decode cX4_justWays 73 = .ok (.aload_n 0, 1) := by decide +kernel
theorem dX4_justWays_74 : decode cX4_justWays 74 = .ok (.getfield 34, 3) := by decide +kernel
theorem dX4_justWays_77 : decode cX4_justWays 77 = .ok (.iadd, 1) := by decide +kernel
theorem dX4_justWays_78 : decode cX4_justWays 78 = .ok (.laload, 1) := by decide +kernel
theorem dX4_justWays_79 : decode cX4_justWays 79 = .ok (.ladd, 1) := by decide +kernel
theorem dX4_justWays_80 : decode cX4_justWays 80 = .ok (.lstore_n 1, 1) := by decide +kernel
theorem dX4_justWays_81 : decode cX4_justWays 81 = .ok (.iinc 3 1, 3) := by decide +kernel
theorem dX4_justWays_84 : decode cX4_justWays 84 = .ok (.goto (-31), 3) := by decide +kernel
theorem dX4_justWays_87 : decode cX4_justWays 87 = .ok (.lload_n 1, 1) := by decide +kernel
theorem dX4_justWays_88 : decode cX4_justWays 88 = .ok (.lreturn, 1) := by decide +kernel
theorem dX4_firstGift_0 : decode cX4_firstGift 0 = .ok (.aload_n 0, 1) := by decide +kernel
theorem dX4_firstGift_1 : decode cX4_firstGift 1 = .ok (.getfield 34, 3) := by decide +kernel
theorem dX4_firstGift_4 : decode cX4_firstGift 4 = .ok (.istore_n 2, 1) := by decide +kernel
theorem dX4_firstGift_5 : decode cX4_firstGift 5 = .ok (.aload_n 0, 1) := by decide +kernel
theorem dX4_firstGift_6 : decode cX4_firstGift 6 = .ok (.getfield 38, 3) := by decide +kernel
theorem dX4_firstGift_9 : decode cX4_firstGift 9 = .ok (.istore_n 3, 1) := by decide +kernel
theorem dX4_firstGift_10 : decode cX4_firstGift 10 = .ok (.iconst 0, 1) := by decide +kernel
theorem dX4_firstGift_11 : decode cX4_firstGift 11 = .ok (.istore 4, 2) := by decide +kernel
theorem dX4_firstGift_13 : decode cX4_firstGift 13 = .ok (.iload 4, 2) := by decide +kernel
theorem dX4_firstGift_15 : decode cX4_firstGift 15 = .ok (.iload_n 1, 1) := by decide +kernel
theorem dX4_firstGift_16 : decode cX4_firstGift 16 = .ok (.if_icmp .gt 76, 3) := by decide +kernel
theorem dX4_firstGift_19 : decode cX4_firstGift 19 = .ok (.iload 4, 2) := by decide +kernel
theorem dX4_firstGift_21 : decode cX4_firstGift 21 = .ok (.bipush 8, 2) := by decide +kernel
theorem dX4_firstGift_23 : decode cX4_firstGift 23 = .ok (.if_icmp .ge 69, 3) := by decide +kernel
theorem dX4_firstGift_26 : decode cX4_firstGift 26 = .ok (.aload_n 0, 1) := by decide +kernel
theorem dX4_firstGift_27 : decode cX4_firstGift 27 = .ok (.getfield 12, 3) := by decide +kernel
theorem dX4_firstGift_30 : decode cX4_firstGift 30 = .ok (.iload 4, 2) := by decide +kernel
theorem dX4_firstGift_32 : decode cX4_firstGift 32 = .ok (.invokevirtual 71, 3) := by decide +kernel
theorem dX4_firstGift_35 : decode cX4_firstGift 35 = .ok (.istore 5, 2) := by decide +kernel
theorem dX4_firstGift_37 : decode cX4_firstGift 37 = .ok (.iload 5, 2) := by decide +kernel
theorem dX4_firstGift_39 : decode cX4_firstGift 39 = .ok (.bipush (-4), 2) := by decide +kernel
theorem dX4_firstGift_41 : decode cX4_firstGift 41 = .ok (.if_icmp .ne 6, 3) := by decide +kernel
theorem dX4_firstGift_44 : decode cX4_firstGift 44 = .ok (.goto 42, 3) := by decide +kernel
theorem dX4_firstGift_47 : decode cX4_firstGift 47 = .ok (.aload_n 0, 1) := by decide +kernel
theorem dX4_firstGift_48 : decode cX4_firstGift 48 = .ok (.iload 4, 2) := by decide +kernel
theorem dX4_firstGift_50 : decode cX4_firstGift 50 = .ok (.aload_n 0, 1) := by decide +kernel
theorem dX4_firstGift_51 : decode cX4_firstGift 51 = .ok (.getfield 20, 3) := by decide +kernel
theorem dX4_firstGift_54 : decode cX4_firstGift 54 = .ok (.iload 5, 2) := by decide +kernel
theorem dX4_firstGift_56 : decode cX4_firstGift 56 = .ok (.iaload, 1) := by decide +kernel
theorem dX4_firstGift_57 : decode cX4_firstGift 57 = .ok (.iload_n 2, 1) := by decide +kernel
theorem dX4_firstGift_58 : decode cX4_firstGift 58 = .ok (.iload_n 3, 1) := by decide +kernel
theorem dX4_firstGift_59 : decode cX4_firstGift 59 = .ok (.invokevirtual 75, 3) := by decide +kernel
theorem dX4_firstGift_62 : decode cX4_firstGift 62 = .ok (.istore 6, 2) := by decide +kernel
theorem dX4_firstGift_64 : decode cX4_firstGift 64 = .ok (.iload 4, 2) := by decide +kernel
theorem dX4_firstGift_66 : decode cX4_firstGift 66 = .ok (.iload_n 1, 1) := by decide +kernel
theorem dX4_firstGift_67 : decode cX4_firstGift 67 = .ok (.if_icmp .ne 6, 3) := by decide +kernel
theorem dX4_firstGift_70 : decode cX4_firstGift 70 = .ok (.iload 6, 2) := by decide +kernel
theorem dX4_firstGift_72 : decode cX4_firstGift 72 = .ok (.ireturn, 1) := by decide +kernel
theorem dX4_firstGift_73 : decode cX4_firstGift 73 = .ok (.iload_n 2, 1) := by decide +kernel
theorem dX4_firstGift_74 : decode cX4_firstGift 74 = .ok (.iload 6, 2) := by decide +kernel
theorem dX4_firstGift_76 : decode cX4_firstGift 76 = .ok (.isub, 1) := by decide +kernel
theorem dX4_firstGift_77 : decode cX4_firstGift 77 = .ok (.istore_n 2, 1) := by decide +kernel
theorem dX4_firstGift_78 : decode cX4_firstGift 78 = .ok (.iload 6, 2) := by decide +kernel
theorem dX4_firstGift_80 : decode cX4_firstGift 80 = .ok (.ifCond .le 6, 3) := by decide +kernel
theorem dX4_firstGift_83 : decode cX4_firstGift 83 = .ok (.iinc 3 (-1), 3) := by decide +kernel
theorem dX4_firstGift_86 : decode cX4_firstGift 86 = .ok (.iinc 4 1, 3) := by decide +kernel
theorem dX4_firstGift_89 : decode cX4_firstGift 89 = .ok (.goto (-76), 3) := by decide +kernel
theorem dX4_firstGift_92 : decode cX4_firstGift 92 = .ok (.iconst 0, 1) := by decide +kernel
theorem dX4_firstGift_93 : decode cX4_firstGift 93 = .ok (.ireturn, 1) := by decide +kernel
theorem dX4_lowestGift_0 : decode cX4_lowestGift 0 = .ok (.iconst 0, 1) := by decide +kernel
theorem dX4_lowestGift_1 : decode cX4_lowestGift 1 = .ok (.istore 5, 2) := by decide +kernel
theorem dX4_lowestGift_3 : decode cX4_lowestGift 3 = .ok (.iconst 0, 1) := by decide +kernel
theorem dX4_lowestGift_4 : decode cX4_lowestGift 4 = .ok (.istore 6, 2) := by decide +kernel
theorem dX4_lowestGift_6 : decode cX4_lowestGift 6 = .ok (.iconst 0, 1) := by decide +kernel
theorem dX4_lowestGift_7 : decode cX4_lowestGift 7 = .ok (.istore 7, 2) := by decide +kernel
theorem dX4_lowestGift_9 : decode cX4_lowestGift 9 = .ok (.iload 7, 2) := by decide +kernel
theorem dX4_lowestGift_11 : decode cX4_lowestGift 11 = .ok (.aload_n 0, 1) := by decide +kernel
theorem dX4_lowestGift_12 : decode cX4_lowestGift 12 = .ok (.getfield 12, 3) := by decide +kernel
theorem dX4_lowestGift_15 : decode cX4_lowestGift 15 = .ok (.getfield 43, 3) := by decide +kernel
theorem dX4_lowestGift_18 : decode cX4_lowestGift 18 = .ok (.if_icmp .ge 51, 3) := by decide +kernel
theorem dX4_lowestGift_21 : decode cX4_lowestGift 21 = .ok (.aload_n 0, 1) := by decide +kernel
theorem dX4_lowestGift_22 : decode cX4_lowestGift 22 = .ok (.getfield 12, 3) := by decide +kernel
theorem dX4_lowestGift_25 : decode cX4_lowestGift 25 = .ok (.getfield 79, 3) := by decide +kernel
theorem dX4_lowestGift_28 : decode cX4_lowestGift 28 = .ok (.iload 7, 2) := by decide +kernel
theorem dX4_lowestGift_30 : decode cX4_lowestGift 30 = .ok (.iaload, 1) := by decide +kernel
theorem dX4_lowestGift_31 : decode cX4_lowestGift 31 = .ok (.iload_n 1, 1) := by decide +kernel
theorem dX4_lowestGift_32 : decode cX4_lowestGift 32 = .ok (.if_icmp .gt 6, 3) := by decide +kernel
theorem dX4_lowestGift_35 : decode cX4_lowestGift 35 = .ok (.goto 28, 3) := by decide +kernel
theorem dX4_lowestGift_38 : decode cX4_lowestGift 38 = .ok (.iload 5, 2) := by decide +kernel
theorem dX4_lowestGift_40 : decode cX4_lowestGift 40 = .ok (.aload_n 0, 1) := by decide +kernel
theorem dX4_lowestGift_41 : decode cX4_lowestGift 41 = .ok (.getfield 20, 3) := by decide +kernel
theorem dX4_lowestGift_44 : decode cX4_lowestGift 44 = .ok (.iload 7, 2) := by decide +kernel
theorem dX4_lowestGift_46 : decode cX4_lowestGift 46 = .ok (.iaload, 1) := by decide +kernel
theorem dX4_lowestGift_47 : decode cX4_lowestGift 47 = .ok (.iadd, 1) := by decide +kernel
theorem dX4_lowestGift_48 : decode cX4_lowestGift 48 = .ok (.istore 5, 2) := by decide +kernel
theorem dX4_lowestGift_50 : decode cX4_lowestGift 50 = .ok (.aload_n 0, 1) := by decide +kernel
theorem dX4_lowestGift_51 : decode cX4_lowestGift 51 = .ok (.getfield 20, 3) := by decide +kernel
theorem dX4_lowestGift_54 : decode cX4_lowestGift 54 = .ok (.iload 7, 2) := by decide +kernel
theorem dX4_lowestGift_56 : decode cX4_lowestGift 56 = .ok (.iaload, 1) := by decide +kernel
theorem dX4_lowestGift_57 : decode cX4_lowestGift 57 = .ok (.ifCond .le 6, 3) := by decide +kernel
theorem dX4_lowestGift_60 : decode cX4_lowestGift 60 = .ok (.iinc 6 1, 3) := by decide +kernel
theorem dX4_lowestGift_63 : decode cX4_lowestGift 63 = .ok (.iinc 7 1, 3) := by decide +kernel
theorem dX4_lowestGift_66 : decode cX4_lowestGift 66 = .ok (.goto (-57), 3) := by decide +kernel
theorem dX4_lowestGift_69 : decode cX4_lowestGift 69 = .ok (.iconst 0, 1) := by decide +kernel
theorem dX4_lowestGift_70 : decode cX4_lowestGift 70 = .ok (.istore 7, 2) := by decide +kernel
theorem dX4_lowestGift_72 : decode cX4_lowestGift 72 = .ok (.iload 7, 2) := by decide +kernel
theorem dX4_lowestGift_74 : decode cX4_lowestGift 74 = .ok (.iload_n 2, 1) := by decide +kernel
theorem dX4_lowestGift_75 : decode cX4_lowestGift 75 = .ok (.if_icmp .ge 52, 3) := by decide +kernel
theorem dX4_lowestGift_78 : decode cX4_lowestGift 78 = .ok (.iload_n 3, 1) := by decide +kernel
theorem dX4_lowestGift_79 : decode cX4_lowestGift 79 = .ok (.iload 7, 2) := by decide +kernel
theorem dX4_lowestGift_81 : decode cX4_lowestGift 81 = .ok (.isub, 1) := by decide +kernel
theorem dX4_lowestGift_82 : decode cX4_lowestGift 82 = .ok (.istore 8, 2) := by decide +kernel
theorem dX4_lowestGift_84 : decode cX4_lowestGift 84 = .ok (.iload 4, 2) := by decide +kernel
theorem dX4_lowestGift_86 : decode cX4_lowestGift 86 = .ok (.iload 7, 2) := by decide +kernel
theorem dX4_lowestGift_88 : decode cX4_lowestGift 88 = .ok (.ifCond .le 7, 3) := by decide +kernel
theorem dX4_lowestGift_91 : decode cX4_lowestGift 91 = .ok (.iconst 1, 1) := by decide +kernel
theorem dX4_lowestGift_92 : decode cX4_lowestGift 92 = .ok (.goto 4, 3) := by decide +kernel
theorem dX4_lowestGift_95 : decode cX4_lowestGift 95 = .ok (.iconst 0, 1) := by decide +kernel
theorem dX4_lowestGift_96 : decode cX4_lowestGift 96 = .ok (.isub, 1) := by decide +kernel
theorem dX4_lowestGift_97 : decode cX4_lowestGift 97 = .ok (.istore 9, 2) := by decide +kernel
theorem dX4_lowestGift_99 : decode cX4_lowestGift 99 = .ok (.iload 8, 2) := by decide +kernel
theorem dX4_lowestGift_101 : decode cX4_lowestGift 101 = .ok (.iload 5, 2) := by decide +kernel
theorem dX4_lowestGift_103 : decode cX4_lowestGift 103 = .ok (.if_icmp .gt 18, 3) := by decide +kernel
theorem dX4_lowestGift_106 : decode cX4_lowestGift 106 = .ok (.iload 6, 2) := by decide +kernel
theorem dX4_lowestGift_108 : decode cX4_lowestGift 108 = .ok (.iload 8, 2) := by decide +kernel
theorem dX4_lowestGift_110 : decode cX4_lowestGift 110 = .ok (.invokestatic 52, 3) := by decide +kernel
theorem dX4_lowestGift_113 : decode cX4_lowestGift 113 = .ok (.iload 9, 2) := by decide +kernel
theorem dX4_lowestGift_115 : decode cX4_lowestGift 115 = .ok (.if_icmp .lt 6, 3) := by decide +kernel
theorem dX4_lowestGift_118 : decode cX4_lowestGift 118 = .ok (.iload 7, 2) := by decide +kernel
theorem dX4_lowestGift_120 : decode cX4_lowestGift 120 = .ok (.ireturn, 1) := by decide +kernel
theorem dX4_lowestGift_121 : decode cX4_lowestGift 121 = .ok (.iinc 7 1, 3) := by decide +kernel
theorem dX4_lowestGift_124 : decode cX4_lowestGift 124 = .ok (.goto (-52), 3) := by decide +kernel
theorem dX4_lowestGift_127 : decode cX4_lowestGift 127 = .ok (.iload_n 2, 1) := by decide +kernel
theorem dX4_lowestGift_128 : decode cX4_lowestGift 128 = .ok (.ireturn, 1) := by decide +kernel
theorem dX4_failingWays_0 : decode cX4_failingWays 0 = .ok (.lconst 0, 1) := by decide +kernel
theorem dX4_failingWays_1 : decode cX4_failingWays 1 = .ok (.lstore_n 1, 1) := by decide +kernel
theorem dX4_failingWays_2 : decode cX4_failingWays 2 = .ok (.iconst 0, 1) := by decide +kernel
theorem dX4_failingWays_3 : decode cX4_failingWays 3 = .ok (.istore_n 3, 1) := by decide +kernel
theorem dX4_failingWays_4 : decode cX4_failingWays 4 = .ok (.iload_n 3, 1) := by decide +kernel
theorem dX4_failingWays_5 : decode cX4_failingWays 5 = .ok (.aload_n 0, 1) := by decide +kernel
theorem dX4_failingWays_6 : decode cX4_failingWays 6 = .ok (.getfield 34, 3) := by decide +kernel
theorem dX4_failingWays_9 : decode cX4_failingWays 9 = .ok (.if_icmp .ge 46, 3) := by decide +kernel
theorem dX4_failingWays_12 : decode cX4_failingWays 12 = .ok (.iconst 0, 1) := by decide +kernel
theorem dX4_failingWays_13 : decode cX4_failingWays 13 = .ok (.istore 4, 2) := by decide +kernel
theorem dX4_failingWays_15 : decode cX4_failingWays 15 = .ok (.iload 4, 2) := by decide +kernel
theorem dX4_failingWays_17 : decode cX4_failingWays 17 = .ok (.aload_n 0, 1) := by decide +kernel
theorem dX4_failingWays_18 : decode cX4_failingWays 18 = .ok (.getfield 12, 3) := by decide +kernel
theorem dX4_failingWays_21 : decode cX4_failingWays 21 = .ok (.getfield 43, 3) := by decide +kernel
theorem dX4_failingWays_24 : decode cX4_failingWays 24 = .ok (.if_icmp .gt 25, 3) := by decide +kernel
theorem dX4_failingWays_27 : decode cX4_failingWays 27 = .ok (.iload 4, 2) := by decide +kernel
theorem dX4_failingWays_29 : decode cX4_failingWays 29 = .ok (.iload_n 3, 1) := by decide +kernel
theorem dX4_failingWays_30 : decode cX4_failingWays 30 = .ok (.if_icmp .gt 19, 3) := by decide +kernel
theorem dX4_failingWays_33 : decode cX4_failingWays 33 = .ok (.lload_n 1, 1) := by decide +kernel
theorem dX4_failingWays_34 : decode cX4_failingWays 34 = .ok (.aload_n 0, 1) := by decide +kernel
theorem dX4_failingWays_35 : decode cX4_failingWays 35 = .ok (.iload_n 3, 1) := by decide +kernel
theorem dX4_failingWays_36 : decode cX4_failingWays 36 = .ok (.iload 4, 2) := by decide +kernel
theorem dX4_failingWays_38 : decode cX4_failingWays 38 = .ok (.invokevirtual 82, 3) := by decide +kernel
theorem dX4_failingWays_41 : decode cX4_failingWays 41 = .ok (.ladd, 1) := by decide +kernel
theorem dX4_failingWays_42 : decode cX4_failingWays 42 = .ok (.lstore_n 1, 1) := by decide +kernel
theorem dX4_failingWays_43 : decode cX4_failingWays 43 = .ok (.iinc 4 1, 3) := by decide +kernel
theorem dX4_failingWays_46 : decode cX4_failingWays 46 = .ok (.goto (-31), 3) := by decide +kernel
theorem dX4_failingWays_49 : decode cX4_failingWays 49 = .ok (.iinc 3 1, 3) := by decide +kernel
theorem dX4_failingWays_52 : decode cX4_failingWays 52 = .ok (.goto (-48), 3) := by decide +kernel
theorem dX4_failingWays_55 : decode cX4_failingWays 55 = .ok (.lload_n 1, 1) := by decide +kernel
theorem dX4_failingWays_56 : decode cX4_failingWays 56 = .ok (.lreturn, 1) := by decide +kernel
theorem dX4_failingWays__0 : decode cX4_failingWays_ 0 = .ok (.aload_n 0, 1) := by decide +kernel
theorem dX4_failingWays__1 : decode cX4_failingWays_ 1 = .ok (.invokevirtual 64, 3) := by decide +kernel
theorem dX4_failingWays__4 : decode cX4_failingWays_ 4 = .ok (.iconst 0, 1) := by decide +kernel
theorem dX4_failingWays__5 : decode cX4_failingWays_ 5 = .ok (.istore_n 3, 1) := by decide +kernel
theorem dX4_failingWays__6 : decode cX4_failingWays_ 6 = .ok (.iload_n 3, 1) := by decide +kernel
theorem dX4_failingWays__7 : decode cX4_failingWays_ 7 = .ok (.aload_n 0, 1) := by decide +kernel
theorem dX4_failingWays__8 : decode cX4_failingWays_ 8 = .ok (.getfield 12, 3) := by decide +kernel
theorem dX4_failingWays__11 : decode cX4_failingWays_ 11 = .ok (.getfield 43, 3) := by decide +kernel
theorem dX4_failingWays__14 : decode cX4_failingWays_ 14 = .ok (.if_icmp .ge 35, 3) := by decide +kernel
theorem dX4_failingWays__17 : decode cX4_failingWays_ 17 = .ok (.aload_n 0, 1) := by decide +kernel
theorem dX4_failingWays__18 : decode cX4_failingWays_ 18 = .ok (.aload_n 0, 1) := by decide +kernel
theorem dX4_failingWays__19 : decode cX4_failingWays_ 19 = .ok (.iload_n 3, 1) := by decide +kernel
theorem dX4_failingWays__20 : decode cX4_failingWays_ 20 = .ok (.iload_n 1, 1) := by decide +kernel
theorem dX4_failingWays__21 : decode cX4_failingWays_ 21 = .ok (.iload_n 2, 1) := by decide +kernel
theorem dX4_failingWays__22 : decode cX4_failingWays_ 22 = .ok (.invokevirtual 86, 3) := by decide +kernel
theorem dX4_failingWays__25 : decode cX4_failingWays_ 25 = .ok (.aload_n 0, 1) := by decide +kernel
theorem dX4_failingWays__26 : decode cX4_failingWays_ 26 = .ok (.getfield 20, 3) := by decide +kernel
theorem dX4_failingWays__29 : decode cX4_failingWays_ 29 = .ok (.iload_n 3, 1) := by decide +kernel
theorem dX4_failingWays__30 : decode cX4_failingWays_ 30 = .ok (.iaload, 1) := by decide +kernel
theorem dX4_failingWays__31 : decode cX4_failingWays_ 31 = .ok (.aload_n 0, 1) := by decide +kernel
theorem dX4_failingWays__32 : decode cX4_failingWays_ 32 = .ok (.iload_n 3, 1) := by decide +kernel
theorem dX4_failingWays__33 : decode cX4_failingWays_ 33 = .ok (.iload_n 1, 1) := by decide +kernel
theorem dX4_failingWays__34 : decode cX4_failingWays_ 34 = .ok (.iload_n 2, 1) := by decide +kernel
theorem dX4_failingWays__35 : decode cX4_failingWays_ 35 = .ok (.invokevirtual 90, 3) := by decide +kernel
theorem dX4_failingWays__38 : decode cX4_failingWays_ 38 = .ok (.iload_n 1, 1) := by decide +kernel
theorem dX4_failingWays__39 : decode cX4_failingWays_ 39 = .ok (.iload_n 2, 1) := by decide +kernel
theorem dX4_failingWays__40 : decode cX4_failingWays_ 40 = .ok (.invokevirtual 67, 3) := by decide +kernel
theorem dX4_failingWays__43 : decode cX4_failingWays_ 43 = .ok (.iinc 3 1, 3) := by decide +kernel
theorem dX4_failingWays__46 : decode cX4_failingWays_ 46 = .ok (.goto (-40), 3) := by decide +kernel
theorem dX4_failingWays__49 : decode cX4_failingWays_ 49 = .ok (.aload_n 0, 1) := by decide +kernel
theorem dX4_failingWays__50 : decode cX4_failingWays_ 50 = .ok (.getfield 24, 3) := by decide +kernel
theorem dX4_failingWays__53 : decode cX4_failingWays_ 53 = .ok (.iload_n 2, 1) := by decide +kernel
theorem dX4_failingWays__54 : decode cX4_failingWays_ 54 = .ok (.bipush 61, 2) := by decide +kernel
theorem dX4_failingWays__56 : decode cX4_failingWays_ 56 = .ok (.imul, 1) := by decide +kernel
theorem dX4_failingWays__57 : decode cX4_failingWays_ 57 = .ok (.iload_n 1, 1) := by decide +kernel
theorem dX4_failingWays__58 : decode cX4_failingWays_ 58 = .ok (.iadd, 1) := by decide +kernel
theorem dX4_failingWays__59 : decode cX4_failingWays_ 59 = .ok (.laload, 1) := by decide +kernel
theorem dX4_failingWays__60 : decode cX4_failingWays_ 60 = .ok (.lreturn, 1) := by decide +kernel
theorem dX4_lowestAtRest_0 : decode cX4_lowestAtRest 0 = .ok (.iload_n 3, 1) := by decide +kernel
theorem dX4_lowestAtRest_1 : decode cX4_lowestAtRest 1 = .ok (.aload_n 0, 1) := by decide +kernel
theorem dX4_lowestAtRest_2 : decode cX4_lowestAtRest 2 = .ok (.getfield 38, 3) := by decide +kernel
theorem dX4_lowestAtRest_5 : decode cX4_lowestAtRest 5 = .ok (.if_icmp .ge 5, 3) := by decide +kernel
theorem dX4_lowestAtRest_8 : decode cX4_lowestAtRest 8 = .ok (.iconst 1, 1) := by decide +kernel
theorem dX4_lowestAtRest_9 : decode cX4_lowestAtRest 9 = .ok (.ireturn, 1) := by decide +kernel
theorem dX4_lowestAtRest_10 : decode cX4_lowestAtRest 10 = .ok (.aload_n 0, 1) := by decide +kernel
theorem dX4_lowestAtRest_11 : decode cX4_lowestAtRest 11 = .ok (.getfield 34, 3) := by decide +kernel
theorem dX4_lowestAtRest_14 : decode cX4_lowestAtRest 14 = .ok (.iload_n 2, 1) := by decide +kernel
theorem dX4_lowestAtRest_15 : decode cX4_lowestAtRest 15 = .ok (.isub, 1) := by decide +kernel
theorem dX4_lowestAtRest_16 : decode cX4_lowestAtRest 16 = .ok (.istore 4, 2) := by decide +kernel
theorem dX4_lowestAtRest_18 : decode cX4_lowestAtRest 18 = .ok (.aload_n 0, 1) := by decide +kernel
theorem dX4_lowestAtRest_19 : decode cX4_lowestAtRest 19 = .ok (.getfield 20, 3) := by decide +kernel
theorem dX4_lowestAtRest_22 : decode cX4_lowestAtRest 22 = .ok (.iload_n 1, 1) := by decide +kernel
theorem dX4_lowestAtRest_23 : decode cX4_lowestAtRest 23 = .ok (.iaload, 1) := by decide +kernel
theorem dX4_lowestAtRest_24 : decode cX4_lowestAtRest 24 = .ok (.iload 4, 2) := by decide +kernel
theorem dX4_lowestAtRest_26 : decode cX4_lowestAtRest 26 = .ok (.isub, 1) := by decide +kernel
theorem dX4_lowestAtRest_27 : decode cX4_lowestAtRest 27 = .ok (.iconst 1, 1) := by decide +kernel
theorem dX4_lowestAtRest_28 : decode cX4_lowestAtRest 28 = .ok (.iadd, 1) := by decide +kernel
theorem dX4_lowestAtRest_29 : decode cX4_lowestAtRest 29 = .ok (.istore 5, 2) := by decide +kernel
theorem dX4_lowestAtRest_31 : decode cX4_lowestAtRest 31 = .ok (.aload_n 0, 1) := by decide +kernel
theorem dX4_lowestAtRest_32 : decode cX4_lowestAtRest 32 = .ok (.getfield 12, 3) := by decide +kernel
theorem dX4_lowestAtRest_35 : decode cX4_lowestAtRest 35 = .ok (.getfield 46, 3) := by decide +kernel
theorem dX4_lowestAtRest_38 : decode cX4_lowestAtRest 38 = .ok (.iload_n 1, 1) := by decide +kernel
theorem dX4_lowestAtRest_39 : decode cX4_lowestAtRest 39 = .ok (.iaload, 1) := by decide +kernel
theorem dX4_lowestAtRest_40 : decode cX4_lowestAtRest 40 = .ok (.iload 4, 2) := by decide +kernel
theorem dX4_lowestAtRest_42 : decode cX4_lowestAtRest 42 = .ok (.isub, 1) := by decide +kernel
theorem dX4_lowestAtRest_43 : decode cX4_lowestAtRest 43 = .ok (.aload_n 0, 1) := by decide +kernel
theorem dX4_lowestAtRest_44 : decode cX4_lowestAtRest 44 = .ok (.getfield 42, 3) := by decide +kernel
theorem dX4_lowestAtRest_47 : decode cX4_lowestAtRest 47 = .ok (.isub, 1) := by decide +kernel
theorem dX4_lowestAtRest_48 : decode cX4_lowestAtRest 48 = .ok (.istore 6, 2) := by decide +kernel
theorem dX4_lowestAtRest_50 : decode cX4_lowestAtRest 50 = .ok (.iconst 1, 1) := by decide +kernel
theorem dX4_lowestAtRest_51 : decode cX4_lowestAtRest 51 = .ok (.iload 5, 2) := by decide +kernel
theorem dX4_lowestAtRest_53 : decode cX4_lowestAtRest 53 = .ok (.iload 6, 2) := by decide +kernel
theorem dX4_lowestAtRest_55 : decode cX4_lowestAtRest 55 = .ok (.invokestatic 52, 3) := by decide +kernel
theorem dX4_lowestAtRest_58 : decode cX4_lowestAtRest 58 = .ok (.invokestatic 94, 3) := by decide +kernel
theorem dX4_lowestAtRest_61 : decode cX4_lowestAtRest 61 = .ok (.ireturn, 1) := by decide +kernel
theorem dX4_isNoneAtRest_0 : decode cX4_isNoneAtRest 0 = .ok (.aload_n 0, 1) := by decide +kernel
theorem dX4_isNoneAtRest_1 : decode cX4_isNoneAtRest 1 = .ok (.getfield 34, 3) := by decide +kernel
theorem dX4_isNoneAtRest_4 : decode cX4_isNoneAtRest 4 = .ok (.iload_n 2, 1) := by decide +kernel
theorem dX4_isNoneAtRest_5 : decode cX4_isNoneAtRest 5 = .ok (.isub, 1) := by decide +kernel
theorem dX4_isNoneAtRest_6 : decode cX4_isNoneAtRest 6 = .ok (.istore 4, 2) := by decide +kernel
theorem dX4_isNoneAtRest_8 : decode cX4_isNoneAtRest 8 = .ok (.iload_n 3, 1) := by decide +kernel
theorem dX4_isNoneAtRest_9 : decode cX4_isNoneAtRest 9 = .ok (.iconst 1, 1) := by decide +kernel
theorem dX4_isNoneAtRest_10 : decode cX4_isNoneAtRest 10 = .ok (.iadd, 1) := by decide +kernel
theorem dX4_isNoneAtRest_11 : decode cX4_isNoneAtRest 11 = .ok (.aload_n 0, 1) := by decide +kernel
theorem dX4_isNoneAtRest_12 : decode cX4_isNoneAtRest 12 = .ok (.getfield 38, 3) := by decide +kernel
theorem dX4_isNoneAtRest_15 : decode cX4_isNoneAtRest 15 = .ok (.if_icmp .lt 7, 3) := by decide +kernel
theorem dX4_isNoneAtRest_18 : decode cX4_isNoneAtRest 18 = .ok (.iconst 1, 1) := by decide +kernel
theorem dX4_isNoneAtRest_19 : decode cX4_isNoneAtRest 19 = .ok (.goto 4, 3) := by decide +kernel
theorem dX4_isNoneAtRest_22 : decode cX4_isNoneAtRest 22 = .ok (.iconst 0, 1) := by decide +kernel
theorem dX4_isNoneAtRest_23 : decode cX4_isNoneAtRest 23 = .ok (.istore 5, 2) := by decide +kernel
theorem dX4_isNoneAtRest_25 : decode cX4_isNoneAtRest 25 = .ok (.iload 5, 2) := by decide +kernel
theorem dX4_isNoneAtRest_27 : decode cX4_isNoneAtRest 27 = .ok (.ifCond .eq 18, 3) := by decide +kernel
theorem dX4_isNoneAtRest_30 : decode cX4_isNoneAtRest 30 = .ok (.iload 4, 2) := by decide +kernel
theorem dX4_isNoneAtRest_32 : decode cX4_isNoneAtRest 32 = .ok (.aload_n 0, 1) := by decide +kernel
theorem dX4_isNoneAtRest_33 : decode cX4_isNoneAtRest 33 = .ok (.getfield 20, 3) := by decide +kernel
theorem dX4_isNoneAtRest_36 : decode cX4_isNoneAtRest 36 = .ok (.iload_n 1, 1) := by decide +kernel
theorem dX4_isNoneAtRest_37 : decode cX4_isNoneAtRest 37 = .ok (.iaload, 1) := by decide +kernel
theorem dX4_isNoneAtRest_38 : decode cX4_isNoneAtRest 38 = .ok (.if_icmp .gt 7, 3) := by decide +kernel
theorem dX4_isNoneAtRest_41 : decode cX4_isNoneAtRest 41 = .ok (.iconst 1, 1) := by decide +kernel
theorem dX4_isNoneAtRest_42 : decode cX4_isNoneAtRest 42 = .ok (.goto 4, 3) := by decide +kernel
theorem dX4_isNoneAtRest_45 : decode cX4_isNoneAtRest 45 = .ok (.iconst 0, 1) := by decide +kernel
theorem dX4_isNoneAtRest_46 : decode cX4_isNoneAtRest 46 = .ok (.istore 6, 2) := by decide +kernel
theorem dX4_isNoneAtRest_48 : decode cX4_isNoneAtRest 48 = .ok (.iload 6, 2) := by decide +kernel
theorem dX4_isNoneAtRest_50 : decode cX4_isNoneAtRest 50 = .ok (.ifCond .eq 19, 3) := by decide +kernel
theorem dX4_isNoneAtRest_53 : decode cX4_isNoneAtRest 53 = .ok (.aload_n 0, 1) := by decide +kernel
theorem dX4_isNoneAtRest_54 : decode cX4_isNoneAtRest 54 = .ok (.getfield 12, 3) := by decide +kernel
theorem dX4_isNoneAtRest_57 : decode cX4_isNoneAtRest 57 = .ok (.getfield 46, 3) := by decide +kernel
theorem dX4_isNoneAtRest_60 : decode cX4_isNoneAtRest 60 = .ok (.iload_n 1, 1) := by decide +kernel
theorem dX4_isNoneAtRest_61 : decode cX4_isNoneAtRest 61 = .ok (.iaload, 1) := by decide +kernel
theorem dX4_isNoneAtRest_62 : decode cX4_isNoneAtRest 62 = .ok (.iload 4, 2) := by decide +kernel
theorem dX4_isNoneAtRest_64 : decode cX4_isNoneAtRest 64 = .ok (.if_icmp .le 5, 3) := by decide +kernel
theorem dX4_isNoneAtRest_67 : decode cX4_isNoneAtRest 67 = .ok (.iconst 0, 1) := by decide +kernel
theorem dX4_isNoneAtRest_68 : decode cX4_isNoneAtRest 68 = .ok (.ireturn, 1) := by decide +kernel
theorem dX4_isNoneAtRest_69 : decode cX4_isNoneAtRest 69 = .ok (.iload 5, 2) := by decide +kernel
theorem dX4_isNoneAtRest_71 : decode cX4_isNoneAtRest 71 = .ok (.ifCond .eq 19, 3) := by decide +kernel
theorem dX4_isNoneAtRest_74 : decode cX4_isNoneAtRest 74 = .ok (.aload_n 0, 1) := by decide +kernel
theorem dX4_isNoneAtRest_75 : decode cX4_isNoneAtRest 75 = .ok (.getfield 20, 3) := by decide +kernel
theorem dX4_isNoneAtRest_78 : decode cX4_isNoneAtRest 78 = .ok (.iload_n 1, 1) := by decide +kernel
theorem dX4_isNoneAtRest_79 : decode cX4_isNoneAtRest 79 = .ok (.iaload, 1) := by decide +kernel
theorem dX4_isNoneAtRest_80 : decode cX4_isNoneAtRest 80 = .ok (.iload 4, 2) := by decide +kernel
theorem dX4_isNoneAtRest_82 : decode cX4_isNoneAtRest 82 = .ok (.iconst 1, 1) := by decide +kernel
theorem dX4_isNoneAtRest_83 : decode cX4_isNoneAtRest 83 = .ok (.isub, 1) := by decide +kernel
theorem dX4_isNoneAtRest_84 : decode cX4_isNoneAtRest 84 = .ok (.invokestatic 52, 3) := by decide +kernel
theorem dX4_isNoneAtRest_87 : decode cX4_isNoneAtRest 87 = .ok (.goto 9, 3) := by decide +kernel
theorem dX4_isNoneAtRest_90 : decode cX4_isNoneAtRest 90 = .ok (.aload_n 0, 1) := by decide +kernel
theorem dX4_isNoneAtRest_91 : decode cX4_isNoneAtRest 91 = .ok (.getfield 20, 3) := by decide +kernel
theorem dX4_isNoneAtRest_94 : decode cX4_isNoneAtRest 94 = .ok (.iload_n 1, 1) := by decide +kernel
theorem dX4_isNoneAtRest_95 : decode cX4_isNoneAtRest 95 = .ok (.iaload, 1) := by decide +kernel
theorem dX4_isNoneAtRest_96 : decode cX4_isNoneAtRest 96 = .ok (.istore 7, 2) := by decide +kernel
theorem dX4_isNoneAtRest_98 : decode cX4_isNoneAtRest 98 = .ok (.aload_n 0, 1) := by decide +kernel
theorem dX4_isNoneAtRest_99 : decode cX4_isNoneAtRest 99 = .ok (.getfield 42, 3) := by decide +kernel
theorem dX4_isNoneAtRest_102 : decode cX4_isNoneAtRest 102 = .ok (.ifCond .eq 9, 3) := by decide +kernel
theorem dX4_isNoneAtRest_105 : decode cX4_isNoneAtRest 105 = .ok (.iload 7, 2) := by decide +kernel
theorem dX4_isNoneAtRest_107 : decode cX4_isNoneAtRest 107 = .ok (.iconst 1, 1) := by decide +kernel
theorem dX4_isNoneAtRest_108 : decode cX4_isNoneAtRest 108 = .ok (.if_icmp .ge 7, 3) := by decide +kernel
theorem dX4_isNoneAtRest_111 : decode cX4_isNoneAtRest 111 = .ok (.iconst 1, 1) := by decide +kernel
theorem dX4_isNoneAtRest_112 : decode cX4_isNoneAtRest 112 = .ok (.goto 4, 3) := by decide +kernel
theorem dX4_isNoneAtRest_115 : decode cX4_isNoneAtRest 115 = .ok (.iconst 0, 1) := by decide +kernel
theorem dX4_isNoneAtRest_116 : decode cX4_isNoneAtRest 116 = .ok (.ireturn, 1) := by decide +kernel
theorem dX5_init_0 : decode cX5_init 0 = .ok (.aload_n 0, 1) := by decide +kernel
theorem dX5_init_1 : decode cX5_init 1 = .ok (.invokespecial 1, 3) := by decide +kernel
theorem dX5_init_4 : decode cX5_init 4 = .ok (.aload_n 0, 1) := by decide +kernel
theorem dX5_init_5 : decode cX5_init 5 = .ok (.bipush 16, 2) := by decide +kernel
theorem dX5_init_7 : decode cX5_init 7 = .ok (.newarray .int, 2) := by decide +kernel
theorem dX5_init_9 : decode cX5_init 9 = .ok (.putfield 11, 3) := by decide +kernel
theorem dX5_init_12 : decode cX5_init 12 = .ok (.aload_n 0, 1) := by decide +kernel
theorem dX5_init_13 : decode cX5_init 13 = .ok (.iconst 2, 1) := by decide +kernel
theorem dX5_init_14 : decode cX5_init 14 = .ok (.newarray .int, 2) := by decide +kernel
theorem dX5_init_16 : decode cX5_init 16 = .ok (.putfield 15, 3) := by decide +kernel
theorem dX5_init_19 : decode cX5_init 19 = .ok (.return_, 1) := by decide +kernel
theorem dX5_put_0 : decode cX5_put 0 = .ok (.aload_n 0, 1) := by decide +kernel
theorem dX5_put_1 : decode cX5_put 1 = .ok (.getfield 18, 3) := by decide +kernel
theorem dX5_put_4 : decode cX5_put 4 = .ok (.ifCond .lt 18, 3) := by decide +kernel
theorem dX5_put_7 : decode cX5_put 7 = .ok (.aload_n 0, 1) := by decide +kernel
theorem dX5_put_8 : decode cX5_put 8 = .ok (.getfield 18, 3) := by decide +kernel
theorem dX5_put_11 : decode cX5_put 11 = .ok (.iconst 2, 1) := by decide +kernel
theorem dX5_put_12 : decode cX5_put 12 = .ok (.if_icmp .ge 10, 3) := by decide +kernel
theorem dX5_put_15 : decode cX5_put 15 = .ok (.aload_n 1, 1) := by decide +kernel
theorem dX5_put_16 : decode cX5_put 16 = .ok (.arraylength, 1) := by decide +kernel
theorem dX5_put_17 : decode cX5_put 17 = .ok (.bipush 8, 2) := by decide +kernel
theorem dX5_put_19 : decode cX5_put 19 = .ok (.if_icmp .ge 5, 3) := by decide +kernel
theorem dX5_put_22 : decode cX5_put 22 = .ok (.iconst 0, 1) := by decide +kernel
theorem dX5_put_23 : decode cX5_put 23 = .ok (.ireturn, 1) := by decide +kernel
theorem dX5_put_24 : decode cX5_put 24 = .ok (.aload_n 1, 1) := by decide +kernel
theorem dX5_put_25 : decode cX5_put 25 = .ok (.iconst 0, 1) := by decide +kernel
theorem dX5_put_26 : decode cX5_put 26 = .ok (.aload_n 0, 1) := by decide +kernel
theorem dX5_put_27 : decode cX5_put 27 = .ok (.getfield 11, 3) := by decide +kernel
theorem dX5_put_30 : decode cX5_put 30 = .ok (.aload_n 0, 1) := by decide +kernel
theorem dX5_put_31 : decode cX5_put 31 = .ok (.getfield 18, 3) := by decide +kernel
theorem dX5_put_34 : decode cX5_put 34 = .ok (.bipush 8, 2) := by decide +kernel
theorem dX5_put_36 : decode cX5_put 36 = .ok (.imul, 1) := by decide +kernel
theorem dX5_put_37 : decode cX5_put 37 = .ok (.bipush 8, 2) := by decide +kernel
theorem dX5_put_39 : decode cX5_put 39 = .ok (.invokestatic 22, 3) := by decide +kernel
theorem dX5_put_42 : decode cX5_put 42 = .ok (.aload_n 0, 1) := by decide +kernel
theorem dX5_put_43 : decode cX5_put 43 = .ok (.getfield 15, 3) := by decide +kernel
theorem dX5_put_46 : decode cX5_put 46 = .ok (.aload_n 0, 1) := by decide +kernel
theorem dX5_put_47 : decode cX5_put 47 = .ok (.getfield 18, 3) := by decide +kernel
theorem dX5_put_50 : decode cX5_put 50 = .ok (.iload_n 2, 1) := by decide +kernel
theorem dX5_put_51 : decode cX5_put 51 = .ok (.iastore, 1) := by decide +kernel
theorem dX5_put_52 : decode cX5_put 52 = .ok (.aload_n 0, 1) := by decide +kernel
theorem dX5_put_53 : decode cX5_put 53 = .ok (.dup, 1) := by decide +kernel
theorem dX5_put_54 : decode cX5_put 54 = .ok (.getfield 18, 3) := by decide +kernel
theorem dX5_put_57 : decode cX5_put 57 = .ok (.iconst 1, 1) := by decide +kernel
theorem dX5_put_58 : decode cX5_put 58 = .ok (.iadd, 1) := by decide +kernel
theorem dX5_put_59 : decode cX5_put 59 = .ok (.putfield 18, 3) := by decide +kernel
theorem dX5_put_62 : decode cX5_put 62 = .ok (.iconst 1, 1) := by decide +kernel
theorem dX5_put_63 : decode cX5_put 63 = .ok (.ireturn, 1) := by decide +kernel
theorem dX5_takeInto_0 : decode cX5_takeInto 0 = .ok (.aload_n 0, 1) := by decide +kernel
theorem dX5_takeInto_1 : decode cX5_takeInto 1 = .ok (.getfield 18, 3) := by decide +kernel
theorem dX5_takeInto_4 : decode cX5_takeInto 4 = .ok (.iconst 1, 1) := by decide +kernel
theorem dX5_takeInto_5 : decode cX5_takeInto 5 = .ok (.if_icmp .lt 18, 3) := by decide +kernel
theorem dX5_takeInto_8 : decode cX5_takeInto 8 = .ok (.aload_n 0, 1) := by decide +kernel
theorem dX5_takeInto_9 : decode cX5_takeInto 9 = .ok (.getfield 18, 3) := by decide +kernel
theorem dX5_takeInto_12 : decode cX5_takeInto 12 = .ok (.iconst 2, 1) := by decide +kernel
theorem dX5_takeInto_13 : decode cX5_takeInto 13 = .ok (.if_icmp .gt 10, 3) := by decide +kernel
theorem dX5_takeInto_16 : decode cX5_takeInto 16 = .ok (.aload_n 1, 1) := by decide +kernel
theorem dX5_takeInto_17 : decode cX5_takeInto 17 = .ok (.arraylength, 1) := by decide +kernel
theorem dX5_takeInto_18 : decode cX5_takeInto 18 = .ok (.bipush 8, 2) := by decide +kernel
theorem dX5_takeInto_20 : decode cX5_takeInto 20 = .ok (.if_icmp .ge 5, 3) := by decide +kernel
theorem dX5_takeInto_23 : decode cX5_takeInto 23 = .ok (.iconst 0, 1) := by decide +kernel
theorem dX5_takeInto_24 : decode cX5_takeInto 24 = .ok (.ireturn, 1) := by decide +kernel
theorem dX5_takeInto_25 : decode cX5_takeInto 25 = .ok (.aload_n 0, 1) := by decide +kernel
theorem dX5_takeInto_26 : decode cX5_takeInto 26 = .ok (.dup, 1) := by decide +kernel
theorem dX5_takeInto_27 : decode cX5_takeInto 27 = .ok (.getfield 18, 3) := by decide +kernel
theorem dX5_takeInto_30 : decode cX5_takeInto 30 = .ok (.iconst 1, 1) := by decide +kernel
theorem dX5_takeInto_31 : decode cX5_takeInto 31 = .ok (.isub, 1) := by decide +kernel
theorem dX5_takeInto_32 : decode cX5_takeInto 32 = .ok (.putfield 18, 3) := by decide +kernel
theorem dX5_takeInto_35 : decode cX5_takeInto 35 = .ok (.aload_n 0, 1) := by decide +kernel
theorem dX5_takeInto_36 : decode cX5_takeInto 36 = .ok (.getfield 11, 3) := by decide +kernel
theorem dX5_takeInto_39 : decode cX5_takeInto 39 = .ok (.aload_n 0, 1) := by decide +kernel
theorem dX5_takeInto_40 : decode cX5_takeInto 40 = .ok (.getfield 18, 3) := by decide +kernel
theorem dX5_takeInto_43 : decode cX5_takeInto 43 = .ok (.bipush 8, 2) := by decide +kernel
theorem dX5_takeInto_45 : decode cX5_takeInto 45 = .ok (.imul, 1) := by decide +kernel
theorem dX5_takeInto_46 : decode cX5_takeInto 46 = .ok (.aload_n 1, 1) := by decide +kernel
theorem dX5_takeInto_47 : decode cX5_takeInto 47 = .ok (.iconst 0, 1) := by decide +kernel
theorem dX5_takeInto_48 : decode cX5_takeInto 48 = .ok (.bipush 8, 2) := by decide +kernel
theorem dX5_takeInto_50 : decode cX5_takeInto 50 = .ok (.invokestatic 22, 3) := by decide +kernel
theorem dX5_takeInto_53 : decode cX5_takeInto 53 = .ok (.aload_n 0, 1) := by decide +kernel
theorem dX5_takeInto_54 : decode cX5_takeInto 54 = .ok (.getfield 15, 3) := by decide +kernel
theorem dX5_takeInto_57 : decode cX5_takeInto 57 = .ok (.aload_n 0, 1) := by decide +kernel
theorem dX5_takeInto_58 : decode cX5_takeInto 58 = .ok (.getfield 18, 3) := by decide +kernel
theorem dX5_takeInto_61 : decode cX5_takeInto 61 = .ok (.iaload, 1) := by decide +kernel
theorem dX5_takeInto_62 : decode cX5_takeInto 62 = .ok (.ireturn, 1) := by decide +kernel
theorem dX6_init_0 : decode cX6_init 0 = .ok (.aload_n 0, 1) := by decide +kernel
theorem dX6_init_1 : decode cX6_init 1 = .ok (.invokespecial 1, 3) := by decide +kernel
theorem dX6_init_4 : decode cX6_init 4 = .ok (.aload_n 0, 1) := by decide +kernel
theorem dX6_init_5 : decode cX6_init 5 = .ok (.bipush 6, 2) := by decide +kernel
theorem dX6_init_7 : decode cX6_init 7 = .ok (.newarray .int, 2) := by decide +kernel
theorem dX6_init_9 : decode cX6_init 9 = .ok (.putfield 9, 3) := by decide +kernel
theorem dX6_init_12 : decode cX6_init 12 = .ok (.aload_n 0, 1) := by decide +kernel
theorem dX6_init_13 : decode cX6_init 13 = .ok (.bipush 6, 2) := by decide +kernel
theorem dX6_init_15 : decode cX6_init 15 = .ok (.newarray .int, 2) := by decide +kernel
theorem dX6_init_17 : decode cX6_init 17 = .ok (.putfield 13, 3) := by decide +kernel
theorem dX6_init_20 : decode cX6_init 20 = .ok (.aload_n 0, 1) := by decide +kernel
theorem dX6_init_21 : decode cX6_init 21 = .ok (.bipush 6, 2) := by decide +kernel
theorem dX6_init_23 : decode cX6_init 23 = .ok (.newarray .int, 2) := by decide +kernel
theorem dX6_init_25 : decode cX6_init 25 = .ok (.putfield 16, 3) := by decide +kernel
theorem dX6_init_28 : decode cX6_init 28 = .ok (.aload_n 0, 1) := by decide +kernel
theorem dX6_init_29 : decode cX6_init 29 = .ok (.bipush 6, 2) := by decide +kernel
theorem dX6_init_31 : decode cX6_init 31 = .ok (.newarray .int, 2) := by decide +kernel
theorem dX6_init_33 : decode cX6_init 33 = .ok (.putfield 19, 3) := by decide +kernel
theorem dX6_init_36 : decode cX6_init 36 = .ok (.aload_n 0, 1) := by decide +kernel
theorem dX6_init_37 : decode cX6_init 37 = .ok (.bipush 18, 2) := by decide +kernel
theorem dX6_init_39 : decode cX6_init 39 = .ok (.newarray .int, 2) := by decide +kernel
theorem dX6_init_41 : decode cX6_init 41 = .ok (.putfield 22, 3) := by decide +kernel
theorem dX6_init_44 : decode cX6_init 44 = .ok (.aload_n 0, 1) := by decide +kernel
theorem dX6_init_45 : decode cX6_init 45 = .ok (.bipush 18, 2) := by decide +kernel
theorem dX6_init_47 : decode cX6_init 47 = .ok (.newarray .int, 2) := by decide +kernel
theorem dX6_init_49 : decode cX6_init 49 = .ok (.putfield 25, 3) := by decide +kernel
theorem dX6_init_52 : decode cX6_init 52 = .ok (.aload_n 0, 1) := by decide +kernel
theorem dX6_init_53 : decode cX6_init 53 = .ok (.bipush 8, 2) := by decide +kernel
theorem dX6_init_55 : decode cX6_init 55 = .ok (.newarray .int, 2) := by decide +kernel
theorem dX6_init_57 : decode cX6_init 57 = .ok (.putfield 28, 3) := by decide +kernel
theorem dX6_init_60 : decode cX6_init 60 = .ok (.aload_n 0, 1) := by decide +kernel
theorem dX6_init_61 : decode cX6_init 61 = .ok (.bipush 8, 2) := by decide +kernel
theorem dX6_init_63 : decode cX6_init 63 = .ok (.newarray .int, 2) := by decide +kernel
theorem dX6_init_65 : decode cX6_init 65 = .ok (.putfield 31, 3) := by decide +kernel
theorem dX6_init_68 : decode cX6_init 68 = .ok (.return_, 1) := by decide +kernel
theorem dX6_clear_0 : decode cX6_clear 0 = .ok (.aload_n 0, 1) := by decide +kernel
theorem dX6_clear_1 : decode cX6_clear 1 = .ok (.iconst 0, 1) := by decide +kernel
theorem dX6_clear_2 : decode cX6_clear 2 = .ok (.putfield 34, 3) := by decide +kernel
theorem dX6_clear_5 : decode cX6_clear 5 = .ok (.aload_n 0, 1) := by decide +kernel
theorem dX6_clear_6 : decode cX6_clear 6 = .ok (.iconst 0, 1) := by decide +kernel
theorem dX6_clear_7 : decode cX6_clear 7 = .ok (.putfield 38, 3) := by decide +kernel
theorem dX6_clear_10 : decode cX6_clear 10 = .ok (.return_, 1) := by decide +kernel
theorem dX6_has_0 : decode cX6_has 0 = .ok (.iload_n 1, 1) := by decide +kernel
theorem dX6_has_1 : decode cX6_has 1 = .ok (.ifCond .lt 15, 3) := by decide +kernel
theorem dX6_has_4 : decode cX6_has 4 = .ok (.iload_n 1, 1) := by decide +kernel
theorem dX6_has_5 : decode cX6_has 5 = .ok (.aload_n 0, 1) := by decide +kernel
theorem dX6_has_6 : decode cX6_has 6 = .ok (.getfield 34, 3) := by decide +kernel
theorem dX6_has_9 : decode cX6_has 9 = .ok (.if_icmp .ge 7, 3) := by decide +kernel
theorem dX6_has_12 : decode cX6_has 12 = .ok (.iconst 1, 1) := by decide +kernel
theorem dX6_has_13 : decode cX6_has 13 = .ok (.goto 4, 3) := by decide +kernel
theorem dX6_has_16 : decode cX6_has 16 = .ok (.iconst 0, 1) := by decide +kernel
theorem dX6_has_17 : decode cX6_has 17 = .ok (.ireturn, 1) := by decide +kernel
theorem dX6_add_0 : decode cX6_add 0 = .ok (.aload_n 0, 1) := by decide +kernel
theorem dX6_add_1 : decode cX6_add 1 = .ok (.getfield 34, 3) := by decide +kernel
theorem dX6_add_4 : decode cX6_add 4 = .ok (.bipush 6, 2) := by decide +kernel
theorem dX6_add_6 : decode cX6_add 6 = .ok (.if_icmp .ge 19, 3) := by decide +kernel
theorem dX6_add_9 : decode cX6_add 9 = .ok (.iload_n 1, 1) := by decide +kernel
theorem dX6_add_10 : decode cX6_add 10 = .ok (.iconst 1, 1) := by decide +kernel
theorem dX6_add_11 : decode cX6_add 11 = .ok (.if_icmp .lt 14, 3) := by decide +kernel
theorem dX6_add_14 : decode cX6_add 14 = .ok (.aload_n 0, 1) := by decide +kernel
theorem dX6_add_15 : decode cX6_add 15 = .ok (.getfield 38, 3) := by decide +kernel
theorem dX6_add_18 : decode cX6_add 18 = .ok (.iload_n 1, 1) := by decide +kernel
theorem dX6_add_19 : decode cX6_add 19 = .ok (.iadd, 1) := by decide +kernel
theorem dX6_add_20 : decode cX6_add 20 = .ok (.bipush 8, 2) := by decide +kernel
theorem dX6_add_22 : decode cX6_add 22 = .ok (.if_icmp .le 5, 3) := by decide +kernel
theorem dX6_add_25 : decode cX6_add 25 = .ok (.iconst 0, 1) := by decide +kernel
theorem dX6_add_26 : decode cX6_add 26 = .ok (.ireturn, 1) := by decide +kernel
theorem dX6_add_27 : decode cX6_add 27 = .ok (.aload_n 0, 1) := by decide +kernel
theorem dX6_add_28 : decode cX6_add 28 = .ok (.getfield 9, 3) := by decide +kernel
theorem dX6_add_31 : decode cX6_add 31 = .ok (.aload_n 0, 1) := by decide +kernel
theorem dX6_add_32 : decode cX6_add 32 = .ok (.getfield 34, 3) := by decide +kernel
theorem dX6_add_35 : decode cX6_add 35 = .ok (.iload_n 2, 1) := by decide +kernel
theorem dX6_add_36 : decode cX6_add 36 = .ok (.iastore, 1) := by decide +kernel
theorem dX6_add_37 : decode cX6_add 37 = .ok (.aload_n 0, 1) := by decide +kernel
theorem dX6_add_38 : decode cX6_add 38 = .ok (.getfield 13, 3) := by decide +kernel
theorem dX6_add_41 : decode cX6_add 41 = .ok (.aload_n 0, 1) := by decide +kernel
theorem dX6_add_42 : decode cX6_add 42 = .ok (.getfield 34, 3) := by decide +kernel
theorem dX6_add_45 : decode cX6_add 45 = .ok (.iload_n 3, 1) := by decide +kernel
theorem dX6_add_46 : decode cX6_add 46 = .ok (.iastore, 1) := by decide +kernel
theorem dX6_add_47 : decode cX6_add 47 = .ok (.aload_n 0, 1) := by decide +kernel
theorem dX6_add_48 : decode cX6_add 48 = .ok (.getfield 16, 3) := by decide +kernel
theorem dX6_add_51 : decode cX6_add 51 = .ok (.aload_n 0, 1) := by decide +kernel
theorem dX6_add_52 : decode cX6_add 52 = .ok (.getfield 34, 3) := by decide +kernel
theorem dX6_add_55 : decode cX6_add 55 = .ok (.iconst 0, 1) := by decide +kernel
theorem dX6_add_56 : decode cX6_add 56 = .ok (.iastore, 1) := by decide +kernel
theorem dX6_add_57 : decode cX6_add 57 = .ok (.aload_n 0, 1) := by decide +kernel
theorem dX6_add_58 : decode cX6_add 58 = .ok (.getfield 19, 3) := by decide +kernel
theorem dX6_add_61 : decode cX6_add 61 = .ok (.aload_n 0, 1) := by decide +kernel
theorem dX6_add_62 : decode cX6_add 62 = .ok (.getfield 34, 3) := by decide +kernel
theorem dX6_add_65 : decode cX6_add 65 = .ok (.iconst 0, 1) := by decide +kernel
theorem dX6_add_66 : decode cX6_add 66 = .ok (.iastore, 1) := by decide +kernel
theorem dX6_add_67 : decode cX6_add 67 = .ok (.iconst 0, 1) := by decide +kernel
theorem dX6_add_68 : decode cX6_add 68 = .ok (.istore 6, 2) := by decide +kernel
theorem dX6_add_70 : decode cX6_add 70 = .ok (.iload 6, 2) := by decide +kernel
theorem dX6_add_72 : decode cX6_add 72 = .ok (.iload_n 1, 1) := by decide +kernel
theorem dX6_add_73 : decode cX6_add 73 = .ok (.if_icmp .ge 49, 3) := by decide +kernel
theorem dX6_add_76 : decode cX6_add 76 = .ok (.aload_n 0, 1) := by decide +kernel
theorem dX6_add_77 : decode cX6_add 77 = .ok (.getfield 28, 3) := by decide +kernel
theorem dX6_add_80 : decode cX6_add 80 = .ok (.aload_n 0, 1) := by decide +kernel
theorem dX6_add_81 : decode cX6_add 81 = .ok (.getfield 38, 3) := by decide +kernel
theorem dX6_add_84 : decode cX6_add 84 = .ok (.aload_n 0, 1) := by decide +kernel
theorem dX6_add_85 : decode cX6_add 85 = .ok (.getfield 34, 3) := by decide +kernel
theorem dX6_add_88 : decode cX6_add 88 = .ok (.iastore, 1) := by decide +kernel
theorem dX6_add_89 : decode cX6_add 89 = .ok (.aload_n 0, 1) := by decide +kernel
theorem dX6_add_90 : decode cX6_add 90 = .ok (.getfield 31, 3) := by decide +kernel
theorem dX6_add_93 : decode cX6_add 93 = .ok (.aload_n 0, 1) := by decide +kernel
theorem dX6_add_94 : decode cX6_add 94 = .ok (.getfield 38, 3) := by decide +kernel
theorem dX6_add_97 : decode cX6_add 97 = .ok (.iload 4, 2) := by decide +kernel
theorem dX6_add_99 : decode cX6_add 99 = .ok (.iload 6, 2) := by decide +kernel
theorem dX6_add_101 : decode cX6_add 101 = .ok (.iload 5, 2) := by decide +kernel
theorem dX6_add_103 : decode cX6_add 103 = .ok (.imul, 1) := by decide +kernel
theorem dX6_add_104 : decode cX6_add 104 = .ok (.iadd, 1) := by decide +kernel
theorem dX6_add_105 : decode cX6_add 105 = .ok (.iastore, 1) := by decide +kernel
theorem dX6_add_106 : decode cX6_add 106 = .ok (.aload_n 0, 1) := by decide +kernel
theorem dX6_add_107 : decode cX6_add 107 = .ok (.dup, 1) := by decide +kernel
theorem dX6_add_108 : decode cX6_add 108 = .ok (.getfield 38, 3) := by decide +kernel
theorem dX6_add_111 : decode cX6_add 111 = .ok (.iconst 1, 1) := by decide +kernel
theorem dX6_add_112 : decode cX6_add 112 = .ok (.iadd, 1) := by decide +kernel
theorem dX6_add_113 : decode cX6_add 113 = .ok (.putfield 38, 3) := by decide +kernel
theorem dX6_add_116 : decode cX6_add 116 = .ok (.iinc 6 1, 3) := by decide +kernel
theorem dX6_add_119 : decode cX6_add 119 = .ok (.goto (-49), 3) := by decide +kernel
theorem dX6_add_122 : decode cX6_add 122 = .ok (.aload_n 0, 1) := by decide +kernel
theorem dX6_add_123 : decode cX6_add 123 = .ok (.dup, 1) := by decide +kernel
theorem dX6_add_124 : decode cX6_add 124 = .ok (.getfield 34, 3) := by decide +kernel
theorem dX6_add_127 : decode cX6_add 127 = .ok (.iconst 1, 1) := by decide +kernel
theorem dX6_add_128 : decode cX6_add 128 = .ok (.iadd, 1) := by decide +kernel
theorem dX6_add_129 : decode cX6_add 129 = .ok (.putfield 34, 3) := by decide +kernel
theorem dX6_add_132 : decode cX6_add 132 = .ok (.iconst 1, 1) := by decide +kernel
theorem dX6_add_133 : decode cX6_add 133 = .ok (.ireturn, 1) := by decide +kernel
theorem dX6_addWorth_0 : decode cX6_addWorth 0 = .ok (.aload_n 0, 1) := by decide +kernel
theorem dX6_addWorth_1 : decode cX6_addWorth 1 = .ok (.iload_n 1, 1) := by decide +kernel
theorem dX6_addWorth_2 : decode cX6_addWorth 2 = .ok (.invokevirtual 41, 3) := by decide +kernel
theorem dX6_addWorth_5 : decode cX6_addWorth 5 = .ok (.ifCond .eq 13, 3) := by decide +kernel
theorem dX6_addWorth_8 : decode cX6_addWorth 8 = .ok (.aload_n 0, 1) := by decide +kernel
theorem dX6_addWorth_9 : decode cX6_addWorth 9 = .ok (.getfield 19, 3) := by decide +kernel
theorem dX6_addWorth_12 : decode cX6_addWorth 12 = .ok (.iload_n 1, 1) := by decide +kernel
theorem dX6_addWorth_13 : decode cX6_addWorth 13 = .ok (.iaload, 1) := by decide +kernel
theorem dX6_addWorth_14 : decode cX6_addWorth 14 = .ok (.iconst 3, 1) := by decide +kernel
theorem dX6_addWorth_15 : decode cX6_addWorth 15 = .ok (.if_icmp .lt 5, 3) := by decide +kernel
theorem dX6_addWorth_18 : decode cX6_addWorth 18 = .ok (.iconst 0, 1) := by decide +kernel
theorem dX6_addWorth_19 : decode cX6_addWorth 19 = .ok (.ireturn, 1) := by decide +kernel
theorem dX6_addWorth_20 : decode cX6_addWorth 20 = .ok (.aload_n 0, 1) := by decide +kernel
theorem dX6_addWorth_21 : decode cX6_addWorth 21 = .ok (.getfield 22, 3) := by decide +kernel
theorem dX6_addWorth_24 : decode cX6_addWorth 24 = .ok (.iload_n 1, 1) := by decide +kernel
theorem dX6_addWorth_25 : decode cX6_addWorth 25 = .ok (.iconst 3, 1) := by decide +kernel
theorem dX6_addWorth_26 : decode cX6_addWorth 26 = .ok (.imul, 1) := by decide +kernel
theorem dX6_addWorth_27 : decode cX6_addWorth 27 = .ok (.aload_n 0, 1) := by decide +kernel
theorem dX6_addWorth_28 : decode cX6_addWorth 28 = .ok (.getfield 19, 3) := by decide +kernel
theorem dX6_addWorth_31 : decode cX6_addWorth 31 = .ok (.iload_n 1, 1) := by decide +kernel
theorem dX6_addWorth_32 : decode cX6_addWorth 32 = .ok (.iaload, 1) := by decide +kernel
theorem dX6_addWorth_33 : decode cX6_addWorth 33 = .ok (.iadd, 1) := by decide +kernel
theorem dX6_addWorth_34 : decode cX6_addWorth 34 = .ok (.iload_n 2, 1) := by decide +kernel
theorem dX6_addWorth_35 : decode cX6_addWorth 35 = .ok (.iastore, 1) := by decide +kernel
theorem dX6_addWorth_36 : decode cX6_addWorth 36 = .ok (.aload_n 0, 1) := by decide +kernel
theorem dX6_addWorth_37 : decode cX6_addWorth 37 = .ok (.getfield 25, 3) := by decide +kernel
theorem dX6_addWorth_40 : decode cX6_addWorth 40 = .ok (.iload_n 1, 1) := by decide +kernel
theorem dX6_addWorth_41 : decode cX6_addWorth 41 = .ok (.iconst 3, 1) := by decide +kernel
theorem dX6_addWorth_42 : decode cX6_addWorth 42 = .ok (.imul, 1) := by decide +kernel
theorem dX6_addWorth_43 : decode cX6_addWorth 43 = .ok (.aload_n 0, 1) := by decide +kernel
theorem dX6_addWorth_44 : decode cX6_addWorth 44 = .ok (.getfield 19, 3) := by decide +kernel
theorem dX6_addWorth_47 : decode cX6_addWorth 47 = .ok (.iload_n 1, 1) := by decide +kernel
theorem dX6_addWorth_48 : decode cX6_addWorth 48 = .ok (.iaload, 1) := by decide +kernel
theorem dX6_addWorth_49 : decode cX6_addWorth 49 = .ok (.iadd, 1) := by decide +kernel
theorem dX6_addWorth_50 : decode cX6_addWorth 50 = .ok (.iload_n 3, 1) := by decide +kernel
theorem dX6_addWorth_51 : decode cX6_addWorth 51 = .ok (.iastore, 1) := by decide +kernel
theorem dX6_addWorth_52 : decode cX6_addWorth 52 = .ok (.aload_n 0, 1) := by decide +kernel
theorem dX6_addWorth_53 : decode cX6_addWorth 53 = .ok (.getfield 19, 3) := by decide +kernel
theorem dX6_addWorth_56 : decode cX6_addWorth 56 = .ok (.iload_n 1, 1) := by decide +kernel
theorem dX6_addWorth_57 : decode cX6_addWorth 57 = .ok (.dup2, 1) := by decide +kernel
theorem dX6_addWorth_58 : decode cX6_addWorth 58 = .ok (.iaload, 1) := by decide +kernel
theorem dX6_addWorth_59 : decode cX6_addWorth 59 = .ok (.iconst 1, 1) := by decide +kernel
theorem dX6_addWorth_60 : decode cX6_addWorth 60 = .ok (.iadd, 1) := by decide +kernel
theorem dX6_addWorth_61 : decode cX6_addWorth 61 = .ok (.iastore, 1) := by decide +kernel
theorem dX6_addWorth_62 : decode cX6_addWorth 62 = .ok (.iconst 1, 1) := by decide +kernel
theorem dX6_addWorth_63 : decode cX6_addWorth 63 = .ok (.ireturn, 1) := by decide +kernel
theorem dX6_tell_0 : decode cX6_tell 0 = .ok (.aload_n 0, 1) := by decide +kernel
theorem dX6_tell_1 : decode cX6_tell 1 = .ok (.iload_n 1, 1) := by decide +kernel
theorem dX6_tell_2 : decode cX6_tell 2 = .ok (.invokevirtual 41, 3) := by decide +kernel
theorem dX6_tell_5 : decode cX6_tell 5 = .ok (.ifCond .ne 5, 3) := by decide +kernel
theorem dX6_tell_8 : decode cX6_tell 8 = .ok (.iconst 0, 1) := by decide +kernel
theorem dX6_tell_9 : decode cX6_tell 9 = .ok (.ireturn, 1) := by decide +kernel
theorem dX6_tell_10 : decode cX6_tell 10 = .ok (.aload_n 0, 1) := by decide +kernel
theorem dX6_tell_11 : decode cX6_tell 11 = .ok (.getfield 16, 3) := by decide +kernel
theorem dX6_tell_14 : decode cX6_tell 14 = .ok (.iload_n 1, 1) := by decide +kernel
theorem dX6_tell_15 : decode cX6_tell 15 = .ok (.iload_n 2, 1) := by decide +kernel
theorem dX6_tell_16 : decode cX6_tell 16 = .ok (.iastore, 1) := by decide +kernel
theorem dX6_tell_17 : decode cX6_tell 17 = .ok (.iconst 1, 1) := by decide +kernel
theorem dX6_tell_18 : decode cX6_tell 18 = .ok (.ireturn, 1) := by decide +kernel
theorem dX6_areWhole_0 : decode cX6_areWhole 0 = .ok (.iconst 0, 1) := by decide +kernel
theorem dX6_areWhole_1 : decode cX6_areWhole 1 = .ok (.istore_n 1, 1) := by decide +kernel
theorem dX6_areWhole_2 : decode cX6_areWhole 2 = .ok (.iload_n 1, 1) := by decide +kernel
theorem dX6_areWhole_3 : decode cX6_areWhole 3 = .ok (.aload_n 0, 1) := by decide +kernel
theorem dX6_areWhole_4 : decode cX6_areWhole 4 = .ok (.getfield 34, 3) := by decide +kernel
theorem dX6_areWhole_7 : decode cX6_areWhole 7 = .ok (.if_icmp .ge 50, 3) := by decide +kernel
theorem dX6_areWhole_10 : decode cX6_areWhole 10 = .ok (.iconst 0, 1) := by decide +kernel
theorem dX6_areWhole_11 : decode cX6_areWhole 11 = .ok (.istore_n 2, 1) := by decide +kernel
theorem dX6_areWhole_12 : decode cX6_areWhole 12 = .ok (.iconst 0, 1) := by decide +kernel
theorem dX6_areWhole_13 : decode cX6_areWhole 13 = .ok (.istore_n 3, 1) := by decide +kernel
theorem dX6_areWhole_14 : decode cX6_areWhole 14 = .ok (.iload_n 3, 1) := by decide +kernel
theorem dX6_areWhole_15 : decode cX6_areWhole 15 = .ok (.aload_n 0, 1) := by decide +kernel
theorem dX6_areWhole_16 : decode cX6_areWhole 16 = .ok (.getfield 19, 3) := by decide +kernel
theorem dX6_areWhole_19 : decode cX6_areWhole 19 = .ok (.iload_n 1, 1) := by decide +kernel
theorem dX6_areWhole_20 : decode cX6_areWhole 20 = .ok (.iaload, 1) := by decide +kernel
theorem dX6_areWhole_21 : decode cX6_areWhole 21 = .ok (.if_icmp .ge 22, 3) := by decide +kernel
theorem dX6_areWhole_24 : decode cX6_areWhole 24 = .ok (.iload_n 2, 1) := by decide +kernel
theorem dX6_areWhole_25 : decode cX6_areWhole 25 = .ok (.aload_n 0, 1) := by decide +kernel
theorem dX6_areWhole_26 : decode cX6_areWhole 26 = .ok (.getfield 25, 3) := by decide +kernel
theorem dX6_areWhole_29 : decode cX6_areWhole 29 = .ok (.iload_n 1, 1) := by decide +kernel
theorem dX6_areWhole_30 : decode cX6_areWhole 30 = .ok (.iconst 3, 1) := by decide +kernel
theorem dX6_areWhole_31 : decode cX6_areWhole 31 = .ok (.imul, 1) := by decide +kernel
theorem dX6_areWhole_32 : decode cX6_areWhole 32 = .ok (.iload_n 3, 1) := by decide +kernel
theorem dX6_areWhole_33 : decode cX6_areWhole 33 = .ok (.iadd, 1) := by decide +kernel
theorem dX6_areWhole_34 : decode cX6_areWhole 34 = .ok (.iaload, 1) := by decide +kernel
theorem dX6_areWhole_35 : decode cX6_areWhole 35 = .ok (.iadd, 1) := by decide +kernel
theorem dX6_areWhole_36 : decode cX6_areWhole 36 = .ok (.istore_n 2, 1) := by decide +kernel
theorem dX6_areWhole_37 : decode cX6_areWhole 37 = .ok (.iinc 3 1, 3) := by decide +kernel
theorem dX6_areWhole_40 : decode cX6_areWhole 40 = .ok (.goto (-26), 3) := by decide +kernel
theorem dX6_areWhole_43 : decode cX6_areWhole 43 = .ok (.iload_n 2, 1) := by decide +kernel
theorem dX6_areWhole_44 : decode cX6_areWhole 44 = .ok (.bipush 10, 2) := by decide +kernel
theorem dX6_areWhole_46 : decode cX6_areWhole 46 = .ok (.if_icmp .eq 5, 3) := by decide +kernel
theorem dX6_areWhole_49 : decode cX6_areWhole 49 = .ok (.iconst 0, 1) := by decide +kernel
theorem dX6_areWhole_50 : decode cX6_areWhole 50 = .ok (.ireturn, 1) := by decide +kernel
theorem dX6_areWhole_51 : decode cX6_areWhole 51 = .ok (.iinc 1 1, 3) := by decide +kernel
theorem dX6_areWhole_54 : decode cX6_areWhole 54 = .ok (.goto (-52), 3) := by decide +kernel
theorem dX6_areWhole_57 : decode cX6_areWhole 57 = .ok (.iconst 1, 1) := by decide +kernel
theorem dX6_areWhole_58 : decode cX6_areWhole 58 = .ok (.ireturn, 1) := by decide +kernel
theorem dX6_sortOf_0 : decode cX6_sortOf 0 = .ok (.iload_n 1, 1) := by decide +kernel
theorem dX6_sortOf_1 : decode cX6_sortOf 1 = .ok (.ifCond .lt 20, 3) := by decide +kernel
theorem dX6_sortOf_4 : decode cX6_sortOf 4 = .ok (.iload_n 1, 1) := by decide +kernel
theorem dX6_sortOf_5 : decode cX6_sortOf 5 = .ok (.aload_n 0, 1) := by decide +kernel
theorem dX6_sortOf_6 : decode cX6_sortOf 6 = .ok (.getfield 38, 3) := by decide +kernel
theorem dX6_sortOf_9 : decode cX6_sortOf 9 = .ok (.if_icmp .ge 12, 3) := by decide +kernel
theorem dX6_sortOf_12 : decode cX6_sortOf 12 = .ok (.aload_n 0, 1) := by decide +kernel
theorem dX6_sortOf_13 : decode cX6_sortOf 13 = .ok (.getfield 28, 3) := by decide +kernel
theorem dX6_sortOf_16 : decode cX6_sortOf 16 = .ok (.iload_n 1, 1) := by decide +kernel
theorem dX6_sortOf_17 : decode cX6_sortOf 17 = .ok (.iaload, 1) := by decide +kernel
theorem dX6_sortOf_18 : decode cX6_sortOf 18 = .ok (.goto 4, 3) := by decide +kernel
theorem dX6_sortOf_21 : decode cX6_sortOf 21 = .ok (.iconst 0, 1) := by decide +kernel
theorem dX6_sortOf_22 : decode cX6_sortOf 22 = .ok (.ireturn, 1) := by decide +kernel
theorem dX7_init_0 : decode cX7_init 0 = .ok (.aload_n 0, 1) := by decide +kernel
theorem dX7_init_1 : decode cX7_init 1 = .ok (.invokespecial 1, 3) := by decide +kernel
theorem dX7_init_4 : decode cX7_init 4 = .ok (.aload_n 0, 1) := by decide +kernel
theorem dX7_init_5 : decode cX7_init 5 = .ok (.sipush 300, 3) := by decide +kernel
theorem dX7_init_8 : decode cX7_init 8 = .ok (.newarray .int, 2) := by decide +kernel
theorem dX7_init_10 : decode cX7_init 10 = .ok (.putfield 9, 3) := by decide +kernel
theorem dX7_init_13 : decode cX7_init 13 = .ok (.return_, 1) := by decide +kernel
theorem dX7_put_0 : decode cX7_put 0 = .ok (.aload_n 0, 1) := by decide +kernel
theorem dX7_put_1 : decode cX7_put 1 = .ok (.getfield 13, 3) := by decide +kernel
theorem dX7_put_4 : decode cX7_put 4 = .ok (.iload_n 1, 1) := by decide +kernel
theorem dX7_put_5 : decode cX7_put 5 = .ok (.iadd, 1) := by decide +kernel
theorem dX7_put_6 : decode cX7_put 6 = .ok (.sipush 300, 3) := by decide +kernel
theorem dX7_put_9 : decode cX7_put 9 = .ok (.if_icmp .le 5, 3) := by decide +kernel
theorem dX7_put_12 : decode cX7_put 12 = .ok (.iconst 0, 1) := by decide +kernel
theorem dX7_put_13 : decode cX7_put 13 = .ok (.ireturn, 1) := by decide +kernel
theorem dX7_put_14 : decode cX7_put 14 = .ok (.iload_n 1, 1) := by decide +kernel
theorem dX7_put_15 : decode cX7_put 15 = .ok (.iconst 1, 1) := by decide +kernel
theorem dX7_put_16 : decode cX7_put 16 = .ok (.isub, 1) := by decide +kernel
theorem dX7_put_17 : decode cX7_put 17 = .ok (.istore 4, 2) := by decide +kernel
theorem dX7_put_19 : decode cX7_put 19 = .ok (.iload 4, 2) := by decide +kernel
theorem dX7_put_21 : decode cX7_put 21 = .ok (.ifCond .lt 40, 3) := by decide +kernel
theorem dX7_put_24 : decode cX7_put 24 = .ok (.aload_n 0, 1) := by decide +kernel
theorem dX7_put_25 : decode cX7_put 25 = .ok (.getfield 9, 3) := by decide +kernel
theorem dX7_put_28 : decode cX7_put 28 = .ok (.aload_n 0, 1) := by decide +kernel
theorem dX7_put_29 : decode cX7_put 29 = .ok (.getfield 13, 3) := by decide +kernel
theorem dX7_put_32 : decode cX7_put 32 = .ok (.lload_n 2, 1) := by decide +kernel
theorem dX7_put_33 : decode cX7_put 33 = .ok (.bipush 8, 2) := by decide +kernel
theorem dX7_put_35 : decode cX7_put 35 = .ok (.iload 4, 2) := by decide +kernel
theorem dX7_put_37 : decode cX7_put 37 = .ok (.imul, 1) := by decide +kernel
theorem dX7_put_38 : decode cX7_put 38 = .ok (.lushr, 1) := by decide +kernel
theorem dX7_put_39 : decode cX7_put 39 = .ok (.l2i, 1) := by decide +kernel
theorem dX7_put_40 : decode cX7_put 40 = .ok (.sipush 255, 3) := by decide +kernel
theorem dX7_put_43 : decode cX7_put 43 = .ok (.iand, 1) := by decide +kernel
theorem dX7_put_44 : decode cX7_put 44 = .ok (.iastore, 1) := by decide +kernel
theorem dX7_put_45 : decode cX7_put 45 = .ok (.aload_n 0, 1) := by decide +kernel
theorem dX7_put_46 : decode cX7_put 46 = .ok (.dup, 1) := by decide +kernel
theorem dX7_put_47 : decode cX7_put 47 = .ok (.getfield 13, 3) := by decide +kernel
theorem dX7_put_50 : decode cX7_put 50 = .ok (.iconst 1, 1) := by decide +kernel
theorem dX7_put_51 : decode cX7_put 51 = .ok (.iadd, 1) := by decide +kernel
theorem dX7_put_52 : decode cX7_put 52 = .ok (.putfield 13, 3) := by decide +kernel
theorem dX7_put_55 : decode cX7_put 55 = .ok (.iinc 4 (-1), 3) := by decide +kernel
theorem dX7_put_58 : decode cX7_put 58 = .ok (.goto (-39), 3) := by decide +kernel
theorem dX7_put_61 : decode cX7_put 61 = .ok (.iconst 1, 1) := by decide +kernel
theorem dX7_put_62 : decode cX7_put 62 = .ok (.ireturn, 1) := by decide +kernel
theorem dX7_byteAt_0 : decode cX7_byteAt 0 = .ok (.iload_n 1, 1) := by decide +kernel
theorem dX7_byteAt_1 : decode cX7_byteAt 1 = .ok (.ifCond .lt 20, 3) := by decide +kernel
theorem dX7_byteAt_4 : decode cX7_byteAt 4 = .ok (.iload_n 1, 1) := by decide +kernel
theorem dX7_byteAt_5 : decode cX7_byteAt 5 = .ok (.aload_n 0, 1) := by decide +kernel
theorem dX7_byteAt_6 : decode cX7_byteAt 6 = .ok (.getfield 13, 3) := by decide +kernel
theorem dX7_byteAt_9 : decode cX7_byteAt 9 = .ok (.if_icmp .ge 12, 3) := by decide +kernel
theorem dX7_byteAt_12 : decode cX7_byteAt 12 = .ok (.aload_n 0, 1) := by decide +kernel
theorem dX7_byteAt_13 : decode cX7_byteAt 13 = .ok (.getfield 9, 3) := by decide +kernel
theorem dX7_byteAt_16 : decode cX7_byteAt 16 = .ok (.iload_n 1, 1) := by decide +kernel
theorem dX7_byteAt_17 : decode cX7_byteAt 17 = .ok (.iaload, 1) := by decide +kernel
theorem dX7_byteAt_18 : decode cX7_byteAt 18 = .ok (.goto 4, 3) := by decide +kernel
theorem dX7_byteAt_21 : decode cX7_byteAt 21 = .ok (.iconst (-1), 1) := by decide +kernel
theorem dX7_byteAt_22 : decode cX7_byteAt 22 = .ok (.ireturn, 1) := by decide +kernel
theorem dX8_init_0 : decode cX8_init 0 = .ok (.aload_n 0, 1) := by decide +kernel
theorem dX8_init_1 : decode cX8_init 1 = .ok (.invokespecial 1, 3) := by decide +kernel
theorem dX8_init_4 : decode cX8_init 4 = .ok (.aload_n 0, 1) := by decide +kernel
theorem dX8_init_5 : decode cX8_init 5 = .ok (.bipush 8, 2) := by decide +kernel
theorem dX8_init_7 : decode cX8_init 7 = .ok (.newarray .long, 2) := by decide +kernel
theorem dX8_init_9 : decode cX8_init 9 = .ok (.putfield 9, 3) := by decide +kernel
theorem dX8_init_12 : decode cX8_init 12 = .ok (.aload_n 0, 1) := by decide +kernel
theorem dX8_init_13 : decode cX8_init 13 = .ok (.bipush 8, 2) := by decide +kernel
theorem dX8_init_15 : decode cX8_init 15 = .ok (.newarray .long, 2) := by decide +kernel
theorem dX8_init_17 : decode cX8_init 17 = .ok (.putfield 15, 3) := by decide +kernel
theorem dX8_init_20 : decode cX8_init 20 = .ok (.aload_n 0, 1) := by decide +kernel
theorem dX8_init_21 : decode cX8_init 21 = .ok (.bipush 8, 2) := by decide +kernel
theorem dX8_init_23 : decode cX8_init 23 = .ok (.newarray .int, 2) := by decide +kernel
theorem dX8_init_25 : decode cX8_init 25 = .ok (.putfield 18, 3) := by decide +kernel
theorem dX8_init_28 : decode cX8_init 28 = .ok (.aload_n 0, 1) := by decide +kernel
theorem dX8_init_29 : decode cX8_init 29 = .ok (.bipush 9, 2) := by decide +kernel
theorem dX8_init_31 : decode cX8_init 31 = .ok (.newarray .long, 2) := by decide +kernel
theorem dX8_init_33 : decode cX8_init 33 = .ok (.putfield 22, 3) := by decide +kernel
theorem dX8_init_36 : decode cX8_init 36 = .ok (.aload_n 0, 1) := by decide +kernel
theorem dX8_init_37 : decode cX8_init 37 = .ok (.bipush 9, 2) := by decide +kernel
theorem dX8_init_39 : decode cX8_init 39 = .ok (.newarray .int, 2) := by decide +kernel
theorem dX8_init_41 : decode cX8_init 41 = .ok (.putfield 25, 3) := by decide +kernel
theorem dX8_init_44 : decode cX8_init 44 = .ok (.return_, 1) := by decide +kernel
theorem dX8_goThrough_0 : decode cX8_goThrough 0 = .ok (.aload_n 0, 1) := by decide +kernel
theorem dX8_goThrough_1 : decode cX8_goThrough 1 = .ok (.invokevirtual 28, 3) := by decide +kernel
theorem dX8_goThrough_4 : decode cX8_goThrough 4 = .ok (.aload_n 1, 1) := by decide +kernel
theorem dX8_goThrough_5 : decode cX8_goThrough 5 = .ok (.invokevirtual 31, 3) := by decide +kernel
theorem dX8_goThrough_8 : decode cX8_goThrough 8 = .ok (.astore_n 3, 1) := by decide +kernel
theorem dX8_goThrough_9 : decode cX8_goThrough 9 = .ok (.iconst 0, 1) := by decide +kernel
theorem dX8_goThrough_10 : decode cX8_goThrough 10 = .ok (.istore 4, 2) := by decide +kernel
theorem dX8_goThrough_12 : decode cX8_goThrough 12 = .ok (.iconst 0, 1) := by decide +kernel
theorem dX8_goThrough_13 : decode cX8_goThrough 13 = .ok (.istore 5, 2) := by decide +kernel
theorem dX8_goThrough_15 : decode cX8_goThrough 15 = .ok (.iload 5, 2) := by decide +kernel
theorem dX8_goThrough_17 : decode cX8_goThrough 17 = .ok (.sipush 6561, 3) := by decide +kernel
theorem dX8_goThrough_20 : decode cX8_goThrough 20 = .ok (.if_icmp .ge 135, 3) := by decide +kernel
theorem dX8_goThrough_23 : decode cX8_goThrough 23 = .ok (.iload 4, 2) := by decide +kernel
theorem dX8_goThrough_25 : decode cX8_goThrough 25 = .ok (.ifCond .lt 130, 3) := by decide +kernel
theorem dX8_goThrough_28 : decode cX8_goThrough 28 = .ok (.iload 4, 2) := by decide +kernel
theorem dX8_goThrough_30 : decode cX8_goThrough 30 = .ok (.istore 6, 2) := by decide +kernel
theorem dX8_goThrough_32 : decode cX8_goThrough 32 = .ok (.iload 6, 2) := by decide +kernel
theorem dX8_goThrough_34 : decode cX8_goThrough 34 = .ok (.aload_n 3, 1) := by decide +kernel
theorem dX8_goThrough_35 : decode cX8_goThrough 35 = .ok (.getfield 37, 3) := by decide +kernel
theorem dX8_goThrough_38 : decode cX8_goThrough 38 = .ok (.if_icmp .ge 85, 3) := by decide +kernel
theorem dX8_goThrough_41 : decode cX8_goThrough 41 = .ok (.iload 6, 2) := by decide +kernel
theorem dX8_goThrough_43 : decode cX8_goThrough 43 = .ok (.iconst 3, 1) := by decide +kernel
theorem dX8_goThrough_44 : decode cX8_goThrough 44 = .ok (.imul, 1) := by decide +kernel
theorem dX8_goThrough_45 : decode cX8_goThrough 45 = .ok (.aload_n 0, 1) := by decide +kernel
theorem dX8_goThrough_46 : decode cX8_goThrough 46 = .ok (.getfield 18, 3) := by decide +kernel
theorem dX8_goThrough_49 : decode cX8_goThrough 49 = .ok (.iload 6, 2) := by decide +kernel
theorem dX8_goThrough_51 : decode cX8_goThrough 51 = .ok (.iaload, 1) := by decide +kernel
theorem dX8_goThrough_52 : decode cX8_goThrough 52 = .ok (.iadd, 1) := by decide +kernel
theorem dX8_goThrough_53 : decode cX8_goThrough 53 = .ok (.istore 7, 2) := by decide +kernel
theorem dX8_goThrough_55 : decode cX8_goThrough 55 = .ok (.aload_n 0, 1) := by decide +kernel
theorem dX8_goThrough_56 : decode cX8_goThrough 56 = .ok (.getfield 22, 3) := by decide +kernel
theorem dX8_goThrough_59 : decode cX8_goThrough 59 = .ok (.iload 6, 2) := by decide +kernel
theorem dX8_goThrough_61 : decode cX8_goThrough 61 = .ok (.iconst 1, 1) := by decide +kernel
theorem dX8_goThrough_62 : decode cX8_goThrough 62 = .ok (.iadd, 1) := by decide +kernel
theorem dX8_goThrough_63 : decode cX8_goThrough 63 = .ok (.aload_n 0, 1) := by decide +kernel
theorem dX8_goThrough_64 : decode cX8_goThrough 64 = .ok (.getfield 22, 3) := by decide +kernel
theorem dX8_goThrough_67 : decode cX8_goThrough 67 = .ok (.iload 6, 2) := by decide +kernel
theorem dX8_goThrough_69 : decode cX8_goThrough 69 = .ok (.laload, 1) := by decide +kernel
theorem dX8_goThrough_70 : decode cX8_goThrough 70 = .ok (.aload_n 3, 1) := by decide +kernel
theorem dX8_goThrough_71 : decode cX8_goThrough 71 = .ok (.getfield 43, 3) := by decide +kernel
theorem dX8_goThrough_74 : decode cX8_goThrough 74 = .ok (.iload 7, 2) := by decide +kernel
theorem dX8_goThrough_76 : decode cX8_goThrough 76 = .ok (.iaload, 1) := by decide +kernel
theorem dX8_goThrough_77 : decode cX8_goThrough 77 = .ok (.i2l, 1) := by decide +kernel
theorem dX8_goThrough_78 : decode cX8_goThrough 78 = .ok (.lmul, 1) := by decide +kernel
theorem dX8_goThrough_79 : decode cX8_goThrough 79 = .ok (.lastore, 1) := by decide +kernel
theorem dX8_goThrough_80 : decode cX8_goThrough 80 = .ok (.aload_n 0, 1) := by decide +kernel
theorem dX8_goThrough_81 : decode cX8_goThrough 81 = .ok (.getfield 25, 3) := by decide +kernel
theorem dX8_goThrough_84 : decode cX8_goThrough 84 = .ok (.iload 6, 2) := by decide +kernel
theorem dX8_goThrough_86 : decode cX8_goThrough 86 = .ok (.iconst 1, 1) := by decide +kernel
theorem dX8_goThrough_87 : decode cX8_goThrough 87 = .ok (.iadd, 1) := by decide +kernel
theorem dX8_goThrough_88 : decode cX8_goThrough 88 = .ok (.aload_n 0, 1) := by decide +kernel
theorem dX8_goThrough_89 : decode cX8_goThrough 89 = .ok (.getfield 25, 3) := by decide +kernel
theorem dX8_goThrough_92 : decode cX8_goThrough 92 = .ok (.iload 6, 2) := by decide +kernel
theorem dX8_goThrough_94 : decode cX8_goThrough 94 = .ok (.iaload, 1) := by decide +kernel
theorem dX8_goThrough_95 : decode cX8_goThrough 95 = .ok (.aload_n 3, 1) := by decide +kernel
theorem dX8_goThrough_96 : decode cX8_goThrough 96 = .ok (.getfield 46, 3) := by decide +kernel
theorem dX8_goThrough_99 : decode cX8_goThrough 99 = .ok (.iload 7, 2) := by decide +kernel
theorem dX8_goThrough_101 : decode cX8_goThrough 101 = .ok (.iaload, 1) := by decide +kernel
theorem dX8_goThrough_102 : decode cX8_goThrough 102 = .ok (.iadd, 1) := by decide +kernel
theorem dX8_goThrough_103 : decode cX8_goThrough 103 = .ok (.iastore, 1) := by decide +kernel
theorem dX8_goThrough_104 : decode cX8_goThrough 104 = .ok (.aload_n 1, 1) := by decide +kernel
theorem dX8_goThrough_105 : decode cX8_goThrough 105 = .ok (.iload 6, 2) := by decide +kernel
theorem dX8_goThrough_107 : decode cX8_goThrough 107 = .ok (.aload_n 3, 1) := by decide +kernel
theorem dX8_goThrough_108 : decode cX8_goThrough 108 = .ok (.getfield 46, 3) := by decide +kernel
theorem dX8_goThrough_111 : decode cX8_goThrough 111 = .ok (.iload 7, 2) := by decide +kernel
theorem dX8_goThrough_113 : decode cX8_goThrough 113 = .ok (.iaload, 1) := by decide +kernel
theorem dX8_goThrough_114 : decode cX8_goThrough 114 = .ok (.invokevirtual 49, 3) := by decide +kernel
theorem dX8_goThrough_117 : decode cX8_goThrough 117 = .ok (.iinc 6 1, 3) := by decide +kernel
theorem dX8_goThrough_120 : decode cX8_goThrough 120 = .ok (.goto (-88), 3) := by decide +kernel
theorem dX8_goThrough_123 : decode cX8_goThrough 123 = .ok (.aload_n 0, 1) := by decide +kernel
theorem dX8_goThrough_124 : decode cX8_goThrough 124 = .ok (.aload_n 1, 1) := by decide +kernel
theorem dX8_goThrough_125 : decode cX8_goThrough 125 = .ok (.aload_n 3, 1) := by decide +kernel
theorem dX8_goThrough_126 : decode cX8_goThrough 126 = .ok (.getfield 37, 3) := by decide +kernel
theorem dX8_goThrough_129 : decode cX8_goThrough 129 = .ok (.invokevirtual 53, 3) := by decide +kernel
theorem dX8_goThrough_132 : decode cX8_goThrough 132 = .ok (.iload_n 2, 1) := by decide +kernel
theorem dX8_goThrough_133 : decode cX8_goThrough 133 = .ok (.ifCond .eq 9, 3) := by decide +kernel
theorem dX8_goThrough_136 : decode cX8_goThrough 136 = .ok (.aload_n 0, 1) := by decide +kernel
theorem dX8_goThrough_137 : decode cX8_goThrough 137 = .ok (.aload_n 1, 1) := by decide +kernel
theorem dX8_goThrough_138 : decode cX8_goThrough 138 = .ok (.aload_n 3, 1) := by decide +kernel
theorem dX8_goThrough_139 : decode cX8_goThrough 139 = .ok (.invokevirtual 57, 3) := by decide +kernel
theorem dX8_goThrough_142 : decode cX8_goThrough 142 = .ok (.aload_n 0, 1) := by decide +kernel
theorem dX8_goThrough_143 : decode cX8_goThrough 143 = .ok (.aload_n 3, 1) := by decide +kernel
theorem dX8_goThrough_144 : decode cX8_goThrough 144 = .ok (.invokevirtual 61, 3) := by decide +kernel
theorem dX8_goThrough_147 : decode cX8_goThrough 147 = .ok (.istore 4, 2) := by decide +kernel
theorem dX8_goThrough_149 : decode cX8_goThrough 149 = .ok (.iinc 5 1, 3) := by decide +kernel
theorem dX8_goThrough_152 : decode cX8_goThrough 152 = .ok (.goto (-137), 3) := by decide +kernel
theorem dX8_goThrough_155 : decode cX8_goThrough 155 = .ok (.return_, 1) := by decide +kernel
theorem dX8_clear_0 : decode cX8_clear 0 = .ok (.aload_n 0, 1) := by decide +kernel
theorem dX8_clear_1 : decode cX8_clear 1 = .ok (.lconst 0, 1) := by decide +kernel
theorem dX8_clear_2 : decode cX8_clear 2 = .ok (.putfield 65, 3) := by decide +kernel
theorem dX8_clear_5 : decode cX8_clear 5 = .ok (.aload_n 0, 1) := by decide +kernel
theorem dX8_clear_6 : decode cX8_clear 6 = .ok (.lconst 0, 1) := by decide +kernel
theorem dX8_clear_7 : decode cX8_clear 7 = .ok (.putfield 69, 3) := by decide +kernel
theorem dX8_clear_10 : decode cX8_clear 10 = .ok (.aload_n 0, 1) := by decide +kernel
theorem dX8_clear_11 : decode cX8_clear 11 = .ok (.lconst 0, 1) := by decide +kernel
theorem dX8_clear_12 : decode cX8_clear 12 = .ok (.putfield 72, 3) := by decide +kernel
theorem dX8_clear_15 : decode cX8_clear 15 = .ok (.aload_n 0, 1) := by decide +kernel
theorem dX8_clear_16 : decode cX8_clear 16 = .ok (.lconst 0, 1) := by decide +kernel
theorem dX8_clear_17 : decode cX8_clear 17 = .ok (.putfield 75, 3) := by decide +kernel
theorem dX8_clear_20 : decode cX8_clear 20 = .ok (.aload_n 0, 1) := by decide +kernel
theorem dX8_clear_21 : decode cX8_clear 21 = .ok (.lconst 0, 1) := by decide +kernel
theorem dX8_clear_22 : decode cX8_clear 22 = .ok (.putfield 78, 3) := by decide +kernel
theorem dX8_clear_25 : decode cX8_clear 25 = .ok (.aload_n 0, 1) := by decide +kernel
theorem dX8_clear_26 : decode cX8_clear 26 = .ok (.getfield 9, 3) := by decide +kernel
theorem dX8_clear_29 : decode cX8_clear 29 = .ok (.lconst 0, 1) := by decide +kernel
theorem dX8_clear_30 : decode cX8_clear 30 = .ok (.invokestatic 81, 3) := by decide +kernel
theorem dX8_clear_33 : decode cX8_clear 33 = .ok (.aload_n 0, 1) := by decide +kernel
theorem dX8_clear_34 : decode cX8_clear 34 = .ok (.getfield 15, 3) := by decide +kernel
theorem dX8_clear_37 : decode cX8_clear 37 = .ok (.lconst 0, 1) := by decide +kernel
theorem dX8_clear_38 : decode cX8_clear 38 = .ok (.invokestatic 81, 3) := by decide +kernel
theorem dX8_clear_41 : decode cX8_clear 41 = .ok (.aload_n 0, 1) := by decide +kernel
theorem dX8_clear_42 : decode cX8_clear 42 = .ok (.getfield 18, 3) := by decide +kernel
theorem dX8_clear_45 : decode cX8_clear 45 = .ok (.iconst 0, 1) := by decide +kernel
theorem dX8_clear_46 : decode cX8_clear 46 = .ok (.invokestatic 87, 3) := by decide +kernel
theorem dX8_clear_49 : decode cX8_clear 49 = .ok (.aload_n 0, 1) := by decide +kernel
theorem dX8_clear_50 : decode cX8_clear 50 = .ok (.getfield 22, 3) := by decide +kernel
theorem dX8_clear_53 : decode cX8_clear 53 = .ok (.iconst 0, 1) := by decide +kernel
theorem dX8_clear_54 : decode cX8_clear 54 = .ok (.lconst 1, 1) := by decide +kernel
theorem dX8_clear_55 : decode cX8_clear 55 = .ok (.lastore, 1) := by decide +kernel
theorem dX8_clear_56 : decode cX8_clear 56 = .ok (.return_, 1) := by decide +kernel
theorem dX8_add_0 : decode cX8_add 0 = .ok (.aload_n 1, 1) := by decide +kernel
theorem dX8_add_1 : decode cX8_add 1 = .ok (.invokevirtual 90, 3) := by decide +kernel
theorem dX8_add_4 : decode cX8_add 4 = .ok (.istore_n 3, 1) := by decide +kernel
theorem dX8_add_5 : decode cX8_add 5 = .ok (.aload_n 0, 1) := by decide +kernel
theorem dX8_add_6 : decode cX8_add 6 = .ok (.getfield 25, 3) := by decide +kernel
theorem dX8_add_9 : decode cX8_add 9 = .ok (.iload_n 2, 1) := by decide +kernel
theorem dX8_add_10 : decode cX8_add 10 = .ok (.iaload, 1) := by decide +kernel
theorem dX8_add_11 : decode cX8_add 11 = .ok (.aload_n 1, 1) := by decide +kernel
theorem dX8_add_12 : decode cX8_add 12 = .ok (.invokevirtual 94, 3) := by decide +kernel
theorem dX8_add_15 : decode cX8_add 15 = .ok (.if_icmp .lt 7, 3) := by decide +kernel
theorem dX8_add_18 : decode cX8_add 18 = .ok (.iconst 1, 1) := by decide +kernel
theorem dX8_add_19 : decode cX8_add 19 = .ok (.goto 4, 3) := by decide +kernel
theorem dX8_add_22 : decode cX8_add 22 = .ok (.iconst 0, 1) := by decide +kernel
theorem dX8_add_23 : decode cX8_add 23 = .ok (.istore 4, 2) := by decide +kernel
theorem dX8_add_25 : decode cX8_add 25 = .ok (.aload_n 1, 1) := by decide +kernel
theorem dX8_add_26 : decode cX8_add 26 = .ok (.invokevirtual 98, 3) := by decide +kernel
theorem dX8_add_29 : decode cX8_add 29 = .ok (.istore 5, 2) := by decide +kernel
theorem dX8_add_31 : decode cX8_add 31 = .ok (.iload_n 3, 1) := by decide +kernel
theorem dX8_add_32 : decode cX8_add 32 = .ok (.ifCond .eq 18, 3) := by decide +kernel
theorem dX8_add_35 : decode cX8_add 35 = .ok (.aload_n 0, 1) := by decide +kernel
theorem dX8_add_36 : decode cX8_add 36 = .ok (.dup, 1) := by decide +kernel
theorem dX8_add_37 : decode cX8_add 37 = .ok (.getfield 65, 3) := by decide +kernel
theorem dX8_add_40 : decode cX8_add 40 = .ok (.aload_n 0, 1) := by decide +kernel
theorem dX8_add_41 : decode cX8_add 41 = .ok (.getfield 22, 3) := by decide +kernel
theorem dX8_add_44 : decode cX8_add 44 = .ok (.iload_n 2, 1) := by decide +kernel
theorem dX8_add_45 : decode cX8_add 45 = .ok (.laload, 1) := by decide +kernel
theorem dX8_add_46 : decode cX8_add 46 = .ok (.ladd, 1) := by decide +kernel
theorem dX8_add_47 : decode cX8_add 47 = .ok (.putfield 65, 3) := by decide +kernel
theorem dX8_add_50 : decode cX8_add 50 = .ok (.iload_n 3, 1) := by decide +kernel
theorem dX8_add_51 : decode cX8_add 51 = .ok (.ifCond .eq 23, 3) := by decide +kernel
theorem dX8_add_54 : decode cX8_add 54 = .ok (.iload 4, 2) := by decide +kernel
theorem dX8_add_56 : decode cX8_add 56 = .ok (.ifCond .ne 18, 3) := by decide +kernel
theorem dX8_add_59 : decode cX8_add 59 = .ok (.aload_n 0, 1) := by decide +kernel
theorem dX8_add_60 : decode cX8_add 60 = .ok (.dup, 1) := by decide +kernel
theorem dX8_add_61 : decode cX8_add 61 = .ok (.getfield 69, 3) := by decide +kernel
theorem dX8_add_64 : decode cX8_add 64 = .ok (.aload_n 0, 1) := by decide +kernel
theorem dX8_add_65 : decode cX8_add 65 = .ok (.getfield 22, 3) := by decide +kernel
theorem dX8_add_68 : decode cX8_add 68 = .ok (.iload_n 2, 1) := by decide +kernel
theorem dX8_add_69 : decode cX8_add 69 = .ok (.laload, 1) := by decide +kernel
theorem dX8_add_70 : decode cX8_add 70 = .ok (.ladd, 1) := by decide +kernel
theorem dX8_add_71 : decode cX8_add 71 = .ok (.putfield 69, 3) := by decide +kernel
theorem dX8_add_74 : decode cX8_add 74 = .ok (.iload_n 3, 1) := by decide +kernel
theorem dX8_add_75 : decode cX8_add 75 = .ok (.ifCond .ne 23, 3) := by decide +kernel
theorem dX8_add_78 : decode cX8_add 78 = .ok (.iload 4, 2) := by decide +kernel
theorem dX8_add_80 : decode cX8_add 80 = .ok (.ifCond .eq 18, 3) := by decide +kernel
theorem dX8_add_83 : decode cX8_add 83 = .ok (.aload_n 0, 1) := by decide +kernel
theorem dX8_add_84 : decode cX8_add 84 = .ok (.dup, 1) := by decide +kernel
theorem dX8_add_85 : decode cX8_add 85 = .ok (.getfield 72, 3) := by decide +kernel
theorem dX8_add_88 : decode cX8_add 88 = .ok (.aload_n 0, 1) := by decide +kernel
theorem dX8_add_89 : decode cX8_add 89 = .ok (.getfield 22, 3) := by decide +kernel
theorem dX8_add_92 : decode cX8_add 92 = .ok (.iload_n 2, 1) := by decide +kernel
theorem dX8_add_93 : decode cX8_add 93 = .ok (.laload, 1) := by decide +kernel
theorem dX8_add_94 : decode cX8_add 94 = .ok (.ladd, 1) := by decide +kernel
theorem dX8_add_95 : decode cX8_add 95 = .ok (.putfield 72, 3) := by decide +kernel
theorem dX8_add_98 : decode cX8_add 98 = .ok (.iload 5, 2) := by decide +kernel
theorem dX8_add_100 : decode cX8_add 100 = .ok (.ifCond .eq 18, 3) := by decide +kernel
theorem dX8_add_103 : decode cX8_add 103 = .ok (.aload_n 0, 1) := by decide +kernel
theorem dX8_add_104 : decode cX8_add 104 = .ok (.dup, 1) := by decide +kernel
theorem dX8_add_105 : decode cX8_add 105 = .ok (.getfield 75, 3) := by decide +kernel
theorem dX8_add_108 : decode cX8_add 108 = .ok (.aload_n 0, 1) := by decide +kernel
theorem dX8_add_109 : decode cX8_add 109 = .ok (.getfield 22, 3) := by decide +kernel
theorem dX8_add_112 : decode cX8_add 112 = .ok (.iload_n 2, 1) := by decide +kernel
theorem dX8_add_113 : decode cX8_add 113 = .ok (.laload, 1) := by decide +kernel
theorem dX8_add_114 : decode cX8_add 114 = .ok (.ladd, 1) := by decide +kernel
theorem dX8_add_115 : decode cX8_add 115 = .ok (.putfield 75, 3) := by decide +kernel
theorem dX8_add_118 : decode cX8_add 118 = .ok (.iload_n 3, 1) := by decide +kernel
theorem dX8_add_119 : decode cX8_add 119 = .ok (.ifCond .eq 23, 3) := by decide +kernel
theorem dX8_add_122 : decode cX8_add 122 = .ok (.iload 5, 2) := by decide +kernel
theorem dX8_add_124 : decode cX8_add 124 = .ok (.ifCond .eq 18, 3) := by decide +kernel
theorem dX8_add_127 : decode cX8_add 127 = .ok (.aload_n 0, 1) := by decide +kernel
theorem dX8_add_128 : decode cX8_add 128 = .ok (.dup, 1) := by decide +kernel
theorem dX8_add_129 : decode cX8_add 129 = .ok (.getfield 78, 3) := by decide +kernel
theorem dX8_add_132 : decode cX8_add 132 = .ok (.aload_n 0, 1) := by decide +kernel
theorem dX8_add_133 : decode cX8_add 133 = .ok (.getfield 22, 3) := by decide +kernel
theorem dX8_add_136 : decode cX8_add 136 = .ok (.iload_n 2, 1) := by decide +kernel
theorem dX8_add_137 : decode cX8_add 137 = .ok (.laload, 1) := by decide +kernel
theorem dX8_add_138 : decode cX8_add 138 = .ok (.ladd, 1) := by decide +kernel
theorem dX8_add_139 : decode cX8_add 139 = .ok (.putfield 78, 3) := by decide +kernel
theorem dX8_add_142 : decode cX8_add 142 = .ok (.return_, 1) := by decide +kernel
theorem dX8_addMeans_0 : decode cX8_addMeans 0 = .ok (.iconst 0, 1) := by decide +kernel
theorem dX8_addMeans_1 : decode cX8_addMeans 1 = .ok (.istore_n 3, 1) := by decide +kernel
theorem dX8_addMeans_2 : decode cX8_addMeans 2 = .ok (.iload_n 3, 1) := by decide +kernel
theorem dX8_addMeans_3 : decode cX8_addMeans 3 = .ok (.aload_n 2, 1) := by decide +kernel
theorem dX8_addMeans_4 : decode cX8_addMeans 4 = .ok (.getfield 37, 3) := by decide +kernel
theorem dX8_addMeans_7 : decode cX8_addMeans 7 = .ok (.if_icmp .ge 79, 3) := by decide +kernel
theorem dX8_addMeans_10 : decode cX8_addMeans 10 = .ok (.aload_n 2, 1) := by decide +kernel
theorem dX8_addMeans_11 : decode cX8_addMeans 11 = .ok (.getfield 46, 3) := by decide +kernel
theorem dX8_addMeans_14 : decode cX8_addMeans 14 = .ok (.iload_n 3, 1) := by decide +kernel
theorem dX8_addMeans_15 : decode cX8_addMeans 15 = .ok (.iconst 3, 1) := by decide +kernel
theorem dX8_addMeans_16 : decode cX8_addMeans 16 = .ok (.imul, 1) := by decide +kernel
theorem dX8_addMeans_17 : decode cX8_addMeans 17 = .ok (.aload_n 0, 1) := by decide +kernel
theorem dX8_addMeans_18 : decode cX8_addMeans 18 = .ok (.getfield 18, 3) := by decide +kernel
theorem dX8_addMeans_21 : decode cX8_addMeans 21 = .ok (.iload_n 3, 1) := by decide +kernel
theorem dX8_addMeans_22 : decode cX8_addMeans 22 = .ok (.iaload, 1) := by decide +kernel
theorem dX8_addMeans_23 : decode cX8_addMeans 23 = .ok (.iadd, 1) := by decide +kernel
theorem dX8_addMeans_24 : decode cX8_addMeans 24 = .ok (.iaload, 1) := by decide +kernel
theorem dX8_addMeans_25 : decode cX8_addMeans 25 = .ok (.istore 4, 2) := by decide +kernel
theorem dX8_addMeans_27 : decode cX8_addMeans 27 = .ok (.aload_n 0, 1) := by decide +kernel
theorem dX8_addMeans_28 : decode cX8_addMeans 28 = .ok (.getfield 9, 3) := by decide +kernel
theorem dX8_addMeans_31 : decode cX8_addMeans 31 = .ok (.iload_n 3, 1) := by decide +kernel
theorem dX8_addMeans_32 : decode cX8_addMeans 32 = .ok (.dup2, 1) := by decide +kernel
theorem dX8_addMeans_33 : decode cX8_addMeans 33 = .ok (.laload, 1) := by decide +kernel
theorem dX8_addMeans_34 : decode cX8_addMeans 34 = .ok (.aload_n 0, 1) := by decide +kernel
theorem dX8_addMeans_35 : decode cX8_addMeans 35 = .ok (.getfield 22, 3) := by decide +kernel
theorem dX8_addMeans_38 : decode cX8_addMeans 38 = .ok (.aload_n 2, 1) := by decide +kernel
theorem dX8_addMeans_39 : decode cX8_addMeans 39 = .ok (.getfield 37, 3) := by decide +kernel
theorem dX8_addMeans_42 : decode cX8_addMeans 42 = .ok (.laload, 1) := by decide +kernel
theorem dX8_addMeans_43 : decode cX8_addMeans 43 = .ok (.aload_n 1, 1) := by decide +kernel
theorem dX8_addMeans_44 : decode cX8_addMeans 44 = .ok (.getfield 101, 3) := by decide +kernel
theorem dX8_addMeans_47 : decode cX8_addMeans 47 = .ok (.iload_n 3, 1) := by decide +kernel
theorem dX8_addMeans_48 : decode cX8_addMeans 48 = .ok (.iaload, 1) := by decide +kernel
theorem dX8_addMeans_49 : decode cX8_addMeans 49 = .ok (.i2l, 1) := by decide +kernel
theorem dX8_addMeans_50 : decode cX8_addMeans 50 = .ok (.lmul, 1) := by decide +kernel
theorem dX8_addMeans_51 : decode cX8_addMeans 51 = .ok (.ladd, 1) := by decide +kernel
theorem dX8_addMeans_52 : decode cX8_addMeans 52 = .ok (.lastore, 1) := by decide +kernel
theorem dX8_addMeans_53 : decode cX8_addMeans 53 = .ok (.aload_n 0, 1) := by decide +kernel
theorem dX8_addMeans_54 : decode cX8_addMeans 54 = .ok (.getfield 15, 3) := by decide +kernel
theorem dX8_addMeans_57 : decode cX8_addMeans 57 = .ok (.iload_n 3, 1) := by decide +kernel
theorem dX8_addMeans_58 : decode cX8_addMeans 58 = .ok (.dup2, 1) := by decide +kernel
theorem dX8_addMeans_59 : decode cX8_addMeans 59 = .ok (.laload, 1) := by decide +kernel
theorem dX8_addMeans_60 : decode cX8_addMeans 60 = .ok (.aload_n 0, 1) := by decide +kernel
theorem dX8_addMeans_61 : decode cX8_addMeans 61 = .ok (.getfield 22, 3) := by decide +kernel
theorem dX8_addMeans_64 : decode cX8_addMeans 64 = .ok (.aload_n 2, 1) := by decide +kernel
theorem dX8_addMeans_65 : decode cX8_addMeans 65 = .ok (.getfield 37, 3) := by decide +kernel
theorem dX8_addMeans_68 : decode cX8_addMeans 68 = .ok (.laload, 1) := by decide +kernel
theorem dX8_addMeans_69 : decode cX8_addMeans 69 = .ok (.aload_n 1, 1) := by decide +kernel
theorem dX8_addMeans_70 : decode cX8_addMeans 70 = .ok (.iload_n 3, 1) := by decide +kernel
theorem dX8_addMeans_71 : decode cX8_addMeans 71 = .ok (.iload 4, 2) := by decide +kernel
theorem dX8_addMeans_73 : decode cX8_addMeans 73 = .ok (.invokevirtual 104, 3) := by decide +kernel
theorem dX8_addMeans_76 : decode cX8_addMeans 76 = .ok (.i2l, 1) := by decide +kernel
theorem dX8_addMeans_77 : decode cX8_addMeans 77 = .ok (.lmul, 1) := by decide +kernel
theorem dX8_addMeans_78 : decode cX8_addMeans 78 = .ok (.ladd, 1) := by decide +kernel
theorem dX8_addMeans_79 : decode cX8_addMeans 79 = .ok (.lastore, 1) := by decide +kernel
theorem dX8_addMeans_80 : decode cX8_addMeans 80 = .ok (.iinc 3 1, 3) := by decide +kernel
theorem dX8_addMeans_83 : decode cX8_addMeans 83 = .ok (.goto (-81), 3) := by decide +kernel
theorem dX8_addMeans_86 : decode cX8_addMeans 86 = .ok (.return_, 1) := by decide +kernel
theorem dX8_nextWay_0 : decode cX8_nextWay 0 = .ok (.aload_n 1, 1) := by decide +kernel
theorem dX8_nextWay_1 : decode cX8_nextWay 1 = .ok (.getfield 37, 3) := by decide +kernel
theorem dX8_nextWay_4 : decode cX8_nextWay 4 = .ok (.iconst 1, 1) := by decide +kernel
theorem dX8_nextWay_5 : decode cX8_nextWay 5 = .ok (.isub, 1) := by decide +kernel
theorem dX8_nextWay_6 : decode cX8_nextWay 6 = .ok (.istore_n 2, 1) := by decide +kernel
theorem dX8_nextWay_7 : decode cX8_nextWay 7 = .ok (.iload_n 2, 1) := by decide +kernel
theorem dX8_nextWay_8 : decode cX8_nextWay 8 = .ok (.ifCond .lt 43, 3) := by decide +kernel
theorem dX8_nextWay_11 : decode cX8_nextWay 11 = .ok (.aload_n 0, 1) := by decide +kernel
theorem dX8_nextWay_12 : decode cX8_nextWay 12 = .ok (.getfield 18, 3) := by decide +kernel
theorem dX8_nextWay_15 : decode cX8_nextWay 15 = .ok (.iload_n 2, 1) := by decide +kernel
theorem dX8_nextWay_16 : decode cX8_nextWay 16 = .ok (.dup2, 1) := by decide +kernel
theorem dX8_nextWay_17 : decode cX8_nextWay 17 = .ok (.iaload, 1) := by decide +kernel
theorem dX8_nextWay_18 : decode cX8_nextWay 18 = .ok (.iconst 1, 1) := by decide +kernel
theorem dX8_nextWay_19 : decode cX8_nextWay 19 = .ok (.iadd, 1) := by decide +kernel
theorem dX8_nextWay_20 : decode cX8_nextWay 20 = .ok (.iastore, 1) := by decide +kernel
theorem dX8_nextWay_21 : decode cX8_nextWay 21 = .ok (.aload_n 0, 1) := by decide +kernel
theorem dX8_nextWay_22 : decode cX8_nextWay 22 = .ok (.getfield 18, 3) := by decide +kernel
theorem dX8_nextWay_25 : decode cX8_nextWay 25 = .ok (.iload_n 2, 1) := by decide +kernel
theorem dX8_nextWay_26 : decode cX8_nextWay 26 = .ok (.iaload, 1) := by decide +kernel
theorem dX8_nextWay_27 : decode cX8_nextWay 27 = .ok (.aload_n 1, 1) := by decide +kernel
theorem dX8_nextWay_28 : decode cX8_nextWay 28 = .ok (.getfield 108, 3) := by decide +kernel
theorem dX8_nextWay_31 : decode cX8_nextWay 31 = .ok (.iload_n 2, 1) := by decide +kernel
theorem dX8_nextWay_32 : decode cX8_nextWay 32 = .ok (.iaload, 1) := by decide +kernel
theorem dX8_nextWay_33 : decode cX8_nextWay 33 = .ok (.if_icmp .ge 5, 3) := by decide +kernel
theorem dX8_nextWay_36 : decode cX8_nextWay 36 = .ok (.iload_n 2, 1) := by decide +kernel
theorem dX8_nextWay_37 : decode cX8_nextWay 37 = .ok (.ireturn, 1) := by decide +kernel
theorem dX8_nextWay_38 : decode cX8_nextWay 38 = .ok (.aload_n 0, 1) := by decide +kernel
theorem dX8_nextWay_39 : decode cX8_nextWay 39 = .ok (.getfield 18, 3) := by decide +kernel
theorem dX8_nextWay_42 : decode cX8_nextWay 42 = .ok (.iload_n 2, 1) := by decide +kernel
theorem dX8_nextWay_43 : decode cX8_nextWay 43 = .ok (.iconst 0, 1) := by decide +kernel
theorem dX8_nextWay_44 : decode cX8_nextWay 44 = .ok (.iastore, 1) := by decide +kernel
theorem dX8_nextWay_45 : decode cX8_nextWay 45 = .ok (.iinc 2 (-1), 3) := by decide +kernel
theorem dX8_nextWay_48 : decode cX8_nextWay 48 = .ok (.goto (-41), 3) := by decide +kernel
theorem dX8_nextWay_51 : decode cX8_nextWay 51 = .ok (.iconst (-1), 1) := by decide +kernel
theorem dX8_nextWay_52 : decode cX8_nextWay 52 = .ok (.ireturn, 1) := by decide +kernel
