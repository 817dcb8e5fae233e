theorem dX10_init_0 : decode cX10_init 0 = .ok (.aload_n 0, 1) := by decide +kernel
theorem dX10_init_1 : decode cX10_init 1 = .ok (.invokespecial 1, 3) := by decide +kernel
theorem dX10_init_4 : decode cX10_init 4 = .ok (.aload_n 0, 1) := by decide +kernel
theorem dX10_init_5 : decode cX10_init 5 = .ok (.sipush 300, 3) := by decide +kernel
theorem dX10_init_8 : decode cX10_init 8 = .ok (.newarray .int, 2) := by decide +kernel
theorem dX10_init_10 : decode cX10_init 10 = .ok (.putfield 7, 3) := by decide +kernel
theorem dX10_init_13 : decode cX10_init 13 = .ok (.aload_n 0, 1) := by decide +kernel
theorem dX10_init_14 : decode cX10_init 14 = .ok (.bipush 20, 2) := by decide +kernel
theorem dX10_init_16 : decode cX10_init 16 = .ok (.newarray .int, 2) := by decide +kernel
theorem dX10_init_18 : decode cX10_init 18 = .ok (.putfield 13, 3) := by decide +kernel
theorem dX10_init_21 : decode cX10_init 21 = .ok (.aload_n 0, 1) := by decide +kernel
theorem dX10_init_22 : decode cX10_init 22 = .ok (.iconst 2, 1) := by decide +kernel
theorem dX10_init_23 : decode cX10_init 23 = .ok (.newarray .int, 2) := by decide +kernel
theorem dX10_init_25 : decode cX10_init 25 = .ok (.putfield 16, 3) := by decide +kernel
theorem dX10_init_28 : decode cX10_init 28 = .ok (.aload_n 0, 1) := by decide +kernel
theorem dX10_init_29 : decode cX10_init 29 = .ok (.bipush 12, 2) := by decide +kernel
theorem dX10_init_31 : decode cX10_init 31 = .ok (.newarray .int, 2) := by decide +kernel
theorem dX10_init_33 : decode cX10_init 33 = .ok (.putfield 19, 3) := by decide +kernel
theorem dX10_init_36 : decode cX10_init 36 = .ok (.aload_n 0, 1) := by decide +kernel
theorem dX10_init_37 : decode cX10_init 37 = .ok (.bipush 12, 2) := by decide +kernel
theorem dX10_init_39 : decode cX10_init 39 = .ok (.newarray .int, 2) := by decide +kernel
theorem dX10_init_41 : decode cX10_init 41 = .ok (.putfield 22, 3) := by decide +kernel
theorem dX10_init_44 : decode cX10_init 44 = .ok (.aload_n 0, 1) := by decide +kernel
theorem dX10_init_45 : decode cX10_init 45 = .ok (.bipush 12, 2) := by decide +kernel
theorem dX10_init_47 : decode cX10_init 47 = .ok (.newarray .int, 2) := by decide +kernel
theorem dX10_init_49 : decode cX10_init 49 = .ok (.putfield 25, 3) := by decide +kernel
theorem dX10_init_52 : decode cX10_init 52 = .ok (.aload_n 0, 1) := by decide +kernel
theorem dX10_init_53 : decode cX10_init 53 = .ok (.bipush 12, 2) := by decide +kernel
theorem dX10_init_55 : decode cX10_init 55 = .ok (.newarray .int, 2) := by decide +kernel
theorem dX10_init_57 : decode cX10_init 57 = .ok (.putfield 28, 3) := by decide +kernel
theorem dX10_init_60 : decode cX10_init 60 = .ok (.aload_n 0, 1) := by decide +kernel
theorem dX10_init_61 : decode cX10_init 61 = .ok (.bipush 12, 2) := by decide +kernel
theorem dX10_init_63 : decode cX10_init 63 = .ok (.newarray .int, 2) := by decide +kernel
theorem dX10_init_65 : decode cX10_init 65 = .ok (.putfield 31, 3) := by decide +kernel
theorem dX10_init_68 : decode cX10_init 68 = .ok (.aload_n 0, 1) := by decide +kernel
theorem dX10_init_69 : decode cX10_init 69 = .ok (.bipush 12, 2) := by decide +kernel
theorem dX10_init_71 : decode cX10_init 71 = .ok (.newarray .int, 2) := by decide +kernel
theorem dX10_init_73 : decode cX10_init 73 = .ok (.putfield 34, 3) := by decide +kernel
theorem dX10_init_76 : decode cX10_init 76 = .ok (.aload_n 0, 1) := by decide +kernel
theorem dX10_init_77 : decode cX10_init 77 = .ok (.bipush 12, 2) := by decide +kernel
theorem dX10_init_79 : decode cX10_init 79 = .ok (.newarray .int, 2) := by decide +kernel
theorem dX10_init_81 : decode cX10_init 81 = .ok (.putfield 37, 3) := by decide +kernel
theorem dX10_init_84 : decode cX10_init 84 = .ok (.aload_n 0, 1) := by decide +kernel
theorem dX10_init_85 : decode cX10_init 85 = .ok (.bipush 36, 2) := by decide +kernel
theorem dX10_init_87 : decode cX10_init 87 = .ok (.newarray .int, 2) := by decide +kernel
theorem dX10_init_89 : decode cX10_init 89 = .ok (.putfield 40, 3) := by decide +kernel
theorem dX10_init_92 : decode cX10_init 92 = .ok (.aload_n 0, 1) := by decide +kernel
theorem dX10_init_93 : decode cX10_init 93 = .ok (.bipush 36, 2) := by decide +kernel
theorem dX10_init_95 : decode cX10_init 95 = .ok (.newarray .int, 2) := by decide +kernel
theorem dX10_init_97 : decode cX10_init 97 = .ok (.putfield 43, 3) := by decide +kernel
theorem dX10_init_100 : decode cX10_init 100 = .ok (.aload_n 0, 1) := by decide +kernel
theorem dX10_init_101 : decode cX10_init 101 = .ok (.bipush 8, 2) := by decide +kernel
theorem dX10_init_103 : decode cX10_init 103 = .ok (.newarray .int, 2) := by decide +kernel
theorem dX10_init_105 : decode cX10_init 105 = .ok (.putfield 46, 3) := by decide +kernel
theorem dX10_init_108 : decode cX10_init 108 = .ok (.aload_n 0, 1) := by decide +kernel
theorem dX10_init_109 : decode cX10_init 109 = .ok (.bipush 8, 2) := by decide +kernel
theorem dX10_init_111 : decode cX10_init 111 = .ok (.newarray .int, 2) := by decide +kernel
theorem dX10_init_113 : decode cX10_init 113 = .ok (.putfield 49, 3) := by decide +kernel
theorem dX10_init_116 : decode cX10_init 116 = .ok (.aload_n 0, 1) := by decide +kernel
theorem dX10_init_117 : decode cX10_init 117 = .ok (.iconst 3, 1) := by decide +kernel
theorem dX10_init_118 : decode cX10_init 118 = .ok (.newarray .int, 2) := by decide +kernel
theorem dX10_init_120 : decode cX10_init 120 = .ok (.putfield 52, 3) := by decide +kernel
theorem dX10_init_123 : decode cX10_init 123 = .ok (.aload_n 0, 1) := by decide +kernel
theorem dX10_init_124 : decode cX10_init 124 = .ok (.bipush 24, 2) := by decide +kernel
theorem dX10_init_126 : decode cX10_init 126 = .ok (.newarray .int, 2) := by decide +kernel
theorem dX10_init_128 : decode cX10_init 128 = .ok (.putfield 55, 3) := by decide +kernel
theorem dX10_init_131 : decode cX10_init 131 = .ok (.aload_n 0, 1) := by decide +kernel
theorem dX10_init_132 : decode cX10_init 132 = .ok (.iconst 5, 1) := by decide +kernel
theorem dX10_init_133 : decode cX10_init 133 = .ok (.newarray .int, 2) := by decide +kernel
theorem dX10_init_135 : decode cX10_init 135 = .ok (.putfield 58, 3) := by decide +kernel
theorem dX10_init_138 : decode cX10_init 138 = .ok (.aload_n 0, 1) := by decide +kernel
theorem dX10_init_139 : decode cX10_init 139 = .ok (.bipush 8, 2) := by decide +kernel
theorem dX10_init_141 : decode cX10_init 141 = .ok (.newarray .int, 2) := by decide +kernel
theorem dX10_init_143 : decode cX10_init 143 = .ok (.putfield 61, 3) := by decide +kernel
theorem dX10_init_146 : decode cX10_init 146 = .ok (.aload_n 0, 1) := by decide +kernel
theorem dX10_init_147 : decode cX10_init 147 = .ok (.bipush 8, 2) := by decide +kernel
theorem dX10_init_149 : decode cX10_init 149 = .ok (.newarray .int, 2) := by decide +kernel
theorem dX10_init_151 : decode cX10_init 151 = .ok (.putfield 64, 3) := by decide +kernel
theorem dX10_init_154 : decode cX10_init 154 = .ok (.aload_n 0, 1) := by decide +kernel
theorem dX10_init_155 : decode cX10_init 155 = .ok (.bipush 8, 2) := by decide +kernel
theorem dX10_init_157 : decode cX10_init 157 = .ok (.newarray .int, 2) := by decide +kernel
theorem dX10_init_159 : decode cX10_init 159 = .ok (.putfield 67, 3) := by decide +kernel
theorem dX10_init_162 : decode cX10_init 162 = .ok (.aload_n 0, 1) := by decide +kernel
theorem dX10_init_163 : decode cX10_init 163 = .ok (.bipush 8, 2) := by decide +kernel
theorem dX10_init_165 : decode cX10_init 165 = .ok (.newarray .int, 2) := by decide +kernel
theorem dX10_init_167 : decode cX10_init 167 = .ok (.putfield 70, 3) := by decide +kernel
theorem dX10_init_170 : decode cX10_init 170 = .ok (.aload_n 0, 1) := by decide +kernel
theorem dX10_init_171 : decode cX10_init 171 = .ok (.bipush 8, 2) := by decide +kernel
theorem dX10_init_173 : decode cX10_init 173 = .ok (.newarray .int, 2) := by decide +kernel
theorem dX10_init_175 : decode cX10_init 175 = .ok (.putfield 73, 3) := by decide +kernel
theorem dX10_init_178 : decode cX10_init 178 = .ok (.aload_n 0, 1) := by decide +kernel
theorem dX10_init_179 : decode cX10_init 179 = .ok (.sipush 8100, 3) := by decide +kernel
theorem dX10_init_182 : decode cX10_init 182 = .ok (.newarray .long, 2) := by decide +kernel
theorem dX10_init_184 : decode cX10_init 184 = .ok (.putfield 76, 3) := by decide +kernel
theorem dX10_init_187 : decode cX10_init 187 = .ok (.aload_n 0, 1) := by decide +kernel
theorem dX10_init_188 : decode cX10_init 188 = .ok (.sipush 900, 3) := by decide +kernel
theorem dX10_init_191 : decode cX10_init 191 = .ok (.newarray .long, 2) := by decide +kernel
theorem dX10_init_193 : decode cX10_init 193 = .ok (.putfield 80, 3) := by decide +kernel
theorem dX10_init_196 : decode cX10_init 196 = .ok (.aload_n 0, 1) := by decide +kernel
theorem dX10_init_197 : decode cX10_init 197 = .ok (.sipush 900, 3) := by decide +kernel
theorem dX10_init_200 : decode cX10_init 200 = .ok (.newarray .long, 2) := by decide +kernel
theorem dX10_init_202 : decode cX10_init 202 = .ok (.putfield 83, 3) := by decide +kernel
theorem dX10_init_205 : decode cX10_init 205 = .ok (.aload_n 0, 1) := by decide +kernel
theorem dX10_init_206 : decode cX10_init 206 = .ok (.iconst 0, 1) := by decide +kernel
theorem dX10_init_207 : decode cX10_init 207 = .ok (.invokevirtual 86, 3) := by decide +kernel
theorem dX10_init_210 : decode cX10_init 210 = .ok (.aload_n 0, 1) := by decide +kernel
theorem dX10_init_211 : decode cX10_init 211 = .ok (.getfield 16, 3) := by decide +kernel
theorem dX10_init_214 : decode cX10_init 214 = .ok (.iconst 0, 1) := by decide +kernel
theorem dX10_init_215 : decode cX10_init 215 = .ok (.iconst 1, 1) := by decide +kernel
theorem dX10_init_216 : decode cX10_init 216 = .ok (.iastore, 1) := by decide +kernel
theorem dX10_init_217 : decode cX10_init 217 = .ok (.aload_n 0, 1) := by decide +kernel
theorem dX10_init_218 : decode cX10_init 218 = .ok (.getfield 19, 3) := by decide +kernel
theorem dX10_init_221 : decode cX10_init 221 = .ok (.iconst 0, 1) := by decide +kernel
theorem dX10_init_222 : decode cX10_init 222 = .ok (.iconst 1, 1) := by decide +kernel
theorem dX10_init_223 : decode cX10_init 223 = .ok (.iastore, 1) := by decide +kernel
theorem dX10_init_224 : decode cX10_init 224 = .ok (.aload_n 0, 1) := by decide +kernel
theorem dX10_init_225 : decode cX10_init 225 = .ok (.getfield 22, 3) := by decide +kernel
theorem dX10_init_228 : decode cX10_init 228 = .ok (.iconst 0, 1) := by decide +kernel
theorem dX10_init_229 : decode cX10_init 229 = .ok (.iconst 1, 1) := by decide +kernel
theorem dX10_init_230 : decode cX10_init 230 = .ok (.iastore, 1) := by decide +kernel
theorem dX10_init_231 : decode cX10_init 231 = .ok (.aload_n 0, 1) := by decide +kernel
theorem dX10_init_232 : decode cX10_init 232 = .ok (.getfield 25, 3) := by decide +kernel
theorem dX10_init_235 : decode cX10_init 235 = .ok (.iconst 0, 1) := by decide +kernel
theorem dX10_init_236 : decode cX10_init 236 = .ok (.bipush 20, 2) := by decide +kernel
theorem dX10_init_238 : decode cX10_init 238 = .ok (.iastore, 1) := by decide +kernel
theorem dX10_init_239 : decode cX10_init 239 = .ok (.aload_n 0, 1) := by decide +kernel
theorem dX10_init_240 : decode cX10_init 240 = .ok (.getfield 37, 3) := by decide +kernel
theorem dX10_init_243 : decode cX10_init 243 = .ok (.iconst 0, 1) := by decide +kernel
theorem dX10_init_244 : decode cX10_init 244 = .ok (.iconst 1, 1) := by decide +kernel
theorem dX10_init_245 : decode cX10_init 245 = .ok (.iastore, 1) := by decide +kernel
theorem dX10_init_246 : decode cX10_init 246 = .ok (.aload_n 0, 1) := by decide +kernel
theorem dX10_init_247 : decode cX10_init 247 = .ok (.getfield 40, 3) := by decide +kernel
theorem dX10_init_250 : decode cX10_init 250 = .ok (.iconst 0, 1) := by decide +kernel
theorem dX10_init_251 : decode cX10_init 251 = .ok (.bipush 20, 2) := by decide +kernel
theorem dX10_init_253 : decode cX10_init 253 = .ok (.iastore, 1) := by decide +kernel
theorem dX10_init_254 : decode cX10_init 254 = .ok (.aload_n 0, 1) := by decide +kernel
theorem dX10_init_255 : decode cX10_init 255 = .ok (.getfield 43, 3) := by decide +kernel
theorem dX10_init_258 : decode cX10_init 258 = .ok (.iconst 0, 1) := by decide +kernel
theorem dX10_init_259 : decode cX10_init 259 = .ok (.bipush 10, 2) := by decide +kernel
theorem dX10_init_261 : decode cX10_init 261 = .ok (.iastore, 1) := by decide +kernel
theorem dX10_init_262 : decode cX10_init 262 = .ok (.aload_n 0, 1) := by decide +kernel
theorem dX10_init_263 : decode cX10_init 263 = .ok (.invokevirtual 90, 3) := by decide +kernel
theorem dX10_init_266 : decode cX10_init 266 = .ok (.return_, 1) := by decide +kernel
theorem dX10_in_0 : decode cX10_in 0 = .ok (.lload_n 0, 1) := by decide +kernel
theorem dX10_in_1 : decode cX10_in 1 = .ok (.lload_n 2, 1) := by decide +kernel
theorem dX10_in_2 : decode cX10_in 2 = .ok (.lcmp, 1) := by decide +kernel
theorem dX10_in_3 : decode cX10_in 3 = .ok (.ifCond .lt 14, 3) := by decide +kernel
theorem dX10_in_6 : decode cX10_in 6 = .ok (.lload_n 0, 1) := by decide +kernel
theorem dX10_in_7 : decode cX10_in 7 = .ok (.lload 4, 2) := by decide +kernel
theorem dX10_in_9 : decode cX10_in 9 = .ok (.lcmp, 1) := by decide +kernel
theorem dX10_in_10 : decode cX10_in 10 = .ok (.ifCond .gt 7, 3) := by decide +kernel
theorem dX10_in_13 : decode cX10_in 13 = .ok (.iconst 1, 1) := by decide +kernel
theorem dX10_in_14 : decode cX10_in 14 = .ok (.goto 4, 3) := by decide +kernel
theorem dX10_in_17 : decode cX10_in 17 = .ok (.iconst 0, 1) := by decide +kernel
theorem dX10_in_18 : decode cX10_in 18 = .ok (.ireturn, 1) := by decide +kernel
theorem dX10_noBoard_0 : decode cX10_noBoard 0 = .ok (.bipush 10, 2) := by decide +kernel
theorem dX10_noBoard_2 : decode cX10_noBoard 2 = .ok (.iload_n 1, 1) := by decide +kernel
theorem dX10_noBoard_3 : decode cX10_noBoard 3 = .ok (.imul, 1) := by decide +kernel
theorem dX10_noBoard_4 : decode cX10_noBoard 4 = .ok (.istore_n 2, 1) := by decide +kernel
theorem dX10_noBoard_5 : decode cX10_noBoard 5 = .ok (.aload_n 0, 1) := by decide +kernel
theorem dX10_noBoard_6 : decode cX10_noBoard 6 = .ok (.getfield 13, 3) := by decide +kernel
theorem dX10_noBoard_9 : decode cX10_noBoard 9 = .ok (.iload_n 2, 1) := by decide +kernel
theorem dX10_noBoard_10 : decode cX10_noBoard 10 = .ok (.bipush 20, 2) := by decide +kernel
theorem dX10_noBoard_12 : decode cX10_noBoard 12 = .ok (.iastore, 1) := by decide +kernel
theorem dX10_noBoard_13 : decode cX10_noBoard 13 = .ok (.aload_n 0, 1) := by decide +kernel
theorem dX10_noBoard_14 : decode cX10_noBoard 14 = .ok (.getfield 13, 3) := by decide +kernel
theorem dX10_noBoard_17 : decode cX10_noBoard 17 = .ok (.iload_n 2, 1) := by decide +kernel
theorem dX10_noBoard_18 : decode cX10_noBoard 18 = .ok (.iconst 1, 1) := by decide +kernel
theorem dX10_noBoard_19 : decode cX10_noBoard 19 = .ok (.iadd, 1) := by decide +kernel
theorem dX10_noBoard_20 : decode cX10_noBoard 20 = .ok (.iconst 0, 1) := by decide +kernel
theorem dX10_noBoard_21 : decode cX10_noBoard 21 = .ok (.iastore, 1) := by decide +kernel
theorem dX10_noBoard_22 : decode cX10_noBoard 22 = .ok (.aload_n 0, 1) := by decide +kernel
theorem dX10_noBoard_23 : decode cX10_noBoard 23 = .ok (.getfield 13, 3) := by decide +kernel
theorem dX10_noBoard_26 : decode cX10_noBoard 26 = .ok (.iload_n 2, 1) := by decide +kernel
theorem dX10_noBoard_27 : decode cX10_noBoard 27 = .ok (.iconst 2, 1) := by decide +kernel
theorem dX10_noBoard_28 : decode cX10_noBoard 28 = .ok (.iadd, 1) := by decide +kernel
theorem dX10_noBoard_29 : decode cX10_noBoard 29 = .ok (.bipush 9, 2) := by decide +kernel
theorem dX10_noBoard_31 : decode cX10_noBoard 31 = .ok (.iastore, 1) := by decide +kernel
theorem dX10_noBoard_32 : decode cX10_noBoard 32 = .ok (.aload_n 0, 1) := by decide +kernel
theorem dX10_noBoard_33 : decode cX10_noBoard 33 = .ok (.getfield 13, 3) := by decide +kernel
theorem dX10_noBoard_36 : decode cX10_noBoard 36 = .ok (.iload_n 2, 1) := by decide +kernel
theorem dX10_noBoard_37 : decode cX10_noBoard 37 = .ok (.iconst 3, 1) := by decide +kernel
theorem dX10_noBoard_38 : decode cX10_noBoard 38 = .ok (.iadd, 1) := by decide +kernel
theorem dX10_noBoard_39 : decode cX10_noBoard 39 = .ok (.bipush 20, 2) := by decide +kernel
theorem dX10_noBoard_41 : decode cX10_noBoard 41 = .ok (.iastore, 1) := by decide +kernel
theorem dX10_noBoard_42 : decode cX10_noBoard 42 = .ok (.aload_n 0, 1) := by decide +kernel
theorem dX10_noBoard_43 : decode cX10_noBoard 43 = .ok (.getfield 13, 3) := by decide +kernel
theorem dX10_noBoard_46 : decode cX10_noBoard 46 = .ok (.iload_n 2, 1) := by decide +kernel
theorem dX10_noBoard_47 : decode cX10_noBoard 47 = .ok (.iconst 4, 1) := by decide +kernel
theorem dX10_noBoard_48 : decode cX10_noBoard 48 = .ok (.iadd, 1) := by decide +kernel
theorem dX10_noBoard_49 : decode cX10_noBoard 49 = .ok (.iconst 0, 1) := by decide +kernel
theorem dX10_noBoard_50 : decode cX10_noBoard 50 = .ok (.iastore, 1) := by decide +kernel
theorem dX10_noBoard_51 : decode cX10_noBoard 51 = .ok (.aload_n 0, 1) := by decide +kernel
theorem dX10_noBoard_52 : decode cX10_noBoard 52 = .ok (.getfield 13, 3) := by decide +kernel
theorem dX10_noBoard_55 : decode cX10_noBoard 55 = .ok (.iload_n 2, 1) := by decide +kernel
theorem dX10_noBoard_56 : decode cX10_noBoard 56 = .ok (.iconst 5, 1) := by decide +kernel
theorem dX10_noBoard_57 : decode cX10_noBoard 57 = .ok (.iadd, 1) := by decide +kernel
theorem dX10_noBoard_58 : decode cX10_noBoard 58 = .ok (.iconst 0, 1) := by decide +kernel
theorem dX10_noBoard_59 : decode cX10_noBoard 59 = .ok (.iastore, 1) := by decide +kernel
theorem dX10_noBoard_60 : decode cX10_noBoard 60 = .ok (.aload_n 0, 1) := by decide +kernel
theorem dX10_noBoard_61 : decode cX10_noBoard 61 = .ok (.getfield 13, 3) := by decide +kernel
theorem dX10_noBoard_64 : decode cX10_noBoard 64 = .ok (.iload_n 2, 1) := by decide +kernel
theorem dX10_noBoard_65 : decode cX10_noBoard 65 = .ok (.bipush 6, 2) := by decide +kernel
theorem dX10_noBoard_67 : decode cX10_noBoard 67 = .ok (.iadd, 1) := by decide +kernel
theorem dX10_noBoard_68 : decode cX10_noBoard 68 = .ok (.iconst 0, 1) := by decide +kernel
theorem dX10_noBoard_69 : decode cX10_noBoard 69 = .ok (.iastore, 1) := by decide +kernel
theorem dX10_noBoard_70 : decode cX10_noBoard 70 = .ok (.aload_n 0, 1) := by decide +kernel
theorem dX10_noBoard_71 : decode cX10_noBoard 71 = .ok (.getfield 13, 3) := by decide +kernel
theorem dX10_noBoard_74 : decode cX10_noBoard 74 = .ok (.iload_n 2, 1) := by decide +kernel
theorem dX10_noBoard_75 : decode cX10_noBoard 75 = .ok (.bipush 7, 2) := by decide +kernel
theorem dX10_noBoard_77 : decode cX10_noBoard 77 = .ok (.iadd, 1) := by decide +kernel
theorem dX10_noBoard_78 : decode cX10_noBoard 78 = .ok (.iconst 0, 1) := by decide +kernel
theorem dX10_noBoard_79 : decode cX10_noBoard 79 = .ok (.iastore, 1) := by decide +kernel
theorem dX10_noBoard_80 : decode cX10_noBoard 80 = .ok (.aload_n 0, 1) := by decide +kernel
theorem dX10_noBoard_81 : decode cX10_noBoard 81 = .ok (.getfield 13, 3) := by decide +kernel
theorem dX10_noBoard_84 : decode cX10_noBoard 84 = .ok (.iload_n 2, 1) := by decide +kernel
theorem dX10_noBoard_85 : decode cX10_noBoard 85 = .ok (.bipush 8, 2) := by decide +kernel
theorem dX10_noBoard_87 : decode cX10_noBoard 87 = .ok (.iadd, 1) := by decide +kernel
theorem dX10_noBoard_88 : decode cX10_noBoard 88 = .ok (.iconst 0, 1) := by decide +kernel
theorem dX10_noBoard_89 : decode cX10_noBoard 89 = .ok (.iastore, 1) := by decide +kernel
theorem dX10_noBoard_90 : decode cX10_noBoard 90 = .ok (.aload_n 0, 1) := by decide +kernel
theorem dX10_noBoard_91 : decode cX10_noBoard 91 = .ok (.getfield 13, 3) := by decide +kernel
theorem dX10_noBoard_94 : decode cX10_noBoard 94 = .ok (.iload_n 2, 1) := by decide +kernel
theorem dX10_noBoard_95 : decode cX10_noBoard 95 = .ok (.bipush 9, 2) := by decide +kernel
theorem dX10_noBoard_97 : decode cX10_noBoard 97 = .ok (.iadd, 1) := by decide +kernel
theorem dX10_noBoard_98 : decode cX10_noBoard 98 = .ok (.iconst 0, 1) := by decide +kernel
theorem dX10_noBoard_99 : decode cX10_noBoard 99 = .ok (.iastore, 1) := by decide +kernel
theorem dX10_noBoard_100 : decode cX10_noBoard 100 = .ok (.aload_n 0, 1) := by decide +kernel
theorem dX10_noBoard_101 : decode cX10_noBoard 101 = .ok (.getfield 16, 3) := by decide +kernel
theorem dX10_noBoard_104 : decode cX10_noBoard 104 = .ok (.iload_n 1, 1) := by decide +kernel
theorem dX10_noBoard_105 : decode cX10_noBoard 105 = .ok (.iconst 0, 1) := by decide +kernel
theorem dX10_noBoard_106 : decode cX10_noBoard 106 = .ok (.iastore, 1) := by decide +kernel
theorem dX10_noBoard_107 : decode cX10_noBoard 107 = .ok (.return_, 1) := by decide +kernel
theorem dX10_write_0 : decode cX10_write 0 = .ok (.iload_n 1, 1) := by decide +kernel
theorem dX10_write_1 : decode cX10_write 1 = .ok (.i2l, 1) := by decide +kernel
theorem dX10_write_2 : decode cX10_write 2 = .ok (.lconst 1, 1) := by decide +kernel
theorem dX10_write_3 : decode cX10_write 3 = .ok (.ldc2_w 93, 3) := by decide +kernel
theorem dX10_write_6 : decode cX10_write 6 = .ok (.invokestatic 95, 3) := by decide +kernel
theorem dX10_write_9 : decode cX10_write 9 = .ok (.ifCond .ne 5, 3) := by decide +kernel
theorem dX10_write_12 : decode cX10_write 12 = .ok (.iconst (-1), 1) := by decide +kernel
theorem dX10_write_13 : decode cX10_write 13 = .ok (.ireturn, 1) := by decide +kernel
theorem dX10_write_14 : decode cX10_write 14 = .ok (.aload_n 0, 1) := by decide +kernel
theorem dX10_write_15 : decode cX10_write 15 = .ok (.getfield 99, 3) := by decide +kernel
theorem dX10_write_18 : decode cX10_write 18 = .ok (.iload_n 1, 1) := by decide +kernel
theorem dX10_write_19 : decode cX10_write 19 = .ok (.iadd, 1) := by decide +kernel
theorem dX10_write_20 : decode cX10_write 20 = .ok (.sipush 300, 3) := by decide +kernel
theorem dX10_write_23 : decode cX10_write 23 = .ok (.if_icmp .le 6, 3) := by decide +kernel
theorem dX10_write_26 : decode cX10_write 26 = .ok (.bipush (-3), 2) := by decide +kernel
theorem dX10_write_28 : decode cX10_write 28 = .ok (.ireturn, 1) := by decide +kernel
theorem dX10_write_29 : decode cX10_write 29 = .ok (.iload_n 1, 1) := by decide +kernel
theorem dX10_write_30 : decode cX10_write 30 = .ok (.iconst 1, 1) := by decide +kernel
theorem dX10_write_31 : decode cX10_write 31 = .ok (.isub, 1) := by decide +kernel
theorem dX10_write_32 : decode cX10_write 32 = .ok (.istore 4, 2) := by decide +kernel
theorem dX10_write_34 : decode cX10_write 34 = .ok (.iload 4, 2) := by decide +kernel
theorem dX10_write_36 : decode cX10_write 36 = .ok (.ifCond .lt 40, 3) := by decide +kernel
theorem dX10_write_39 : decode cX10_write 39 = .ok (.aload_n 0, 1) := by decide +kernel
theorem dX10_write_40 : decode cX10_write 40 = .ok (.getfield 7, 3) := by decide +kernel
theorem dX10_write_43 : decode cX10_write 43 = .ok (.aload_n 0, 1) := by decide +kernel
theorem dX10_write_44 : decode cX10_write 44 = .ok (.getfield 99, 3) := by decide +kernel
theorem dX10_write_47 : decode cX10_write 47 = .ok (.lload_n 2, 1) := by decide +kernel
theorem dX10_write_48 : decode cX10_write 48 = .ok (.bipush 8, 2) := by decide +kernel
theorem dX10_write_50 : decode cX10_write 50 = .ok (.iload 4, 2) := by decide +kernel
theorem dX10_write_52 : decode cX10_write 52 = .ok (.imul, 1) := by decide +kernel
theorem dX10_write_53 : decode cX10_write 53 = .ok (.lshr, 1) := by decide +kernel
theorem dX10_write_54 : decode cX10_write 54 = .ok (.ldc2_w 103, 3) := by decide +kernel
theorem dX10_write_57 : decode cX10_write 57 = .ok (.land, 1) := by decide +kernel
theorem dX10_write_58 : decode cX10_write 58 = .ok (.l2i, 1) := by decide +kernel
theorem dX10_write_59 : decode cX10_write 59 = .ok (.iastore, 1) := by decide +kernel
theorem dX10_write_60 : decode cX10_write 60 = .ok (.aload_n 0, 1) := by decide +kernel
theorem dX10_write_61 : decode cX10_write 61 = .ok (.dup, 1) := by decide +kernel
theorem dX10_write_62 : decode cX10_write 62 = .ok (.getfield 99, 3) := by decide +kernel
theorem dX10_write_65 : decode cX10_write 65 = .ok (.iconst 1, 1) := by decide +kernel
theorem dX10_write_66 : decode cX10_write 66 = .ok (.iadd, 1) := by decide +kernel
theorem dX10_write_67 : decode cX10_write 67 = .ok (.putfield 99, 3) := by decide +kernel
theorem dX10_write_70 : decode cX10_write 70 = .ok (.iinc 4 (-1), 3) := by decide +kernel
theorem dX10_write_73 : decode cX10_write 73 = .ok (.goto (-39), 3) := by decide +kernel
theorem dX10_write_76 : decode cX10_write 76 = .ok (.aload_n 0, 1) := by decide +kernel
theorem dX10_write_77 : decode cX10_write 77 = .ok (.getfield 99, 3) := by decide +kernel
theorem dX10_write_80 : decode cX10_write 80 = .ok (.ireturn, 1) := by decide +kernel
theorem dX10_wipe_0 : decode cX10_wipe 0 = .ok (.aload_n 0, 1) := by decide +kernel
theorem dX10_wipe_1 : decode cX10_wipe 1 = .ok (.getfield 99, 3) := by decide +kernel
theorem dX10_wipe_4 : decode cX10_wipe 4 = .ok (.istore_n 1, 1) := by decide +kernel
theorem dX10_wipe_5 : decode cX10_wipe 5 = .ok (.aload_n 0, 1) := by decide +kernel
theorem dX10_wipe_6 : decode cX10_wipe 6 = .ok (.iconst 0, 1) := by decide +kernel
theorem dX10_wipe_7 : decode cX10_wipe 7 = .ok (.putfield 99, 3) := by decide +kernel
theorem dX10_wipe_10 : decode cX10_wipe 10 = .ok (.iload_n 1, 1) := by decide +kernel
theorem dX10_wipe_11 : decode cX10_wipe 11 = .ok (.ireturn, 1) := by decide +kernel
theorem dX10_byteAt_0 : decode cX10_byteAt 0 = .ok (.iload_n 1, 1) := by decide +kernel
theorem dX10_byteAt_1 : decode cX10_byteAt 1 = .ok (.aload_n 0, 1) := by decide +kernel
theorem dX10_byteAt_2 : decode cX10_byteAt 2 = .ok (.getfield 99, 3) := by decide +kernel
theorem dX10_byteAt_5 : decode cX10_byteAt 5 = .ok (.if_icmp .ge 12, 3) := by decide +kernel
theorem dX10_byteAt_8 : decode cX10_byteAt 8 = .ok (.aload_n 0, 1) := by decide +kernel
theorem dX10_byteAt_9 : decode cX10_byteAt 9 = .ok (.getfield 7, 3) := by decide +kernel
theorem dX10_byteAt_12 : decode cX10_byteAt 12 = .ok (.iload_n 1, 1) := by decide +kernel
theorem dX10_byteAt_13 : decode cX10_byteAt 13 = .ok (.iaload, 1) := by decide +kernel
theorem dX10_byteAt_14 : decode cX10_byteAt 14 = .ok (.goto 4, 3) := by decide +kernel
theorem dX10_byteAt_17 : decode cX10_byteAt 17 = .ok (.iconst 0, 1) := by decide +kernel
theorem dX10_byteAt_18 : decode cX10_byteAt 18 = .ok (.ireturn, 1) := by decide +kernel
theorem dX10_figures_0 : decode cX10_figures 0 = .ok (.iconst 0, 1) := by decide +kernel
theorem dX10_figures_1 : decode cX10_figures 1 = .ok (.istore_n 2, 1) := by decide +kernel
theorem dX10_figures_2 : decode cX10_figures 2 = .ok (.iload_n 2, 1) := by decide +kernel
theorem dX10_figures_3 : decode cX10_figures 3 = .ok (.iload_n 1, 1) := by decide +kernel
theorem dX10_figures_4 : decode cX10_figures 4 = .ok (.if_icmp .ge 132, 3) := by decide +kernel
theorem dX10_figures_7 : decode cX10_figures 7 = .ok (.iconst 0, 1) := by decide +kernel
theorem dX10_figures_8 : decode cX10_figures 8 = .ok (.istore_n 3, 1) := by decide +kernel
theorem dX10_figures_9 : decode cX10_figures 9 = .ok (.iconst 0, 1) := by decide +kernel
theorem dX10_figures_10 : decode cX10_figures 10 = .ok (.istore 4, 2) := by decide +kernel
theorem dX10_figures_12 : decode cX10_figures 12 = .ok (.aload_n 0, 1) := by decide +kernel
theorem dX10_figures_13 : decode cX10_figures 13 = .ok (.aload_n 0, 1) := by decide +kernel
theorem dX10_figures_14 : decode cX10_figures 14 = .ok (.getfield 105, 3) := by decide +kernel
theorem dX10_figures_17 : decode cX10_figures 17 = .ok (.invokevirtual 108, 3) := by decide +kernel
theorem dX10_figures_20 : decode cX10_figures 20 = .ok (.i2l, 1) := by decide +kernel
theorem dX10_figures_21 : decode cX10_figures 21 = .ok (.ldc2_w 112, 3) := by decide +kernel
theorem dX10_figures_24 : decode cX10_figures 24 = .ok (.ldc2_w 114, 3) := by decide +kernel
theorem dX10_figures_27 : decode cX10_figures 27 = .ok (.invokestatic 95, 3) := by decide +kernel
theorem dX10_figures_30 : decode cX10_figures 30 = .ok (.ifCond .eq 43, 3) := by decide +kernel
theorem dX10_figures_33 : decode cX10_figures 33 = .ok (.iload_n 3, 1) := by decide +kernel
theorem dX10_figures_34 : decode cX10_figures 34 = .ok (.iconst 4, 1) := by decide +kernel
theorem dX10_figures_35 : decode cX10_figures 35 = .ok (.if_icmp .ge 38, 3) := by decide +kernel
theorem dX10_figures_38 : decode cX10_figures 38 = .ok (.bipush 10, 2) := by decide +kernel
theorem dX10_figures_40 : decode cX10_figures 40 = .ok (.iload 4, 2) := by decide +kernel
theorem dX10_figures_42 : decode cX10_figures 42 = .ok (.imul, 1) := by decide +kernel
theorem dX10_figures_43 : decode cX10_figures 43 = .ok (.aload_n 0, 1) := by decide +kernel
theorem dX10_figures_44 : decode cX10_figures 44 = .ok (.aload_n 0, 1) := by decide +kernel
theorem dX10_figures_45 : decode cX10_figures 45 = .ok (.getfield 105, 3) := by decide +kernel
theorem dX10_figures_48 : decode cX10_figures 48 = .ok (.invokevirtual 108, 3) := by decide +kernel
theorem dX10_figures_51 : decode cX10_figures 51 = .ok (.iadd, 1) := by decide +kernel
theorem dX10_figures_52 : decode cX10_figures 52 = .ok (.bipush 48, 2) := by decide +kernel
theorem dX10_figures_54 : decode cX10_figures 54 = .ok (.isub, 1) := by decide +kernel
theorem dX10_figures_55 : decode cX10_figures 55 = .ok (.istore 4, 2) := by decide +kernel
theorem dX10_figures_57 : decode cX10_figures 57 = .ok (.iinc 3 1, 3) := by decide +kernel
theorem dX10_figures_60 : decode cX10_figures 60 = .ok (.aload_n 0, 1) := by decide +kernel
theorem dX10_figures_61 : decode cX10_figures 61 = .ok (.dup, 1) := by decide +kernel
theorem dX10_figures_62 : decode cX10_figures 62 = .ok (.getfield 105, 3) := by decide +kernel
theorem dX10_figures_65 : decode cX10_figures 65 = .ok (.iconst 1, 1) := by decide +kernel
theorem dX10_figures_66 : decode cX10_figures 66 = .ok (.iadd, 1) := by decide +kernel
theorem dX10_figures_67 : decode cX10_figures 67 = .ok (.putfield 105, 3) := by decide +kernel
theorem dX10_figures_70 : decode cX10_figures 70 = .ok (.goto (-58), 3) := by decide +kernel
theorem dX10_figures_73 : decode cX10_figures 73 = .ok (.iload_n 3, 1) := by decide +kernel
theorem dX10_figures_74 : decode cX10_figures 74 = .ok (.i2l, 1) := by decide +kernel
theorem dX10_figures_75 : decode cX10_figures 75 = .ok (.lconst 1, 1) := by decide +kernel
theorem dX10_figures_76 : decode cX10_figures 76 = .ok (.ldc2_w 116, 3) := by decide +kernel
theorem dX10_figures_79 : decode cX10_figures 79 = .ok (.invokestatic 95, 3) := by decide +kernel
theorem dX10_figures_82 : decode cX10_figures 82 = .ok (.ifCond .eq 28, 3) := by decide +kernel
theorem dX10_figures_85 : decode cX10_figures 85 = .ok (.aload_n 0, 1) := by decide +kernel
theorem dX10_figures_86 : decode cX10_figures 86 = .ok (.aload_n 0, 1) := by decide +kernel
theorem dX10_figures_87 : decode cX10_figures 87 = .ok (.getfield 105, 3) := by decide +kernel
theorem dX10_figures_90 : decode cX10_figures 90 = .ok (.invokevirtual 108, 3) := by decide +kernel
theorem dX10_figures_93 : decode cX10_figures 93 = .ok (.iload_n 2, 1) := by decide +kernel
theorem dX10_figures_94 : decode cX10_figures 94 = .ok (.iload_n 1, 1) := by decide +kernel
theorem dX10_figures_95 : decode cX10_figures 95 = .ok (.iconst 1, 1) := by decide +kernel
theorem dX10_figures_96 : decode cX10_figures 96 = .ok (.isub, 1) := by decide +kernel
theorem dX10_figures_97 : decode cX10_figures 97 = .ok (.if_icmp .ge 8, 3) := by decide +kernel
theorem dX10_figures_100 : decode cX10_figures 100 = .ok (.bipush 44, 2) := by decide +kernel
theorem dX10_figures_102 : decode cX10_figures 102 = .ok (.goto 5, 3) := by decide +kernel
theorem dX10_figures_105 : decode cX10_figures 105 = .ok (.bipush 59, 2) := by decide +kernel
theorem dX10_figures_107 : decode cX10_figures 107 = .ok (.if_icmp .eq 5, 3) := by decide +kernel
theorem dX10_figures_110 : decode cX10_figures 110 = .ok (.iconst 0, 1) := by decide +kernel
theorem dX10_figures_111 : decode cX10_figures 111 = .ok (.ireturn, 1) := by decide +kernel
theorem dX10_figures_112 : decode cX10_figures 112 = .ok (.aload_n 0, 1) := by decide +kernel
theorem dX10_figures_113 : decode cX10_figures 113 = .ok (.getfield 58, 3) := by decide +kernel
theorem dX10_figures_116 : decode cX10_figures 116 = .ok (.iload_n 2, 1) := by decide +kernel
theorem dX10_figures_117 : decode cX10_figures 117 = .ok (.iload 4, 2) := by decide +kernel
theorem dX10_figures_119 : decode cX10_figures 119 = .ok (.iastore, 1) := by decide +kernel
theorem dX10_figures_120 : decode cX10_figures 120 = .ok (.aload_n 0, 1) := by decide +kernel
theorem dX10_figures_121 : decode cX10_figures 121 = .ok (.dup, 1) := by decide +kernel
theorem dX10_figures_122 : decode cX10_figures 122 = .ok (.getfield 105, 3) := by decide +kernel
theorem dX10_figures_125 : decode cX10_figures 125 = .ok (.iconst 1, 1) := by decide +kernel
theorem dX10_figures_126 : decode cX10_figures 126 = .ok (.iadd, 1) := by decide +kernel
theorem dX10_figures_127 : decode cX10_figures 127 = .ok (.putfield 105, 3) := by decide +kernel
theorem dX10_figures_130 : decode cX10_figures 130 = .ok (.iinc 2 1, 3) := by decide +kernel
theorem dX10_figures_133 : decode cX10_figures 133 = .ok (.goto (-131), 3) := by decide +kernel
theorem dX10_figures_136 : decode cX10_figures 136 = .ok (.iconst 1, 1) := by decide +kernel
theorem dX10_figures_137 : decode cX10_figures 137 = .ok (.ireturn, 1) := by decide +kernel
theorem dX10_numberItem_0 : decode cX10_numberItem 0 = .ok (.aload_n 0, 1) := by decide +kernel
theorem dX10_numberItem_1 : decode cX10_numberItem 1 = .ok (.iload_n 2, 1) := by decide +kernel
theorem dX10_numberItem_2 : decode cX10_numberItem 2 = .ok (.invokevirtual 118, 3) := by decide +kernel
theorem dX10_numberItem_5 : decode cX10_numberItem 5 = .ok (.ifCond .eq 37, 3) := by decide +kernel
theorem dX10_numberItem_8 : decode cX10_numberItem 8 = .ok (.aload_n 0, 1) := by decide +kernel
theorem dX10_numberItem_9 : decode cX10_numberItem 9 = .ok (.getfield 58, 3) := by decide +kernel
theorem dX10_numberItem_12 : decode cX10_numberItem 12 = .ok (.iconst 0, 1) := by decide +kernel
theorem dX10_numberItem_13 : decode cX10_numberItem 13 = .ok (.iaload, 1) := by decide +kernel
theorem dX10_numberItem_14 : decode cX10_numberItem 14 = .ok (.i2l, 1) := by decide +kernel
theorem dX10_numberItem_15 : decode cX10_numberItem 15 = .ok (.iload_n 3, 1) := by decide +kernel
theorem dX10_numberItem_16 : decode cX10_numberItem 16 = .ok (.i2l, 1) := by decide +kernel
theorem dX10_numberItem_17 : decode cX10_numberItem 17 = .ok (.iload 4, 2) := by decide +kernel
theorem dX10_numberItem_19 : decode cX10_numberItem 19 = .ok (.i2l, 1) := by decide +kernel
theorem dX10_numberItem_20 : decode cX10_numberItem 20 = .ok (.invokestatic 95, 3) := by decide +kernel
theorem dX10_numberItem_23 : decode cX10_numberItem 23 = .ok (.ifCond .eq 19, 3) := by decide +kernel
theorem dX10_numberItem_26 : decode cX10_numberItem 26 = .ok (.iload_n 2, 1) := by decide +kernel
theorem dX10_numberItem_27 : decode cX10_numberItem 27 = .ok (.iconst 2, 1) := by decide +kernel
theorem dX10_numberItem_28 : decode cX10_numberItem 28 = .ok (.if_icmp .ne 16, 3) := by decide +kernel
theorem dX10_numberItem_31 : decode cX10_numberItem 31 = .ok (.aload_n 0, 1) := by decide +kernel
theorem dX10_numberItem_32 : decode cX10_numberItem 32 = .ok (.getfield 58, 3) := by decide +kernel
theorem dX10_numberItem_35 : decode cX10_numberItem 35 = .ok (.iconst 1, 1) := by decide +kernel
theorem dX10_numberItem_36 : decode cX10_numberItem 36 = .ok (.iaload, 1) := by decide +kernel
theorem dX10_numberItem_37 : decode cX10_numberItem 37 = .ok (.iload 5, 2) := by decide +kernel
theorem dX10_numberItem_39 : decode cX10_numberItem 39 = .ok (.if_icmp .le 5, 3) := by decide +kernel
theorem dX10_numberItem_42 : decode cX10_numberItem 42 = .ok (.iconst 0, 1) := by decide +kernel
theorem dX10_numberItem_43 : decode cX10_numberItem 43 = .ok (.ireturn, 1) := by decide +kernel
theorem dX10_numberItem_44 : decode cX10_numberItem 44 = .ok (.iconst 0, 1) := by decide +kernel
theorem dX10_numberItem_45 : decode cX10_numberItem 45 = .ok (.istore 6, 2) := by decide +kernel
theorem dX10_numberItem_47 : decode cX10_numberItem 47 = .ok (.iload 6, 2) := by decide +kernel
theorem dX10_numberItem_49 : decode cX10_numberItem 49 = .ok (.iload_n 2, 1) := by decide +kernel
theorem dX10_numberItem_50 : decode cX10_numberItem 50 = .ok (.if_icmp .ge 28, 3) := by decide +kernel
theorem dX10_numberItem_53 : decode cX10_numberItem 53 = .ok (.aload_n 0, 1) := by decide +kernel
theorem dX10_numberItem_54 : decode cX10_numberItem 54 = .ok (.getfield 13, 3) := by decide +kernel
theorem dX10_numberItem_57 : decode cX10_numberItem 57 = .ok (.bipush 10, 2) := by decide +kernel
theorem dX10_numberItem_59 : decode cX10_numberItem 59 = .ok (.iload_n 1, 1) := by decide +kernel
theorem dX10_numberItem_60 : decode cX10_numberItem 60 = .ok (.iadd, 1) := by decide +kernel
theorem dX10_numberItem_61 : decode cX10_numberItem 61 = .ok (.iload 6, 2) := by decide +kernel
theorem dX10_numberItem_63 : decode cX10_numberItem 63 = .ok (.iadd, 1) := by decide +kernel
theorem dX10_numberItem_64 : decode cX10_numberItem 64 = .ok (.aload_n 0, 1) := by decide +kernel
theorem dX10_numberItem_65 : decode cX10_numberItem 65 = .ok (.getfield 58, 3) := by decide +kernel
theorem dX10_numberItem_68 : decode cX10_numberItem 68 = .ok (.iload 6, 2) := by decide +kernel
theorem dX10_numberItem_70 : decode cX10_numberItem 70 = .ok (.iaload, 1) := by decide +kernel
theorem dX10_numberItem_71 : decode cX10_numberItem 71 = .ok (.iastore, 1) := by decide +kernel
theorem dX10_numberItem_72 : decode cX10_numberItem 72 = .ok (.iinc 6 1, 3) := by decide +kernel
theorem dX10_numberItem_75 : decode cX10_numberItem 75 = .ok (.goto (-28), 3) := by decide +kernel
theorem dX10_numberItem_78 : decode cX10_numberItem 78 = .ok (.iconst 1, 1) := by decide +kernel
theorem dX10_numberItem_79 : decode cX10_numberItem 79 = .ok (.ireturn, 1) := by decide +kernel
theorem dX10_readGivers_0 : decode cX10_readGivers 0 = .ok (.iconst 0, 1) := by decide +kernel
theorem dX10_readGivers_1 : decode cX10_readGivers 1 = .ok (.istore_n 1, 1) := by decide +kernel
theorem dX10_readGivers_2 : decode cX10_readGivers 2 = .ok (.iconst 0, 1) := by decide +kernel
theorem dX10_readGivers_3 : decode cX10_readGivers 3 = .ok (.istore_n 2, 1) := by decide +kernel
theorem dX10_readGivers_4 : decode cX10_readGivers 4 = .ok (.iload_n 2, 1) := by decide +kernel
theorem dX10_readGivers_5 : decode cX10_readGivers 5 = .ok (.aload_n 0, 1) := by decide +kernel
theorem dX10_readGivers_6 : decode cX10_readGivers 6 = .ok (.getfield 16, 3) := by decide +kernel
theorem dX10_readGivers_9 : decode cX10_readGivers 9 = .ok (.iconst 1, 1) := by decide +kernel
theorem dX10_readGivers_10 : decode cX10_readGivers 10 = .ok (.iaload, 1) := by decide +kernel
theorem dX10_readGivers_11 : decode cX10_readGivers 11 = .ok (.if_icmp .ge 21, 3) := by decide +kernel
theorem dX10_readGivers_14 : decode cX10_readGivers 14 = .ok (.iload_n 1, 1) := by decide +kernel
theorem dX10_readGivers_15 : decode cX10_readGivers 15 = .ok (.aload_n 0, 1) := by decide +kernel
theorem dX10_readGivers_16 : decode cX10_readGivers 16 = .ok (.getfield 19, 3) := by decide +kernel
theorem dX10_readGivers_19 : decode cX10_readGivers 19 = .ok (.bipush 6, 2) := by decide +kernel
theorem dX10_readGivers_21 : decode cX10_readGivers 21 = .ok (.iload_n 2, 1) := by decide +kernel
theorem dX10_readGivers_22 : decode cX10_readGivers 22 = .ok (.iadd, 1) := by decide +kernel
theorem dX10_readGivers_23 : decode cX10_readGivers 23 = .ok (.iaload, 1) := by decide +kernel
theorem dX10_readGivers_24 : decode cX10_readGivers 24 = .ok (.iadd, 1) := by decide +kernel
theorem dX10_readGivers_25 : decode cX10_readGivers 25 = .ok (.istore_n 1, 1) := by decide +kernel
theorem dX10_readGivers_26 : decode cX10_readGivers 26 = .ok (.iinc 2 1, 3) := by decide +kernel
theorem dX10_readGivers_29 : decode cX10_readGivers 29 = .ok (.goto (-25), 3) := by decide +kernel
theorem dX10_readGivers_32 : decode cX10_readGivers 32 = .ok (.iload_n 1, 1) := by decide +kernel
theorem dX10_readGivers_33 : decode cX10_readGivers 33 = .ok (.ireturn, 1) := by decide +kernel
theorem dX10_sortItem_0 : decode cX10_sortItem 0 = .ok (.bipush 6, 2) := by decide +kernel
theorem dX10_sortItem_2 : decode cX10_sortItem 2 = .ok (.aload_n 0, 1) := by decide +kernel
theorem dX10_sortItem_3 : decode cX10_sortItem 3 = .ok (.getfield 16, 3) := by decide +kernel
theorem dX10_sortItem_6 : decode cX10_sortItem 6 = .ok (.iconst 1, 1) := by decide +kernel
theorem dX10_sortItem_7 : decode cX10_sortItem 7 = .ok (.iaload, 1) := by decide +kernel
theorem dX10_sortItem_8 : decode cX10_sortItem 8 = .ok (.iadd, 1) := by decide +kernel
theorem dX10_sortItem_9 : decode cX10_sortItem 9 = .ok (.istore_n 1, 1) := by decide +kernel
theorem dX10_sortItem_10 : decode cX10_sortItem 10 = .ok (.aload_n 0, 1) := by decide +kernel
theorem dX10_sortItem_11 : decode cX10_sortItem 11 = .ok (.iconst 5, 1) := by decide +kernel
theorem dX10_sortItem_12 : decode cX10_sortItem 12 = .ok (.invokevirtual 118, 3) := by decide +kernel
theorem dX10_sortItem_15 : decode cX10_sortItem 15 = .ok (.ifCond .eq 90, 3) := by decide +kernel
theorem dX10_sortItem_18 : decode cX10_sortItem 18 = .ok (.aload_n 0, 1) := by decide +kernel
theorem dX10_sortItem_19 : decode cX10_sortItem 19 = .ok (.getfield 16, 3) := by decide +kernel
theorem dX10_sortItem_22 : decode cX10_sortItem 22 = .ok (.iconst 1, 1) := by decide +kernel
theorem dX10_sortItem_23 : decode cX10_sortItem 23 = .ok (.iaload, 1) := by decide +kernel
theorem dX10_sortItem_24 : decode cX10_sortItem 24 = .ok (.bipush 6, 2) := by decide +kernel
theorem dX10_sortItem_26 : decode cX10_sortItem 26 = .ok (.if_icmp .eq 79, 3) := by decide +kernel
theorem dX10_sortItem_29 : decode cX10_sortItem 29 = .ok (.aload_n 0, 1) := by decide +kernel
theorem dX10_sortItem_30 : decode cX10_sortItem 30 = .ok (.getfield 58, 3) := by decide +kernel
theorem dX10_sortItem_33 : decode cX10_sortItem 33 = .ok (.iconst 0, 1) := by decide +kernel
theorem dX10_sortItem_34 : decode cX10_sortItem 34 = .ok (.iaload, 1) := by decide +kernel
theorem dX10_sortItem_35 : decode cX10_sortItem 35 = .ok (.i2l, 1) := by decide +kernel
theorem dX10_sortItem_36 : decode cX10_sortItem 36 = .ok (.lconst 1, 1) := by decide +kernel
theorem dX10_sortItem_37 : decode cX10_sortItem 37 = .ok (.ldc2_w 93, 3) := by decide +kernel
theorem dX10_sortItem_40 : decode cX10_sortItem 40 = .ok (.invokestatic 95, 3) := by decide +kernel
theorem dX10_sortItem_43 : decode cX10_sortItem 43 = .ok (.ifCond .eq 62, 3) := by decide +kernel
theorem dX10_sortItem_46 : decode cX10_sortItem 46 = .ok (.aload_n 0, 1) := by decide +kernel
theorem dX10_sortItem_47 : decode cX10_sortItem 47 = .ok (.invokevirtual 122, 3) := by decide +kernel
theorem dX10_sortItem_50 : decode cX10_sortItem 50 = .ok (.aload_n 0, 1) := by decide +kernel
theorem dX10_sortItem_51 : decode cX10_sortItem 51 = .ok (.getfield 58, 3) := by decide +kernel
theorem dX10_sortItem_54 : decode cX10_sortItem 54 = .ok (.iconst 0, 1) := by decide +kernel
theorem dX10_sortItem_55 : decode cX10_sortItem 55 = .ok (.iaload, 1) := by decide +kernel
theorem dX10_sortItem_56 : decode cX10_sortItem 56 = .ok (.iadd, 1) := by decide +kernel
theorem dX10_sortItem_57 : decode cX10_sortItem 57 = .ok (.bipush 8, 2) := by decide +kernel
theorem dX10_sortItem_59 : decode cX10_sortItem 59 = .ok (.if_icmp .gt 46, 3) := by decide +kernel
theorem dX10_sortItem_62 : decode cX10_sortItem 62 = .ok (.aload_n 0, 1) := by decide +kernel
theorem dX10_sortItem_63 : decode cX10_sortItem 63 = .ok (.getfield 58, 3) := by decide +kernel
theorem dX10_sortItem_66 : decode cX10_sortItem 66 = .ok (.iconst 1, 1) := by decide +kernel
theorem dX10_sortItem_67 : decode cX10_sortItem 67 = .ok (.iaload, 1) := by decide +kernel
theorem dX10_sortItem_68 : decode cX10_sortItem 68 = .ok (.iconst 5, 1) := by decide +kernel
theorem dX10_sortItem_69 : decode cX10_sortItem 69 = .ok (.if_icmp .gt 36, 3) := by decide +kernel
theorem dX10_sortItem_72 : decode cX10_sortItem 72 = .ok (.aload_n 0, 1) := by decide +kernel
theorem dX10_sortItem_73 : decode cX10_sortItem 73 = .ok (.getfield 58, 3) := by decide +kernel
theorem dX10_sortItem_76 : decode cX10_sortItem 76 = .ok (.iconst 2, 1) := by decide +kernel
theorem dX10_sortItem_77 : decode cX10_sortItem 77 = .ok (.iaload, 1) := by decide +kernel
theorem dX10_sortItem_78 : decode cX10_sortItem 78 = .ok (.bipush 30, 2) := by decide +kernel
theorem dX10_sortItem_80 : decode cX10_sortItem 80 = .ok (.if_icmp .gt 25, 3) := by decide +kernel
theorem dX10_sortItem_83 : decode cX10_sortItem 83 = .ok (.aload_n 0, 1) := by decide +kernel
theorem dX10_sortItem_84 : decode cX10_sortItem 84 = .ok (.getfield 58, 3) := by decide +kernel
theorem dX10_sortItem_87 : decode cX10_sortItem 87 = .ok (.iconst 3, 1) := by decide +kernel
theorem dX10_sortItem_88 : decode cX10_sortItem 88 = .ok (.iaload, 1) := by decide +kernel
theorem dX10_sortItem_89 : decode cX10_sortItem 89 = .ok (.bipush 30, 2) := by decide +kernel
theorem dX10_sortItem_91 : decode cX10_sortItem 91 = .ok (.if_icmp .gt 14, 3) := by decide +kernel
theorem dX10_sortItem_94 : decode cX10_sortItem 94 = .ok (.aload_n 0, 1) := by decide +kernel
theorem dX10_sortItem_95 : decode cX10_sortItem 95 = .ok (.getfield 58, 3) := by decide +kernel
theorem dX10_sortItem_98 : decode cX10_sortItem 98 = .ok (.iconst 4, 1) := by decide +kernel
theorem dX10_sortItem_99 : decode cX10_sortItem 99 = .ok (.iaload, 1) := by decide +kernel
theorem dX10_sortItem_100 : decode cX10_sortItem 100 = .ok (.bipush 9, 2) := by decide +kernel
theorem dX10_sortItem_102 : decode cX10_sortItem 102 = .ok (.if_icmp .le 5, 3) := by decide +kernel
theorem dX10_sortItem_105 : decode cX10_sortItem 105 = .ok (.iconst 0, 1) := by decide +kernel
theorem dX10_sortItem_106 : decode cX10_sortItem 106 = .ok (.ireturn, 1) := by decide +kernel
theorem dX10_sortItem_107 : decode cX10_sortItem 107 = .ok (.aload_n 0, 1) := by decide +kernel
theorem dX10_sortItem_108 : decode cX10_sortItem 108 = .ok (.getfield 19, 3) := by decide +kernel
theorem dX10_sortItem_111 : decode cX10_sortItem 111 = .ok (.iload_n 1, 1) := by decide +kernel
theorem dX10_sortItem_112 : decode cX10_sortItem 112 = .ok (.aload_n 0, 1) := by decide +kernel
theorem dX10_sortItem_113 : decode cX10_sortItem 113 = .ok (.getfield 58, 3) := by decide +kernel
theorem dX10_sortItem_116 : decode cX10_sortItem 116 = .ok (.iconst 0, 1) := by decide +kernel
theorem dX10_sortItem_117 : decode cX10_sortItem 117 = .ok (.iaload, 1) := by decide +kernel
theorem dX10_sortItem_118 : decode cX10_sortItem 118 = .ok (.iastore, 1) := by decide +kernel
theorem dX10_sortItem_119 : decode cX10_sortItem 119 = .ok (.aload_n 0, 1) := by decide +kernel
theorem dX10_sortItem_120 : decode cX10_sortItem 120 = .ok (.getfield 22, 3) := by decide +kernel
theorem dX10_sortItem_123 : decode cX10_sortItem 123 = .ok (.iload_n 1, 1) := by decide +kernel
theorem dX10_sortItem_124 : decode cX10_sortItem 124 = .ok (.aload_n 0, 1) := by decide +kernel
theorem dX10_sortItem_125 : decode cX10_sortItem 125 = .ok (.getfield 58, 3) := by decide +kernel
theorem dX10_sortItem_128 : decode cX10_sortItem 128 = .ok (.iconst 1, 1) := by decide +kernel
theorem dX10_sortItem_129 : decode cX10_sortItem 129 = .ok (.iaload, 1) := by decide +kernel
theorem dX10_sortItem_130 : decode cX10_sortItem 130 = .ok (.iastore, 1) := by decide +kernel
theorem dX10_sortItem_131 : decode cX10_sortItem 131 = .ok (.aload_n 0, 1) := by decide +kernel
theorem dX10_sortItem_132 : decode cX10_sortItem 132 = .ok (.getfield 25, 3) := by decide +kernel
theorem dX10_sortItem_135 : decode cX10_sortItem 135 = .ok (.iload_n 1, 1) := by decide +kernel
theorem dX10_sortItem_136 : decode cX10_sortItem 136 = .ok (.aload_n 0, 1) := by decide +kernel
theorem dX10_sortItem_137 : decode cX10_sortItem 137 = .ok (.getfield 58, 3) := by decide +kernel
theorem dX10_sortItem_140 : decode cX10_sortItem 140 = .ok (.iconst 2, 1) := by decide +kernel
theorem dX10_sortItem_141 : decode cX10_sortItem 141 = .ok (.iaload, 1) := by decide +kernel
theorem dX10_sortItem_142 : decode cX10_sortItem 142 = .ok (.iastore, 1) := by decide +kernel
theorem dX10_sortItem_143 : decode cX10_sortItem 143 = .ok (.aload_n 0, 1) := by decide +kernel
theorem dX10_sortItem_144 : decode cX10_sortItem 144 = .ok (.getfield 28, 3) := by decide +kernel
theorem dX10_sortItem_147 : decode cX10_sortItem 147 = .ok (.iload_n 1, 1) := by decide +kernel
theorem dX10_sortItem_148 : decode cX10_sortItem 148 = .ok (.aload_n 0, 1) := by decide +kernel
theorem dX10_sortItem_149 : decode cX10_sortItem 149 = .ok (.getfield 58, 3) := by decide +kernel
theorem dX10_sortItem_152 : decode cX10_sortItem 152 = .ok (.iconst 3, 1) := by decide +kernel
theorem dX10_sortItem_153 : decode cX10_sortItem 153 = .ok (.iaload, 1) := by decide +kernel
theorem dX10_sortItem_154 : decode cX10_sortItem 154 = .ok (.iastore, 1) := by decide +kernel
theorem dX10_sortItem_155 : decode cX10_sortItem 155 = .ok (.aload_n 0, 1) := by decide +kernel
theorem dX10_sortItem_156 : decode cX10_sortItem 156 = .ok (.getfield 31, 3) := by decide +kernel
theorem dX10_sortItem_159 : decode cX10_sortItem 159 = .ok (.iload_n 1, 1) := by decide +kernel
theorem dX10_sortItem_160 : decode cX10_sortItem 160 = .ok (.aload_n 0, 1) := by decide +kernel
theorem dX10_sortItem_161 : decode cX10_sortItem 161 = .ok (.getfield 58, 3) := by decide +kernel
theorem dX10_sortItem_164 : decode cX10_sortItem 164 = .ok (.iconst 4, 1) := by decide +kernel
theorem dX10_sortItem_165 : decode cX10_sortItem 165 = .ok (.iaload, 1) := by decide +kernel
theorem dX10_sortItem_166 : decode cX10_sortItem 166 = .ok (.iastore, 1) := by decide +kernel
theorem dX10_sortItem_167 : decode cX10_sortItem 167 = .ok (.aload_n 0, 1) := by decide +kernel
theorem dX10_sortItem_168 : decode cX10_sortItem 168 = .ok (.getfield 34, 3) := by decide +kernel
theorem dX10_sortItem_171 : decode cX10_sortItem 171 = .ok (.iload_n 1, 1) := by decide +kernel
theorem dX10_sortItem_172 : decode cX10_sortItem 172 = .ok (.iconst 0, 1) := by decide +kernel
theorem dX10_sortItem_173 : decode cX10_sortItem 173 = .ok (.iastore, 1) := by decide +kernel
theorem dX10_sortItem_174 : decode cX10_sortItem 174 = .ok (.aload_n 0, 1) := by decide +kernel
theorem dX10_sortItem_175 : decode cX10_sortItem 175 = .ok (.getfield 37, 3) := by decide +kernel
theorem dX10_sortItem_178 : decode cX10_sortItem 178 = .ok (.iload_n 1, 1) := by decide +kernel
theorem dX10_sortItem_179 : decode cX10_sortItem 179 = .ok (.iconst 0, 1) := by decide +kernel
theorem dX10_sortItem_180 : decode cX10_sortItem 180 = .ok (.iastore, 1) := by decide +kernel
theorem dX10_sortItem_181 : decode cX10_sortItem 181 = .ok (.aload_n 0, 1) := by decide +kernel
theorem dX10_sortItem_182 : decode cX10_sortItem 182 = .ok (.getfield 16, 3) := by decide +kernel
theorem dX10_sortItem_185 : decode cX10_sortItem 185 = .ok (.iconst 1, 1) := by decide +kernel
theorem dX10_sortItem_186 : decode cX10_sortItem 186 = .ok (.dup2, 1) := by decide +kernel
theorem dX10_sortItem_187 : decode cX10_sortItem 187 = .ok (.iaload, 1) := by decide +kernel
theorem dX10_sortItem_188 : decode cX10_sortItem 188 = .ok (.iconst 1, 1) := by decide +kernel
theorem dX10_sortItem_189 : decode cX10_sortItem 189 = .ok (.iadd, 1) := by decide +kernel
theorem dX10_sortItem_190 : decode cX10_sortItem 190 = .ok (.iastore, 1) := by decide +kernel
theorem dX10_sortItem_191 : decode cX10_sortItem 191 = .ok (.iconst 1, 1) := by decide +kernel
theorem dX10_sortItem_192 : decode cX10_sortItem 192 = .ok (.ireturn, 1) := by decide +kernel
theorem dX10_worthItem_0 : decode cX10_worthItem 0 = .ok (.aload_n 0, 1) := by decide +kernel
theorem dX10_worthItem_1 : decode cX10_worthItem 1 = .ok (.iconst 3, 1) := by decide +kernel
theorem dX10_worthItem_2 : decode cX10_worthItem 2 = .ok (.invokevirtual 118, 3) := by decide +kernel
theorem dX10_worthItem_5 : decode cX10_worthItem 5 = .ok (.ifCond .eq 64, 3) := by decide +kernel
theorem dX10_worthItem_8 : decode cX10_worthItem 8 = .ok (.aload_n 0, 1) := by decide +kernel
theorem dX10_worthItem_9 : decode cX10_worthItem 9 = .ok (.getfield 58, 3) := by decide +kernel
theorem dX10_worthItem_12 : decode cX10_worthItem 12 = .ok (.iconst 0, 1) := by decide +kernel
theorem dX10_worthItem_13 : decode cX10_worthItem 13 = .ok (.iaload, 1) := by decide +kernel
theorem dX10_worthItem_14 : decode cX10_worthItem 14 = .ok (.aload_n 0, 1) := by decide +kernel
theorem dX10_worthItem_15 : decode cX10_worthItem 15 = .ok (.getfield 16, 3) := by decide +kernel
theorem dX10_worthItem_18 : decode cX10_worthItem 18 = .ok (.iconst 1, 1) := by decide +kernel
theorem dX10_worthItem_19 : decode cX10_worthItem 19 = .ok (.iaload, 1) := by decide +kernel
theorem dX10_worthItem_20 : decode cX10_worthItem 20 = .ok (.if_icmp .ge 49, 3) := by decide +kernel
theorem dX10_worthItem_23 : decode cX10_worthItem 23 = .ok (.aload_n 0, 1) := by decide +kernel
theorem dX10_worthItem_24 : decode cX10_worthItem 24 = .ok (.getfield 58, 3) := by decide +kernel
theorem dX10_worthItem_27 : decode cX10_worthItem 27 = .ok (.iconst 1, 1) := by decide +kernel
theorem dX10_worthItem_28 : decode cX10_worthItem 28 = .ok (.iaload, 1) := by decide +kernel
theorem dX10_worthItem_29 : decode cX10_worthItem 29 = .ok (.bipush 30, 2) := by decide +kernel
theorem dX10_worthItem_31 : decode cX10_worthItem 31 = .ok (.if_icmp .gt 38, 3) := by decide +kernel
theorem dX10_worthItem_34 : decode cX10_worthItem 34 = .ok (.aload_n 0, 1) := by decide +kernel
theorem dX10_worthItem_35 : decode cX10_worthItem 35 = .ok (.getfield 58, 3) := by decide +kernel
theorem dX10_worthItem_38 : decode cX10_worthItem 38 = .ok (.iconst 2, 1) := by decide +kernel
theorem dX10_worthItem_39 : decode cX10_worthItem 39 = .ok (.iaload, 1) := by decide +kernel
theorem dX10_worthItem_40 : decode cX10_worthItem 40 = .ok (.i2l, 1) := by decide +kernel
theorem dX10_worthItem_41 : decode cX10_worthItem 41 = .ok (.lconst 1, 1) := by decide +kernel
theorem dX10_worthItem_42 : decode cX10_worthItem 42 = .ok (.ldc2_w 126, 3) := by decide +kernel
theorem dX10_worthItem_45 : decode cX10_worthItem 45 = .ok (.invokestatic 95, 3) := by decide +kernel
theorem dX10_worthItem_48 : decode cX10_worthItem 48 = .ok (.ifCond .eq 21, 3) := by decide +kernel
theorem dX10_worthItem_51 : decode cX10_worthItem 51 = .ok (.aload_n 0, 1) := by decide +kernel
theorem dX10_worthItem_52 : decode cX10_worthItem 52 = .ok (.getfield 37, 3) := by decide +kernel
theorem dX10_worthItem_55 : decode cX10_worthItem 55 = .ok (.bipush 6, 2) := by decide +kernel
theorem dX10_worthItem_57 : decode cX10_worthItem 57 = .ok (.aload_n 0, 1) := by decide +kernel
theorem dX10_worthItem_58 : decode cX10_worthItem 58 = .ok (.getfield 58, 3) := by decide +kernel
theorem dX10_worthItem_61 : decode cX10_worthItem 61 = .ok (.iconst 0, 1) := by decide +kernel
theorem dX10_worthItem_62 : decode cX10_worthItem 62 = .ok (.iaload, 1) := by decide +kernel
theorem dX10_worthItem_63 : decode cX10_worthItem 63 = .ok (.iadd, 1) := by decide +kernel
theorem dX10_worthItem_64 : decode cX10_worthItem 64 = .ok (.iaload, 1) := by decide +kernel
theorem dX10_worthItem_65 : decode cX10_worthItem 65 = .ok (.iconst 3, 1) := by decide +kernel
theorem dX10_worthItem_66 : decode cX10_worthItem 66 = .ok (.if_icmp .ne 5, 3) := by decide +kernel
theorem dX10_worthItem_69 : decode cX10_worthItem 69 = .ok (.iconst 0, 1) := by decide +kernel
theorem dX10_worthItem_70 : decode cX10_worthItem 70 = .ok (.ireturn, 1) := by decide +kernel
theorem dX10_worthItem_71 : decode cX10_worthItem 71 = .ok (.bipush 6, 2) := by decide +kernel
theorem dX10_worthItem_73 : decode cX10_worthItem 73 = .ok (.aload_n 0, 1) := by decide +kernel
theorem dX10_worthItem_74 : decode cX10_worthItem 74 = .ok (.getfield 58, 3) := by decide +kernel
theorem dX10_worthItem_77 : decode cX10_worthItem 77 = .ok (.iconst 0, 1) := by decide +kernel
theorem dX10_worthItem_78 : decode cX10_worthItem 78 = .ok (.iaload, 1) := by decide +kernel
theorem dX10_worthItem_79 : decode cX10_worthItem 79 = .ok (.iadd, 1) := by decide +kernel
theorem dX10_worthItem_80 : decode cX10_worthItem 80 = .ok (.istore_n 1, 1) := by decide +kernel
theorem dX10_worthItem_81 : decode cX10_worthItem 81 = .ok (.aload_n 0, 1) := by decide +kernel
theorem dX10_worthItem_82 : decode cX10_worthItem 82 = .ok (.getfield 40, 3) := by decide +kernel
theorem dX10_worthItem_85 : decode cX10_worthItem 85 = .ok (.iconst 3, 1) := by decide +kernel
theorem dX10_worthItem_86 : decode cX10_worthItem 86 = .ok (.iload_n 1, 1) := by decide +kernel
theorem dX10_worthItem_87 : decode cX10_worthItem 87 = .ok (.imul, 1) := by decide +kernel
theorem dX10_worthItem_88 : decode cX10_worthItem 88 = .ok (.aload_n 0, 1) := by decide +kernel
theorem dX10_worthItem_89 : decode cX10_worthItem 89 = .ok (.getfield 37, 3) := by decide +kernel
theorem dX10_worthItem_92 : decode cX10_worthItem 92 = .ok (.iload_n 1, 1) := by decide +kernel
theorem dX10_worthItem_93 : decode cX10_worthItem 93 = .ok (.iaload, 1) := by decide +kernel
theorem dX10_worthItem_94 : decode cX10_worthItem 94 = .ok (.iadd, 1) := by decide +kernel
theorem dX10_worthItem_95 : decode cX10_worthItem 95 = .ok (.aload_n 0, 1) := by decide +kernel
theorem dX10_worthItem_96 : decode cX10_worthItem 96 = .ok (.getfield 58, 3) := by decide +kernel
theorem dX10_worthItem_99 : decode cX10_worthItem 99 = .ok (.iconst 1, 1) := by decide +kernel
theorem dX10_worthItem_100 : decode cX10_worthItem 100 = .ok (.iaload, 1) := by decide +kernel
theorem dX10_worthItem_101 : decode cX10_worthItem 101 = .ok (.iastore, 1) := by decide +kernel
theorem dX10_worthItem_102 : decode cX10_worthItem 102 = .ok (.aload_n 0, 1) := by decide +kernel
theorem dX10_worthItem_103 : decode cX10_worthItem 103 = .ok (.getfield 43, 3) := by decide +kernel
theorem dX10_worthItem_106 : decode cX10_worthItem 106 = .ok (.iconst 3, 1) := by decide +kernel
theorem dX10_worthItem_107 : decode cX10_worthItem 107 = .ok (.iload_n 1, 1) := by decide +kernel
theorem dX10_worthItem_108 : decode cX10_worthItem 108 = .ok (.imul, 1) := by decide +kernel
theorem dX10_worthItem_109 : decode cX10_worthItem 109 = .ok (.aload_n 0, 1) := by decide +kernel
theorem dX10_worthItem_110 : decode cX10_worthItem 110 = .ok (.getfield 37, 3) := by decide +kernel
theorem dX10_worthItem_113 : decode cX10_worthItem 113 = .ok (.iload_n 1, 1) := by decide +kernel
theorem dX10_worthItem_114 : decode cX10_worthItem 114 = .ok (.iaload, 1) := by decide +kernel
theorem dX10_worthItem_115 : decode cX10_worthItem 115 = .ok (.iadd, 1) := by decide +kernel
theorem dX10_worthItem_116 : decode cX10_worthItem 116 = .ok (.aload_n 0, 1) := by decide +kernel
theorem dX10_worthItem_117 : decode cX10_worthItem 117 = .ok (.getfield 58, 3) := by decide +kernel
theorem dX10_worthItem_120 : decode cX10_worthItem 120 = .ok (.iconst 2, 1) := by decide +kernel
theorem dX10_worthItem_121 : decode cX10_worthItem 121 = .ok (.iaload, 1) := by decide +kernel
theorem dX10_worthItem_122 : decode cX10_worthItem 122 = .ok (.iastore, 1) := by decide +kernel
theorem dX10_worthItem_123 : decode cX10_worthItem 123 = .ok (.aload_n 0, 1) := by decide +kernel
theorem dX10_worthItem_124 : decode cX10_worthItem 124 = .ok (.getfield 37, 3) := by decide +kernel
theorem dX10_worthItem_127 : decode cX10_worthItem 127 = .ok (.iload_n 1, 1) := by decide +kernel
theorem dX10_worthItem_128 : decode cX10_worthItem 128 = .ok (.dup2, 1) := by decide +kernel
theorem dX10_worthItem_129 : decode cX10_worthItem 129 = .ok (.iaload, 1) := by decide +kernel
theorem dX10_worthItem_130 : decode cX10_worthItem 130 = .ok (.iconst 1, 1) := by decide +kernel
theorem dX10_worthItem_131 : decode cX10_worthItem 131 = .ok (.iadd, 1) := by decide +kernel
theorem dX10_worthItem_132 : decode cX10_worthItem 132 = .ok (.iastore, 1) := by decide +kernel
theorem dX10_worthItem_133 : decode cX10_worthItem 133 = .ok (.iconst 1, 1) := by decide +kernel
theorem dX10_worthItem_134 : decode cX10_worthItem 134 = .ok (.ireturn, 1) := by decide +kernel
theorem dX10_item_0 : decode cX10_item 0 = .ok (.aload_n 0, 1) := by decide +kernel
theorem dX10_item_1 : decode cX10_item 1 = .ok (.aload_n 0, 1) := by decide +kernel
theorem dX10_item_2 : decode cX10_item 2 = .ok (.getfield 105, 3) := by decide +kernel
theorem dX10_item_5 : decode cX10_item 5 = .ok (.invokevirtual 108, 3) := by decide +kernel
theorem dX10_item_8 : decode cX10_item 8 = .ok (.istore_n 1, 1) := by decide +kernel
theorem dX10_item_9 : decode cX10_item 9 = .ok (.aload_n 0, 1) := by decide +kernel
theorem dX10_item_10 : decode cX10_item 10 = .ok (.dup, 1) := by decide +kernel
theorem dX10_item_11 : decode cX10_item 11 = .ok (.getfield 105, 3) := by decide +kernel
theorem dX10_item_14 : decode cX10_item 14 = .ok (.iconst 1, 1) := by decide +kernel
theorem dX10_item_15 : decode cX10_item 15 = .ok (.iadd, 1) := by decide +kernel
theorem dX10_item_16 : decode cX10_item 16 = .ok (.putfield 105, 3) := by decide +kernel
theorem dX10_item_19 : decode cX10_item 19 = .ok (.iload_n 1, 1) := by decide +kernel
theorem dX10_item_20 : decode cX10_item 20 = .ok (.tableswitch 254 98 119 #[104, 127, 116, 150, 254, 186, 254, 254, 254, 254, 254, 254, 254, 162, 139, 254, 254, 173, 196, 254, 254, 191], 104) := by decide +kernel
theorem dX10_item_124 : decode cX10_item 124 = .ok (.aload_n 0, 1) := by decide +kernel
theorem dX10_item_125 : decode cX10_item 125 = .ok (.iconst 0, 1) := by decide +kernel
theorem dX10_item_126 : decode cX10_item 126 = .ok (.iconst 2, 1) := by decide +kernel
theorem dX10_item_127 : decode cX10_item 127 = .ok (.iconst 1, 1) := by decide +kernel
theorem dX10_item_128 : decode cX10_item 128 = .ok (.bipush 60, 2) := by decide +kernel
theorem dX10_item_130 : decode cX10_item 130 = .ok (.bipush 8, 2) := by decide +kernel
theorem dX10_item_132 : decode cX10_item 132 = .ok (.invokevirtual 128, 3) := by decide +kernel
theorem dX10_item_135 : decode cX10_item 135 = .ok (.ireturn, 1) := by decide +kernel
theorem dX10_item_136 : decode cX10_item 136 = .ok (.aload_n 0, 1) := by decide +kernel
theorem dX10_item_137 : decode cX10_item 137 = .ok (.iconst 2, 1) := by decide +kernel
theorem dX10_item_138 : decode cX10_item 138 = .ok (.iconst 1, 1) := by decide +kernel
theorem dX10_item_139 : decode cX10_item 139 = .ok (.iconst 0, 1) := by decide +kernel
theorem dX10_item_140 : decode cX10_item 140 = .ok (.bipush 30, 2) := by decide +kernel
theorem dX10_item_142 : decode cX10_item 142 = .ok (.iconst 0, 1) := by decide +kernel
theorem dX10_item_143 : decode cX10_item 143 = .ok (.invokevirtual 128, 3) := by decide +kernel
theorem dX10_item_146 : decode cX10_item 146 = .ok (.ireturn, 1) := by decide +kernel
theorem dX10_item_147 : decode cX10_item 147 = .ok (.aload_n 0, 1) := by decide +kernel
theorem dX10_item_148 : decode cX10_item 148 = .ok (.iconst 3, 1) := by decide +kernel
theorem dX10_item_149 : decode cX10_item 149 = .ok (.iconst 1, 1) := by decide +kernel
theorem dX10_item_150 : decode cX10_item 150 = .ok (.iconst 0, 1) := by decide +kernel
theorem dX10_item_151 : decode cX10_item 151 = .ok (.sipush 199, 3) := by decide +kernel
theorem dX10_item_154 : decode cX10_item 154 = .ok (.iconst 0, 1) := by decide +kernel
theorem dX10_item_155 : decode cX10_item 155 = .ok (.invokevirtual 128, 3) := by decide +kernel
theorem dX10_item_158 : decode cX10_item 158 = .ok (.ireturn, 1) := by decide +kernel
theorem dX10_item_159 : decode cX10_item 159 = .ok (.aload_n 0, 1) := by decide +kernel
theorem dX10_item_160 : decode cX10_item 160 = .ok (.iconst 4, 1) := by decide +kernel
theorem dX10_item_161 : decode cX10_item 161 = .ok (.iconst 1, 1) := by decide +kernel
theorem dX10_item_162 : decode cX10_item 162 = .ok (.iconst 0, 1) := by decide +kernel
theorem dX10_item_163 : decode cX10_item 163 = .ok (.bipush 9, 2) := by decide +kernel
theorem dX10_item_165 : decode cX10_item 165 = .ok (.iconst 0, 1) := by decide +kernel
theorem dX10_item_166 : decode cX10_item 166 = .ok (.invokevirtual 128, 3) := by decide +kernel
theorem dX10_item_169 : decode cX10_item 169 = .ok (.ireturn, 1) := by decide +kernel
theorem dX10_item_170 : decode cX10_item 170 = .ok (.aload_n 0, 1) := by decide +kernel
theorem dX10_item_171 : decode cX10_item 171 = .ok (.iconst 5, 1) := by decide +kernel
theorem dX10_item_172 : decode cX10_item 172 = .ok (.iconst 2, 1) := by decide +kernel
theorem dX10_item_173 : decode cX10_item 173 = .ok (.iconst 0, 1) := by decide +kernel
theorem dX10_item_174 : decode cX10_item 174 = .ok (.bipush 9, 2) := by decide +kernel
theorem dX10_item_176 : decode cX10_item 176 = .ok (.bipush 30, 2) := by decide +kernel
theorem dX10_item_178 : decode cX10_item 178 = .ok (.invokevirtual 128, 3) := by decide +kernel
theorem dX10_item_181 : decode cX10_item 181 = .ok (.ireturn, 1) := by decide +kernel
theorem dX10_item_182 : decode cX10_item 182 = .ok (.aload_n 0, 1) := by decide +kernel
theorem dX10_item_183 : decode cX10_item 183 = .ok (.bipush 7, 2) := by decide +kernel
theorem dX10_item_185 : decode cX10_item 185 = .ok (.iconst 1, 1) := by decide +kernel
theorem dX10_item_186 : decode cX10_item 186 = .ok (.iconst 0, 1) := by decide +kernel
theorem dX10_item_187 : decode cX10_item 187 = .ok (.iconst 1, 1) := by decide +kernel
theorem dX10_item_188 : decode cX10_item 188 = .ok (.iconst 0, 1) := by decide +kernel
theorem dX10_item_189 : decode cX10_item 189 = .ok (.invokevirtual 128, 3) := by decide +kernel
theorem dX10_item_192 : decode cX10_item 192 = .ok (.ireturn, 1) := by decide +kernel
theorem dX10_item_193 : decode cX10_item 193 = .ok (.aload_n 0, 1) := by decide +kernel
theorem dX10_item_194 : decode cX10_item 194 = .ok (.bipush 8, 2) := by decide +kernel
theorem dX10_item_196 : decode cX10_item 196 = .ok (.iconst 2, 1) := by decide +kernel
theorem dX10_item_197 : decode cX10_item 197 = .ok (.iconst 1, 1) := by decide +kernel
theorem dX10_item_198 : decode cX10_item 198 = .ok (.bipush 60, 2) := by decide +kernel
theorem dX10_item_200 : decode cX10_item 200 = .ok (.bipush 99, 2) := by decide +kernel
theorem dX10_item_202 : decode cX10_item 202 = .ok (.invokevirtual 128, 3) := by decide +kernel
theorem dX10_item_205 : decode cX10_item 205 = .ok (.ireturn, 1) := by decide +kernel
theorem dX10_item_206 : decode cX10_item 206 = .ok (.aload_n 0, 1) := by decide +kernel
theorem dX10_item_207 : decode cX10_item 207 = .ok (.invokevirtual 132, 3) := by decide +kernel
theorem dX10_item_210 : decode cX10_item 210 = .ok (.ireturn, 1) := by decide +kernel
theorem dX10_item_211 : decode cX10_item 211 = .ok (.aload_n 0, 1) := by decide +kernel
theorem dX10_item_212 : decode cX10_item 212 = .ok (.invokevirtual 136, 3) := by decide +kernel
theorem dX10_item_215 : decode cX10_item 215 = .ok (.ireturn, 1) := by decide +kernel
theorem dX10_item_216 : decode cX10_item 216 = .ok (.aload_n 0, 1) := by decide +kernel
theorem dX10_item_217 : decode cX10_item 217 = .ok (.iconst 2, 1) := by decide +kernel
theorem dX10_item_218 : decode cX10_item 218 = .ok (.invokevirtual 118, 3) := by decide +kernel
theorem dX10_item_221 : decode cX10_item 221 = .ok (.ifCond .eq 29, 3) := by decide +kernel
theorem dX10_item_224 : decode cX10_item 224 = .ok (.aload_n 0, 1) := by decide +kernel
theorem dX10_item_225 : decode cX10_item 225 = .ok (.getfield 58, 3) := by decide +kernel
theorem dX10_item_228 : decode cX10_item 228 = .ok (.iconst 0, 1) := by decide +kernel
theorem dX10_item_229 : decode cX10_item 229 = .ok (.iaload, 1) := by decide +kernel
theorem dX10_item_230 : decode cX10_item 230 = .ok (.aload_n 0, 1) := by decide +kernel
theorem dX10_item_231 : decode cX10_item 231 = .ok (.getfield 16, 3) := by decide +kernel
theorem dX10_item_234 : decode cX10_item 234 = .ok (.iconst 1, 1) := by decide +kernel
theorem dX10_item_235 : decode cX10_item 235 = .ok (.iaload, 1) := by decide +kernel
theorem dX10_item_236 : decode cX10_item 236 = .ok (.if_icmp .ge 14, 3) := by decide +kernel
theorem dX10_item_239 : decode cX10_item 239 = .ok (.aload_n 0, 1) := by decide +kernel
theorem dX10_item_240 : decode cX10_item 240 = .ok (.getfield 58, 3) := by decide +kernel
theorem dX10_item_243 : decode cX10_item 243 = .ok (.iconst 1, 1) := by decide +kernel
theorem dX10_item_244 : decode cX10_item 244 = .ok (.iaload, 1) := by decide +kernel
theorem dX10_item_245 : decode cX10_item 245 = .ok (.bipush 30, 2) := by decide +kernel
theorem dX10_item_247 : decode cX10_item 247 = .ok (.if_icmp .le 5, 3) := by decide +kernel
theorem dX10_item_250 : decode cX10_item 250 = .ok (.iconst 0, 1) := by decide +kernel
theorem dX10_item_251 : decode cX10_item 251 = .ok (.ireturn, 1) := by decide +kernel
theorem dX10_item_252 : decode cX10_item 252 = .ok (.aload_n 0, 1) := by decide +kernel
theorem dX10_item_253 : decode cX10_item 253 = .ok (.getfield 34, 3) := by decide +kernel
theorem dX10_item_256 : decode cX10_item 256 = .ok (.bipush 6, 2) := by decide +kernel
theorem dX10_item_258 : decode cX10_item 258 = .ok (.aload_n 0, 1) := by decide +kernel
theorem dX10_item_259 : decode cX10_item 259 = .ok (.getfield 58, 3) := by decide +kernel
theorem dX10_item_262 : decode cX10_item 262 = .ok (.iconst 0, 1) := by decide +kernel
theorem dX10_item_263 : decode cX10_item 263 = .ok (.iaload, 1) := by decide +kernel
theorem dX10_item_264 : decode cX10_item 264 = .ok (.iadd, 1) := by decide +kernel
theorem dX10_item_265 : decode cX10_item 265 = .ok (.aload_n 0, 1) := by decide +kernel
theorem dX10_item_266 : decode cX10_item 266 = .ok (.getfield 58, 3) := by decide +kernel
theorem dX10_item_269 : decode cX10_item 269 = .ok (.iconst 1, 1) := by decide +kernel
theorem dX10_item_270 : decode cX10_item 270 = .ok (.iaload, 1) := by decide +kernel
theorem dX10_item_271 : decode cX10_item 271 = .ok (.iastore, 1) := by decide +kernel
theorem dX10_item_272 : decode cX10_item 272 = .ok (.iconst 1, 1) := by decide +kernel
theorem dX10_item_273 : decode cX10_item 273 = .ok (.ireturn, 1) := by decide +kernel
theorem dX10_item_274 : decode cX10_item 274 = .ok (.iconst 0, 1) := by decide +kernel
theorem dX10_item_275 : decode cX10_item 275 = .ok (.ireturn, 1) := by decide +kernel
theorem dX10_areWhole_0 : decode cX10_areWhole 0 = .ok (.iconst 1, 1) := by decide +kernel
theorem dX10_areWhole_1 : decode cX10_areWhole 1 = .ok (.istore_n 1, 1) := by decide +kernel
theorem dX10_areWhole_2 : decode cX10_areWhole 2 = .ok (.bipush 6, 2) := by decide +kernel
theorem dX10_areWhole_4 : decode cX10_areWhole 4 = .ok (.istore_n 2, 1) := by decide +kernel
theorem dX10_areWhole_5 : decode cX10_areWhole 5 = .ok (.iload_n 2, 1) := by decide +kernel
theorem dX10_areWhole_6 : decode cX10_areWhole 6 = .ok (.bipush 6, 2) := by decide +kernel
theorem dX10_areWhole_8 : decode cX10_areWhole 8 = .ok (.aload_n 0, 1) := by decide +kernel
theorem dX10_areWhole_9 : decode cX10_areWhole 9 = .ok (.getfield 16, 3) := by decide +kernel
theorem dX10_areWhole_12 : decode cX10_areWhole 12 = .ok (.iconst 1, 1) := by decide +kernel
theorem dX10_areWhole_13 : decode cX10_areWhole 13 = .ok (.iaload, 1) := by decide +kernel
theorem dX10_areWhole_14 : decode cX10_areWhole 14 = .ok (.iadd, 1) := by decide +kernel
theorem dX10_areWhole_15 : decode cX10_areWhole 15 = .ok (.if_icmp .ge 61, 3) := by decide +kernel
theorem dX10_areWhole_18 : decode cX10_areWhole 18 = .ok (.iconst 0, 1) := by decide +kernel
theorem dX10_areWhole_19 : decode cX10_areWhole 19 = .ok (.istore_n 3, 1) := by decide +kernel
theorem dX10_areWhole_20 : decode cX10_areWhole 20 = .ok (.iconst 0, 1) := by decide +kernel
theorem dX10_areWhole_21 : decode cX10_areWhole 21 = .ok (.istore 4, 2) := by decide +kernel
theorem dX10_areWhole_23 : decode cX10_areWhole 23 = .ok (.iload 4, 2) := by decide +kernel
theorem dX10_areWhole_25 : decode cX10_areWhole 25 = .ok (.aload_n 0, 1) := by decide +kernel
theorem dX10_areWhole_26 : decode cX10_areWhole 26 = .ok (.getfield 37, 3) := by decide +kernel
theorem dX10_areWhole_29 : decode cX10_areWhole 29 = .ok (.iload_n 2, 1) := by decide +kernel
theorem dX10_areWhole_30 : decode cX10_areWhole 30 = .ok (.iaload, 1) := by decide +kernel
theorem dX10_areWhole_31 : decode cX10_areWhole 31 = .ok (.if_icmp .ge 23, 3) := by decide +kernel
theorem dX10_areWhole_34 : decode cX10_areWhole 34 = .ok (.iload_n 3, 1) := by decide +kernel
theorem dX10_areWhole_35 : decode cX10_areWhole 35 = .ok (.aload_n 0, 1) := by decide +kernel
theorem dX10_areWhole_36 : decode cX10_areWhole 36 = .ok (.getfield 43, 3) := by decide +kernel
theorem dX10_areWhole_39 : decode cX10_areWhole 39 = .ok (.iconst 3, 1) := by decide +kernel
theorem dX10_areWhole_40 : decode cX10_areWhole 40 = .ok (.iload_n 2, 1) := by decide +kernel
theorem dX10_areWhole_41 : decode cX10_areWhole 41 = .ok (.imul, 1) := by decide +kernel
theorem dX10_areWhole_42 : decode cX10_areWhole 42 = .ok (.iload 4, 2) := by decide +kernel
theorem dX10_areWhole_44 : decode cX10_areWhole 44 = .ok (.iadd, 1) := by decide +kernel
theorem dX10_areWhole_45 : decode cX10_areWhole 45 = .ok (.iaload, 1) := by decide +kernel
theorem dX10_areWhole_46 : decode cX10_areWhole 46 = .ok (.iadd, 1) := by decide +kernel
theorem dX10_areWhole_47 : decode cX10_areWhole 47 = .ok (.istore_n 3, 1) := by decide +kernel
theorem dX10_areWhole_48 : decode cX10_areWhole 48 = .ok (.iinc 4 1, 3) := by decide +kernel
theorem dX10_areWhole_51 : decode cX10_areWhole 51 = .ok (.goto (-28), 3) := by decide +kernel
theorem dX10_areWhole_54 : decode cX10_areWhole 54 = .ok (.iload_n 1, 1) := by decide +kernel
theorem dX10_areWhole_55 : decode cX10_areWhole 55 = .ok (.ifCond .eq 13, 3) := by decide +kernel
theorem dX10_areWhole_58 : decode cX10_areWhole 58 = .ok (.iload_n 3, 1) := by decide +kernel
theorem dX10_areWhole_59 : decode cX10_areWhole 59 = .ok (.bipush 10, 2) := by decide +kernel
theorem dX10_areWhole_61 : decode cX10_areWhole 61 = .ok (.if_icmp .ne 7, 3) := by decide +kernel
theorem dX10_areWhole_64 : decode cX10_areWhole 64 = .ok (.iconst 1, 1) := by decide +kernel
theorem dX10_areWhole_65 : decode cX10_areWhole 65 = .ok (.goto 4, 3) := by decide +kernel
theorem dX10_areWhole_68 : decode cX10_areWhole 68 = .ok (.iconst 0, 1) := by decide +kernel
theorem dX10_areWhole_69 : decode cX10_areWhole 69 = .ok (.istore_n 1, 1) := by decide +kernel
theorem dX10_areWhole_70 : decode cX10_areWhole 70 = .ok (.iinc 2 1, 3) := by decide +kernel
theorem dX10_areWhole_73 : decode cX10_areWhole 73 = .ok (.goto (-68), 3) := by decide +kernel
theorem dX10_areWhole_76 : decode cX10_areWhole 76 = .ok (.iload_n 1, 1) := by decide +kernel
theorem dX10_areWhole_77 : decode cX10_areWhole 77 = .ok (.ireturn, 1) := by decide +kernel
theorem dX10_readAll_0 : decode cX10_readAll 0 = .ok (.aload_n 0, 1) := by decide +kernel
theorem dX10_readAll_1 : decode cX10_readAll 1 = .ok (.iconst 1, 1) := by decide +kernel
theorem dX10_readAll_2 : decode cX10_readAll 2 = .ok (.invokevirtual 86, 3) := by decide +kernel
theorem dX10_readAll_5 : decode cX10_readAll 5 = .ok (.aload_n 0, 1) := by decide +kernel
theorem dX10_readAll_6 : decode cX10_readAll 6 = .ok (.iconst 0, 1) := by decide +kernel
theorem dX10_readAll_7 : decode cX10_readAll 7 = .ok (.putfield 105, 3) := by decide +kernel
theorem dX10_readAll_10 : decode cX10_readAll 10 = .ok (.aload_n 0, 1) := by decide +kernel
theorem dX10_readAll_11 : decode cX10_readAll 11 = .ok (.getfield 105, 3) := by decide +kernel
theorem dX10_readAll_14 : decode cX10_readAll 14 = .ok (.aload_n 0, 1) := by decide +kernel
theorem dX10_readAll_15 : decode cX10_readAll 15 = .ok (.getfield 99, 3) := by decide +kernel
theorem dX10_readAll_18 : decode cX10_readAll 18 = .ok (.if_icmp .ge 20, 3) := by decide +kernel
theorem dX10_readAll_21 : decode cX10_readAll 21 = .ok (.aload_n 0, 1) := by decide +kernel
theorem dX10_readAll_22 : decode cX10_readAll 22 = .ok (.getfield 105, 3) := by decide +kernel
theorem dX10_readAll_25 : decode cX10_readAll 25 = .ok (.istore_n 1, 1) := by decide +kernel
theorem dX10_readAll_26 : decode cX10_readAll 26 = .ok (.aload_n 0, 1) := by decide +kernel
theorem dX10_readAll_27 : decode cX10_readAll 27 = .ok (.invokevirtual 139, 3) := by decide +kernel
theorem dX10_readAll_30 : decode cX10_readAll 30 = .ok (.ifCond .ne 5, 3) := by decide +kernel
theorem dX10_readAll_33 : decode cX10_readAll 33 = .ok (.iload_n 1, 1) := by decide +kernel
theorem dX10_readAll_34 : decode cX10_readAll 34 = .ok (.ireturn, 1) := by decide +kernel
theorem dX10_readAll_35 : decode cX10_readAll 35 = .ok (.goto (-25), 3) := by decide +kernel
theorem dX10_readAll_38 : decode cX10_readAll 38 = .ok (.aload_n 0, 1) := by decide +kernel
theorem dX10_readAll_39 : decode cX10_readAll 39 = .ok (.invokevirtual 142, 3) := by decide +kernel
theorem dX10_readAll_42 : decode cX10_readAll 42 = .ok (.ifCond .eq 8, 3) := by decide +kernel
theorem dX10_readAll_45 : decode cX10_readAll 45 = .ok (.bipush (-4), 2) := by decide +kernel
theorem dX10_readAll_47 : decode cX10_readAll 47 = .ok (.goto 7, 3) := by decide +kernel
theorem dX10_readAll_50 : decode cX10_readAll 50 = .ok (.aload_n 0, 1) := by decide +kernel
theorem dX10_readAll_51 : decode cX10_readAll 51 = .ok (.getfield 99, 3) := by decide +kernel
theorem dX10_readAll_54 : decode cX10_readAll 54 = .ok (.ireturn, 1) := by decide +kernel
theorem dX10_fault_0 : decode cX10_fault 0 = .ok (.aload_n 0, 1) := by decide +kernel
theorem dX10_fault_1 : decode cX10_fault 1 = .ok (.invokevirtual 145, 3) := by decide +kernel
theorem dX10_fault_4 : decode cX10_fault 4 = .ok (.ireturn, 1) := by decide +kernel
theorem dX10_layGivers_0 : decode cX10_layGivers 0 = .ok (.aload_n 0, 1) := by decide +kernel
theorem dX10_layGivers_1 : decode cX10_layGivers 1 = .ok (.iconst 0, 1) := by decide +kernel
theorem dX10_layGivers_2 : decode cX10_layGivers 2 = .ok (.putfield 148, 3) := by decide +kernel
theorem dX10_layGivers_5 : decode cX10_layGivers 5 = .ok (.iconst 0, 1) := by decide +kernel
theorem dX10_layGivers_6 : decode cX10_layGivers 6 = .ok (.istore_n 1, 1) := by decide +kernel
theorem dX10_layGivers_7 : decode cX10_layGivers 7 = .ok (.iload_n 1, 1) := by decide +kernel
theorem dX10_layGivers_8 : decode cX10_layGivers 8 = .ok (.aload_n 0, 1) := by decide +kernel
theorem dX10_layGivers_9 : decode cX10_layGivers 9 = .ok (.getfield 16, 3) := by decide +kernel
theorem dX10_layGivers_12 : decode cX10_layGivers 12 = .ok (.iconst 0, 1) := by decide +kernel
theorem dX10_layGivers_13 : decode cX10_layGivers 13 = .ok (.iaload, 1) := by decide +kernel
theorem dX10_layGivers_14 : decode cX10_layGivers 14 = .ok (.if_icmp .ge 71, 3) := by decide +kernel
theorem dX10_layGivers_17 : decode cX10_layGivers 17 = .ok (.iconst 0, 1) := by decide +kernel
theorem dX10_layGivers_18 : decode cX10_layGivers 18 = .ok (.istore_n 2, 1) := by decide +kernel
theorem dX10_layGivers_19 : decode cX10_layGivers 19 = .ok (.iload_n 2, 1) := by decide +kernel
theorem dX10_layGivers_20 : decode cX10_layGivers 20 = .ok (.aload_n 0, 1) := by decide +kernel
theorem dX10_layGivers_21 : decode cX10_layGivers 21 = .ok (.getfield 19, 3) := by decide +kernel
theorem dX10_layGivers_24 : decode cX10_layGivers 24 = .ok (.iload_n 1, 1) := by decide +kernel
theorem dX10_layGivers_25 : decode cX10_layGivers 25 = .ok (.iaload, 1) := by decide +kernel
theorem dX10_layGivers_26 : decode cX10_layGivers 26 = .ok (.if_icmp .ge 53, 3) := by decide +kernel
theorem dX10_layGivers_29 : decode cX10_layGivers 29 = .ok (.aload_n 0, 1) := by decide +kernel
theorem dX10_layGivers_30 : decode cX10_layGivers 30 = .ok (.getfield 46, 3) := by decide +kernel
theorem dX10_layGivers_33 : decode cX10_layGivers 33 = .ok (.aload_n 0, 1) := by decide +kernel
theorem dX10_layGivers_34 : decode cX10_layGivers 34 = .ok (.getfield 148, 3) := by decide +kernel
theorem dX10_layGivers_37 : decode cX10_layGivers 37 = .ok (.iload_n 1, 1) := by decide +kernel
theorem dX10_layGivers_38 : decode cX10_layGivers 38 = .ok (.iastore, 1) := by decide +kernel
theorem dX10_layGivers_39 : decode cX10_layGivers 39 = .ok (.aload_n 0, 1) := by decide +kernel
theorem dX10_layGivers_40 : decode cX10_layGivers 40 = .ok (.getfield 49, 3) := by decide +kernel
theorem dX10_layGivers_43 : decode cX10_layGivers 43 = .ok (.aload_n 0, 1) := by decide +kernel
theorem dX10_layGivers_44 : decode cX10_layGivers 44 = .ok (.getfield 148, 3) := by decide +kernel
theorem dX10_layGivers_47 : decode cX10_layGivers 47 = .ok (.aload_n 0, 1) := by decide +kernel
theorem dX10_layGivers_48 : decode cX10_layGivers 48 = .ok (.getfield 28, 3) := by decide +kernel
theorem dX10_layGivers_51 : decode cX10_layGivers 51 = .ok (.iload_n 1, 1) := by decide +kernel
theorem dX10_layGivers_52 : decode cX10_layGivers 52 = .ok (.iaload, 1) := by decide +kernel
theorem dX10_layGivers_53 : decode cX10_layGivers 53 = .ok (.iload_n 2, 1) := by decide +kernel
theorem dX10_layGivers_54 : decode cX10_layGivers 54 = .ok (.aload_n 0, 1) := by decide +kernel
theorem dX10_layGivers_55 : decode cX10_layGivers 55 = .ok (.getfield 31, 3) := by decide +kernel
theorem dX10_layGivers_58 : decode cX10_layGivers 58 = .ok (.iload_n 1, 1) := by decide +kernel
theorem dX10_layGivers_59 : decode cX10_layGivers 59 = .ok (.iaload, 1) := by decide +kernel
theorem dX10_layGivers_60 : decode cX10_layGivers 60 = .ok (.imul, 1) := by decide +kernel
theorem dX10_layGivers_61 : decode cX10_layGivers 61 = .ok (.iadd, 1) := by decide +kernel
theorem dX10_layGivers_62 : decode cX10_layGivers 62 = .ok (.iastore, 1) := by decide +kernel
theorem dX10_layGivers_63 : decode cX10_layGivers 63 = .ok (.aload_n 0, 1) := by decide +kernel
theorem dX10_layGivers_64 : decode cX10_layGivers 64 = .ok (.dup, 1) := by decide +kernel
theorem dX10_layGivers_65 : decode cX10_layGivers 65 = .ok (.getfield 148, 3) := by decide +kernel
theorem dX10_layGivers_68 : decode cX10_layGivers 68 = .ok (.iconst 1, 1) := by decide +kernel
theorem dX10_layGivers_69 : decode cX10_layGivers 69 = .ok (.iadd, 1) := by decide +kernel
theorem dX10_layGivers_70 : decode cX10_layGivers 70 = .ok (.putfield 148, 3) := by decide +kernel
theorem dX10_layGivers_73 : decode cX10_layGivers 73 = .ok (.iinc 2 1, 3) := by decide +kernel
theorem dX10_layGivers_76 : decode cX10_layGivers 76 = .ok (.goto (-57), 3) := by decide +kernel
theorem dX10_layGivers_79 : decode cX10_layGivers 79 = .ok (.iinc 1 1, 3) := by decide +kernel
theorem dX10_layGivers_82 : decode cX10_layGivers 82 = .ok (.goto (-75), 3) := by decide +kernel
theorem dX10_layGivers_85 : decode cX10_layGivers 85 = .ok (.aload_n 0, 1) := by decide +kernel
theorem dX10_layGivers_86 : decode cX10_layGivers 86 = .ok (.invokevirtual 151, 3) := by decide +kernel
theorem dX10_layGivers_89 : decode cX10_layGivers 89 = .ok (.return_, 1) := by decide +kernel
theorem dX10_plain_0 : decode cX10_plain 0 = .ok (.aload_n 0, 1) := by decide +kernel
theorem dX10_plain_1 : decode cX10_plain 1 = .ok (.aload_n 0, 1) := by decide +kernel
theorem dX10_plain_2 : decode cX10_plain 2 = .ok (.getfield 13, 3) := by decide +kernel
theorem dX10_plain_5 : decode cX10_plain 5 = .ok (.iconst 0, 1) := by decide +kernel
theorem dX10_plain_6 : decode cX10_plain 6 = .ok (.iaload, 1) := by decide +kernel
theorem dX10_plain_7 : decode cX10_plain 7 = .ok (.putfield 154, 3) := by decide +kernel
theorem dX10_plain_10 : decode cX10_plain 10 = .ok (.aload_n 0, 1) := by decide +kernel
theorem dX10_plain_11 : decode cX10_plain 11 = .ok (.aload_n 0, 1) := by decide +kernel
theorem dX10_plain_12 : decode cX10_plain 12 = .ok (.getfield 13, 3) := by decide +kernel
theorem dX10_plain_15 : decode cX10_plain 15 = .ok (.iconst 2, 1) := by decide +kernel
theorem dX10_plain_16 : decode cX10_plain 16 = .ok (.iaload, 1) := by decide +kernel
theorem dX10_plain_17 : decode cX10_plain 17 = .ok (.putfield 157, 3) := by decide +kernel
theorem dX10_plain_20 : decode cX10_plain 20 = .ok (.aload_n 0, 1) := by decide +kernel
theorem dX10_plain_21 : decode cX10_plain 21 = .ok (.aload_n 0, 1) := by decide +kernel
theorem dX10_plain_22 : decode cX10_plain 22 = .ok (.getfield 13, 3) := by decide +kernel
theorem dX10_plain_25 : decode cX10_plain 25 = .ok (.iconst 5, 1) := by decide +kernel
theorem dX10_plain_26 : decode cX10_plain 26 = .ok (.iaload, 1) := by decide +kernel
theorem dX10_plain_27 : decode cX10_plain 27 = .ok (.putfield 160, 3) := by decide +kernel
theorem dX10_plain_30 : decode cX10_plain 30 = .ok (.aload_n 0, 1) := by decide +kernel
theorem dX10_plain_31 : decode cX10_plain 31 = .ok (.aload_n 0, 1) := by decide +kernel
theorem dX10_plain_32 : decode cX10_plain 32 = .ok (.getfield 52, 3) := by decide +kernel
theorem dX10_plain_35 : decode cX10_plain 35 = .ok (.iconst 0, 1) := by decide +kernel
theorem dX10_plain_36 : decode cX10_plain 36 = .ok (.iaload, 1) := by decide +kernel
theorem dX10_plain_37 : decode cX10_plain 37 = .ok (.putfield 163, 3) := by decide +kernel
theorem dX10_plain_40 : decode cX10_plain 40 = .ok (.aload_n 0, 1) := by decide +kernel
theorem dX10_plain_41 : decode cX10_plain 41 = .ok (.iconst 0, 1) := by decide +kernel
theorem dX10_plain_42 : decode cX10_plain 42 = .ok (.putfield 166, 3) := by decide +kernel
theorem dX10_plain_45 : decode cX10_plain 45 = .ok (.aload_n 0, 1) := by decide +kernel
theorem dX10_plain_46 : decode cX10_plain 46 = .ok (.bipush (-4), 2) := by decide +kernel
theorem dX10_plain_48 : decode cX10_plain 48 = .ok (.putfield 169, 3) := by decide +kernel
theorem dX10_plain_51 : decode cX10_plain 51 = .ok (.return_, 1) := by decide +kernel
theorem dX10_lay_0 : decode cX10_lay 0 = .ok (.aload_n 0, 1) := by decide +kernel
theorem dX10_lay_1 : decode cX10_lay 1 = .ok (.invokevirtual 145, 3) := by decide +kernel
theorem dX10_lay_4 : decode cX10_lay 4 = .ok (.bipush (-4), 2) := by decide +kernel
theorem dX10_lay_6 : decode cX10_lay 6 = .ok (.if_icmp .ne 12, 3) := by decide +kernel
theorem dX10_lay_9 : decode cX10_lay 9 = .ok (.aload_n 0, 1) := by decide +kernel
theorem dX10_lay_10 : decode cX10_lay 10 = .ok (.getfield 16, 3) := by decide +kernel
theorem dX10_lay_13 : decode cX10_lay 13 = .ok (.iconst 1, 1) := by decide +kernel
theorem dX10_lay_14 : decode cX10_lay 14 = .ok (.iaload, 1) := by decide +kernel
theorem dX10_lay_15 : decode cX10_lay 15 = .ok (.ifCond .ne 6, 3) := by decide +kernel
theorem dX10_lay_18 : decode cX10_lay 18 = .ok (.bipush (-2), 2) := by decide +kernel
theorem dX10_lay_20 : decode cX10_lay 20 = .ok (.ireturn, 1) := by decide +kernel
theorem dX10_lay_21 : decode cX10_lay 21 = .ok (.iconst 0, 1) := by decide +kernel
theorem dX10_lay_22 : decode cX10_lay 22 = .ok (.istore_n 1, 1) := by decide +kernel
theorem dX10_lay_23 : decode cX10_lay 23 = .ok (.iload_n 1, 1) := by decide +kernel
theorem dX10_lay_24 : decode cX10_lay 24 = .ok (.bipush 10, 2) := by decide +kernel
theorem dX10_lay_26 : decode cX10_lay 26 = .ok (.if_icmp .ge 24, 3) := by decide +kernel
theorem dX10_lay_29 : decode cX10_lay 29 = .ok (.aload_n 0, 1) := by decide +kernel
theorem dX10_lay_30 : decode cX10_lay 30 = .ok (.getfield 13, 3) := by decide +kernel
theorem dX10_lay_33 : decode cX10_lay 33 = .ok (.iload_n 1, 1) := by decide +kernel
theorem dX10_lay_34 : decode cX10_lay 34 = .ok (.aload_n 0, 1) := by decide +kernel
theorem dX10_lay_35 : decode cX10_lay 35 = .ok (.getfield 13, 3) := by decide +kernel
theorem dX10_lay_38 : decode cX10_lay 38 = .ok (.bipush 10, 2) := by decide +kernel
theorem dX10_lay_40 : decode cX10_lay 40 = .ok (.iload_n 1, 1) := by decide +kernel
theorem dX10_lay_41 : decode cX10_lay 41 = .ok (.iadd, 1) := by decide +kernel
theorem dX10_lay_42 : decode cX10_lay 42 = .ok (.iaload, 1) := by decide +kernel
theorem dX10_lay_43 : decode cX10_lay 43 = .ok (.iastore, 1) := by decide +kernel
theorem dX10_lay_44 : decode cX10_lay 44 = .ok (.iinc 1 1, 3) := by decide +kernel
theorem dX10_lay_47 : decode cX10_lay 47 = .ok (.goto (-24), 3) := by decide +kernel
theorem dX10_lay_50 : decode cX10_lay 50 = .ok (.aload_n 0, 1) := by decide +kernel
theorem dX10_lay_51 : decode cX10_lay 51 = .ok (.getfield 16, 3) := by decide +kernel
theorem dX10_lay_54 : decode cX10_lay 54 = .ok (.iconst 0, 1) := by decide +kernel
theorem dX10_lay_55 : decode cX10_lay 55 = .ok (.aload_n 0, 1) := by decide +kernel
theorem dX10_lay_56 : decode cX10_lay 56 = .ok (.getfield 16, 3) := by decide +kernel
theorem dX10_lay_59 : decode cX10_lay 59 = .ok (.iconst 1, 1) := by decide +kernel
theorem dX10_lay_60 : decode cX10_lay 60 = .ok (.iaload, 1) := by decide +kernel
theorem dX10_lay_61 : decode cX10_lay 61 = .ok (.iastore, 1) := by decide +kernel
theorem dX10_lay_62 : decode cX10_lay 62 = .ok (.iconst 0, 1) := by decide +kernel
theorem dX10_lay_63 : decode cX10_lay 63 = .ok (.istore_n 1, 1) := by decide +kernel
theorem dX10_lay_64 : decode cX10_lay 64 = .ok (.iload_n 1, 1) := by decide +kernel
theorem dX10_lay_65 : decode cX10_lay 65 = .ok (.bipush 6, 2) := by decide +kernel
theorem dX10_lay_67 : decode cX10_lay 67 = .ok (.if_icmp .ge 114, 3) := by decide +kernel
theorem dX10_lay_70 : decode cX10_lay 70 = .ok (.aload_n 0, 1) := by decide +kernel
theorem dX10_lay_71 : decode cX10_lay 71 = .ok (.getfield 19, 3) := by decide +kernel
theorem dX10_lay_74 : decode cX10_lay 74 = .ok (.iload_n 1, 1) := by decide +kernel
theorem dX10_lay_75 : decode cX10_lay 75 = .ok (.aload_n 0, 1) := by decide +kernel
theorem dX10_lay_76 : decode cX10_lay 76 = .ok (.getfield 19, 3) := by decide +kernel
theorem dX10_lay_79 : decode cX10_lay 79 = .ok (.bipush 6, 2) := by decide +kernel
theorem dX10_lay_81 : decode cX10_lay 81 = .ok (.iload_n 1, 1) := by decide +kernel
theorem dX10_lay_82 : decode cX10_lay 82 = .ok (.iadd, 1) := by decide +kernel
theorem dX10_lay_83 : decode cX10_lay 83 = .ok (.iaload, 1) := by decide +kernel
theorem dX10_lay_84 : decode cX10_lay 84 = .ok (.iastore, 1) := by decide +kernel
theorem dX10_lay_85 : decode cX10_lay 85 = .ok (.aload_n 0, 1) := by decide +kernel
theorem dX10_lay_86 : decode cX10_lay 86 = .ok (.getfield 22, 3) := by decide +kernel
theorem dX10_lay_89 : decode cX10_lay 89 = .ok (.iload_n 1, 1) := by decide +kernel
theorem dX10_lay_90 : decode cX10_lay 90 = .ok (.aload_n 0, 1) := by decide +kernel
theorem dX10_lay_91 : decode cX10_lay 91 = .ok (.getfield 22, 3) := by decide +kernel
theorem dX10_lay_94 : decode cX10_lay 94 = .ok (.bipush 6, 2) := by decide +kernel
theorem dX10_lay_96 : decode cX10_lay 96 = .ok (.iload_n 1, 1) := by decide +kernel
theorem dX10_lay_97 : decode cX10_lay 97 = .ok (.iadd, 1) := by decide +kernel
theorem dX10_lay_98 : decode cX10_lay 98 = .ok (.iaload, 1) := by decide +kernel
theorem dX10_lay_99 : decode cX10_lay 99 = .ok (.iastore, 1) := by decide +kernel
theorem dX10_lay_100 : decode cX10_lay 100 = .ok (.aload_n 0, 1) := by decide +kernel
theorem dX10_lay_101 : decode cX10_lay 101 = .ok (.getfield 25, 3) := by decide +kernel
theorem dX10_lay_104 : decode cX10_lay 104 = .ok (.iload_n 1, 1) := by decide +kernel
theorem dX10_lay_105 : decode cX10_lay 105 = .ok (.aload_n 0, 1) := by decide +kernel
theorem dX10_lay_106 : decode cX10_lay 106 = .ok (.getfield 25, 3) := by decide +kernel
theorem dX10_lay_109 : decode cX10_lay 109 = .ok (.bipush 6, 2) := by decide +kernel
theorem dX10_lay_111 : decode cX10_lay 111 = .ok (.iload_n 1, 1) := by decide +kernel
theorem dX10_lay_112 : decode cX10_lay 112 = .ok (.iadd, 1) := by decide +kernel
theorem dX10_lay_113 : decode cX10_lay 113 = .ok (.iaload, 1) := by decide +kernel
theorem dX10_lay_114 : decode cX10_lay 114 = .ok (.iastore, 1) := by decide +kernel
theorem dX10_lay_115 : decode cX10_lay 115 = .ok (.aload_n 0, 1) := by decide +kernel
theorem dX10_lay_116 : decode cX10_lay 116 = .ok (.getfield 28, 3) := by decide +kernel
theorem dX10_lay_119 : decode cX10_lay 119 = .ok (.iload_n 1, 1) := by decide +kernel
theorem dX10_lay_120 : decode cX10_lay 120 = .ok (.aload_n 0, 1) := by decide +kernel
theorem dX10_lay_121 : decode cX10_lay 121 = .ok (.getfield 28, 3) := by decide +kernel
theorem dX10_lay_124 : decode cX10_lay 124 = .ok (.bipush 6, 2) := by decide +kernel
theorem dX10_lay_126 : decode cX10_lay 126 = .ok (.iload_n 1, 1) := by decide +kernel
theorem dX10_lay_127 : decode cX10_lay 127 = .ok (.iadd, 1) := by decide +kernel
theorem dX10_lay_128 : decode cX10_lay 128 = .ok (.iaload, 1) := by decide +kernel
theorem dX10_lay_129 : decode cX10_lay 129 = .ok (.iastore, 1) := by decide +kernel
theorem dX10_lay_130 : decode cX10_lay 130 = .ok (.aload_n 0, 1) := by decide +kernel
theorem dX10_lay_131 : decode cX10_lay 131 = .ok (.getfield 31, 3) := by decide +kernel
theorem dX10_lay_134 : decode cX10_lay 134 = .ok (.iload_n 1, 1) := by decide +kernel
theorem dX10_lay_135 : decode cX10_lay 135 = .ok (.aload_n 0, 1) := by decide +kernel
theorem dX10_lay_136 : decode cX10_lay 136 = .ok (.getfield 31, 3) := by decide +kernel
theorem dX10_lay_139 : decode cX10_lay 139 = .ok (.bipush 6, 2) := by decide +kernel
theorem dX10_lay_141 : decode cX10_lay 141 = .ok (.iload_n 1, 1) := by decide +kernel
theorem dX10_lay_142 : decode cX10_lay 142 = .ok (.iadd, 1) := by decide +kernel
theorem dX10_lay_143 : decode cX10_lay 143 = .ok (.iaload, 1) := by decide +kernel
theorem dX10_lay_144 : decode cX10_lay 144 = .ok (.iastore, 1) := by decide +kernel
theorem dX10_lay_145 : decode cX10_lay 145 = .ok (.aload_n 0, 1) := by decide +kernel
theorem dX10_lay_146 : decode cX10_lay 146 = .ok (.getfield 34, 3) := by decide +kernel
theorem dX10_lay_149 : decode cX10_lay 149 = .ok (.iload_n 1, 1) := by decide +kernel
theorem dX10_lay_150 : decode cX10_lay 150 = .ok (.aload_n 0, 1) := by decide +kernel
theorem dX10_lay_151 : decode cX10_lay 151 = .ok (.getfield 34, 3) := by decide +kernel
theorem dX10_lay_154 : decode cX10_lay 154 = .ok (.bipush 6, 2) := by decide +kernel
theorem dX10_lay_156 : decode cX10_lay 156 = .ok (.iload_n 1, 1) := by decide +kernel
theorem dX10_lay_157 : decode cX10_lay 157 = .ok (.iadd, 1) := by decide +kernel
theorem dX10_lay_158 : decode cX10_lay 158 = .ok (.iaload, 1) := by decide +kernel
theorem dX10_lay_159 : decode cX10_lay 159 = .ok (.iastore, 1) := by decide +kernel
theorem dX10_lay_160 : decode cX10_lay 160 = .ok (.aload_n 0, 1) := by decide +kernel
theorem dX10_lay_161 : decode cX10_lay 161 = .ok (.getfield 37, 3) := by decide +kernel
theorem dX10_lay_164 : decode cX10_lay 164 = .ok (.iload_n 1, 1) := by decide +kernel
theorem dX10_lay_165 : decode cX10_lay 165 = .ok (.aload_n 0, 1) := by decide +kernel
theorem dX10_lay_166 : decode cX10_lay 166 = .ok (.getfield 37, 3) := by decide +kernel
theorem dX10_lay_169 : decode cX10_lay 169 = .ok (.bipush 6, 2) := by decide +kernel
theorem dX10_lay_171 : decode cX10_lay 171 = .ok (.iload_n 1, 1) := by decide +kernel
theorem dX10_lay_172 : decode cX10_lay 172 = .ok (.iadd, 1) := by decide +kernel
theorem dX10_lay_173 : decode cX10_lay 173 = .ok (.iaload, 1) := by decide +kernel
theorem dX10_lay_174 : decode cX10_lay 174 = .ok (.iastore, 1) := by decide +kernel
theorem dX10_lay_175 : decode cX10_lay 175 = .ok (.iinc 1 1, 3) := by decide +kernel
theorem dX10_lay_178 : decode cX10_lay 178 = .ok (.goto (-114), 3) := by decide +kernel
theorem dX10_lay_181 : decode cX10_lay 181 = .ok (.iconst 0, 1) := by decide +kernel
theorem dX10_lay_182 : decode cX10_lay 182 = .ok (.istore_n 1, 1) := by decide +kernel
theorem dX10_lay_183 : decode cX10_lay 183 = .ok (.iload_n 1, 1) := by decide +kernel
theorem dX10_lay_184 : decode cX10_lay 184 = .ok (.bipush 18, 2) := by decide +kernel
theorem dX10_lay_186 : decode cX10_lay 186 = .ok (.if_icmp .ge 39, 3) := by decide +kernel
theorem dX10_lay_189 : decode cX10_lay 189 = .ok (.aload_n 0, 1) := by decide +kernel
theorem dX10_lay_190 : decode cX10_lay 190 = .ok (.getfield 40, 3) := by decide +kernel
theorem dX10_lay_193 : decode cX10_lay 193 = .ok (.iload_n 1, 1) := by decide +kernel
theorem dX10_lay_194 : decode cX10_lay 194 = .ok (.aload_n 0, 1) := by decide +kernel
theorem dX10_lay_195 : decode cX10_lay 195 = .ok (.getfield 40, 3) := by decide +kernel
theorem dX10_lay_198 : decode cX10_lay 198 = .ok (.bipush 18, 2) := by decide +kernel
theorem dX10_lay_200 : decode cX10_lay 200 = .ok (.iload_n 1, 1) := by decide +kernel
theorem dX10_lay_201 : decode cX10_lay 201 = .ok (.iadd, 1) := by decide +kernel
theorem dX10_lay_202 : decode cX10_lay 202 = .ok (.iaload, 1) := by decide +kernel
theorem dX10_lay_203 : decode cX10_lay 203 = .ok (.iastore, 1) := by decide +kernel
theorem dX10_lay_204 : decode cX10_lay 204 = .ok (.aload_n 0, 1) := by decide +kernel
theorem dX10_lay_205 : decode cX10_lay 205 = .ok (.getfield 43, 3) := by decide +kernel
theorem dX10_lay_208 : decode cX10_lay 208 = .ok (.iload_n 1, 1) := by decide +kernel
theorem dX10_lay_209 : decode cX10_lay 209 = .ok (.aload_n 0, 1) := by decide +kernel
theorem dX10_lay_210 : decode cX10_lay 210 = .ok (.getfield 43, 3) := by decide +kernel
theorem dX10_lay_213 : decode cX10_lay 213 = .ok (.bipush 18, 2) := by decide +kernel
theorem dX10_lay_215 : decode cX10_lay 215 = .ok (.iload_n 1, 1) := by decide +kernel
theorem dX10_lay_216 : decode cX10_lay 216 = .ok (.iadd, 1) := by decide +kernel
theorem dX10_lay_217 : decode cX10_lay 217 = .ok (.iaload, 1) := by decide +kernel
theorem dX10_lay_218 : decode cX10_lay 218 = .ok (.iastore, 1) := by decide +kernel
theorem dX10_lay_219 : decode cX10_lay 219 = .ok (.iinc 1 1, 3) := by decide +kernel
theorem dX10_lay_222 : decode cX10_lay 222 = .ok (.goto (-39), 3) := by decide +kernel
theorem dX10_lay_225 : decode cX10_lay 225 = .ok (.iconst 0, 1) := by decide +kernel
theorem dX10_lay_226 : decode cX10_lay 226 = .ok (.istore_n 1, 1) := by decide +kernel
theorem dX10_lay_227 : decode cX10_lay 227 = .ok (.iload_n 1, 1) := by decide +kernel
theorem dX10_lay_228 : decode cX10_lay 228 = .ok (.bipush 8, 2) := by decide +kernel
theorem dX10_lay_230 : decode cX10_lay 230 = .ok (.if_icmp .ge 16, 3) := by decide +kernel
theorem dX10_lay_233 : decode cX10_lay 233 = .ok (.aload_n 0, 1) := by decide +kernel
theorem dX10_lay_234 : decode cX10_lay 234 = .ok (.getfield 55, 3) := by decide +kernel
theorem dX10_lay_237 : decode cX10_lay 237 = .ok (.iload_n 1, 1) := by decide +kernel
theorem dX10_lay_238 : decode cX10_lay 238 = .ok (.iconst 0, 1) := by decide +kernel
theorem dX10_lay_239 : decode cX10_lay 239 = .ok (.iastore, 1) := by decide +kernel
theorem dX10_lay_240 : decode cX10_lay 240 = .ok (.iinc 1 1, 3) := by decide +kernel
theorem dX10_lay_243 : decode cX10_lay 243 = .ok (.goto (-16), 3) := by decide +kernel
theorem dX10_lay_246 : decode cX10_lay 246 = .ok (.aload_n 0, 1) := by decide +kernel
theorem dX10_lay_247 : decode cX10_lay 247 = .ok (.getfield 52, 3) := by decide +kernel
theorem dX10_lay_250 : decode cX10_lay 250 = .ok (.iconst 0, 1) := by decide +kernel
theorem dX10_lay_251 : decode cX10_lay 251 = .ok (.iconst 0, 1) := by decide +kernel
theorem dX10_lay_252 : decode cX10_lay 252 = .ok (.iastore, 1) := by decide +kernel
theorem dX10_lay_253 : decode cX10_lay 253 = .ok (.aload_n 0, 1) := by decide +kernel
theorem dX10_lay_254 : decode cX10_lay 254 = .ok (.iconst 0, 1) := by decide +kernel
theorem dX10_lay_255 : decode cX10_lay 255 = .ok (.putfield 172, 3) := by decide +kernel
theorem dX10_lay_258 : decode cX10_lay 258 = .ok (.aload_n 0, 1) := by decide +kernel
theorem dX10_lay_259 : decode cX10_lay 259 = .ok (.invokevirtual 90, 3) := by decide +kernel
theorem dX10_lay_262 : decode cX10_lay 262 = .ok (.aload_n 0, 1) := by decide +kernel
theorem dX10_lay_263 : decode cX10_lay 263 = .ok (.getfield 148, 3) := by decide +kernel
theorem dX10_lay_266 : decode cX10_lay 266 = .ok (.ireturn, 1) := by decide +kernel
theorem dX10_isGiver_0 : decode cX10_isGiver 0 = .ok (.iload_n 1, 1) := by decide +kernel
theorem dX10_isGiver_1 : decode cX10_isGiver 1 = .ok (.i2l, 1) := by decide +kernel
theorem dX10_isGiver_2 : decode cX10_isGiver 2 = .ok (.lconst 0, 1) := by decide +kernel
theorem dX10_isGiver_3 : decode cX10_isGiver 3 = .ok (.aload_n 0, 1) := by decide +kernel
theorem dX10_isGiver_4 : decode cX10_isGiver 4 = .ok (.getfield 148, 3) := by decide +kernel
theorem dX10_isGiver_7 : decode cX10_isGiver 7 = .ok (.iconst 1, 1) := by decide +kernel
theorem dX10_isGiver_8 : decode cX10_isGiver 8 = .ok (.isub, 1) := by decide +kernel
theorem dX10_isGiver_9 : decode cX10_isGiver 9 = .ok (.i2l, 1) := by decide +kernel
theorem dX10_isGiver_10 : decode cX10_isGiver 10 = .ok (.invokestatic 95, 3) := by decide +kernel
theorem dX10_isGiver_13 : decode cX10_isGiver 13 = .ok (.ireturn, 1) := by decide +kernel
theorem dX10_dayOf_0 : decode cX10_dayOf 0 = .ok (.aload_n 0, 1) := by decide +kernel
theorem dX10_dayOf_1 : decode cX10_dayOf 1 = .ok (.getfield 22, 3) := by decide +kernel
theorem dX10_dayOf_4 : decode cX10_dayOf 4 = .ok (.aload_n 0, 1) := by decide +kernel
theorem dX10_dayOf_5 : decode cX10_dayOf 5 = .ok (.getfield 46, 3) := by decide +kernel
theorem dX10_dayOf_8 : decode cX10_dayOf 8 = .ok (.iload_n 1, 1) := by decide +kernel
theorem dX10_dayOf_9 : decode cX10_dayOf 9 = .ok (.iaload, 1) := by decide +kernel
theorem dX10_dayOf_10 : decode cX10_dayOf 10 = .ok (.iaload, 1) := by decide +kernel
theorem dX10_dayOf_11 : decode cX10_dayOf 11 = .ok (.iconst 4, 1) := by decide +kernel
theorem dX10_dayOf_12 : decode cX10_dayOf 12 = .ok (.if_icmp .ne 10, 3) := by decide +kernel
theorem dX10_dayOf_15 : decode cX10_dayOf 15 = .ok (.aload_n 0, 1) := by decide +kernel
theorem dX10_dayOf_16 : decode cX10_dayOf 16 = .ok (.getfield 157, 3) := by decide +kernel
theorem dX10_dayOf_19 : decode cX10_dayOf 19 = .ok (.goto 9, 3) := by decide +kernel
theorem dX10_dayOf_22 : decode cX10_dayOf 22 = .ok (.aload_n 0, 1) := by decide +kernel
theorem dX10_dayOf_23 : decode cX10_dayOf 23 = .ok (.getfield 49, 3) := by decide +kernel
theorem dX10_dayOf_26 : decode cX10_dayOf 26 = .ok (.iload_n 1, 1) := by decide +kernel
theorem dX10_dayOf_27 : decode cX10_dayOf 27 = .ok (.iaload, 1) := by decide +kernel
theorem dX10_dayOf_28 : decode cX10_dayOf 28 = .ok (.ireturn, 1) := by decide +kernel
theorem dX10_layOrder_0 : decode cX10_layOrder 0 = .ok (.aload_n 0, 1) := by decide +kernel
theorem dX10_layOrder_1 : decode cX10_layOrder 1 = .ok (.iconst 0, 1) := by decide +kernel
theorem dX10_layOrder_2 : decode cX10_layOrder 2 = .ok (.putfield 175, 3) := by decide +kernel
theorem dX10_layOrder_5 : decode cX10_layOrder 5 = .ok (.iconst 0, 1) := by decide +kernel
theorem dX10_layOrder_6 : decode cX10_layOrder 6 = .ok (.istore_n 1, 1) := by decide +kernel
theorem dX10_layOrder_7 : decode cX10_layOrder 7 = .ok (.iload_n 1, 1) := by decide +kernel
theorem dX10_layOrder_8 : decode cX10_layOrder 8 = .ok (.aload_n 0, 1) := by decide +kernel
theorem dX10_layOrder_9 : decode cX10_layOrder 9 = .ok (.getfield 157, 3) := by decide +kernel
theorem dX10_layOrder_12 : decode cX10_layOrder 12 = .ok (.if_icmp .gt 54, 3) := by decide +kernel
theorem dX10_layOrder_15 : decode cX10_layOrder 15 = .ok (.iconst 0, 1) := by decide +kernel
theorem dX10_layOrder_16 : decode cX10_layOrder 16 = .ok (.istore_n 2, 1) := by decide +kernel
theorem dX10_layOrder_17 : decode cX10_layOrder 17 = .ok (.iload_n 2, 1) := by decide +kernel
theorem dX10_layOrder_18 : decode cX10_layOrder 18 = .ok (.aload_n 0, 1) := by decide +kernel
theorem dX10_layOrder_19 : decode cX10_layOrder 19 = .ok (.getfield 148, 3) := by decide +kernel
theorem dX10_layOrder_22 : decode cX10_layOrder 22 = .ok (.if_icmp .ge 38, 3) := by decide +kernel
theorem dX10_layOrder_25 : decode cX10_layOrder 25 = .ok (.aload_n 0, 1) := by decide +kernel
theorem dX10_layOrder_26 : decode cX10_layOrder 26 = .ok (.iload_n 2, 1) := by decide +kernel
theorem dX10_layOrder_27 : decode cX10_layOrder 27 = .ok (.invokevirtual 178, 3) := by decide +kernel
theorem dX10_layOrder_30 : decode cX10_layOrder 30 = .ok (.iload_n 1, 1) := by decide +kernel
theorem dX10_layOrder_31 : decode cX10_layOrder 31 = .ok (.if_icmp .ne 23, 3) := by decide +kernel
theorem dX10_layOrder_34 : decode cX10_layOrder 34 = .ok (.aload_n 0, 1) := by decide +kernel
theorem dX10_layOrder_35 : decode cX10_layOrder 35 = .ok (.getfield 61, 3) := by decide +kernel
theorem dX10_layOrder_38 : decode cX10_layOrder 38 = .ok (.aload_n 0, 1) := by decide +kernel
theorem dX10_layOrder_39 : decode cX10_layOrder 39 = .ok (.getfield 175, 3) := by decide +kernel
theorem dX10_layOrder_42 : decode cX10_layOrder 42 = .ok (.iload_n 2, 1) := by decide +kernel
theorem dX10_layOrder_43 : decode cX10_layOrder 43 = .ok (.iastore, 1) := by decide +kernel
theorem dX10_layOrder_44 : decode cX10_layOrder 44 = .ok (.aload_n 0, 1) := by decide +kernel
theorem dX10_layOrder_45 : decode cX10_layOrder 45 = .ok (.dup, 1) := by decide +kernel
theorem dX10_layOrder_46 : decode cX10_layOrder 46 = .ok (.getfield 175, 3) := by decide +kernel
theorem dX10_layOrder_49 : decode cX10_layOrder 49 = .ok (.iconst 1, 1) := by decide +kernel
theorem dX10_layOrder_50 : decode cX10_layOrder 50 = .ok (.iadd, 1) := by decide +kernel
theorem dX10_layOrder_51 : decode cX10_layOrder 51 = .ok (.putfield 175, 3) := by decide +kernel
theorem dX10_layOrder_54 : decode cX10_layOrder 54 = .ok (.iinc 2 1, 3) := by decide +kernel
theorem dX10_layOrder_57 : decode cX10_layOrder 57 = .ok (.goto (-40), 3) := by decide +kernel
theorem dX10_layOrder_60 : decode cX10_layOrder 60 = .ok (.iinc 1 1, 3) := by decide +kernel
theorem dX10_layOrder_63 : decode cX10_layOrder 63 = .ok (.goto (-56), 3) := by decide +kernel
theorem dX10_layOrder_66 : decode cX10_layOrder 66 = .ok (.return_, 1) := by decide +kernel
theorem dX10_placeOf_0 : decode cX10_placeOf 0 = .ok (.iconst 0, 1) := by decide +kernel
theorem dX10_placeOf_1 : decode cX10_placeOf 1 = .ok (.istore_n 2, 1) := by decide +kernel
theorem dX10_placeOf_2 : decode cX10_placeOf 2 = .ok (.iload_n 2, 1) := by decide +kernel
theorem dX10_placeOf_3 : decode cX10_placeOf 3 = .ok (.aload_n 0, 1) := by decide +kernel
theorem dX10_placeOf_4 : decode cX10_placeOf 4 = .ok (.getfield 175, 3) := by decide +kernel
theorem dX10_placeOf_7 : decode cX10_placeOf 7 = .ok (.if_icmp .ge 21, 3) := by decide +kernel
theorem dX10_placeOf_10 : decode cX10_placeOf 10 = .ok (.aload_n 0, 1) := by decide +kernel
theorem dX10_placeOf_11 : decode cX10_placeOf 11 = .ok (.getfield 61, 3) := by decide +kernel
theorem dX10_placeOf_14 : decode cX10_placeOf 14 = .ok (.iload_n 2, 1) := by decide +kernel
theorem dX10_placeOf_15 : decode cX10_placeOf 15 = .ok (.iaload, 1) := by decide +kernel
theorem dX10_placeOf_16 : decode cX10_placeOf 16 = .ok (.iload_n 1, 1) := by decide +kernel
theorem dX10_placeOf_17 : decode cX10_placeOf 17 = .ok (.if_icmp .ne 5, 3) := by decide +kernel
theorem dX10_placeOf_20 : decode cX10_placeOf 20 = .ok (.iload_n 2, 1) := by decide +kernel
theorem dX10_placeOf_21 : decode cX10_placeOf 21 = .ok (.ireturn, 1) := by decide +kernel
theorem dX10_placeOf_22 : decode cX10_placeOf 22 = .ok (.iinc 2 1, 3) := by decide +kernel
theorem dX10_placeOf_25 : decode cX10_placeOf 25 = .ok (.goto (-23), 3) := by decide +kernel
theorem dX10_placeOf_28 : decode cX10_placeOf 28 = .ok (.bipush (-4), 2) := by decide +kernel
theorem dX10_placeOf_30 : decode cX10_placeOf 30 = .ok (.ireturn, 1) := by decide +kernel
theorem dX10_giver_0 : decode cX10_giver 0 = .ok (.aload_n 0, 1) := by decide +kernel
theorem dX10_giver_1 : decode cX10_giver 1 = .ok (.iload_n 1, 1) := by decide +kernel
theorem dX10_giver_2 : decode cX10_giver 2 = .ok (.invokevirtual 181, 3) := by decide +kernel
theorem dX10_giver_5 : decode cX10_giver 5 = .ok (.ifCond .eq 15, 3) := by decide +kernel
theorem dX10_giver_8 : decode cX10_giver 8 = .ok (.iload_n 2, 1) := by decide +kernel
theorem dX10_giver_9 : decode cX10_giver 9 = .ok (.i2l, 1) := by decide +kernel
theorem dX10_giver_10 : decode cX10_giver 10 = .ok (.lconst 0, 1) := by decide +kernel
theorem dX10_giver_11 : decode cX10_giver 11 = .ok (.ldc2_w 116, 3) := by decide +kernel
theorem dX10_giver_14 : decode cX10_giver 14 = .ok (.invokestatic 95, 3) := by decide +kernel
theorem dX10_giver_17 : decode cX10_giver 17 = .ok (.ifCond .ne 5, 3) := by decide +kernel
theorem dX10_giver_20 : decode cX10_giver 20 = .ok (.iconst (-1), 1) := by decide +kernel
theorem dX10_giver_21 : decode cX10_giver 21 = .ok (.ireturn, 1) := by decide +kernel
theorem dX10_giver_22 : decode cX10_giver 22 = .ok (.aload_n 0, 1) := by decide +kernel
theorem dX10_giver_23 : decode cX10_giver 23 = .ok (.invokevirtual 151, 3) := by decide +kernel
theorem dX10_giver_26 : decode cX10_giver 26 = .ok (.aload_n 0, 1) := by decide +kernel
theorem dX10_giver_27 : decode cX10_giver 27 = .ok (.invokevirtual 184, 3) := by decide +kernel
theorem dX10_giver_30 : decode cX10_giver 30 = .ok (.iload_n 2, 1) := by decide +kernel
theorem dX10_giver_31 : decode cX10_giver 31 = .ok (.iconst 2, 1) := by decide +kernel
theorem dX10_giver_32 : decode cX10_giver 32 = .ok (.if_icmp .ge 28, 3) := by decide +kernel
theorem dX10_giver_35 : decode cX10_giver 35 = .ok (.iload_n 2, 1) := by decide +kernel
theorem dX10_giver_36 : decode cX10_giver 36 = .ok (.ifCond .ne 12, 3) := by decide +kernel
theorem dX10_giver_39 : decode cX10_giver 39 = .ok (.aload_n 0, 1) := by decide +kernel
theorem dX10_giver_40 : decode cX10_giver 40 = .ok (.getfield 46, 3) := by decide +kernel
theorem dX10_giver_43 : decode cX10_giver 43 = .ok (.iload_n 1, 1) := by decide +kernel
theorem dX10_giver_44 : decode cX10_giver 44 = .ok (.iaload, 1) := by decide +kernel
theorem dX10_giver_45 : decode cX10_giver 45 = .ok (.goto 14, 3) := by decide +kernel
theorem dX10_giver_48 : decode cX10_giver 48 = .ok (.aload_n 0, 1) := by decide +kernel
theorem dX10_giver_49 : decode cX10_giver 49 = .ok (.getfield 22, 3) := by decide +kernel
theorem dX10_giver_52 : decode cX10_giver 52 = .ok (.aload_n 0, 1) := by decide +kernel
theorem dX10_giver_53 : decode cX10_giver 53 = .ok (.getfield 46, 3) := by decide +kernel
theorem dX10_giver_56 : decode cX10_giver 56 = .ok (.iload_n 1, 1) := by decide +kernel
theorem dX10_giver_57 : decode cX10_giver 57 = .ok (.iaload, 1) := by decide +kernel
theorem dX10_giver_58 : decode cX10_giver 58 = .ok (.iaload, 1) := by decide +kernel
theorem dX10_giver_59 : decode cX10_giver 59 = .ok (.ireturn, 1) := by decide +kernel
theorem dX10_giver_60 : decode cX10_giver 60 = .ok (.aload_n 0, 1) := by decide +kernel
theorem dX10_giver_61 : decode cX10_giver 61 = .ok (.iload_n 1, 1) := by decide +kernel
theorem dX10_giver_62 : decode cX10_giver 62 = .ok (.invokevirtual 187, 3) := by decide +kernel
theorem dX10_giver_65 : decode cX10_giver 65 = .ok (.bipush (-4), 2) := by decide +kernel
theorem dX10_giver_67 : decode cX10_giver 67 = .ok (.if_icmp .ne 8, 3) := by decide +kernel
theorem dX10_giver_70 : decode cX10_giver 70 = .ok (.bipush (-4), 2) := by decide +kernel
theorem dX10_giver_72 : decode cX10_giver 72 = .ok (.goto 21, 3) := by decide +kernel
theorem dX10_giver_75 : decode cX10_giver 75 = .ok (.iload_n 2, 1) := by decide +kernel
theorem dX10_giver_76 : decode cX10_giver 76 = .ok (.iconst 2, 1) := by decide +kernel
theorem dX10_giver_77 : decode cX10_giver 77 = .ok (.if_icmp .ne 11, 3) := by decide +kernel
theorem dX10_giver_80 : decode cX10_giver 80 = .ok (.aload_n 0, 1) := by decide +kernel
theorem dX10_giver_81 : decode cX10_giver 81 = .ok (.iload_n 1, 1) := by decide +kernel
theorem dX10_giver_82 : decode cX10_giver 82 = .ok (.invokevirtual 178, 3) := by decide +kernel
theorem dX10_giver_85 : decode cX10_giver 85 = .ok (.goto 8, 3) := by decide +kernel
theorem dX10_giver_88 : decode cX10_giver 88 = .ok (.aload_n 0, 1) := by decide +kernel
theorem dX10_giver_89 : decode cX10_giver 89 = .ok (.iload_n 1, 1) := by decide +kernel
theorem dX10_giver_90 : decode cX10_giver 90 = .ok (.invokevirtual 187, 3) := by decide +kernel
theorem dX10_giver_93 : decode cX10_giver 93 = .ok (.ireturn, 1) := by decide +kernel
theorem dX10_show_0 : decode cX10_show 0 = .ok (.iload_n 1, 1) := by decide +kernel
theorem dX10_show_1 : decode cX10_show 1 = .ok (.i2l, 1) := by decide +kernel
theorem dX10_show_2 : decode cX10_show 2 = .ok (.lconst 0, 1) := by decide +kernel
theorem dX10_show_3 : decode cX10_show 3 = .ok (.ldc2_w 190, 3) := by decide +kernel
theorem dX10_show_6 : decode cX10_show 6 = .ok (.invokestatic 95, 3) := by decide +kernel
theorem dX10_show_9 : decode cX10_show 9 = .ok (.ifCond .ne 5, 3) := by decide +kernel
theorem dX10_show_12 : decode cX10_show 12 = .ok (.iconst (-1), 1) := by decide +kernel
theorem dX10_show_13 : decode cX10_show 13 = .ok (.ireturn, 1) := by decide +kernel
theorem dX10_show_14 : decode cX10_show 14 = .ok (.aload_n 0, 1) := by decide +kernel
theorem dX10_show_15 : decode cX10_show 15 = .ok (.getfield 52, 3) := by decide +kernel
theorem dX10_show_18 : decode cX10_show 18 = .ok (.iconst 0, 1) := by decide +kernel
theorem dX10_show_19 : decode cX10_show 19 = .ok (.iaload, 1) := by decide +kernel
theorem dX10_show_20 : decode cX10_show 20 = .ok (.istore_n 2, 1) := by decide +kernel
theorem dX10_show_21 : decode cX10_show 21 = .ok (.aload_n 0, 1) := by decide +kernel
theorem dX10_show_22 : decode cX10_show 22 = .ok (.getfield 52, 3) := by decide +kernel
theorem dX10_show_25 : decode cX10_show 25 = .ok (.iconst 0, 1) := by decide +kernel
theorem dX10_show_26 : decode cX10_show 26 = .ok (.iload_n 1, 1) := by decide +kernel
theorem dX10_show_27 : decode cX10_show 27 = .ok (.iastore, 1) := by decide +kernel
theorem dX10_show_28 : decode cX10_show 28 = .ok (.iload_n 2, 1) := by decide +kernel
theorem dX10_show_29 : decode cX10_show 29 = .ok (.ireturn, 1) := by decide +kernel
theorem dX10_lackOf_0 : decode cX10_lackOf 0 = .ok (.aload_n 0, 1) := by decide +kernel
theorem dX10_lackOf_1 : decode cX10_lackOf 1 = .ok (.getfield 163, 3) := by decide +kernel
theorem dX10_lackOf_4 : decode cX10_lackOf 4 = .ok (.ifCond .ne 7, 3) := by decide +kernel
theorem dX10_lackOf_7 : decode cX10_lackOf 7 = .ok (.iload_n 2, 1) := by decide +kernel
theorem dX10_lackOf_8 : decode cX10_lackOf 8 = .ok (.goto 21, 3) := by decide +kernel
theorem dX10_lackOf_11 : decode cX10_lackOf 11 = .ok (.aload_n 0, 1) := by decide +kernel
theorem dX10_lackOf_12 : decode cX10_lackOf 12 = .ok (.getfield 163, 3) := by decide +kernel
theorem dX10_lackOf_15 : decode cX10_lackOf 15 = .ok (.iconst 1, 1) := by decide +kernel
theorem dX10_lackOf_16 : decode cX10_lackOf 16 = .ok (.if_icmp .ne 7, 3) := by decide +kernel
theorem dX10_lackOf_19 : decode cX10_lackOf 19 = .ok (.iconst 0, 1) := by decide +kernel
theorem dX10_lackOf_20 : decode cX10_lackOf 20 = .ok (.goto 9, 3) := by decide +kernel
theorem dX10_lackOf_23 : decode cX10_lackOf 23 = .ok (.iload_n 2, 1) := by decide +kernel
theorem dX10_lackOf_24 : decode cX10_lackOf 24 = .ok (.iload_n 2, 1) := by decide +kernel
theorem dX10_lackOf_25 : decode cX10_lackOf 25 = .ok (.bipush 10, 2) := by decide +kernel
theorem dX10_lackOf_27 : decode cX10_lackOf 27 = .ok (.irem, 1) := by decide +kernel
theorem dX10_lackOf_28 : decode cX10_lackOf 28 = .ok (.isub, 1) := by decide +kernel
theorem dX10_lackOf_29 : decode cX10_lackOf 29 = .ok (.istore_n 3, 1) := by decide +kernel
theorem dX10_lackOf_30 : decode cX10_lackOf 30 = .ok (.iload_n 1, 1) := by decide +kernel
theorem dX10_lackOf_31 : decode cX10_lackOf 31 = .ok (.iload_n 3, 1) := by decide +kernel
theorem dX10_lackOf_32 : decode cX10_lackOf 32 = .ok (.if_icmp .le 9, 3) := by decide +kernel
theorem dX10_lackOf_35 : decode cX10_lackOf 35 = .ok (.iload_n 1, 1) := by decide +kernel
theorem dX10_lackOf_36 : decode cX10_lackOf 36 = .ok (.iload_n 3, 1) := by decide +kernel
theorem dX10_lackOf_37 : decode cX10_lackOf 37 = .ok (.isub, 1) := by decide +kernel
theorem dX10_lackOf_38 : decode cX10_lackOf 38 = .ok (.goto 4, 3) := by decide +kernel
theorem dX10_lackOf_41 : decode cX10_lackOf 41 = .ok (.iconst 0, 1) := by decide +kernel
theorem dX10_lackOf_42 : decode cX10_lackOf 42 = .ok (.ireturn, 1) := by decide +kernel
theorem dX10_lesser_0 : decode cX10_lesser 0 = .ok (.iload_n 0, 1) := by decide +kernel
theorem dX10_lesser_1 : decode cX10_lesser 1 = .ok (.iload_n 1, 1) := by decide +kernel
theorem dX10_lesser_2 : decode cX10_lesser 2 = .ok (.if_icmp .ge 7, 3) := by decide +kernel
theorem dX10_lesser_5 : decode cX10_lesser 5 = .ok (.iload_n 0, 1) := by decide +kernel
theorem dX10_lesser_6 : decode cX10_lesser 6 = .ok (.goto 4, 3) := by decide +kernel
theorem dX10_lesser_9 : decode cX10_lesser 9 = .ok (.iload_n 1, 1) := by decide +kernel
theorem dX10_lesser_10 : decode cX10_lesser 10 = .ok (.ireturn, 1) := by decide +kernel
theorem dX10_giftBy_0 : decode cX10_giftBy 0 = .ok (.iload_n 3, 1) := by decide +kernel
theorem dX10_giftBy_1 : decode cX10_giftBy 1 = .ok (.iload 4, 2) := by decide +kernel
theorem dX10_giftBy_3 : decode cX10_giftBy 3 = .ok (.invokestatic 192, 3) := by decide +kernel
theorem dX10_giftBy_6 : decode cX10_giftBy 6 = .ok (.istore 7, 2) := by decide +kernel
theorem dX10_giftBy_8 : decode cX10_giftBy 8 = .ok (.iload_n 1, 1) := by decide +kernel
theorem dX10_giftBy_9 : decode cX10_giftBy 9 = .ok (.tableswitch 146 0 5 #[39, 146, 59, 66, 115, 129], 39) := by decide +kernel
theorem dX10_giftBy_48 : decode cX10_giftBy 48 = .ok (.iload 6, 2) := by decide +kernel
theorem dX10_giftBy_50 : decode cX10_giftBy 50 = .ok (.iconst 1, 1) := by decide +kernel
theorem dX10_giftBy_51 : decode cX10_giftBy 51 = .ok (.if_icmp .ne 15, 3) := by decide +kernel
theorem dX10_giftBy_54 : decode cX10_giftBy 54 = .ok (.iload 5, 2) := by decide +kernel
theorem dX10_giftBy_56 : decode cX10_giftBy 56 = .ok (.iload 7, 2) := by decide +kernel
theorem dX10_giftBy_58 : decode cX10_giftBy 58 = .ok (.if_icmp .gt 8, 3) := by decide +kernel
theorem dX10_giftBy_61 : decode cX10_giftBy 61 = .ok (.iload 5, 2) := by decide +kernel
theorem dX10_giftBy_63 : decode cX10_giftBy 63 = .ok (.goto 4, 3) := by decide +kernel
theorem dX10_giftBy_66 : decode cX10_giftBy 66 = .ok (.iconst 0, 1) := by decide +kernel
theorem dX10_giftBy_67 : decode cX10_giftBy 67 = .ok (.ireturn, 1) := by decide +kernel
theorem dX10_giftBy_68 : decode cX10_giftBy 68 = .ok (.iload 7, 2) := by decide +kernel
theorem dX10_giftBy_70 : decode cX10_giftBy 70 = .ok (.iconst 1, 1) := by decide +kernel
theorem dX10_giftBy_71 : decode cX10_giftBy 71 = .ok (.iadd, 1) := by decide +kernel
theorem dX10_giftBy_72 : decode cX10_giftBy 72 = .ok (.iconst 2, 1) := by decide +kernel
theorem dX10_giftBy_73 : decode cX10_giftBy 73 = .ok (.idiv, 1) := by decide +kernel
theorem dX10_giftBy_74 : decode cX10_giftBy 74 = .ok (.ireturn, 1) := by decide +kernel
theorem dX10_giftBy_75 : decode cX10_giftBy 75 = .ok (.aload_n 0, 1) := by decide +kernel
theorem dX10_giftBy_76 : decode cX10_giftBy 76 = .ok (.iload_n 2, 1) := by decide +kernel
theorem dX10_giftBy_77 : decode cX10_giftBy 77 = .ok (.invokevirtual 178, 3) := by decide +kernel
theorem dX10_giftBy_80 : decode cX10_giftBy 80 = .ok (.aload_n 0, 1) := by decide +kernel
theorem dX10_giftBy_81 : decode cX10_giftBy 81 = .ok (.getfield 13, 3) := by decide +kernel
theorem dX10_giftBy_84 : decode cX10_giftBy 84 = .ok (.bipush 6, 2) := by decide +kernel
theorem dX10_giftBy_86 : decode cX10_giftBy 86 = .ok (.iaload, 1) := by decide +kernel
theorem dX10_giftBy_87 : decode cX10_giftBy 87 = .ok (.if_icmp .gt 21, 3) := by decide +kernel
theorem dX10_giftBy_90 : decode cX10_giftBy 90 = .ok (.iload 7, 2) := by decide +kernel
theorem dX10_giftBy_92 : decode cX10_giftBy 92 = .ok (.aload_n 0, 1) := by decide +kernel
theorem dX10_giftBy_93 : decode cX10_giftBy 93 = .ok (.getfield 160, 3) := by decide +kernel
theorem dX10_giftBy_96 : decode cX10_giftBy 96 = .ok (.iadd, 1) := by decide +kernel
theorem dX10_giftBy_97 : decode cX10_giftBy 97 = .ok (.iload 4, 2) := by decide +kernel
theorem dX10_giftBy_99 : decode cX10_giftBy 99 = .ok (.invokestatic 192, 3) := by decide +kernel
theorem dX10_giftBy_102 : decode cX10_giftBy 102 = .ok (.iload 5, 2) := by decide +kernel
theorem dX10_giftBy_104 : decode cX10_giftBy 104 = .ok (.invokestatic 192, 3) := by decide +kernel
theorem dX10_giftBy_107 : decode cX10_giftBy 107 = .ok (.ireturn, 1) := by decide +kernel
theorem dX10_giftBy_108 : decode cX10_giftBy 108 = .ok (.iload 5, 2) := by decide +kernel
theorem dX10_giftBy_110 : decode cX10_giftBy 110 = .ok (.iload 6, 2) := by decide +kernel
theorem dX10_giftBy_112 : decode cX10_giftBy 112 = .ok (.iadd, 1) := by decide +kernel
theorem dX10_giftBy_113 : decode cX10_giftBy 113 = .ok (.iconst 1, 1) := by decide +kernel
theorem dX10_giftBy_114 : decode cX10_giftBy 114 = .ok (.isub, 1) := by decide +kernel
theorem dX10_giftBy_115 : decode cX10_giftBy 115 = .ok (.iload 6, 2) := by decide +kernel
theorem dX10_giftBy_117 : decode cX10_giftBy 117 = .ok (.idiv, 1) := by decide +kernel
theorem dX10_giftBy_118 : decode cX10_giftBy 118 = .ok (.iload 7, 2) := by decide +kernel
theorem dX10_giftBy_120 : decode cX10_giftBy 120 = .ok (.invokestatic 192, 3) := by decide +kernel
theorem dX10_giftBy_123 : decode cX10_giftBy 123 = .ok (.ireturn, 1) := by decide +kernel
theorem dX10_giftBy_124 : decode cX10_giftBy 124 = .ok (.iload 5, 2) := by decide +kernel
theorem dX10_giftBy_126 : decode cX10_giftBy 126 = .ok (.iload 7, 2) := by decide +kernel
theorem dX10_giftBy_128 : decode cX10_giftBy 128 = .ok (.if_icmp .gt 8, 3) := by decide +kernel
theorem dX10_giftBy_131 : decode cX10_giftBy 131 = .ok (.iload 5, 2) := by decide +kernel
theorem dX10_giftBy_133 : decode cX10_giftBy 133 = .ok (.goto 4, 3) := by decide +kernel
theorem dX10_giftBy_136 : decode cX10_giftBy 136 = .ok (.iconst 0, 1) := by decide +kernel
theorem dX10_giftBy_137 : decode cX10_giftBy 137 = .ok (.ireturn, 1) := by decide +kernel
theorem dX10_giftBy_138 : decode cX10_giftBy 138 = .ok (.aload_n 0, 1) := by decide +kernel
theorem dX10_giftBy_139 : decode cX10_giftBy 139 = .ok (.getfield 34, 3) := by decide +kernel
theorem dX10_giftBy_142 : decode cX10_giftBy 142 = .ok (.aload_n 0, 1) := by decide +kernel
theorem dX10_giftBy_143 : decode cX10_giftBy 143 = .ok (.getfield 46, 3) := by decide +kernel
theorem dX10_giftBy_146 : decode cX10_giftBy 146 = .ok (.iload_n 2, 1) := by decide +kernel
theorem dX10_giftBy_147 : decode cX10_giftBy 147 = .ok (.iaload, 1) := by decide +kernel
theorem dX10_giftBy_148 : decode cX10_giftBy 148 = .ok (.iaload, 1) := by decide +kernel
theorem dX10_giftBy_149 : decode cX10_giftBy 149 = .ok (.iload 4, 2) := by decide +kernel
theorem dX10_giftBy_151 : decode cX10_giftBy 151 = .ok (.invokestatic 192, 3) := by decide +kernel
theorem dX10_giftBy_154 : decode cX10_giftBy 154 = .ok (.ireturn, 1) := by decide +kernel
theorem dX10_giftBy_155 : decode cX10_giftBy 155 = .ok (.iload 5, 2) := by decide +kernel
theorem dX10_giftBy_157 : decode cX10_giftBy 157 = .ok (.iload 6, 2) := by decide +kernel
theorem dX10_giftBy_159 : decode cX10_giftBy 159 = .ok (.iadd, 1) := by decide +kernel
theorem dX10_giftBy_160 : decode cX10_giftBy 160 = .ok (.iconst 1, 1) := by decide +kernel
theorem dX10_giftBy_161 : decode cX10_giftBy 161 = .ok (.isub, 1) := by decide +kernel
theorem dX10_giftBy_162 : decode cX10_giftBy 162 = .ok (.iload 6, 2) := by decide +kernel
theorem dX10_giftBy_164 : decode cX10_giftBy 164 = .ok (.idiv, 1) := by decide +kernel
theorem dX10_giftBy_165 : decode cX10_giftBy 165 = .ok (.iload 7, 2) := by decide +kernel
theorem dX10_giftBy_167 : decode cX10_giftBy 167 = .ok (.invokestatic 192, 3) := by decide +kernel
theorem dX10_giftBy_170 : decode cX10_giftBy 170 = .ok (.ireturn, 1) := by decide +kernel
theorem dX10_goAll_0 : decode cX10_goAll 0 = .ok (.aload_n 0, 1) := by decide +kernel
theorem dX10_goAll_1 : decode cX10_goAll 1 = .ok (.iconst 0, 1) := by decide +kernel
theorem dX10_goAll_2 : decode cX10_goAll 2 = .ok (.putfield 196, 3) := by decide +kernel
theorem dX10_goAll_5 : decode cX10_goAll 5 = .ok (.aload_n 0, 1) := by decide +kernel
theorem dX10_goAll_6 : decode cX10_goAll 6 = .ok (.iconst 0, 1) := by decide +kernel
theorem dX10_goAll_7 : decode cX10_goAll 7 = .ok (.putfield 199, 3) := by decide +kernel
theorem dX10_goAll_10 : decode cX10_goAll 10 = .ok (.aload_n 0, 1) := by decide +kernel
theorem dX10_goAll_11 : decode cX10_goAll 11 = .ok (.iconst 0, 1) := by decide +kernel
theorem dX10_goAll_12 : decode cX10_goAll 12 = .ok (.putfield 202, 3) := by decide +kernel
theorem dX10_goAll_15 : decode cX10_goAll 15 = .ok (.aload_n 0, 1) := by decide +kernel
theorem dX10_goAll_16 : decode cX10_goAll 16 = .ok (.getfield 169, 3) := by decide +kernel
theorem dX10_goAll_19 : decode cX10_goAll 19 = .ok (.ifCond .ge 7, 3) := by decide +kernel
theorem dX10_goAll_22 : decode cX10_goAll 22 = .ok (.iconst 1, 1) := by decide +kernel
theorem dX10_goAll_23 : decode cX10_goAll 23 = .ok (.goto 4, 3) := by decide +kernel
theorem dX10_goAll_26 : decode cX10_goAll 26 = .ok (.iconst 0, 1) := by decide +kernel
theorem dX10_goAll_27 : decode cX10_goAll 27 = .ok (.istore_n 1, 1) := by decide +kernel
theorem dX10_goAll_28 : decode cX10_goAll 28 = .ok (.iconst 0, 1) := by decide +kernel
theorem dX10_goAll_29 : decode cX10_goAll 29 = .ok (.istore_n 2, 1) := by decide +kernel
theorem dX10_goAll_30 : decode cX10_goAll 30 = .ok (.iload_n 2, 1) := by decide +kernel
theorem dX10_goAll_31 : decode cX10_goAll 31 = .ok (.aload_n 0, 1) := by decide +kernel
theorem dX10_goAll_32 : decode cX10_goAll 32 = .ok (.getfield 175, 3) := by decide +kernel
theorem dX10_goAll_35 : decode cX10_goAll 35 = .ok (.if_icmp .ge 278, 3) := by decide +kernel
theorem dX10_goAll_38 : decode cX10_goAll 38 = .ok (.aload_n 0, 1) := by decide +kernel
theorem dX10_goAll_39 : decode cX10_goAll 39 = .ok (.getfield 61, 3) := by decide +kernel
theorem dX10_goAll_42 : decode cX10_goAll 42 = .ok (.iload_n 2, 1) := by decide +kernel
theorem dX10_goAll_43 : decode cX10_goAll 43 = .ok (.iaload, 1) := by decide +kernel
theorem dX10_goAll_44 : decode cX10_goAll 44 = .ok (.istore_n 3, 1) := by decide +kernel
theorem dX10_goAll_45 : decode cX10_goAll 45 = .ok (.aload_n 0, 1) := by decide +kernel
theorem dX10_goAll_46 : decode cX10_goAll 46 = .ok (.getfield 46, 3) := by decide +kernel
theorem dX10_goAll_49 : decode cX10_goAll 49 = .ok (.iload_n 3, 1) := by decide +kernel
theorem dX10_goAll_50 : decode cX10_goAll 50 = .ok (.iaload, 1) := by decide +kernel
theorem dX10_goAll_51 : decode cX10_goAll 51 = .ok (.istore 4, 2) := by decide +kernel
theorem dX10_goAll_53 : decode cX10_goAll 53 = .ok (.iload_n 1, 1) := by decide +kernel
theorem dX10_goAll_54 : decode cX10_goAll 54 = .ok (.ifCond .ne 37, 3) := by decide +kernel
theorem dX10_goAll_57 : decode cX10_goAll 57 = .ok (.aload_n 0, 1) := by decide +kernel
theorem dX10_goAll_58 : decode cX10_goAll 58 = .ok (.iload_n 3, 1) := by decide +kernel
theorem dX10_goAll_59 : decode cX10_goAll 59 = .ok (.invokevirtual 178, 3) := by decide +kernel
theorem dX10_goAll_62 : decode cX10_goAll 62 = .ok (.aload_n 0, 1) := by decide +kernel
theorem dX10_goAll_63 : decode cX10_goAll 63 = .ok (.getfield 169, 3) := by decide +kernel
theorem dX10_goAll_66 : decode cX10_goAll 66 = .ok (.if_icmp .le 25, 3) := by decide +kernel
theorem dX10_goAll_69 : decode cX10_goAll 69 = .ok (.aload_n 0, 1) := by decide +kernel
theorem dX10_goAll_70 : decode cX10_goAll 70 = .ok (.dup, 1) := by decide +kernel
theorem dX10_goAll_71 : decode cX10_goAll 71 = .ok (.getfield 196, 3) := by decide +kernel
theorem dX10_goAll_74 : decode cX10_goAll 74 = .ok (.aload_n 0, 1) := by decide +kernel
theorem dX10_goAll_75 : decode cX10_goAll 75 = .ok (.getfield 166, 3) := by decide +kernel
theorem dX10_goAll_78 : decode cX10_goAll 78 = .ok (.aload_n 0, 1) := by decide +kernel
theorem dX10_goAll_79 : decode cX10_goAll 79 = .ok (.getfield 196, 3) := by decide +kernel
theorem dX10_goAll_82 : decode cX10_goAll 82 = .ok (.invokestatic 192, 3) := by decide +kernel
theorem dX10_goAll_85 : decode cX10_goAll 85 = .ok (.iadd, 1) := by decide +kernel
theorem dX10_goAll_86 : decode cX10_goAll 86 = .ok (.putfield 196, 3) := by decide +kernel
theorem dX10_goAll_89 : decode cX10_goAll 89 = .ok (.iconst 1, 1) := by decide +kernel
theorem dX10_goAll_90 : decode cX10_goAll 90 = .ok (.istore_n 1, 1) := by decide +kernel
theorem dX10_goAll_91 : decode cX10_goAll 91 = .ok (.aload_n 0, 1) := by decide +kernel
theorem dX10_goAll_92 : decode cX10_goAll 92 = .ok (.getfield 67, 3) := by decide +kernel
theorem dX10_goAll_95 : decode cX10_goAll 95 = .ok (.iload_n 3, 1) := by decide +kernel
theorem dX10_goAll_96 : decode cX10_goAll 96 = .ok (.aload_n 0, 1) := by decide +kernel
theorem dX10_goAll_97 : decode cX10_goAll 97 = .ok (.aload_n 0, 1) := by decide +kernel
theorem dX10_goAll_98 : decode cX10_goAll 98 = .ok (.getfield 22, 3) := by decide +kernel
theorem dX10_goAll_101 : decode cX10_goAll 101 = .ok (.iload 4, 2) := by decide +kernel
theorem dX10_goAll_103 : decode cX10_goAll 103 = .ok (.iaload, 1) := by decide +kernel
theorem dX10_goAll_104 : decode cX10_goAll 104 = .ok (.iload_n 3, 1) := by decide +kernel
theorem dX10_goAll_105 : decode cX10_goAll 105 = .ok (.aload_n 0, 1) := by decide +kernel
theorem dX10_goAll_106 : decode cX10_goAll 106 = .ok (.getfield 64, 3) := by decide +kernel
theorem dX10_goAll_109 : decode cX10_goAll 109 = .ok (.iload_n 3, 1) := by decide +kernel
theorem dX10_goAll_110 : decode cX10_goAll 110 = .ok (.iaload, 1) := by decide +kernel
theorem dX10_goAll_111 : decode cX10_goAll 111 = .ok (.aload_n 0, 1) := by decide +kernel
theorem dX10_goAll_112 : decode cX10_goAll 112 = .ok (.getfield 25, 3) := by decide +kernel
theorem dX10_goAll_115 : decode cX10_goAll 115 = .ok (.iload 4, 2) := by decide +kernel
theorem dX10_goAll_117 : decode cX10_goAll 117 = .ok (.iaload, 1) := by decide +kernel
theorem dX10_goAll_118 : decode cX10_goAll 118 = .ok (.aload_n 0, 1) := by decide +kernel
theorem dX10_goAll_119 : decode cX10_goAll 119 = .ok (.aload_n 0, 1) := by decide +kernel
theorem dX10_goAll_120 : decode cX10_goAll 120 = .ok (.getfield 154, 3) := by decide +kernel
theorem dX10_goAll_123 : decode cX10_goAll 123 = .ok (.aload_n 0, 1) := by decide +kernel
theorem dX10_goAll_124 : decode cX10_goAll 124 = .ok (.getfield 196, 3) := by decide +kernel
theorem dX10_goAll_127 : decode cX10_goAll 127 = .ok (.invokevirtual 205, 3) := by decide +kernel
theorem dX10_goAll_130 : decode cX10_goAll 130 = .ok (.aload_n 0, 1) := by decide +kernel
theorem dX10_goAll_131 : decode cX10_goAll 131 = .ok (.getfield 175, 3) := by decide +kernel
theorem dX10_goAll_134 : decode cX10_goAll 134 = .ok (.iload_n 2, 1) := by decide +kernel
theorem dX10_goAll_135 : decode cX10_goAll 135 = .ok (.isub, 1) := by decide +kernel
theorem dX10_goAll_136 : decode cX10_goAll 136 = .ok (.invokevirtual 208, 3) := by decide +kernel
theorem dX10_goAll_139 : decode cX10_goAll 139 = .ok (.iastore, 1) := by decide +kernel
theorem dX10_goAll_140 : decode cX10_goAll 140 = .ok (.aload_n 0, 1) := by decide +kernel
theorem dX10_goAll_141 : decode cX10_goAll 141 = .ok (.getfield 22, 3) := by decide +kernel
theorem dX10_goAll_144 : decode cX10_goAll 144 = .ok (.iload 4, 2) := by decide +kernel
theorem dX10_goAll_146 : decode cX10_goAll 146 = .ok (.iaload, 1) := by decide +kernel
theorem dX10_goAll_147 : decode cX10_goAll 147 = .ok (.iconst 3, 1) := by decide +kernel
theorem dX10_goAll_148 : decode cX10_goAll 148 = .ok (.if_icmp .eq 14, 3) := by decide +kernel
theorem dX10_goAll_151 : decode cX10_goAll 151 = .ok (.aload_n 0, 1) := by decide +kernel
theorem dX10_goAll_152 : decode cX10_goAll 152 = .ok (.getfield 22, 3) := by decide +kernel
theorem dX10_goAll_155 : decode cX10_goAll 155 = .ok (.iload 4, 2) := by decide +kernel
theorem dX10_goAll_157 : decode cX10_goAll 157 = .ok (.iaload, 1) := by decide +kernel
theorem dX10_goAll_158 : decode cX10_goAll 158 = .ok (.iconst 5, 1) := by decide +kernel
theorem dX10_goAll_159 : decode cX10_goAll 159 = .ok (.if_icmp .ne 7, 3) := by decide +kernel
theorem dX10_goAll_162 : decode cX10_goAll 162 = .ok (.iconst 1, 1) := by decide +kernel
theorem dX10_goAll_163 : decode cX10_goAll 163 = .ok (.goto 10, 3) := by decide +kernel
theorem dX10_goAll_166 : decode cX10_goAll 166 = .ok (.aload_n 0, 1) := by decide +kernel
theorem dX10_goAll_167 : decode cX10_goAll 167 = .ok (.getfield 22, 3) := by decide +kernel
theorem dX10_goAll_170 : decode cX10_goAll 170 = .ok (.iload 4, 2) := by decide +kernel
theorem dX10_goAll_172 : decode cX10_goAll 172 = .ok (.iaload, 1) := by decide +kernel
theorem dX10_goAll_173 : decode cX10_goAll 173 = .ok (.istore 5, 2) := by decide +kernel
theorem dX10_goAll_175 : decode cX10_goAll 175 = .ok (.aload_n 0, 1) := by decide +kernel
theorem dX10_goAll_176 : decode cX10_goAll 176 = .ok (.getfield 70, 3) := by decide +kernel
theorem dX10_goAll_179 : decode cX10_goAll 179 = .ok (.iload_n 3, 1) := by decide +kernel
theorem dX10_goAll_180 : decode cX10_goAll 180 = .ok (.aload_n 0, 1) := by decide +kernel
theorem dX10_goAll_181 : decode cX10_goAll 181 = .ok (.getfield 13, 3) := by decide +kernel
theorem dX10_goAll_184 : decode cX10_goAll 184 = .ok (.bipush 8, 2) := by decide +kernel
theorem dX10_goAll_186 : decode cX10_goAll 186 = .ok (.iaload, 1) := by decide +kernel
theorem dX10_goAll_187 : decode cX10_goAll 187 = .ok (.ifCond .ne 7, 3) := by decide +kernel
theorem dX10_goAll_190 : decode cX10_goAll 190 = .ok (.iconst 0, 1) := by decide +kernel
theorem dX10_goAll_191 : decode cX10_goAll 191 = .ok (.goto 62, 3) := by decide +kernel
theorem dX10_goAll_194 : decode cX10_goAll 194 = .ok (.aload_n 0, 1) := by decide +kernel
theorem dX10_goAll_195 : decode cX10_goAll 195 = .ok (.iload 5, 2) := by decide +kernel
theorem dX10_goAll_197 : decode cX10_goAll 197 = .ok (.iload_n 3, 1) := by decide +kernel
theorem dX10_goAll_198 : decode cX10_goAll 198 = .ok (.aload_n 0, 1) := by decide +kernel
theorem dX10_goAll_199 : decode cX10_goAll 199 = .ok (.getfield 64, 3) := by decide +kernel
theorem dX10_goAll_202 : decode cX10_goAll 202 = .ok (.iload_n 3, 1) := by decide +kernel
theorem dX10_goAll_203 : decode cX10_goAll 203 = .ok (.iaload, 1) := by decide +kernel
theorem dX10_goAll_204 : decode cX10_goAll 204 = .ok (.aload_n 0, 1) := by decide +kernel
theorem dX10_goAll_205 : decode cX10_goAll 205 = .ok (.getfield 13, 3) := by decide +kernel
theorem dX10_goAll_208 : decode cX10_goAll 208 = .ok (.bipush 9, 2) := by decide +kernel
theorem dX10_goAll_210 : decode cX10_goAll 210 = .ok (.iaload, 1) := by decide +kernel
theorem dX10_goAll_211 : decode cX10_goAll 211 = .ok (.imul, 1) := by decide +kernel
theorem dX10_goAll_212 : decode cX10_goAll 212 = .ok (.bipush 100, 2) := by decide +kernel
theorem dX10_goAll_214 : decode cX10_goAll 214 = .ok (.idiv, 1) := by decide +kernel
theorem dX10_goAll_215 : decode cX10_goAll 215 = .ok (.aload_n 0, 1) := by decide +kernel
theorem dX10_goAll_216 : decode cX10_goAll 216 = .ok (.getfield 25, 3) := by decide +kernel
theorem dX10_goAll_219 : decode cX10_goAll 219 = .ok (.iload 4, 2) := by decide +kernel
theorem dX10_goAll_221 : decode cX10_goAll 221 = .ok (.iaload, 1) := by decide +kernel
theorem dX10_goAll_222 : decode cX10_goAll 222 = .ok (.aload_n 0, 1) := by decide +kernel
theorem dX10_goAll_223 : decode cX10_goAll 223 = .ok (.getfield 67, 3) := by decide +kernel
theorem dX10_goAll_226 : decode cX10_goAll 226 = .ok (.iload_n 3, 1) := by decide +kernel
theorem dX10_goAll_227 : decode cX10_goAll 227 = .ok (.iaload, 1) := by decide +kernel
theorem dX10_goAll_228 : decode cX10_goAll 228 = .ok (.isub, 1) := by decide +kernel
theorem dX10_goAll_229 : decode cX10_goAll 229 = .ok (.aload_n 0, 1) := by decide +kernel
theorem dX10_goAll_230 : decode cX10_goAll 230 = .ok (.aload_n 0, 1) := by decide +kernel
theorem dX10_goAll_231 : decode cX10_goAll 231 = .ok (.getfield 13, 3) := by decide +kernel
theorem dX10_goAll_234 : decode cX10_goAll 234 = .ok (.bipush 8, 2) := by decide +kernel
theorem dX10_goAll_236 : decode cX10_goAll 236 = .ok (.iaload, 1) := by decide +kernel
theorem dX10_goAll_237 : decode cX10_goAll 237 = .ok (.aload_n 0, 1) := by decide +kernel
theorem dX10_goAll_238 : decode cX10_goAll 238 = .ok (.getfield 199, 3) := by decide +kernel
theorem dX10_goAll_241 : decode cX10_goAll 241 = .ok (.invokevirtual 205, 3) := by decide +kernel
theorem dX10_goAll_244 : decode cX10_goAll 244 = .ok (.aload_n 0, 1) := by decide +kernel
theorem dX10_goAll_245 : decode cX10_goAll 245 = .ok (.getfield 175, 3) := by decide +kernel
theorem dX10_goAll_248 : decode cX10_goAll 248 = .ok (.iload_n 2, 1) := by decide +kernel
theorem dX10_goAll_249 : decode cX10_goAll 249 = .ok (.isub, 1) := by decide +kernel
theorem dX10_goAll_250 : decode cX10_goAll 250 = .ok (.invokevirtual 208, 3) := by decide +kernel
theorem dX10_goAll_253 : decode cX10_goAll 253 = .ok (.iastore, 1) := by decide +kernel
theorem dX10_goAll_254 : decode cX10_goAll 254 = .ok (.aload_n 0, 1) := by decide +kernel
theorem dX10_goAll_255 : decode cX10_goAll 255 = .ok (.dup, 1) := by decide +kernel
theorem dX10_goAll_256 : decode cX10_goAll 256 = .ok (.getfield 196, 3) := by decide +kernel
theorem dX10_goAll_259 : decode cX10_goAll 259 = .ok (.aload_n 0, 1) := by decide +kernel
theorem dX10_goAll_260 : decode cX10_goAll 260 = .ok (.getfield 67, 3) := by decide +kernel
theorem dX10_goAll_263 : decode cX10_goAll 263 = .ok (.iload_n 3, 1) := by decide +kernel
theorem dX10_goAll_264 : decode cX10_goAll 264 = .ok (.iaload, 1) := by decide +kernel
theorem dX10_goAll_265 : decode cX10_goAll 265 = .ok (.iadd, 1) := by decide +kernel
theorem dX10_goAll_266 : decode cX10_goAll 266 = .ok (.putfield 196, 3) := by decide +kernel
theorem dX10_goAll_269 : decode cX10_goAll 269 = .ok (.aload_n 0, 1) := by decide +kernel
theorem dX10_goAll_270 : decode cX10_goAll 270 = .ok (.dup, 1) := by decide +kernel
theorem dX10_goAll_271 : decode cX10_goAll 271 = .ok (.getfield 199, 3) := by decide +kernel
theorem dX10_goAll_274 : decode cX10_goAll 274 = .ok (.aload_n 0, 1) := by decide +kernel
theorem dX10_goAll_275 : decode cX10_goAll 275 = .ok (.getfield 70, 3) := by decide +kernel
theorem dX10_goAll_278 : decode cX10_goAll 278 = .ok (.iload_n 3, 1) := by decide +kernel
theorem dX10_goAll_279 : decode cX10_goAll 279 = .ok (.iaload, 1) := by decide +kernel
theorem dX10_goAll_280 : decode cX10_goAll 280 = .ok (.iadd, 1) := by decide +kernel
theorem dX10_goAll_281 : decode cX10_goAll 281 = .ok (.putfield 199, 3) := by decide +kernel
theorem dX10_goAll_284 : decode cX10_goAll 284 = .ok (.aload_n 0, 1) := by decide +kernel
theorem dX10_goAll_285 : decode cX10_goAll 285 = .ok (.dup, 1) := by decide +kernel
theorem dX10_goAll_286 : decode cX10_goAll 286 = .ok (.getfield 202, 3) := by decide +kernel
theorem dX10_goAll_289 : decode cX10_goAll 289 = .ok (.aload_n 0, 1) := by decide +kernel
theorem dX10_goAll_290 : decode cX10_goAll 290 = .ok (.getfield 67, 3) := by decide +kernel
theorem dX10_goAll_293 : decode cX10_goAll 293 = .ok (.iload_n 3, 1) := by decide +kernel
theorem dX10_goAll_294 : decode cX10_goAll 294 = .ok (.iaload, 1) := by decide +kernel
theorem dX10_goAll_295 : decode cX10_goAll 295 = .ok (.ifCond .le 7, 3) := by decide +kernel
theorem dX10_goAll_298 : decode cX10_goAll 298 = .ok (.iconst 1, 1) := by decide +kernel
theorem dX10_goAll_299 : decode cX10_goAll 299 = .ok (.goto 4, 3) := by decide +kernel
theorem dX10_goAll_302 : decode cX10_goAll 302 = .ok (.iconst 0, 1) := by decide +kernel
theorem dX10_goAll_303 : decode cX10_goAll 303 = .ok (.iadd, 1) := by decide +kernel
theorem dX10_goAll_304 : decode cX10_goAll 304 = .ok (.putfield 202, 3) := by decide +kernel
theorem dX10_goAll_307 : decode cX10_goAll 307 = .ok (.iinc 2 1, 3) := by decide +kernel
theorem dX10_goAll_310 : decode cX10_goAll 310 = .ok (.goto (-280), 3) := by decide +kernel
theorem dX10_goAll_313 : decode cX10_goAll 313 = .ok (.iload_n 1, 1) := by decide +kernel
theorem dX10_goAll_314 : decode cX10_goAll 314 = .ok (.ifCond .ne 23, 3) := by decide +kernel
theorem dX10_goAll_317 : decode cX10_goAll 317 = .ok (.aload_n 0, 1) := by decide +kernel
theorem dX10_goAll_318 : decode cX10_goAll 318 = .ok (.dup, 1) := by decide +kernel
theorem dX10_goAll_319 : decode cX10_goAll 319 = .ok (.getfield 196, 3) := by decide +kernel
theorem dX10_goAll_322 : decode cX10_goAll 322 = .ok (.aload_n 0, 1) := by decide +kernel
theorem dX10_goAll_323 : decode cX10_goAll 323 = .ok (.getfield 166, 3) := by decide +kernel
theorem dX10_goAll_326 : decode cX10_goAll 326 = .ok (.aload_n 0, 1) := by decide +kernel
theorem dX10_goAll_327 : decode cX10_goAll 327 = .ok (.getfield 196, 3) := by decide +kernel
theorem dX10_goAll_330 : decode cX10_goAll 330 = .ok (.invokestatic 192, 3) := by decide +kernel
theorem dX10_goAll_333 : decode cX10_goAll 333 = .ok (.iadd, 1) := by decide +kernel
theorem dX10_goAll_334 : decode cX10_goAll 334 = .ok (.putfield 196, 3) := by decide +kernel
theorem dX10_goAll_337 : decode cX10_goAll 337 = .ok (.return_, 1) := by decide +kernel
theorem dX10_isBuilt_0 : decode cX10_isBuilt 0 = .ok (.aload_n 0, 1) := by decide +kernel
theorem dX10_isBuilt_1 : decode cX10_isBuilt 1 = .ok (.getfield 196, 3) := by decide +kernel
theorem dX10_isBuilt_4 : decode cX10_isBuilt 4 = .ok (.aload_n 0, 1) := by decide +kernel
theorem dX10_isBuilt_5 : decode cX10_isBuilt 5 = .ok (.getfield 154, 3) := by decide +kernel
theorem dX10_isBuilt_8 : decode cX10_isBuilt 8 = .ok (.if_icmp .lt 20, 3) := by decide +kernel
theorem dX10_isBuilt_11 : decode cX10_isBuilt 11 = .ok (.aload_n 0, 1) := by decide +kernel
theorem dX10_isBuilt_12 : decode cX10_isBuilt 12 = .ok (.getfield 202, 3) := by decide +kernel
theorem dX10_isBuilt_15 : decode cX10_isBuilt 15 = .ok (.aload_n 0, 1) := by decide +kernel
theorem dX10_isBuilt_16 : decode cX10_isBuilt 16 = .ok (.getfield 13, 3) := by decide +kernel
theorem dX10_isBuilt_19 : decode cX10_isBuilt 19 = .ok (.iconst 1, 1) := by decide +kernel
theorem dX10_isBuilt_20 : decode cX10_isBuilt 20 = .ok (.iaload, 1) := by decide +kernel
theorem dX10_isBuilt_21 : decode cX10_isBuilt 21 = .ok (.if_icmp .lt 7, 3) := by decide +kernel
theorem dX10_isBuilt_24 : decode cX10_isBuilt 24 = .ok (.iconst 1, 1) := by decide +kernel
theorem dX10_isBuilt_25 : decode cX10_isBuilt 25 = .ok (.goto 4, 3) := by decide +kernel
theorem dX10_isBuilt_28 : decode cX10_isBuilt 28 = .ok (.iconst 0, 1) := by decide +kernel
theorem dX10_isBuilt_29 : decode cX10_isBuilt 29 = .ok (.ireturn, 1) := by decide +kernel
theorem dX10_hasOf_0 : decode cX10_hasOf 0 = .ok (.aload_n 0, 1) := by decide +kernel
theorem dX10_hasOf_1 : decode cX10_hasOf 1 = .ok (.invokevirtual 212, 3) := by decide +kernel
theorem dX10_hasOf_4 : decode cX10_hasOf 4 = .ok (.ifCond .ne 23, 3) := by decide +kernel
theorem dX10_hasOf_7 : decode cX10_hasOf 7 = .ok (.aload_n 0, 1) := by decide +kernel
theorem dX10_hasOf_8 : decode cX10_hasOf 8 = .ok (.getfield 67, 3) := by decide +kernel
theorem dX10_hasOf_11 : decode cX10_hasOf 11 = .ok (.iload_n 1, 1) := by decide +kernel
theorem dX10_hasOf_12 : decode cX10_hasOf 12 = .ok (.iaload, 1) := by decide +kernel
theorem dX10_hasOf_13 : decode cX10_hasOf 13 = .ok (.ifCond .le 12, 3) := by decide +kernel
theorem dX10_hasOf_16 : decode cX10_hasOf 16 = .ok (.aload_n 0, 1) := by decide +kernel
theorem dX10_hasOf_17 : decode cX10_hasOf 17 = .ok (.getfield 13, 3) := by decide +kernel
theorem dX10_hasOf_20 : decode cX10_hasOf 20 = .ok (.iconst 4, 1) := by decide +kernel
theorem dX10_hasOf_21 : decode cX10_hasOf 21 = .ok (.iaload, 1) := by decide +kernel
theorem dX10_hasOf_22 : decode cX10_hasOf 22 = .ok (.goto 4, 3) := by decide +kernel
theorem dX10_hasOf_25 : decode cX10_hasOf 25 = .ok (.iconst 0, 1) := by decide +kernel
theorem dX10_hasOf_26 : decode cX10_hasOf 26 = .ok (.ireturn, 1) := by decide +kernel
theorem dX10_hasOf_27 : decode cX10_hasOf 27 = .ok (.aload_n 0, 1) := by decide +kernel
theorem dX10_hasOf_28 : decode cX10_hasOf 28 = .ok (.getfield 64, 3) := by decide +kernel
theorem dX10_hasOf_31 : decode cX10_hasOf 31 = .ok (.iload_n 1, 1) := by decide +kernel
theorem dX10_hasOf_32 : decode cX10_hasOf 32 = .ok (.iaload, 1) := by decide +kernel
theorem dX10_hasOf_33 : decode cX10_hasOf 33 = .ok (.aload_n 0, 1) := by decide +kernel
theorem dX10_hasOf_34 : decode cX10_hasOf 34 = .ok (.getfield 67, 3) := by decide +kernel
theorem dX10_hasOf_37 : decode cX10_hasOf 37 = .ok (.iload_n 1, 1) := by decide +kernel
theorem dX10_hasOf_38 : decode cX10_hasOf 38 = .ok (.iaload, 1) := by decide +kernel
theorem dX10_hasOf_39 : decode cX10_hasOf 39 = .ok (.isub, 1) := by decide +kernel
theorem dX10_hasOf_40 : decode cX10_hasOf 40 = .ok (.istore_n 2, 1) := by decide +kernel
theorem dX10_hasOf_41 : decode cX10_hasOf 41 = .ok (.iload_n 2, 1) := by decide +kernel
theorem dX10_hasOf_42 : decode cX10_hasOf 42 = .ok (.aload_n 0, 1) := by decide +kernel
theorem dX10_hasOf_43 : decode cX10_hasOf 43 = .ok (.getfield 67, 3) := by decide +kernel
theorem dX10_hasOf_46 : decode cX10_hasOf 46 = .ok (.iload_n 1, 1) := by decide +kernel
theorem dX10_hasOf_47 : decode cX10_hasOf 47 = .ok (.iaload, 1) := by decide +kernel
theorem dX10_hasOf_48 : decode cX10_hasOf 48 = .ok (.ifCond .le 25, 3) := by decide +kernel
theorem dX10_hasOf_51 : decode cX10_hasOf 51 = .ok (.aload_n 0, 1) := by decide +kernel
theorem dX10_hasOf_52 : decode cX10_hasOf 52 = .ok (.iload_n 1, 1) := by decide +kernel
theorem dX10_hasOf_53 : decode cX10_hasOf 53 = .ok (.invokevirtual 178, 3) := by decide +kernel
theorem dX10_hasOf_56 : decode cX10_hasOf 56 = .ok (.aload_n 0, 1) := by decide +kernel
theorem dX10_hasOf_57 : decode cX10_hasOf 57 = .ok (.getfield 13, 3) := by decide +kernel
theorem dX10_hasOf_60 : decode cX10_hasOf 60 = .ok (.bipush 6, 2) := by decide +kernel
theorem dX10_hasOf_62 : decode cX10_hasOf 62 = .ok (.iaload, 1) := by decide +kernel
theorem dX10_hasOf_63 : decode cX10_hasOf 63 = .ok (.if_icmp .gt 10, 3) := by decide +kernel
theorem dX10_hasOf_66 : decode cX10_hasOf 66 = .ok (.aload_n 0, 1) := by decide +kernel
theorem dX10_hasOf_67 : decode cX10_hasOf 67 = .ok (.getfield 160, 3) := by decide +kernel
theorem dX10_hasOf_70 : decode cX10_hasOf 70 = .ok (.goto 4, 3) := by decide +kernel
theorem dX10_hasOf_73 : decode cX10_hasOf 73 = .ok (.iconst 0, 1) := by decide +kernel
theorem dX10_hasOf_74 : decode cX10_hasOf 74 = .ok (.iadd, 1) := by decide +kernel
theorem dX10_hasOf_75 : decode cX10_hasOf 75 = .ok (.istore_n 2, 1) := by decide +kernel
theorem dX10_hasOf_76 : decode cX10_hasOf 76 = .ok (.iload_n 2, 1) := by decide +kernel
theorem dX10_hasOf_77 : decode cX10_hasOf 77 = .ok (.aload_n 0, 1) := by decide +kernel
theorem dX10_hasOf_78 : decode cX10_hasOf 78 = .ok (.getfield 13, 3) := by decide +kernel
theorem dX10_hasOf_81 : decode cX10_hasOf 81 = .ok (.bipush 7, 2) := by decide +kernel
theorem dX10_hasOf_83 : decode cX10_hasOf 83 = .ok (.iaload, 1) := by decide +kernel
theorem dX10_hasOf_84 : decode cX10_hasOf 84 = .ok (.iconst 1, 1) := by decide +kernel
theorem dX10_hasOf_85 : decode cX10_hasOf 85 = .ok (.if_icmp .ne 27, 3) := by decide +kernel
theorem dX10_hasOf_88 : decode cX10_hasOf 88 = .ok (.aload_n 0, 1) := by decide +kernel
theorem dX10_hasOf_89 : decode cX10_hasOf 89 = .ok (.getfield 67, 3) := by decide +kernel
theorem dX10_hasOf_92 : decode cX10_hasOf 92 = .ok (.iload_n 1, 1) := by decide +kernel
theorem dX10_hasOf_93 : decode cX10_hasOf 93 = .ok (.iaload, 1) := by decide +kernel
theorem dX10_hasOf_94 : decode cX10_hasOf 94 = .ok (.aload_n 0, 1) := by decide +kernel
theorem dX10_hasOf_95 : decode cX10_hasOf 95 = .ok (.getfield 196, 3) := by decide +kernel
theorem dX10_hasOf_98 : decode cX10_hasOf 98 = .ok (.aload_n 0, 1) := by decide +kernel
theorem dX10_hasOf_99 : decode cX10_hasOf 99 = .ok (.getfield 154, 3) := by decide +kernel
theorem dX10_hasOf_102 : decode cX10_hasOf 102 = .ok (.isub, 1) := by decide +kernel
theorem dX10_hasOf_103 : decode cX10_hasOf 103 = .ok (.imul, 1) := by decide +kernel
theorem dX10_hasOf_104 : decode cX10_hasOf 104 = .ok (.aload_n 0, 1) := by decide +kernel
theorem dX10_hasOf_105 : decode cX10_hasOf 105 = .ok (.getfield 196, 3) := by decide +kernel
theorem dX10_hasOf_108 : decode cX10_hasOf 108 = .ok (.idiv, 1) := by decide +kernel
theorem dX10_hasOf_109 : decode cX10_hasOf 109 = .ok (.goto 4, 3) := by decide +kernel
theorem dX10_hasOf_112 : decode cX10_hasOf 112 = .ok (.iconst 0, 1) := by decide +kernel
theorem dX10_hasOf_113 : decode cX10_hasOf 113 = .ok (.iadd, 1) := by decide +kernel
theorem dX10_hasOf_114 : decode cX10_hasOf 114 = .ok (.ireturn, 1) := by decide +kernel
theorem dX10_beginWays_0 : decode cX10_beginWays 0 = .ok (.aload_n 0, 1) := by decide +kernel
theorem dX10_beginWays_1 : decode cX10_beginWays 1 = .ok (.invokevirtual 184, 3) := by decide +kernel
theorem dX10_beginWays_4 : decode cX10_beginWays 4 = .ok (.iconst 0, 1) := by decide +kernel
theorem dX10_beginWays_5 : decode cX10_beginWays 5 = .ok (.istore_n 1, 1) := by decide +kernel
theorem dX10_beginWays_6 : decode cX10_beginWays 6 = .ok (.iload_n 1, 1) := by decide +kernel
theorem dX10_beginWays_7 : decode cX10_beginWays 7 = .ok (.bipush 8, 2) := by decide +kernel
theorem dX10_beginWays_9 : decode cX10_beginWays 9 = .ok (.if_icmp .ge 16, 3) := by decide +kernel
theorem dX10_beginWays_12 : decode cX10_beginWays 12 = .ok (.aload_n 0, 1) := by decide +kernel
theorem dX10_beginWays_13 : decode cX10_beginWays 13 = .ok (.getfield 73, 3) := by decide +kernel
theorem dX10_beginWays_16 : decode cX10_beginWays 16 = .ok (.iload_n 1, 1) := by decide +kernel
theorem dX10_beginWays_17 : decode cX10_beginWays 17 = .ok (.iconst 0, 1) := by decide +kernel
theorem dX10_beginWays_18 : decode cX10_beginWays 18 = .ok (.iastore, 1) := by decide +kernel
theorem dX10_beginWays_19 : decode cX10_beginWays 19 = .ok (.iinc 1 1, 3) := by decide +kernel
theorem dX10_beginWays_22 : decode cX10_beginWays 22 = .ok (.goto (-16), 3) := by decide +kernel
theorem dX10_beginWays_25 : decode cX10_beginWays 25 = .ok (.return_, 1) := by decide +kernel
theorem dX10_nextWay_0 : decode cX10_nextWay 0 = .ok (.iconst 0, 1) := by decide +kernel
theorem dX10_nextWay_1 : decode cX10_nextWay 1 = .ok (.istore_n 1, 1) := by decide +kernel
theorem dX10_nextWay_2 : decode cX10_nextWay 2 = .ok (.iload_n 1, 1) := by decide +kernel
theorem dX10_nextWay_3 : decode cX10_nextWay 3 = .ok (.aload_n 0, 1) := by decide +kernel
theorem dX10_nextWay_4 : decode cX10_nextWay 4 = .ok (.getfield 175, 3) := by decide +kernel
theorem dX10_nextWay_7 : decode cX10_nextWay 7 = .ok (.if_icmp .ge 43, 3) := by decide +kernel
theorem dX10_nextWay_10 : decode cX10_nextWay 10 = .ok (.aload_n 0, 1) := by decide +kernel
theorem dX10_nextWay_11 : decode cX10_nextWay 11 = .ok (.getfield 73, 3) := by decide +kernel
theorem dX10_nextWay_14 : decode cX10_nextWay 14 = .ok (.iload_n 1, 1) := by decide +kernel
theorem dX10_nextWay_15 : decode cX10_nextWay 15 = .ok (.iaload, 1) := by decide +kernel
theorem dX10_nextWay_16 : decode cX10_nextWay 16 = .ok (.aload_n 0, 1) := by decide +kernel
theorem dX10_nextWay_17 : decode cX10_nextWay 17 = .ok (.getfield 37, 3) := by decide +kernel
theorem dX10_nextWay_20 : decode cX10_nextWay 20 = .ok (.aload_n 0, 1) := by decide +kernel
theorem dX10_nextWay_21 : decode cX10_nextWay 21 = .ok (.getfield 46, 3) := by decide +kernel
theorem dX10_nextWay_24 : decode cX10_nextWay 24 = .ok (.aload_n 0, 1) := by decide +kernel
theorem dX10_nextWay_25 : decode cX10_nextWay 25 = .ok (.getfield 61, 3) := by decide +kernel
theorem dX10_nextWay_28 : decode cX10_nextWay 28 = .ok (.iload_n 1, 1) := by decide +kernel
theorem dX10_nextWay_29 : decode cX10_nextWay 29 = .ok (.iaload, 1) := by decide +kernel
theorem dX10_nextWay_30 : decode cX10_nextWay 30 = .ok (.iaload, 1) := by decide +kernel
theorem dX10_nextWay_31 : decode cX10_nextWay 31 = .ok (.iaload, 1) := by decide +kernel
theorem dX10_nextWay_32 : decode cX10_nextWay 32 = .ok (.iconst 1, 1) := by decide +kernel
theorem dX10_nextWay_33 : decode cX10_nextWay 33 = .ok (.isub, 1) := by decide +kernel
theorem dX10_nextWay_34 : decode cX10_nextWay 34 = .ok (.if_icmp .ne 16, 3) := by decide +kernel
theorem dX10_nextWay_37 : decode cX10_nextWay 37 = .ok (.aload_n 0, 1) := by decide +kernel
theorem dX10_nextWay_38 : decode cX10_nextWay 38 = .ok (.getfield 73, 3) := by decide +kernel
theorem dX10_nextWay_41 : decode cX10_nextWay 41 = .ok (.iload_n 1, 1) := by decide +kernel
theorem dX10_nextWay_42 : decode cX10_nextWay 42 = .ok (.iconst 0, 1) := by decide +kernel
theorem dX10_nextWay_43 : decode cX10_nextWay 43 = .ok (.iastore, 1) := by decide +kernel
theorem dX10_nextWay_44 : decode cX10_nextWay 44 = .ok (.iinc 1 1, 3) := by decide +kernel
theorem dX10_nextWay_47 : decode cX10_nextWay 47 = .ok (.goto (-45), 3) := by decide +kernel
theorem dX10_nextWay_50 : decode cX10_nextWay 50 = .ok (.iload_n 1, 1) := by decide +kernel
theorem dX10_nextWay_51 : decode cX10_nextWay 51 = .ok (.aload_n 0, 1) := by decide +kernel
theorem dX10_nextWay_52 : decode cX10_nextWay 52 = .ok (.getfield 175, 3) := by decide +kernel
theorem dX10_nextWay_55 : decode cX10_nextWay 55 = .ok (.if_icmp .ne 5, 3) := by decide +kernel
theorem dX10_nextWay_58 : decode cX10_nextWay 58 = .ok (.iconst 0, 1) := by decide +kernel
theorem dX10_nextWay_59 : decode cX10_nextWay 59 = .ok (.ireturn, 1) := by decide +kernel
theorem dX10_nextWay_60 : decode cX10_nextWay 60 = .ok (.aload_n 0, 1) := by decide +kernel
theorem dX10_nextWay_61 : decode cX10_nextWay 61 = .ok (.getfield 73, 3) := by decide +kernel
theorem dX10_nextWay_64 : decode cX10_nextWay 64 = .ok (.iload_n 1, 1) := by decide +kernel
theorem dX10_nextWay_65 : decode cX10_nextWay 65 = .ok (.dup2, 1) := by decide +kernel
theorem dX10_nextWay_66 : decode cX10_nextWay 66 = .ok (.iaload, 1) := by decide +kernel
theorem dX10_nextWay_67 : decode cX10_nextWay 67 = .ok (.iconst 1, 1) := by decide +kernel
theorem dX10_nextWay_68 : decode cX10_nextWay 68 = .ok (.iadd, 1) := by decide +kernel
theorem dX10_nextWay_69 : decode cX10_nextWay 69 = .ok (.iastore, 1) := by decide +kernel
theorem dX10_nextWay_70 : decode cX10_nextWay 70 = .ok (.iconst 1, 1) := by decide +kernel
theorem dX10_nextWay_71 : decode cX10_nextWay 71 = .ok (.ireturn, 1) := by decide +kernel
theorem dX10_takeWay_0 : decode cX10_takeWay 0 = .ok (.lconst 1, 1) := by decide +kernel
theorem dX10_takeWay_1 : decode cX10_takeWay 1 = .ok (.lstore_n 1, 1) := by decide +kernel
theorem dX10_takeWay_2 : decode cX10_takeWay 2 = .ok (.iconst 0, 1) := by decide +kernel
theorem dX10_takeWay_3 : decode cX10_takeWay 3 = .ok (.istore_n 3, 1) := by decide +kernel
theorem dX10_takeWay_4 : decode cX10_takeWay 4 = .ok (.iload_n 3, 1) := by decide +kernel
theorem dX10_takeWay_5 : decode cX10_takeWay 5 = .ok (.aload_n 0, 1) := by decide +kernel
theorem dX10_takeWay_6 : decode cX10_takeWay 6 = .ok (.getfield 175, 3) := by decide +kernel
theorem dX10_takeWay_9 : decode cX10_takeWay 9 = .ok (.if_icmp .ge 60, 3) := by decide +kernel
theorem dX10_takeWay_12 : decode cX10_takeWay 12 = .ok (.iconst 3, 1) := by decide +kernel
theorem dX10_takeWay_13 : decode cX10_takeWay 13 = .ok (.aload_n 0, 1) := by decide +kernel
theorem dX10_takeWay_14 : decode cX10_takeWay 14 = .ok (.getfield 46, 3) := by decide +kernel
theorem dX10_takeWay_17 : decode cX10_takeWay 17 = .ok (.aload_n 0, 1) := by decide +kernel
theorem dX10_takeWay_18 : decode cX10_takeWay 18 = .ok (.getfield 61, 3) := by decide +kernel
theorem dX10_takeWay_21 : decode cX10_takeWay 21 = .ok (.iload_n 3, 1) := by decide +kernel
theorem dX10_takeWay_22 : decode cX10_takeWay 22 = .ok (.iaload, 1) := by decide +kernel
theorem dX10_takeWay_23 : decode cX10_takeWay 23 = .ok (.iaload, 1) := by decide +kernel
theorem dX10_takeWay_24 : decode cX10_takeWay 24 = .ok (.imul, 1) := by decide +kernel
theorem dX10_takeWay_25 : decode cX10_takeWay 25 = .ok (.aload_n 0, 1) := by decide +kernel
theorem dX10_takeWay_26 : decode cX10_takeWay 26 = .ok (.getfield 73, 3) := by decide +kernel
theorem dX10_takeWay_29 : decode cX10_takeWay 29 = .ok (.iload_n 3, 1) := by decide +kernel
theorem dX10_takeWay_30 : decode cX10_takeWay 30 = .ok (.iaload, 1) := by decide +kernel
theorem dX10_takeWay_31 : decode cX10_takeWay 31 = .ok (.iadd, 1) := by decide +kernel
theorem dX10_takeWay_32 : decode cX10_takeWay 32 = .ok (.istore 4, 2) := by decide +kernel
theorem dX10_takeWay_34 : decode cX10_takeWay 34 = .ok (.aload_n 0, 1) := by decide +kernel
theorem dX10_takeWay_35 : decode cX10_takeWay 35 = .ok (.getfield 64, 3) := by decide +kernel
theorem dX10_takeWay_38 : decode cX10_takeWay 38 = .ok (.aload_n 0, 1) := by decide +kernel
theorem dX10_takeWay_39 : decode cX10_takeWay 39 = .ok (.getfield 61, 3) := by decide +kernel
theorem dX10_takeWay_42 : decode cX10_takeWay 42 = .ok (.iload_n 3, 1) := by decide +kernel
theorem dX10_takeWay_43 : decode cX10_takeWay 43 = .ok (.iaload, 1) := by decide +kernel
theorem dX10_takeWay_44 : decode cX10_takeWay 44 = .ok (.aload_n 0, 1) := by decide +kernel
theorem dX10_takeWay_45 : decode cX10_takeWay 45 = .ok (.getfield 40, 3) := by decide +kernel
theorem dX10_takeWay_48 : decode cX10_takeWay 48 = .ok (.iload 4, 2) := by decide +kernel
theorem dX10_takeWay_50 : decode cX10_takeWay 50 = .ok (.iaload, 1) := by decide +kernel
theorem dX10_takeWay_51 : decode cX10_takeWay 51 = .ok (.iastore, 1) := by decide +kernel
theorem dX10_takeWay_52 : decode cX10_takeWay 52 = .ok (.lload_n 1, 1) := by decide +kernel
theorem dX10_takeWay_53 : decode cX10_takeWay 53 = .ok (.aload_n 0, 1) := by decide +kernel
theorem dX10_takeWay_54 : decode cX10_takeWay 54 = .ok (.getfield 43, 3) := by decide +kernel
theorem dX10_takeWay_57 : decode cX10_takeWay 57 = .ok (.iload 4, 2) := by decide +kernel
theorem dX10_takeWay_59 : decode cX10_takeWay 59 = .ok (.iaload, 1) := by decide +kernel
theorem dX10_takeWay_60 : decode cX10_takeWay 60 = .ok (.i2l, 1) := by decide +kernel
theorem dX10_takeWay_61 : decode cX10_takeWay 61 = .ok (.lmul, 1) := by decide +kernel
theorem dX10_takeWay_62 : decode cX10_takeWay 62 = .ok (.lstore_n 1, 1) := by decide +kernel
theorem dX10_takeWay_63 : decode cX10_takeWay 63 = .ok (.iinc 3 1, 3) := by decide +kernel
theorem dX10_takeWay_66 : decode cX10_takeWay 66 = .ok (.goto (-62), 3) := by decide +kernel
theorem dX10_takeWay_69 : decode cX10_takeWay 69 = .ok (.aload_n 0, 1) := by decide +kernel
theorem dX10_takeWay_70 : decode cX10_takeWay 70 = .ok (.invokevirtual 215, 3) := by decide +kernel
theorem dX10_takeWay_73 : decode cX10_takeWay 73 = .ok (.lload_n 1, 1) := by decide +kernel
theorem dX10_takeWay_74 : decode cX10_takeWay 74 = .ok (.lreturn, 1) := by decide +kernel
theorem dX10_allWays_0 : decode cX10_allWays 0 = .ok (.lconst 1, 1) := by decide +kernel
theorem dX10_allWays_1 : decode cX10_allWays 1 = .ok (.lstore_n 1, 1) := by decide +kernel
theorem dX10_allWays_2 : decode cX10_allWays 2 = .ok (.iconst 0, 1) := by decide +kernel
theorem dX10_allWays_3 : decode cX10_allWays 3 = .ok (.istore_n 3, 1) := by decide +kernel
theorem dX10_allWays_4 : decode cX10_allWays 4 = .ok (.iload_n 3, 1) := by decide +kernel
theorem dX10_allWays_5 : decode cX10_allWays 5 = .ok (.aload_n 0, 1) := by decide +kernel
theorem dX10_allWays_6 : decode cX10_allWays 6 = .ok (.getfield 175, 3) := by decide +kernel
theorem dX10_allWays_9 : decode cX10_allWays 9 = .ok (.if_icmp .ge 15, 3) := by decide +kernel
theorem dX10_allWays_12 : decode cX10_allWays 12 = .ok (.lload_n 1, 1) := by decide +kernel
theorem dX10_allWays_13 : decode cX10_allWays 13 = .ok (.ldc2_w 126, 3) := by decide +kernel
theorem dX10_allWays_16 : decode cX10_allWays 16 = .ok (.lmul, 1) := by decide +kernel
theorem dX10_allWays_17 : decode cX10_allWays 17 = .ok (.lstore_n 1, 1) := by decide +kernel
theorem dX10_allWays_18 : decode cX10_allWays 18 = .ok (.iinc 3 1, 3) := by decide +kernel
theorem dX10_allWays_21 : decode cX10_allWays 21 = .ok (.goto (-17), 3) := by decide +kernel
theorem dX10_allWays_24 : decode cX10_allWays 24 = .ok (.lload_n 1, 1) := by decide +kernel
theorem dX10_allWays_25 : decode cX10_allWays 25 = .ok (.lreturn, 1) := by decide +kernel
theorem dX10_isDue_0 : decode cX10_isDue 0 = .ok (.iconst 0, 1) := by decide +kernel
theorem dX10_isDue_1 : decode cX10_isDue 1 = .ok (.istore_n 1, 1) := by decide +kernel
theorem dX10_isDue_2 : decode cX10_isDue 2 = .ok (.iconst 0, 1) := by decide +kernel
theorem dX10_isDue_3 : decode cX10_isDue 3 = .ok (.istore_n 2, 1) := by decide +kernel
theorem dX10_isDue_4 : decode cX10_isDue 4 = .ok (.iload_n 2, 1) := by decide +kernel
theorem dX10_isDue_5 : decode cX10_isDue 5 = .ok (.aload_n 0, 1) := by decide +kernel
theorem dX10_isDue_6 : decode cX10_isDue 6 = .ok (.getfield 175, 3) := by decide +kernel
theorem dX10_isDue_9 : decode cX10_isDue 9 = .ok (.if_icmp .ge 23, 3) := by decide +kernel
theorem dX10_isDue_12 : decode cX10_isDue 12 = .ok (.iload_n 1, 1) := by decide +kernel
theorem dX10_isDue_13 : decode cX10_isDue 13 = .ok (.aload_n 0, 1) := by decide +kernel
theorem dX10_isDue_14 : decode cX10_isDue 14 = .ok (.getfield 64, 3) := by decide +kernel
theorem dX10_isDue_17 : decode cX10_isDue 17 = .ok (.aload_n 0, 1) := by decide +kernel
theorem dX10_isDue_18 : decode cX10_isDue 18 = .ok (.getfield 61, 3) := by decide +kernel
theorem dX10_isDue_21 : decode cX10_isDue 21 = .ok (.iload_n 2, 1) := by decide +kernel
theorem dX10_isDue_22 : decode cX10_isDue 22 = .ok (.iaload, 1) := by decide +kernel
theorem dX10_isDue_23 : decode cX10_isDue 23 = .ok (.iaload, 1) := by decide +kernel
theorem dX10_isDue_24 : decode cX10_isDue 24 = .ok (.iadd, 1) := by decide +kernel
theorem dX10_isDue_25 : decode cX10_isDue 25 = .ok (.istore_n 1, 1) := by decide +kernel
theorem dX10_isDue_26 : decode cX10_isDue 26 = .ok (.iinc 2 1, 3) := by decide +kernel
theorem dX10_isDue_29 : decode cX10_isDue 29 = .ok (.goto (-25), 3) := by decide +kernel
theorem dX10_isDue_32 : decode cX10_isDue 32 = .ok (.iload_n 1, 1) := by decide +kernel
theorem dX10_isDue_33 : decode cX10_isDue 33 = .ok (.aload_n 0, 1) := by decide +kernel
theorem dX10_isDue_34 : decode cX10_isDue 34 = .ok (.getfield 13, 3) := by decide +kernel
theorem dX10_isDue_37 : decode cX10_isDue 37 = .ok (.iconst 3, 1) := by decide +kernel
theorem dX10_isDue_38 : decode cX10_isDue 38 = .ok (.iaload, 1) := by decide +kernel
theorem dX10_isDue_39 : decode cX10_isDue 39 = .ok (.if_icmp .lt 7, 3) := by decide +kernel
theorem dX10_isDue_42 : decode cX10_isDue 42 = .ok (.iconst 1, 1) := by decide +kernel
theorem dX10_isDue_43 : decode cX10_isDue 43 = .ok (.goto 4, 3) := by decide +kernel
theorem dX10_isDue_46 : decode cX10_isDue 46 = .ok (.iconst 0, 1) := by decide +kernel
theorem dX10_isDue_47 : decode cX10_isDue 47 = .ok (.ireturn, 1) := by decide +kernel
theorem dX10_waysOf_0 : decode cX10_waysOf 0 = .ok (.aload_n 0, 1) := by decide +kernel
theorem dX10_waysOf_1 : decode cX10_waysOf 1 = .ok (.invokevirtual 218, 3) := by decide +kernel
theorem dX10_waysOf_4 : decode cX10_waysOf 4 = .ok (.lconst 0, 1) := by decide +kernel
theorem dX10_waysOf_5 : decode cX10_waysOf 5 = .ok (.lstore_n 2, 1) := by decide +kernel
theorem dX10_waysOf_6 : decode cX10_waysOf 6 = .ok (.iconst 1, 1) := by decide +kernel
theorem dX10_waysOf_7 : decode cX10_waysOf 7 = .ok (.istore 4, 2) := by decide +kernel
theorem dX10_waysOf_9 : decode cX10_waysOf 9 = .ok (.iload 4, 2) := by decide +kernel
theorem dX10_waysOf_11 : decode cX10_waysOf 11 = .ok (.ifCond .eq 167, 3) := by decide +kernel
theorem dX10_waysOf_14 : decode cX10_waysOf 14 = .ok (.aload_n 0, 1) := by decide +kernel
theorem dX10_waysOf_15 : decode cX10_waysOf 15 = .ok (.invokevirtual 221, 3) := by decide +kernel
theorem dX10_waysOf_18 : decode cX10_waysOf 18 = .ok (.lstore 5, 2) := by decide +kernel
theorem dX10_waysOf_20 : decode cX10_waysOf 20 = .ok (.aload_n 0, 1) := by decide +kernel
theorem dX10_waysOf_21 : decode cX10_waysOf 21 = .ok (.invokevirtual 212, 3) := by decide +kernel
theorem dX10_waysOf_24 : decode cX10_waysOf 24 = .ok (.istore 7, 2) := by decide +kernel
theorem dX10_waysOf_26 : decode cX10_waysOf 26 = .ok (.aload_n 0, 1) := by decide +kernel
theorem dX10_waysOf_27 : decode cX10_waysOf 27 = .ok (.getfield 199, 3) := by decide +kernel
theorem dX10_waysOf_30 : decode cX10_waysOf 30 = .ok (.aload_n 0, 1) := by decide +kernel
theorem dX10_waysOf_31 : decode cX10_waysOf 31 = .ok (.getfield 13, 3) := by decide +kernel
theorem dX10_waysOf_34 : decode cX10_waysOf 34 = .ok (.bipush 8, 2) := by decide +kernel
theorem dX10_waysOf_36 : decode cX10_waysOf 36 = .ok (.iaload, 1) := by decide +kernel
theorem dX10_waysOf_37 : decode cX10_waysOf 37 = .ok (.if_icmp .lt 7, 3) := by decide +kernel
theorem dX10_waysOf_40 : decode cX10_waysOf 40 = .ok (.iconst 1, 1) := by decide +kernel
theorem dX10_waysOf_41 : decode cX10_waysOf 41 = .ok (.goto 4, 3) := by decide +kernel
theorem dX10_waysOf_44 : decode cX10_waysOf 44 = .ok (.iconst 0, 1) := by decide +kernel
theorem dX10_waysOf_45 : decode cX10_waysOf 45 = .ok (.istore 8, 2) := by decide +kernel
theorem dX10_waysOf_47 : decode cX10_waysOf 47 = .ok (.iload_n 1, 1) := by decide +kernel
theorem dX10_waysOf_48 : decode cX10_waysOf 48 = .ok (.ifCond .ne 8, 3) := by decide +kernel
theorem dX10_waysOf_51 : decode cX10_waysOf 51 = .ok (.iload 7, 2) := by decide +kernel
theorem dX10_waysOf_53 : decode cX10_waysOf 53 = .ok (.goto 100, 3) := by decide +kernel
theorem dX10_waysOf_56 : decode cX10_waysOf 56 = .ok (.iload_n 1, 1) := by decide +kernel
theorem dX10_waysOf_57 : decode cX10_waysOf 57 = .ok (.iconst 1, 1) := by decide +kernel
theorem dX10_waysOf_58 : decode cX10_waysOf 58 = .ok (.if_icmp .ne 23, 3) := by decide +kernel
theorem dX10_waysOf_61 : decode cX10_waysOf 61 = .ok (.iload 7, 2) := by decide +kernel
theorem dX10_waysOf_63 : decode cX10_waysOf 63 = .ok (.ifCond .eq 14, 3) := by decide +kernel
theorem dX10_waysOf_66 : decode cX10_waysOf 66 = .ok (.aload_n 0, 1) := by decide +kernel
theorem dX10_waysOf_67 : decode cX10_waysOf 67 = .ok (.invokevirtual 225, 3) := by decide +kernel
theorem dX10_waysOf_70 : decode cX10_waysOf 70 = .ok (.ifCond .ne 7, 3) := by decide +kernel
theorem dX10_waysOf_73 : decode cX10_waysOf 73 = .ok (.iconst 1, 1) := by decide +kernel
theorem dX10_waysOf_74 : decode cX10_waysOf 74 = .ok (.goto 79, 3) := by decide +kernel
theorem dX10_waysOf_77 : decode cX10_waysOf 77 = .ok (.iconst 0, 1) := by decide +kernel
theorem dX10_waysOf_78 : decode cX10_waysOf 78 = .ok (.goto 75, 3) := by decide +kernel
theorem dX10_waysOf_81 : decode cX10_waysOf 81 = .ok (.iload_n 1, 1) := by decide +kernel
theorem dX10_waysOf_82 : decode cX10_waysOf 82 = .ok (.iconst 2, 1) := by decide +kernel
theorem dX10_waysOf_83 : decode cX10_waysOf 83 = .ok (.if_icmp .ne 23, 3) := by decide +kernel
theorem dX10_waysOf_86 : decode cX10_waysOf 86 = .ok (.iload 7, 2) := by decide +kernel
theorem dX10_waysOf_88 : decode cX10_waysOf 88 = .ok (.ifCond .ne 14, 3) := by decide +kernel
theorem dX10_waysOf_91 : decode cX10_waysOf 91 = .ok (.aload_n 0, 1) := by decide +kernel
theorem dX10_waysOf_92 : decode cX10_waysOf 92 = .ok (.invokevirtual 225, 3) := by decide +kernel
theorem dX10_waysOf_95 : decode cX10_waysOf 95 = .ok (.ifCond .eq 7, 3) := by decide +kernel
theorem dX10_waysOf_98 : decode cX10_waysOf 98 = .ok (.iconst 1, 1) := by decide +kernel
theorem dX10_waysOf_99 : decode cX10_waysOf 99 = .ok (.goto 54, 3) := by decide +kernel
theorem dX10_waysOf_102 : decode cX10_waysOf 102 = .ok (.iconst 0, 1) := by decide +kernel
theorem dX10_waysOf_103 : decode cX10_waysOf 103 = .ok (.goto 50, 3) := by decide +kernel
theorem dX10_waysOf_106 : decode cX10_waysOf 106 = .ok (.iload_n 1, 1) := by decide +kernel
theorem dX10_waysOf_107 : decode cX10_waysOf 107 = .ok (.iconst 3, 1) := by decide +kernel
theorem dX10_waysOf_108 : decode cX10_waysOf 108 = .ok (.if_icmp .ne 20, 3) := by decide +kernel
theorem dX10_waysOf_111 : decode cX10_waysOf 111 = .ok (.iload 7, 2) := by decide +kernel
theorem dX10_waysOf_113 : decode cX10_waysOf 113 = .ok (.aload_n 0, 1) := by decide +kernel
theorem dX10_waysOf_114 : decode cX10_waysOf 114 = .ok (.invokevirtual 225, 3) := by decide +kernel
theorem dX10_waysOf_117 : decode cX10_waysOf 117 = .ok (.if_icmp .eq 7, 3) := by decide +kernel
theorem dX10_waysOf_120 : decode cX10_waysOf 120 = .ok (.iconst 1, 1) := by decide +kernel
theorem dX10_waysOf_121 : decode cX10_waysOf 121 = .ok (.goto 32, 3) := by decide +kernel
theorem dX10_waysOf_124 : decode cX10_waysOf 124 = .ok (.iconst 0, 1) := by decide +kernel
theorem dX10_waysOf_125 : decode cX10_waysOf 125 = .ok (.goto 28, 3) := by decide +kernel
theorem dX10_waysOf_128 : decode cX10_waysOf 128 = .ok (.iload_n 1, 1) := by decide +kernel
theorem dX10_waysOf_129 : decode cX10_waysOf 129 = .ok (.iconst 4, 1) := by decide +kernel
theorem dX10_waysOf_130 : decode cX10_waysOf 130 = .ok (.if_icmp .ne 8, 3) := by decide +kernel
theorem dX10_waysOf_133 : decode cX10_waysOf 133 = .ok (.iload 8, 2) := by decide +kernel
theorem dX10_waysOf_135 : decode cX10_waysOf 135 = .ok (.goto 18, 3) := by decide +kernel
theorem dX10_waysOf_138 : decode cX10_waysOf 138 = .ok (.iload 7, 2) := by decide +kernel
theorem dX10_waysOf_140 : decode cX10_waysOf 140 = .ok (.ifCond .eq 12, 3) := by decide +kernel
theorem dX10_waysOf_143 : decode cX10_waysOf 143 = .ok (.iload 8, 2) := by decide +kernel
theorem dX10_waysOf_145 : decode cX10_waysOf 145 = .ok (.ifCond .eq 7, 3) := by decide +kernel
theorem dX10_waysOf_148 : decode cX10_waysOf 148 = .ok (.iconst 1, 1) := by decide +kernel
theorem dX10_waysOf_149 : decode cX10_waysOf 149 = .ok (.goto 4, 3) := by decide +kernel
theorem dX10_waysOf_152 : decode cX10_waysOf 152 = .ok (.iconst 0, 1) := by decide +kernel
theorem dX10_waysOf_153 : decode cX10_waysOf 153 = .ok (.istore 9, 2) := by decide +kernel
theorem dX10_waysOf_155 : decode cX10_waysOf 155 = .ok (.lload_n 2, 1) := by decide +kernel
theorem dX10_waysOf_156 : decode cX10_waysOf 156 = .ok (.iload 9, 2) := by decide +kernel
theorem dX10_waysOf_158 : decode cX10_waysOf 158 = .ok (.ifCond .eq 8, 3) := by decide +kernel
theorem dX10_waysOf_161 : decode cX10_waysOf 161 = .ok (.lload 5, 2) := by decide +kernel
theorem dX10_waysOf_163 : decode cX10_waysOf 163 = .ok (.goto 4, 3) := by decide +kernel
theorem dX10_waysOf_166 : decode cX10_waysOf 166 = .ok (.lconst 0, 1) := by decide +kernel
theorem dX10_waysOf_167 : decode cX10_waysOf 167 = .ok (.ladd, 1) := by decide +kernel
theorem dX10_waysOf_168 : decode cX10_waysOf 168 = .ok (.lstore_n 2, 1) := by decide +kernel
theorem dX10_waysOf_169 : decode cX10_waysOf 169 = .ok (.aload_n 0, 1) := by decide +kernel
theorem dX10_waysOf_170 : decode cX10_waysOf 170 = .ok (.invokevirtual 228, 3) := by decide +kernel
theorem dX10_waysOf_173 : decode cX10_waysOf 173 = .ok (.istore 4, 2) := by decide +kernel
theorem dX10_waysOf_175 : decode cX10_waysOf 175 = .ok (.goto (-166), 3) := by decide +kernel
theorem dX10_waysOf_178 : decode cX10_waysOf 178 = .ok (.lload_n 2, 1) := by decide +kernel
theorem dX10_waysOf_179 : decode cX10_waysOf 179 = .ok (.lreturn, 1) := by decide +kernel
theorem dX10_common_0 : decode cX10_common 0 = .ok (.lload_n 0, 1) := by decide +kernel
theorem dX10_common_1 : decode cX10_common 1 = .ok (.lstore 4, 2) := by decide +kernel
theorem dX10_common_3 : decode cX10_common 3 = .ok (.lload_n 2, 1) := by decide +kernel
theorem dX10_common_4 : decode cX10_common 4 = .ok (.lstore 6, 2) := by decide +kernel
theorem dX10_common_6 : decode cX10_common 6 = .ok (.lload 6, 2) := by decide +kernel
theorem dX10_common_8 : decode cX10_common 8 = .ok (.lconst 0, 1) := by decide +kernel
theorem dX10_common_9 : decode cX10_common 9 = .ok (.lcmp, 1) := by decide +kernel
theorem dX10_common_10 : decode cX10_common 10 = .ok (.ifCond .eq 21, 3) := by decide +kernel
theorem dX10_common_13 : decode cX10_common 13 = .ok (.lload 4, 2) := by decide +kernel
theorem dX10_common_15 : decode cX10_common 15 = .ok (.lload 6, 2) := by decide +kernel
theorem dX10_common_17 : decode cX10_common 17 = .ok (.lrem, 1) := by decide +kernel
theorem dX10_common_18 : decode cX10_common 18 = .ok (.lstore 8, 2) := by decide +kernel
theorem dX10_common_20 : decode cX10_common 20 = .ok (.lload 6, 2) := by decide +kernel
theorem dX10_common_22 : decode cX10_common 22 = .ok (.lstore 4, 2) := by decide +kernel
theorem dX10_common_24 : decode cX10_common 24 = .ok (.lload 8, 2) := by decide +kernel
theorem dX10_common_26 : decode cX10_common 26 = .ok (.lstore 6, 2) := by decide +kernel
theorem dX10_common_28 : decode cX10_common 28 = .ok (.goto (-22), 3) := by decide +kernel
theorem dX10_common_31 : decode cX10_common 31 = .ok (.lload 4, 2) := by decide +kernel
theorem dX10_common_33 : decode cX10_common 33 = .ok (.lreturn, 1) := by decide +kernel
theorem dX10_odds_0 : decode cX10_odds 0 = .ok (.iload_n 1, 1) := by decide +kernel
theorem dX10_odds_1 : decode cX10_odds 1 = .ok (.i2l, 1) := by decide +kernel
theorem dX10_odds_2 : decode cX10_odds 2 = .ok (.lconst 0, 1) := by decide +kernel
theorem dX10_odds_3 : decode cX10_odds 3 = .ok (.ldc2_w 190, 3) := by decide +kernel
theorem dX10_odds_6 : decode cX10_odds 6 = .ok (.invokestatic 95, 3) := by decide +kernel
theorem dX10_odds_9 : decode cX10_odds 9 = .ok (.ifCond .ne 7, 3) := by decide +kernel
theorem dX10_odds_12 : decode cX10_odds 12 = .ok (.ldc2_w 231, 3) := by decide +kernel
theorem dX10_odds_15 : decode cX10_odds 15 = .ok (.lreturn, 1) := by decide +kernel
theorem dX10_odds_16 : decode cX10_odds 16 = .ok (.aload_n 0, 1) := by decide +kernel
theorem dX10_odds_17 : decode cX10_odds 17 = .ok (.invokevirtual 151, 3) := by decide +kernel
theorem dX10_odds_20 : decode cX10_odds 20 = .ok (.aload_n 0, 1) := by decide +kernel
theorem dX10_odds_21 : decode cX10_odds 21 = .ok (.iconst 0, 1) := by decide +kernel
theorem dX10_odds_22 : decode cX10_odds 22 = .ok (.invokevirtual 233, 3) := by decide +kernel
theorem dX10_odds_25 : decode cX10_odds 25 = .ok (.lstore_n 2, 1) := by decide +kernel
theorem dX10_odds_26 : decode cX10_odds 26 = .ok (.lload_n 2, 1) := by decide +kernel
theorem dX10_odds_27 : decode cX10_odds 27 = .ok (.aload_n 0, 1) := by decide +kernel
theorem dX10_odds_28 : decode cX10_odds 28 = .ok (.invokevirtual 237, 3) := by decide +kernel
theorem dX10_odds_31 : decode cX10_odds 31 = .ok (.invokestatic 240, 3) := by decide +kernel
theorem dX10_odds_34 : decode cX10_odds 34 = .ok (.lstore 4, 2) := by decide +kernel
theorem dX10_odds_36 : decode cX10_odds 36 = .ok (.iload_n 1, 1) := by decide +kernel
theorem dX10_odds_37 : decode cX10_odds 37 = .ok (.ifCond .ne 7, 3) := by decide +kernel
theorem dX10_odds_40 : decode cX10_odds 40 = .ok (.lload_n 2, 1) := by decide +kernel
theorem dX10_odds_41 : decode cX10_odds 41 = .ok (.goto 22, 3) := by decide +kernel
theorem dX10_odds_44 : decode cX10_odds 44 = .ok (.iload_n 1, 1) := by decide +kernel
theorem dX10_odds_45 : decode cX10_odds 45 = .ok (.iconst 1, 1) := by decide +kernel
theorem dX10_odds_46 : decode cX10_odds 46 = .ok (.if_icmp .ne 10, 3) := by decide +kernel
theorem dX10_odds_49 : decode cX10_odds 49 = .ok (.lload_n 2, 1) := by decide +kernel
theorem dX10_odds_50 : decode cX10_odds 50 = .ok (.lload 4, 2) := by decide +kernel
theorem dX10_odds_52 : decode cX10_odds 52 = .ok (.ldiv, 1) := by decide +kernel
theorem dX10_odds_53 : decode cX10_odds 53 = .ok (.goto 10, 3) := by decide +kernel
theorem dX10_odds_56 : decode cX10_odds 56 = .ok (.aload_n 0, 1) := by decide +kernel
theorem dX10_odds_57 : decode cX10_odds 57 = .ok (.invokevirtual 237, 3) := by decide +kernel
theorem dX10_odds_60 : decode cX10_odds 60 = .ok (.lload 4, 2) := by decide +kernel
theorem dX10_odds_62 : decode cX10_odds 62 = .ok (.ldiv, 1) := by decide +kernel
theorem dX10_odds_63 : decode cX10_odds 63 = .ok (.lreturn, 1) := by decide +kernel
theorem dX10_mean_0 : decode cX10_mean 0 = .ok (.aload_n 0, 1) := by decide +kernel
theorem dX10_mean_1 : decode cX10_mean 1 = .ok (.iload_n 1, 1) := by decide +kernel
theorem dX10_mean_2 : decode cX10_mean 2 = .ok (.invokevirtual 181, 3) := by decide +kernel
theorem dX10_mean_5 : decode cX10_mean 5 = .ok (.ifCond .eq 13, 3) := by decide +kernel
theorem dX10_mean_8 : decode cX10_mean 8 = .ok (.iload_n 2, 1) := by decide +kernel
theorem dX10_mean_9 : decode cX10_mean 9 = .ok (.i2l, 1) := by decide +kernel
theorem dX10_mean_10 : decode cX10_mean 10 = .ok (.lconst 0, 1) := by decide +kernel
theorem dX10_mean_11 : decode cX10_mean 11 = .ok (.lconst 1, 1) := by decide +kernel
theorem dX10_mean_12 : decode cX10_mean 12 = .ok (.invokestatic 95, 3) := by decide +kernel
theorem dX10_mean_15 : decode cX10_mean 15 = .ok (.ifCond .ne 7, 3) := by decide +kernel
theorem dX10_mean_18 : decode cX10_mean 18 = .ok (.ldc2_w 244, 3) := by decide +kernel
theorem dX10_mean_21 : decode cX10_mean 21 = .ok (.lreturn, 1) := by decide +kernel
theorem dX10_mean_22 : decode cX10_mean 22 = .ok (.aload_n 0, 1) := by decide +kernel
theorem dX10_mean_23 : decode cX10_mean 23 = .ok (.invokevirtual 151, 3) := by decide +kernel
theorem dX10_mean_26 : decode cX10_mean 26 = .ok (.aload_n 0, 1) := by decide +kernel
theorem dX10_mean_27 : decode cX10_mean 27 = .ok (.invokevirtual 218, 3) := by decide +kernel
theorem dX10_mean_30 : decode cX10_mean 30 = .ok (.aload_n 0, 1) := by decide +kernel
theorem dX10_mean_31 : decode cX10_mean 31 = .ok (.iload_n 1, 1) := by decide +kernel
theorem dX10_mean_32 : decode cX10_mean 32 = .ok (.invokevirtual 187, 3) := by decide +kernel
theorem dX10_mean_35 : decode cX10_mean 35 = .ok (.bipush (-4), 2) := by decide +kernel
theorem dX10_mean_37 : decode cX10_mean 37 = .ok (.if_icmp .ne 7, 3) := by decide +kernel
theorem dX10_mean_40 : decode cX10_mean 40 = .ok (.ldc2_w 246, 3) := by decide +kernel
theorem dX10_mean_43 : decode cX10_mean 43 = .ok (.lreturn, 1) := by decide +kernel
theorem dX10_mean_44 : decode cX10_mean 44 = .ok (.lconst 0, 1) := by decide +kernel
theorem dX10_mean_45 : decode cX10_mean 45 = .ok (.lstore_n 3, 1) := by decide +kernel
theorem dX10_mean_46 : decode cX10_mean 46 = .ok (.iconst 1, 1) := by decide +kernel
theorem dX10_mean_47 : decode cX10_mean 47 = .ok (.istore 5, 2) := by decide +kernel
theorem dX10_mean_49 : decode cX10_mean 49 = .ok (.iload 5, 2) := by decide +kernel
theorem dX10_mean_51 : decode cX10_mean 51 = .ok (.ifCond .eq 43, 3) := by decide +kernel
theorem dX10_mean_54 : decode cX10_mean 54 = .ok (.aload_n 0, 1) := by decide +kernel
theorem dX10_mean_55 : decode cX10_mean 55 = .ok (.invokevirtual 221, 3) := by decide +kernel
theorem dX10_mean_58 : decode cX10_mean 58 = .ok (.lstore 6, 2) := by decide +kernel
theorem dX10_mean_60 : decode cX10_mean 60 = .ok (.lload_n 3, 1) := by decide +kernel
theorem dX10_mean_61 : decode cX10_mean 61 = .ok (.lload 6, 2) := by decide +kernel
theorem dX10_mean_63 : decode cX10_mean 63 = .ok (.iload_n 2, 1) := by decide +kernel
theorem dX10_mean_64 : decode cX10_mean 64 = .ok (.ifCond .ne 12, 3) := by decide +kernel
theorem dX10_mean_67 : decode cX10_mean 67 = .ok (.aload_n 0, 1) := by decide +kernel
theorem dX10_mean_68 : decode cX10_mean 68 = .ok (.getfield 67, 3) := by decide +kernel
theorem dX10_mean_71 : decode cX10_mean 71 = .ok (.iload_n 1, 1) := by decide +kernel
theorem dX10_mean_72 : decode cX10_mean 72 = .ok (.iaload, 1) := by decide +kernel
theorem dX10_mean_73 : decode cX10_mean 73 = .ok (.goto 8, 3) := by decide +kernel
theorem dX10_mean_76 : decode cX10_mean 76 = .ok (.aload_n 0, 1) := by decide +kernel
theorem dX10_mean_77 : decode cX10_mean 77 = .ok (.iload_n 1, 1) := by decide +kernel
theorem dX10_mean_78 : decode cX10_mean 78 = .ok (.invokevirtual 248, 3) := by decide +kernel
theorem dX10_mean_81 : decode cX10_mean 81 = .ok (.i2l, 1) := by decide +kernel
theorem dX10_mean_82 : decode cX10_mean 82 = .ok (.lmul, 1) := by decide +kernel
theorem dX10_mean_83 : decode cX10_mean 83 = .ok (.ladd, 1) := by decide +kernel
theorem dX10_mean_84 : decode cX10_mean 84 = .ok (.lstore_n 3, 1) := by decide +kernel
theorem dX10_mean_85 : decode cX10_mean 85 = .ok (.aload_n 0, 1) := by decide +kernel
theorem dX10_mean_86 : decode cX10_mean 86 = .ok (.invokevirtual 228, 3) := by decide +kernel
theorem dX10_mean_89 : decode cX10_mean 89 = .ok (.istore 5, 2) := by decide +kernel
theorem dX10_mean_91 : decode cX10_mean 91 = .ok (.goto (-42), 3) := by decide +kernel
theorem dX10_mean_94 : decode cX10_mean 94 = .ok (.lload_n 3, 1) := by decide +kernel
theorem dX10_mean_95 : decode cX10_mean 95 = .ok (.lreturn, 1) := by decide +kernel
theorem dX10_wrong_0 : decode cX10_wrong 0 = .ok (.iload_n 1, 1) := by decide +kernel
theorem dX10_wrong_1 : decode cX10_wrong 1 = .ok (.i2l, 1) := by decide +kernel
theorem dX10_wrong_2 : decode cX10_wrong 2 = .ok (.lconst 0, 1) := by decide +kernel
theorem dX10_wrong_3 : decode cX10_wrong 3 = .ok (.lconst 1, 1) := by decide +kernel
theorem dX10_wrong_4 : decode cX10_wrong 4 = .ok (.invokestatic 95, 3) := by decide +kernel
theorem dX10_wrong_7 : decode cX10_wrong 7 = .ok (.ifCond .ne 7, 3) := by decide +kernel
theorem dX10_wrong_10 : decode cX10_wrong 10 = .ok (.ldc2_w 231, 3) := by decide +kernel
theorem dX10_wrong_13 : decode cX10_wrong 13 = .ok (.lreturn, 1) := by decide +kernel
theorem dX10_wrong_14 : decode cX10_wrong 14 = .ok (.aload_n 0, 1) := by decide +kernel
theorem dX10_wrong_15 : decode cX10_wrong 15 = .ok (.invokevirtual 151, 3) := by decide +kernel
theorem dX10_wrong_18 : decode cX10_wrong 18 = .ok (.aload_n 0, 1) := by decide +kernel
theorem dX10_wrong_19 : decode cX10_wrong 19 = .ok (.iload_n 1, 1) := by decide +kernel
theorem dX10_wrong_20 : decode cX10_wrong 20 = .ok (.iconst 1, 1) := by decide +kernel
theorem dX10_wrong_21 : decode cX10_wrong 21 = .ok (.iadd, 1) := by decide +kernel
theorem dX10_wrong_22 : decode cX10_wrong 22 = .ok (.invokevirtual 233, 3) := by decide +kernel
theorem dX10_wrong_25 : decode cX10_wrong 25 = .ok (.lreturn, 1) := by decide +kernel
theorem dX10_row_0 : decode cX10_row 0 = .ok (.aload_n 0, 1) := by decide +kernel
theorem dX10_row_1 : decode cX10_row 1 = .ok (.iload_n 1, 1) := by decide +kernel
theorem dX10_row_2 : decode cX10_row 2 = .ok (.invokevirtual 181, 3) := by decide +kernel
theorem dX10_row_5 : decode cX10_row 5 = .ok (.ifCond .eq 15, 3) := by decide +kernel
theorem dX10_row_8 : decode cX10_row 8 = .ok (.iload_n 2, 1) := by decide +kernel
theorem dX10_row_9 : decode cX10_row 9 = .ok (.i2l, 1) := by decide +kernel
theorem dX10_row_10 : decode cX10_row 10 = .ok (.lconst 0, 1) := by decide +kernel
theorem dX10_row_11 : decode cX10_row 11 = .ok (.ldc2_w 251, 3) := by decide +kernel
theorem dX10_row_14 : decode cX10_row 14 = .ok (.invokestatic 95, 3) := by decide +kernel
theorem dX10_row_17 : decode cX10_row 17 = .ok (.ifCond .ne 5, 3) := by decide +kernel
theorem dX10_row_20 : decode cX10_row 20 = .ok (.iconst (-1), 1) := by decide +kernel
theorem dX10_row_21 : decode cX10_row 21 = .ok (.ireturn, 1) := by decide +kernel
theorem dX10_row_22 : decode cX10_row 22 = .ok (.aload_n 0, 1) := by decide +kernel
theorem dX10_row_23 : decode cX10_row 23 = .ok (.getfield 55, 3) := by decide +kernel
theorem dX10_row_26 : decode cX10_row 26 = .ok (.iload_n 1, 1) := by decide +kernel
theorem dX10_row_27 : decode cX10_row 27 = .ok (.iaload, 1) := by decide +kernel
theorem dX10_row_28 : decode cX10_row 28 = .ok (.istore_n 3, 1) := by decide +kernel
theorem dX10_row_29 : decode cX10_row 29 = .ok (.aload_n 0, 1) := by decide +kernel
theorem dX10_row_30 : decode cX10_row 30 = .ok (.getfield 55, 3) := by decide +kernel
theorem dX10_row_33 : decode cX10_row 33 = .ok (.iload_n 1, 1) := by decide +kernel
theorem dX10_row_34 : decode cX10_row 34 = .ok (.iload_n 2, 1) := by decide +kernel
theorem dX10_row_35 : decode cX10_row 35 = .ok (.iastore, 1) := by decide +kernel
theorem dX10_row_36 : decode cX10_row 36 = .ok (.iload_n 3, 1) := by decide +kernel
theorem dX10_row_37 : decode cX10_row 37 = .ok (.ireturn, 1) := by decide +kernel
theorem dX10_most_0 : decode cX10_most 0 = .ok (.aload_n 0, 1) := by decide +kernel
theorem dX10_most_1 : decode cX10_most 1 = .ok (.getfield 46, 3) := by decide +kernel
theorem dX10_most_4 : decode cX10_most 4 = .ok (.iload_n 1, 1) := by decide +kernel
theorem dX10_most_5 : decode cX10_most 5 = .ok (.iaload, 1) := by decide +kernel
theorem dX10_most_6 : decode cX10_most 6 = .ok (.istore_n 2, 1) := by decide +kernel
theorem dX10_most_7 : decode cX10_most 7 = .ok (.iconst 0, 1) := by decide +kernel
theorem dX10_most_8 : decode cX10_most 8 = .ok (.istore_n 3, 1) := by decide +kernel
theorem dX10_most_9 : decode cX10_most 9 = .ok (.iconst 0, 1) := by decide +kernel
theorem dX10_most_10 : decode cX10_most 10 = .ok (.istore 4, 2) := by decide +kernel
theorem dX10_most_12 : decode cX10_most 12 = .ok (.iload 4, 2) := by decide +kernel
theorem dX10_most_14 : decode cX10_most 14 = .ok (.aload_n 0, 1) := by decide +kernel
theorem dX10_most_15 : decode cX10_most 15 = .ok (.getfield 37, 3) := by decide +kernel
theorem dX10_most_18 : decode cX10_most 18 = .ok (.iload_n 2, 1) := by decide +kernel
theorem dX10_most_19 : decode cX10_most 19 = .ok (.iaload, 1) := by decide +kernel
theorem dX10_most_20 : decode cX10_most 20 = .ok (.if_icmp .ge 40, 3) := by decide +kernel
theorem dX10_most_23 : decode cX10_most 23 = .ok (.aload_n 0, 1) := by decide +kernel
theorem dX10_most_24 : decode cX10_most 24 = .ok (.getfield 40, 3) := by decide +kernel
theorem dX10_most_27 : decode cX10_most 27 = .ok (.iconst 3, 1) := by decide +kernel
theorem dX10_most_28 : decode cX10_most 28 = .ok (.iload_n 2, 1) := by decide +kernel
theorem dX10_most_29 : decode cX10_most 29 = .ok (.imul, 1) := by decide +kernel
theorem dX10_most_30 : decode cX10_most 30 = .ok (.iload 4, 2) := by decide +kernel
theorem dX10_most_32 : decode cX10_most 32 = .ok (.iadd, 1) := by decide +kernel
theorem dX10_most_33 : decode cX10_most 33 = .ok (.iaload, 1) := by decide +kernel
theorem dX10_most_34 : decode cX10_most 34 = .ok (.iload_n 3, 1) := by decide +kernel
theorem dX10_most_35 : decode cX10_most 35 = .ok (.if_icmp .le 17, 3) := by decide +kernel
theorem dX10_most_38 : decode cX10_most 38 = .ok (.aload_n 0, 1) := by decide +kernel
theorem dX10_most_39 : decode cX10_most 39 = .ok (.getfield 40, 3) := by decide +kernel
theorem dX10_most_42 : decode cX10_most 42 = .ok (.iconst 3, 1) := by decide +kernel
theorem dX10_most_43 : decode cX10_most 43 = .ok (.iload_n 2, 1) := by decide +kernel
theorem dX10_most_44 : decode cX10_most 44 = .ok (.imul, 1) := by decide +kernel
theorem dX10_most_45 : decode cX10_most 45 = .ok (.iload 4, 2) := by decide +kernel
theorem dX10_most_47 : decode cX10_most 47 = .ok (.iadd, 1) := by decide +kernel
theorem dX10_most_48 : decode cX10_most 48 = .ok (.iaload, 1) := by decide +kernel
theorem dX10_most_49 : decode cX10_most 49 = .ok (.goto 4, 3) := by decide +kernel
theorem dX10_most_52 : decode cX10_most 52 = .ok (.iload_n 3, 1) := by decide +kernel
theorem dX10_most_53 : decode cX10_most 53 = .ok (.istore_n 3, 1) := by decide +kernel
theorem dX10_most_54 : decode cX10_most 54 = .ok (.iinc 4 1, 3) := by decide +kernel
theorem dX10_most_57 : decode cX10_most 57 = .ok (.goto (-45), 3) := by decide +kernel
theorem dX10_most_60 : decode cX10_most 60 = .ok (.iload_n 3, 1) := by decide +kernel
theorem dX10_most_61 : decode cX10_most 61 = .ok (.ireturn, 1) := by decide +kernel
theorem dX10_judge_0 : decode cX10_judge 0 = .ok (.aload_n 0, 1) := by decide +kernel
theorem dX10_judge_1 : decode cX10_judge 1 = .ok (.invokevirtual 151, 3) := by decide +kernel
theorem dX10_judge_4 : decode cX10_judge 4 = .ok (.aload_n 0, 1) := by decide +kernel
theorem dX10_judge_5 : decode cX10_judge 5 = .ok (.invokevirtual 184, 3) := by decide +kernel
theorem dX10_judge_8 : decode cX10_judge 8 = .ok (.iconst 0, 1) := by decide +kernel
theorem dX10_judge_9 : decode cX10_judge 9 = .ok (.istore_n 1, 1) := by decide +kernel
theorem dX10_judge_10 : decode cX10_judge 10 = .ok (.iconst 0, 1) := by decide +kernel
theorem dX10_judge_11 : decode cX10_judge 11 = .ok (.istore_n 2, 1) := by decide +kernel
theorem dX10_judge_12 : decode cX10_judge 12 = .ok (.iload_n 2, 1) := by decide +kernel
theorem dX10_judge_13 : decode cX10_judge 13 = .ok (.aload_n 0, 1) := by decide +kernel
theorem dX10_judge_14 : decode cX10_judge 14 = .ok (.getfield 175, 3) := by decide +kernel
theorem dX10_judge_17 : decode cX10_judge 17 = .ok (.if_icmp .ge 83, 3) := by decide +kernel
theorem dX10_judge_20 : decode cX10_judge 20 = .ok (.aload_n 0, 1) := by decide +kernel
theorem dX10_judge_21 : decode cX10_judge 21 = .ok (.getfield 61, 3) := by decide +kernel
theorem dX10_judge_24 : decode cX10_judge 24 = .ok (.iload_n 2, 1) := by decide +kernel
theorem dX10_judge_25 : decode cX10_judge 25 = .ok (.iaload, 1) := by decide +kernel
theorem dX10_judge_26 : decode cX10_judge 26 = .ok (.istore_n 3, 1) := by decide +kernel
theorem dX10_judge_27 : decode cX10_judge 27 = .ok (.aload_n 0, 1) := by decide +kernel
theorem dX10_judge_28 : decode cX10_judge 28 = .ok (.getfield 46, 3) := by decide +kernel
theorem dX10_judge_31 : decode cX10_judge 31 = .ok (.iload_n 3, 1) := by decide +kernel
theorem dX10_judge_32 : decode cX10_judge 32 = .ok (.iaload, 1) := by decide +kernel
theorem dX10_judge_33 : decode cX10_judge 33 = .ok (.istore 4, 2) := by decide +kernel
theorem dX10_judge_35 : decode cX10_judge 35 = .ok (.aload_n 0, 1) := by decide +kernel
theorem dX10_judge_36 : decode cX10_judge 36 = .ok (.aload_n 0, 1) := by decide +kernel
theorem dX10_judge_37 : decode cX10_judge 37 = .ok (.getfield 22, 3) := by decide +kernel
theorem dX10_judge_40 : decode cX10_judge 40 = .ok (.iload 4, 2) := by decide +kernel
theorem dX10_judge_42 : decode cX10_judge 42 = .ok (.iaload, 1) := by decide +kernel
theorem dX10_judge_43 : decode cX10_judge 43 = .ok (.iload_n 3, 1) := by decide +kernel
theorem dX10_judge_44 : decode cX10_judge 44 = .ok (.aload_n 0, 1) := by decide +kernel
theorem dX10_judge_45 : decode cX10_judge 45 = .ok (.iload_n 3, 1) := by decide +kernel
theorem dX10_judge_46 : decode cX10_judge 46 = .ok (.invokevirtual 253, 3) := by decide +kernel
theorem dX10_judge_49 : decode cX10_judge 49 = .ok (.aload_n 0, 1) := by decide +kernel
theorem dX10_judge_50 : decode cX10_judge 50 = .ok (.getfield 25, 3) := by decide +kernel
theorem dX10_judge_53 : decode cX10_judge 53 = .ok (.iload 4, 2) := by decide +kernel
theorem dX10_judge_55 : decode cX10_judge 55 = .ok (.iaload, 1) := by decide +kernel
theorem dX10_judge_56 : decode cX10_judge 56 = .ok (.aload_n 0, 1) := by decide +kernel
theorem dX10_judge_57 : decode cX10_judge 57 = .ok (.aload_n 0, 1) := by decide +kernel
theorem dX10_judge_58 : decode cX10_judge 58 = .ok (.getfield 154, 3) := by decide +kernel
theorem dX10_judge_61 : decode cX10_judge 61 = .ok (.iload_n 1, 1) := by decide +kernel
theorem dX10_judge_62 : decode cX10_judge 62 = .ok (.invokevirtual 205, 3) := by decide +kernel
theorem dX10_judge_65 : decode cX10_judge 65 = .ok (.aload_n 0, 1) := by decide +kernel
theorem dX10_judge_66 : decode cX10_judge 66 = .ok (.getfield 175, 3) := by decide +kernel
theorem dX10_judge_69 : decode cX10_judge 69 = .ok (.iload_n 2, 1) := by decide +kernel
theorem dX10_judge_70 : decode cX10_judge 70 = .ok (.isub, 1) := by decide +kernel
theorem dX10_judge_71 : decode cX10_judge 71 = .ok (.invokevirtual 208, 3) := by decide +kernel
theorem dX10_judge_74 : decode cX10_judge 74 = .ok (.aload_n 0, 1) := by decide +kernel
theorem dX10_judge_75 : decode cX10_judge 75 = .ok (.getfield 55, 3) := by decide +kernel
theorem dX10_judge_78 : decode cX10_judge 78 = .ok (.iload_n 3, 1) := by decide +kernel
theorem dX10_judge_79 : decode cX10_judge 79 = .ok (.iaload, 1) := by decide +kernel
theorem dX10_judge_80 : decode cX10_judge 80 = .ok (.if_icmp .eq 5, 3) := by decide +kernel
theorem dX10_judge_83 : decode cX10_judge 83 = .ok (.iload_n 3, 1) := by decide +kernel
theorem dX10_judge_84 : decode cX10_judge 84 = .ok (.ireturn, 1) := by decide +kernel
theorem dX10_judge_85 : decode cX10_judge 85 = .ok (.iload_n 1, 1) := by decide +kernel
theorem dX10_judge_86 : decode cX10_judge 86 = .ok (.aload_n 0, 1) := by decide +kernel
theorem dX10_judge_87 : decode cX10_judge 87 = .ok (.getfield 55, 3) := by decide +kernel
theorem dX10_judge_90 : decode cX10_judge 90 = .ok (.iload_n 3, 1) := by decide +kernel
theorem dX10_judge_91 : decode cX10_judge 91 = .ok (.iaload, 1) := by decide +kernel
theorem dX10_judge_92 : decode cX10_judge 92 = .ok (.iadd, 1) := by decide +kernel
theorem dX10_judge_93 : decode cX10_judge 93 = .ok (.istore_n 1, 1) := by decide +kernel
theorem dX10_judge_94 : decode cX10_judge 94 = .ok (.iinc 2 1, 3) := by decide +kernel
theorem dX10_judge_97 : decode cX10_judge 97 = .ok (.goto (-85), 3) := by decide +kernel
theorem dX10_judge_100 : decode cX10_judge 100 = .ok (.bipush (-4), 2) := by decide +kernel
theorem dX10_judge_102 : decode cX10_judge 102 = .ok (.ireturn, 1) := by decide +kernel
theorem dX10_made_0 : decode cX10_made 0 = .ok (.iload_n 1, 1) := by decide +kernel
theorem dX10_made_1 : decode cX10_made 1 = .ok (.i2l, 1) := by decide +kernel
theorem dX10_made_2 : decode cX10_made 2 = .ok (.lconst 0, 1) := by decide +kernel
theorem dX10_made_3 : decode cX10_made 3 = .ok (.lconst 1, 1) := by decide +kernel
theorem dX10_made_4 : decode cX10_made 4 = .ok (.invokestatic 95, 3) := by decide +kernel
theorem dX10_made_7 : decode cX10_made 7 = .ok (.ifCond .ne 5, 3) := by decide +kernel
theorem dX10_made_10 : decode cX10_made 10 = .ok (.iconst (-1), 1) := by decide +kernel
theorem dX10_made_11 : decode cX10_made 11 = .ok (.ireturn, 1) := by decide +kernel
theorem dX10_made_12 : decode cX10_made 12 = .ok (.aload_n 0, 1) := by decide +kernel
theorem dX10_made_13 : decode cX10_made 13 = .ok (.invokevirtual 151, 3) := by decide +kernel
theorem dX10_made_16 : decode cX10_made 16 = .ok (.aload_n 0, 1) := by decide +kernel
theorem dX10_made_17 : decode cX10_made 17 = .ok (.invokevirtual 184, 3) := by decide +kernel
theorem dX10_made_20 : decode cX10_made 20 = .ok (.aload_n 0, 1) := by decide +kernel
theorem dX10_made_21 : decode cX10_made 21 = .ok (.iconst 0, 1) := by decide +kernel
theorem dX10_made_22 : decode cX10_made 22 = .ok (.putfield 196, 3) := by decide +kernel
theorem dX10_made_25 : decode cX10_made 25 = .ok (.aload_n 0, 1) := by decide +kernel
theorem dX10_made_26 : decode cX10_made 26 = .ok (.iconst 0, 1) := by decide +kernel
theorem dX10_made_27 : decode cX10_made 27 = .ok (.putfield 202, 3) := by decide +kernel
theorem dX10_made_30 : decode cX10_made 30 = .ok (.iconst 0, 1) := by decide +kernel
theorem dX10_made_31 : decode cX10_made 31 = .ok (.istore_n 2, 1) := by decide +kernel
theorem dX10_made_32 : decode cX10_made 32 = .ok (.iload_n 2, 1) := by decide +kernel
theorem dX10_made_33 : decode cX10_made 33 = .ok (.aload_n 0, 1) := by decide +kernel
theorem dX10_made_34 : decode cX10_made 34 = .ok (.getfield 175, 3) := by decide +kernel
theorem dX10_made_37 : decode cX10_made 37 = .ok (.if_icmp .ge 57, 3) := by decide +kernel
theorem dX10_made_40 : decode cX10_made 40 = .ok (.aload_n 0, 1) := by decide +kernel
theorem dX10_made_41 : decode cX10_made 41 = .ok (.dup, 1) := by decide +kernel
theorem dX10_made_42 : decode cX10_made 42 = .ok (.getfield 196, 3) := by decide +kernel
theorem dX10_made_45 : decode cX10_made 45 = .ok (.aload_n 0, 1) := by decide +kernel
theorem dX10_made_46 : decode cX10_made 46 = .ok (.getfield 55, 3) := by decide +kernel
theorem dX10_made_49 : decode cX10_made 49 = .ok (.aload_n 0, 1) := by decide +kernel
theorem dX10_made_50 : decode cX10_made 50 = .ok (.getfield 61, 3) := by decide +kernel
theorem dX10_made_53 : decode cX10_made 53 = .ok (.iload_n 2, 1) := by decide +kernel
theorem dX10_made_54 : decode cX10_made 54 = .ok (.iaload, 1) := by decide +kernel
theorem dX10_made_55 : decode cX10_made 55 = .ok (.iaload, 1) := by decide +kernel
theorem dX10_made_56 : decode cX10_made 56 = .ok (.iadd, 1) := by decide +kernel
theorem dX10_made_57 : decode cX10_made 57 = .ok (.putfield 196, 3) := by decide +kernel
theorem dX10_made_60 : decode cX10_made 60 = .ok (.aload_n 0, 1) := by decide +kernel
theorem dX10_made_61 : decode cX10_made 61 = .ok (.dup, 1) := by decide +kernel
theorem dX10_made_62 : decode cX10_made 62 = .ok (.getfield 202, 3) := by decide +kernel
theorem dX10_made_65 : decode cX10_made 65 = .ok (.aload_n 0, 1) := by decide +kernel
theorem dX10_made_66 : decode cX10_made 66 = .ok (.getfield 55, 3) := by decide +kernel
theorem dX10_made_69 : decode cX10_made 69 = .ok (.aload_n 0, 1) := by decide +kernel
theorem dX10_made_70 : decode cX10_made 70 = .ok (.getfield 61, 3) := by decide +kernel
theorem dX10_made_73 : decode cX10_made 73 = .ok (.iload_n 2, 1) := by decide +kernel
theorem dX10_made_74 : decode cX10_made 74 = .ok (.iaload, 1) := by decide +kernel
theorem dX10_made_75 : decode cX10_made 75 = .ok (.iaload, 1) := by decide +kernel
theorem dX10_made_76 : decode cX10_made 76 = .ok (.ifCond .le 7, 3) := by decide +kernel
theorem dX10_made_79 : decode cX10_made 79 = .ok (.iconst 1, 1) := by decide +kernel
theorem dX10_made_80 : decode cX10_made 80 = .ok (.goto 4, 3) := by decide +kernel
theorem dX10_made_83 : decode cX10_made 83 = .ok (.iconst 0, 1) := by decide +kernel
theorem dX10_made_84 : decode cX10_made 84 = .ok (.iadd, 1) := by decide +kernel
theorem dX10_made_85 : decode cX10_made 85 = .ok (.putfield 202, 3) := by decide +kernel
theorem dX10_made_88 : decode cX10_made 88 = .ok (.iinc 2 1, 3) := by decide +kernel
theorem dX10_made_91 : decode cX10_made 91 = .ok (.goto (-59), 3) := by decide +kernel
theorem dX10_made_94 : decode cX10_made 94 = .ok (.iload_n 1, 1) := by decide +kernel
theorem dX10_made_95 : decode cX10_made 95 = .ok (.ifCond .ne 10, 3) := by decide +kernel
theorem dX10_made_98 : decode cX10_made 98 = .ok (.aload_n 0, 1) := by decide +kernel
theorem dX10_made_99 : decode cX10_made 99 = .ok (.getfield 196, 3) := by decide +kernel
theorem dX10_made_102 : decode cX10_made 102 = .ok (.goto 15, 3) := by decide +kernel
theorem dX10_made_105 : decode cX10_made 105 = .ok (.aload_n 0, 1) := by decide +kernel
theorem dX10_made_106 : decode cX10_made 106 = .ok (.invokevirtual 212, 3) := by decide +kernel
theorem dX10_made_109 : decode cX10_made 109 = .ok (.ifCond .eq 7, 3) := by decide +kernel
theorem dX10_made_112 : decode cX10_made 112 = .ok (.iconst 1, 1) := by decide +kernel
theorem dX10_made_113 : decode cX10_made 113 = .ok (.goto 4, 3) := by decide +kernel
theorem dX10_made_116 : decode cX10_made 116 = .ok (.iconst 0, 1) := by decide +kernel
theorem dX10_made_117 : decode cX10_made 117 = .ok (.ireturn, 1) := by decide +kernel
theorem dX10_spot_0 : decode cX10_spot 0 = .ok (.bipush 100, 2) := by decide +kernel
theorem dX10_spot_2 : decode cX10_spot 2 = .ok (.iload_n 0, 1) := by decide +kernel
theorem dX10_spot_3 : decode cX10_spot 3 = .ok (.imul, 1) := by decide +kernel
theorem dX10_spot_4 : decode cX10_spot 4 = .ok (.iload_n 1, 1) := by decide +kernel
theorem dX10_spot_5 : decode cX10_spot 5 = .ok (.iadd, 1) := by decide +kernel
theorem dX10_spot_6 : decode cX10_spot 6 = .ok (.bipush 9, 2) := by decide +kernel
theorem dX10_spot_8 : decode cX10_spot 8 = .ok (.imul, 1) := by decide +kernel
theorem dX10_spot_9 : decode cX10_spot 9 = .ok (.iload_n 2, 1) := by decide +kernel
theorem dX10_spot_10 : decode cX10_spot 10 = .ok (.iadd, 1) := by decide +kernel
theorem dX10_spot_11 : decode cX10_spot 11 = .ok (.ireturn, 1) := by decide +kernel
theorem dX10_comes_0 : decode cX10_comes 0 = .ok (.aload_n 0, 1) := by decide +kernel
theorem dX10_comes_1 : decode cX10_comes 1 = .ok (.iload_n 1, 1) := by decide +kernel
theorem dX10_comes_2 : decode cX10_comes 2 = .ok (.invokevirtual 187, 3) := by decide +kernel
theorem dX10_comes_5 : decode cX10_comes 5 = .ok (.bipush (-4), 2) := by decide +kernel
theorem dX10_comes_7 : decode cX10_comes 7 = .ok (.if_icmp .eq 7, 3) := by decide +kernel
theorem dX10_comes_10 : decode cX10_comes 10 = .ok (.iconst 1, 1) := by decide +kernel
theorem dX10_comes_11 : decode cX10_comes 11 = .ok (.goto 4, 3) := by decide +kernel
theorem dX10_comes_14 : decode cX10_comes 14 = .ok (.iconst 0, 1) := by decide +kernel
theorem dX10_comes_15 : decode cX10_comes 15 = .ok (.ireturn, 1) := by decide +kernel
theorem dX10_mostGift_0 : decode cX10_mostGift 0 = .ok (.aload_n 0, 1) := by decide +kernel
theorem dX10_mostGift_1 : decode cX10_mostGift 1 = .ok (.iload_n 1, 1) := by decide +kernel
theorem dX10_mostGift_2 : decode cX10_mostGift 2 = .ok (.invokevirtual 256, 3) := by decide +kernel
theorem dX10_mostGift_5 : decode cX10_mostGift 5 = .ok (.ifCond .eq 25, 3) := by decide +kernel
theorem dX10_mostGift_8 : decode cX10_mostGift 8 = .ok (.aload_n 0, 1) := by decide +kernel
theorem dX10_mostGift_9 : decode cX10_mostGift 9 = .ok (.iload_n 1, 1) := by decide +kernel
theorem dX10_mostGift_10 : decode cX10_mostGift 10 = .ok (.invokevirtual 253, 3) := by decide +kernel
theorem dX10_mostGift_13 : decode cX10_mostGift 13 = .ok (.aload_n 0, 1) := by decide +kernel
theorem dX10_mostGift_14 : decode cX10_mostGift 14 = .ok (.getfield 25, 3) := by decide +kernel
theorem dX10_mostGift_17 : decode cX10_mostGift 17 = .ok (.aload_n 0, 1) := by decide +kernel
theorem dX10_mostGift_18 : decode cX10_mostGift 18 = .ok (.getfield 46, 3) := by decide +kernel
theorem dX10_mostGift_21 : decode cX10_mostGift 21 = .ok (.iload_n 1, 1) := by decide +kernel
theorem dX10_mostGift_22 : decode cX10_mostGift 22 = .ok (.iaload, 1) := by decide +kernel
theorem dX10_mostGift_23 : decode cX10_mostGift 23 = .ok (.iaload, 1) := by decide +kernel
theorem dX10_mostGift_24 : decode cX10_mostGift 24 = .ok (.invokestatic 192, 3) := by decide +kernel
theorem dX10_mostGift_27 : decode cX10_mostGift 27 = .ok (.goto 4, 3) := by decide +kernel
theorem dX10_mostGift_30 : decode cX10_mostGift 30 = .ok (.iconst 0, 1) := by decide +kernel
theorem dX10_mostGift_31 : decode cX10_mostGift 31 = .ok (.ireturn, 1) := by decide +kernel
theorem dX10_layLays_0 : decode cX10_layLays 0 = .ok (.aload_n 0, 1) := by decide +kernel
theorem dX10_layLays_1 : decode cX10_layLays 1 = .ok (.getfield 148, 3) := by decide +kernel
theorem dX10_layLays_4 : decode cX10_layLays 4 = .ok (.istore_n 1, 1) := by decide +kernel
theorem dX10_layLays_5 : decode cX10_layLays 5 = .ok (.iload_n 1, 1) := by decide +kernel
theorem dX10_layLays_6 : decode cX10_layLays 6 = .ok (.ifCond .lt 151, 3) := by decide +kernel
theorem dX10_layLays_9 : decode cX10_layLays 9 = .ok (.iconst 0, 1) := by decide +kernel
theorem dX10_layLays_10 : decode cX10_layLays 10 = .ok (.istore_n 2, 1) := by decide +kernel
theorem dX10_layLays_11 : decode cX10_layLays 11 = .ok (.iload_n 2, 1) := by decide +kernel
theorem dX10_layLays_12 : decode cX10_layLays 12 = .ok (.bipush 100, 2) := by decide +kernel
theorem dX10_layLays_14 : decode cX10_layLays 14 = .ok (.if_icmp .ge 137, 3) := by decide +kernel
theorem dX10_layLays_17 : decode cX10_layLays 17 = .ok (.iconst 0, 1) := by decide +kernel
theorem dX10_layLays_18 : decode cX10_layLays 18 = .ok (.istore_n 3, 1) := by decide +kernel
theorem dX10_layLays_19 : decode cX10_layLays 19 = .ok (.iload_n 3, 1) := by decide +kernel
theorem dX10_layLays_20 : decode cX10_layLays 20 = .ok (.bipush 9, 2) := by decide +kernel
theorem dX10_layLays_22 : decode cX10_layLays 22 = .ok (.if_icmp .ge 123, 3) := by decide +kernel
theorem dX10_layLays_25 : decode cX10_layLays 25 = .ok (.iload_n 1, 1) := by decide +kernel
theorem dX10_layLays_26 : decode cX10_layLays 26 = .ok (.aload_n 0, 1) := by decide +kernel
theorem dX10_layLays_27 : decode cX10_layLays 27 = .ok (.getfield 148, 3) := by decide +kernel
theorem dX10_layLays_30 : decode cX10_layLays 30 = .ok (.if_icmp .ne 15, 3) := by decide +kernel
theorem dX10_layLays_33 : decode cX10_layLays 33 = .ok (.iload_n 2, 1) := by decide +kernel
theorem dX10_layLays_34 : decode cX10_layLays 34 = .ok (.ifCond .ne 11, 3) := by decide +kernel
theorem dX10_layLays_37 : decode cX10_layLays 37 = .ok (.iload_n 3, 1) := by decide +kernel
theorem dX10_layLays_38 : decode cX10_layLays 38 = .ok (.ifCond .ne 7, 3) := by decide +kernel
theorem dX10_layLays_41 : decode cX10_layLays 41 = .ok (.lconst 1, 1) := by decide +kernel
theorem dX10_layLays_42 : decode cX10_layLays 42 = .ok (.goto 4, 3) := by decide +kernel
theorem dX10_layLays_45 : decode cX10_layLays 45 = .ok (.lconst 0, 1) := by decide +kernel
theorem dX10_layLays_46 : decode cX10_layLays 46 = .ok (.lstore 4, 2) := by decide +kernel
theorem dX10_layLays_48 : decode cX10_layLays 48 = .ok (.iconst 0, 1) := by decide +kernel
theorem dX10_layLays_49 : decode cX10_layLays 49 = .ok (.istore 6, 2) := by decide +kernel
theorem dX10_layLays_51 : decode cX10_layLays 51 = .ok (.iload_n 1, 1) := by decide +kernel
theorem dX10_layLays_52 : decode cX10_layLays 52 = .ok (.aload_n 0, 1) := by decide +kernel
theorem dX10_layLays_53 : decode cX10_layLays 53 = .ok (.getfield 148, 3) := by decide +kernel
theorem dX10_layLays_56 : decode cX10_layLays 56 = .ok (.if_icmp .ge 70, 3) := by decide +kernel
theorem dX10_layLays_59 : decode cX10_layLays 59 = .ok (.iload 6, 2) := by decide +kernel
theorem dX10_layLays_61 : decode cX10_layLays 61 = .ok (.aload_n 0, 1) := by decide +kernel
theorem dX10_layLays_62 : decode cX10_layLays 62 = .ok (.iload_n 1, 1) := by decide +kernel
theorem dX10_layLays_63 : decode cX10_layLays 63 = .ok (.invokevirtual 259, 3) := by decide +kernel
theorem dX10_layLays_66 : decode cX10_layLays 66 = .ok (.if_icmp .gt 60, 3) := by decide +kernel
theorem dX10_layLays_69 : decode cX10_layLays 69 = .ok (.iload 6, 2) := by decide +kernel
theorem dX10_layLays_71 : decode cX10_layLays 71 = .ok (.iload_n 2, 1) := by decide +kernel
theorem dX10_layLays_72 : decode cX10_layLays 72 = .ok (.if_icmp .gt 54, 3) := by decide +kernel
theorem dX10_layLays_75 : decode cX10_layLays 75 = .ok (.iload_n 3, 1) := by decide +kernel
theorem dX10_layLays_76 : decode cX10_layLays 76 = .ok (.iload 6, 2) := by decide +kernel
theorem dX10_layLays_78 : decode cX10_layLays 78 = .ok (.ifCond .le 7, 3) := by decide +kernel
theorem dX10_layLays_81 : decode cX10_layLays 81 = .ok (.iconst 1, 1) := by decide +kernel
theorem dX10_layLays_82 : decode cX10_layLays 82 = .ok (.goto 4, 3) := by decide +kernel
theorem dX10_layLays_85 : decode cX10_layLays 85 = .ok (.iconst 0, 1) := by decide +kernel
theorem dX10_layLays_86 : decode cX10_layLays 86 = .ok (.isub, 1) := by decide +kernel
theorem dX10_layLays_87 : decode cX10_layLays 87 = .ok (.istore 7, 2) := by decide +kernel
theorem dX10_layLays_89 : decode cX10_layLays 89 = .ok (.lload 4, 2) := by decide +kernel
theorem dX10_layLays_91 : decode cX10_layLays 91 = .ok (.iload 7, 2) := by decide +kernel
theorem dX10_layLays_93 : decode cX10_layLays 93 = .ok (.ifCond .ge 7, 3) := by decide +kernel
theorem dX10_layLays_96 : decode cX10_layLays 96 = .ok (.lconst 0, 1) := by decide +kernel
theorem dX10_layLays_97 : decode cX10_layLays 97 = .ok (.goto 20, 3) := by decide +kernel
theorem dX10_layLays_100 : decode cX10_layLays 100 = .ok (.aload_n 0, 1) := by decide +kernel
theorem dX10_layLays_101 : decode cX10_layLays 101 = .ok (.getfield 76, 3) := by decide +kernel
theorem dX10_layLays_104 : decode cX10_layLays 104 = .ok (.iload_n 1, 1) := by decide +kernel
theorem dX10_layLays_105 : decode cX10_layLays 105 = .ok (.iconst 1, 1) := by decide +kernel
theorem dX10_layLays_106 : decode cX10_layLays 106 = .ok (.iadd, 1) := by decide +kernel
theorem dX10_layLays_107 : decode cX10_layLays 107 = .ok (.iload_n 2, 1) := by decide +kernel
theorem dX10_layLays_108 : decode cX10_layLays 108 = .ok (.iload 6, 2) := by decide +kernel
theorem dX10_layLays_110 : decode cX10_layLays 110 = .ok (.isub, 1) := by decide +kernel
theorem dX10_layLays_111 : decode cX10_layLays 111 = .ok (.iload 7, 2) := by decide +kernel
theorem dX10_layLays_113 : decode cX10_layLays 113 = .ok (.invokestatic 262, 3) := by decide +kernel
theorem dX10_layLays_116 : decode cX10_layLays 116 = .ok (.laload, 1) := by decide +kernel
theorem dX10_layLays_117 : decode cX10_layLays 117 = .ok (.ladd, 1) := by decide +kernel
theorem dX10_layLays_118 : decode cX10_layLays 118 = .ok (.lstore 4, 2) := by decide +kernel
theorem dX10_layLays_120 : decode cX10_layLays 120 = .ok (.iinc 6 1, 3) := by decide +kernel
theorem dX10_layLays_123 : decode cX10_layLays 123 = .ok (.goto (-72), 3) := by decide +kernel
theorem dX10_layLays_126 : decode cX10_layLays 126 = .ok (.aload_n 0, 1) := by decide +kernel
theorem dX10_layLays_127 : decode cX10_layLays 127 = .ok (.getfield 76, 3) := by decide +kernel
theorem dX10_layLays_130 : decode cX10_layLays 130 = .ok (.iload_n 1, 1) := by decide +kernel
theorem dX10_layLays_131 : decode cX10_layLays 131 = .ok (.iload_n 2, 1) := by decide +kernel
theorem dX10_layLays_132 : decode cX10_layLays 132 = .ok (.iload_n 3, 1) := by decide +kernel
theorem dX10_layLays_133 : decode cX10_layLays 133 = .ok (.invokestatic 262, 3) := by decide +kernel
theorem dX10_layLays_136 : decode cX10_layLays 136 = .ok (.lload 4, 2) := by decide +kernel
theorem dX10_layLays_138 : decode cX10_layLays 138 = .ok (.lastore, 1) := by decide +kernel
theorem dX10_layLays_139 : decode cX10_layLays 139 = .ok (.iinc 3 1, 3) := by decide +kernel
theorem dX10_layLays_142 : decode cX10_layLays 142 = .ok (.goto (-123), 3) := by decide +kernel
theorem dX10_layLays_145 : decode cX10_layLays 145 = .ok (.iinc 2 1, 3) := by decide +kernel
theorem dX10_layLays_148 : decode cX10_layLays 148 = .ok (.goto (-137), 3) := by decide +kernel
theorem dX10_layLays_151 : decode cX10_layLays 151 = .ok (.iinc 1 (-1), 3) := by decide +kernel
theorem dX10_layLays_154 : decode cX10_layLays 154 = .ok (.goto (-149), 3) := by decide +kernel
theorem dX10_layLays_157 : decode cX10_layLays 157 = .ok (.return_, 1) := by decide +kernel
theorem dX10_laysFrom_0 : decode cX10_laysFrom 0 = .ok (.lconst 0, 1) := by decide +kernel
theorem dX10_laysFrom_1 : decode cX10_laysFrom 1 = .ok (.lstore 4, 2) := by decide +kernel
theorem dX10_laysFrom_3 : decode cX10_laysFrom 3 = .ok (.iload_n 3, 1) := by decide +kernel
theorem dX10_laysFrom_4 : decode cX10_laysFrom 4 = .ok (.ifCond .ge 7, 3) := by decide +kernel
theorem dX10_laysFrom_7 : decode cX10_laysFrom 7 = .ok (.iconst 0, 1) := by decide +kernel
theorem dX10_laysFrom_8 : decode cX10_laysFrom 8 = .ok (.goto 4, 3) := by decide +kernel
theorem dX10_laysFrom_11 : decode cX10_laysFrom 11 = .ok (.iload_n 3, 1) := by decide +kernel
theorem dX10_laysFrom_12 : decode cX10_laysFrom 12 = .ok (.istore 6, 2) := by decide +kernel
theorem dX10_laysFrom_14 : decode cX10_laysFrom 14 = .ok (.iload 6, 2) := by decide +kernel
theorem dX10_laysFrom_16 : decode cX10_laysFrom 16 = .ok (.bipush 9, 2) := by decide +kernel
theorem dX10_laysFrom_18 : decode cX10_laysFrom 18 = .ok (.if_icmp .ge 26, 3) := by decide +kernel
theorem dX10_laysFrom_21 : decode cX10_laysFrom 21 = .ok (.lload 4, 2) := by decide +kernel
theorem dX10_laysFrom_23 : decode cX10_laysFrom 23 = .ok (.aload_n 0, 1) := by decide +kernel
theorem dX10_laysFrom_24 : decode cX10_laysFrom 24 = .ok (.getfield 76, 3) := by decide +kernel
theorem dX10_laysFrom_27 : decode cX10_laysFrom 27 = .ok (.iload_n 1, 1) := by decide +kernel
theorem dX10_laysFrom_28 : decode cX10_laysFrom 28 = .ok (.iload_n 2, 1) := by decide +kernel
theorem dX10_laysFrom_29 : decode cX10_laysFrom 29 = .ok (.iload 6, 2) := by decide +kernel
theorem dX10_laysFrom_31 : decode cX10_laysFrom 31 = .ok (.invokestatic 262, 3) := by decide +kernel
theorem dX10_laysFrom_34 : decode cX10_laysFrom 34 = .ok (.laload, 1) := by decide +kernel
theorem dX10_laysFrom_35 : decode cX10_laysFrom 35 = .ok (.ladd, 1) := by decide +kernel
theorem dX10_laysFrom_36 : decode cX10_laysFrom 36 = .ok (.lstore 4, 2) := by decide +kernel
theorem dX10_laysFrom_38 : decode cX10_laysFrom 38 = .ok (.iinc 6 1, 3) := by decide +kernel
theorem dX10_laysFrom_41 : decode cX10_laysFrom 41 = .ok (.goto (-27), 3) := by decide +kernel
theorem dX10_laysFrom_44 : decode cX10_laysFrom 44 = .ok (.lload 4, 2) := by decide +kernel
theorem dX10_laysFrom_46 : decode cX10_laysFrom 46 = .ok (.lreturn, 1) := by decide +kernel
theorem dX10_just_0 : decode cX10_just 0 = .ok (.aload_n 0, 1) := by decide +kernel
theorem dX10_just_1 : decode cX10_just 1 = .ok (.invokevirtual 151, 3) := by decide +kernel
theorem dX10_just_4 : decode cX10_just 4 = .ok (.aload_n 0, 1) := by decide +kernel
theorem dX10_just_5 : decode cX10_just 5 = .ok (.invokevirtual 184, 3) := by decide +kernel
theorem dX10_just_8 : decode cX10_just 8 = .ok (.iload_n 1, 1) := by decide +kernel
theorem dX10_just_9 : decode cX10_just 9 = .ok (.iconst (-1), 1) := by decide +kernel
theorem dX10_just_10 : decode cX10_just 10 = .ok (.if_icmp .eq 23, 3) := by decide +kernel
theorem dX10_just_13 : decode cX10_just 13 = .ok (.aload_n 0, 1) := by decide +kernel
theorem dX10_just_14 : decode cX10_just 14 = .ok (.iload_n 1, 1) := by decide +kernel
theorem dX10_just_15 : decode cX10_just 15 = .ok (.invokevirtual 181, 3) := by decide +kernel
theorem dX10_just_18 : decode cX10_just 18 = .ok (.ifCond .eq 11, 3) := by decide +kernel
theorem dX10_just_21 : decode cX10_just 21 = .ok (.aload_n 0, 1) := by decide +kernel
theorem dX10_just_22 : decode cX10_just 22 = .ok (.iload_n 1, 1) := by decide +kernel
theorem dX10_just_23 : decode cX10_just 23 = .ok (.invokevirtual 256, 3) := by decide +kernel
theorem dX10_just_26 : decode cX10_just 26 = .ok (.ifCond .ne 7, 3) := by decide +kernel
theorem dX10_just_29 : decode cX10_just 29 = .ok (.ldc2_w 231, 3) := by decide +kernel
theorem dX10_just_32 : decode cX10_just 32 = .ok (.lreturn, 1) := by decide +kernel
theorem dX10_just_33 : decode cX10_just 33 = .ok (.aload_n 0, 1) := by decide +kernel
theorem dX10_just_34 : decode cX10_just 34 = .ok (.invokevirtual 266, 3) := by decide +kernel
theorem dX10_just_37 : decode cX10_just 37 = .ok (.aload_n 0, 1) := by decide +kernel
theorem dX10_just_38 : decode cX10_just 38 = .ok (.iconst 0, 1) := by decide +kernel
theorem dX10_just_39 : decode cX10_just 39 = .ok (.aload_n 0, 1) := by decide +kernel
theorem dX10_just_40 : decode cX10_just 40 = .ok (.getfield 154, 3) := by decide +kernel
theorem dX10_just_43 : decode cX10_just 43 = .ok (.aload_n 0, 1) := by decide +kernel
theorem dX10_just_44 : decode cX10_just 44 = .ok (.getfield 13, 3) := by decide +kernel
theorem dX10_just_47 : decode cX10_just 47 = .ok (.iconst 1, 1) := by decide +kernel
theorem dX10_just_48 : decode cX10_just 48 = .ok (.iaload, 1) := by decide +kernel
theorem dX10_just_49 : decode cX10_just 49 = .ok (.invokevirtual 269, 3) := by decide +kernel
theorem dX10_just_52 : decode cX10_just 52 = .ok (.lstore_n 2, 1) := by decide +kernel
theorem dX10_just_53 : decode cX10_just 53 = .ok (.iload_n 1, 1) := by decide +kernel
theorem dX10_just_54 : decode cX10_just 54 = .ok (.ifCond .lt 9, 3) := by decide +kernel
theorem dX10_just_57 : decode cX10_just 57 = .ok (.lload_n 2, 1) := by decide +kernel
theorem dX10_just_58 : decode cX10_just 58 = .ok (.lconst 0, 1) := by decide +kernel
theorem dX10_just_59 : decode cX10_just 59 = .ok (.lcmp, 1) := by decide +kernel
theorem dX10_just_60 : decode cX10_just 60 = .ok (.ifCond .ne 15, 3) := by decide +kernel
theorem dX10_just_63 : decode cX10_just 63 = .ok (.iload_n 1, 1) := by decide +kernel
theorem dX10_just_64 : decode cX10_just 64 = .ok (.ifCond .ge 7, 3) := by decide +kernel
theorem dX10_just_67 : decode cX10_just 67 = .ok (.lload_n 2, 1) := by decide +kernel
theorem dX10_just_68 : decode cX10_just 68 = .ok (.goto 6, 3) := by decide +kernel
theorem dX10_just_71 : decode cX10_just 71 = .ok (.ldc2_w 246, 3) := by decide +kernel
theorem dX10_just_74 : decode cX10_just 74 = .ok (.lreturn, 1) := by decide +kernel
theorem dX10_just_75 : decode cX10_just 75 = .ok (.aload_n 0, 1) := by decide +kernel
theorem dX10_just_76 : decode cX10_just 76 = .ok (.getfield 154, 3) := by decide +kernel
theorem dX10_just_79 : decode cX10_just 79 = .ok (.istore 4, 2) := by decide +kernel
theorem dX10_just_81 : decode cX10_just 81 = .ok (.aload_n 0, 1) := by decide +kernel
theorem dX10_just_82 : decode cX10_just 82 = .ok (.getfield 13, 3) := by decide +kernel
theorem dX10_just_85 : decode cX10_just 85 = .ok (.iconst 1, 1) := by decide +kernel
theorem dX10_just_86 : decode cX10_just 86 = .ok (.iaload, 1) := by decide +kernel
theorem dX10_just_87 : decode cX10_just 87 = .ok (.istore 5, 2) := by decide +kernel
theorem dX10_just_89 : decode cX10_just 89 = .ok (.iconst 0, 1) := by decide +kernel
theorem dX10_just_90 : decode cX10_just 90 = .ok (.istore 6, 2) := by decide +kernel
theorem dX10_just_92 : decode cX10_just 92 = .ok (.iconst 0, 1) := by decide +kernel
theorem dX10_just_93 : decode cX10_just 93 = .ok (.istore 7, 2) := by decide +kernel
theorem dX10_just_95 : decode cX10_just 95 = .ok (.iload 7, 2) := by decide +kernel
theorem dX10_just_97 : decode cX10_just 97 = .ok (.iload_n 1, 1) := by decide +kernel
theorem dX10_just_98 : decode cX10_just 98 = .ok (.if_icmp .gt 71, 3) := by decide +kernel
theorem dX10_just_101 : decode cX10_just 101 = .ok (.iconst 0, 1) := by decide +kernel
theorem dX10_just_102 : decode cX10_just 102 = .ok (.istore 6, 2) := by decide +kernel
theorem dX10_just_104 : decode cX10_just 104 = .ok (.aload_n 0, 1) := by decide +kernel
theorem dX10_just_105 : decode cX10_just 105 = .ok (.iload 7, 2) := by decide +kernel
theorem dX10_just_107 : decode cX10_just 107 = .ok (.iconst 1, 1) := by decide +kernel
theorem dX10_just_108 : decode cX10_just 108 = .ok (.iadd, 1) := by decide +kernel
theorem dX10_just_109 : decode cX10_just 109 = .ok (.iload 4, 2) := by decide +kernel
theorem dX10_just_111 : decode cX10_just 111 = .ok (.iload 6, 2) := by decide +kernel
theorem dX10_just_113 : decode cX10_just 113 = .ok (.isub, 1) := by decide +kernel
theorem dX10_just_114 : decode cX10_just 114 = .ok (.iload 5, 2) := by decide +kernel
theorem dX10_just_116 : decode cX10_just 116 = .ok (.iload 6, 2) := by decide +kernel
theorem dX10_just_118 : decode cX10_just 118 = .ok (.ifCond .le 7, 3) := by decide +kernel
theorem dX10_just_121 : decode cX10_just 121 = .ok (.iconst 1, 1) := by decide +kernel
theorem dX10_just_122 : decode cX10_just 122 = .ok (.goto 4, 3) := by decide +kernel
theorem dX10_just_125 : decode cX10_just 125 = .ok (.iconst 0, 1) := by decide +kernel
theorem dX10_just_126 : decode cX10_just 126 = .ok (.isub, 1) := by decide +kernel
theorem dX10_just_127 : decode cX10_just 127 = .ok (.invokevirtual 269, 3) := by decide +kernel
theorem dX10_just_130 : decode cX10_just 130 = .ok (.lconst 0, 1) := by decide +kernel
theorem dX10_just_131 : decode cX10_just 131 = .ok (.lcmp, 1) := by decide +kernel
theorem dX10_just_132 : decode cX10_just 132 = .ok (.ifCond .ne 9, 3) := by decide +kernel
theorem dX10_just_135 : decode cX10_just 135 = .ok (.iinc 6 1, 3) := by decide +kernel
theorem dX10_just_138 : decode cX10_just 138 = .ok (.goto (-34), 3) := by decide +kernel
theorem dX10_just_141 : decode cX10_just 141 = .ok (.iload 4, 2) := by decide +kernel
theorem dX10_just_143 : decode cX10_just 143 = .ok (.iload 6, 2) := by decide +kernel
theorem dX10_just_145 : decode cX10_just 145 = .ok (.isub, 1) := by decide +kernel
theorem dX10_just_146 : decode cX10_just 146 = .ok (.istore 4, 2) := by decide +kernel
theorem dX10_just_148 : decode cX10_just 148 = .ok (.iload 5, 2) := by decide +kernel
theorem dX10_just_150 : decode cX10_just 150 = .ok (.iload 6, 2) := by decide +kernel
theorem dX10_just_152 : decode cX10_just 152 = .ok (.ifCond .le 7, 3) := by decide +kernel
theorem dX10_just_155 : decode cX10_just 155 = .ok (.iconst 1, 1) := by decide +kernel
theorem dX10_just_156 : decode cX10_just 156 = .ok (.goto 4, 3) := by decide +kernel
theorem dX10_just_159 : decode cX10_just 159 = .ok (.iconst 0, 1) := by decide +kernel
theorem dX10_just_160 : decode cX10_just 160 = .ok (.isub, 1) := by decide +kernel
theorem dX10_just_161 : decode cX10_just 161 = .ok (.istore 5, 2) := by decide +kernel
theorem dX10_just_163 : decode cX10_just 163 = .ok (.iinc 7 1, 3) := by decide +kernel
theorem dX10_just_166 : decode cX10_just 166 = .ok (.goto (-71), 3) := by decide +kernel
theorem dX10_just_169 : decode cX10_just 169 = .ok (.iload 6, 2) := by decide +kernel
theorem dX10_just_171 : decode cX10_just 171 = .ok (.i2l, 1) := by decide +kernel
theorem dX10_just_172 : decode cX10_just 172 = .ok (.lreturn, 1) := by decide +kernel
theorem dX10_isRest_0 : decode cX10_isRest 0 = .ok (.iload_n 2, 1) := by decide +kernel
theorem dX10_isRest_1 : decode cX10_isRest 1 = .ok (.ifCond .le 12, 3) := by decide +kernel
theorem dX10_isRest_4 : decode cX10_isRest 4 = .ok (.aload_n 0, 1) := by decide +kernel
theorem dX10_isRest_5 : decode cX10_isRest 5 = .ok (.getfield 13, 3) := by decide +kernel
theorem dX10_isRest_8 : decode cX10_isRest 8 = .ok (.iconst 4, 1) := by decide +kernel
theorem dX10_isRest_9 : decode cX10_isRest 9 = .ok (.iaload, 1) := by decide +kernel
theorem dX10_isRest_10 : decode cX10_isRest 10 = .ok (.goto 4, 3) := by decide +kernel
theorem dX10_isRest_13 : decode cX10_isRest 13 = .ok (.iconst 0, 1) := by decide +kernel
theorem dX10_isRest_14 : decode cX10_isRest 14 = .ok (.istore 5, 2) := by decide +kernel
theorem dX10_isRest_16 : decode cX10_isRest 16 = .ok (.iconst 0, 1) := by decide +kernel
theorem dX10_isRest_17 : decode cX10_isRest 17 = .ok (.istore 6, 2) := by decide +kernel
theorem dX10_isRest_19 : decode cX10_isRest 19 = .ok (.iload 6, 2) := by decide +kernel
theorem dX10_isRest_21 : decode cX10_isRest 21 = .ok (.aload_n 0, 1) := by decide +kernel
theorem dX10_isRest_22 : decode cX10_isRest 22 = .ok (.iload_n 1, 1) := by decide +kernel
theorem dX10_isRest_23 : decode cX10_isRest 23 = .ok (.invokevirtual 259, 3) := by decide +kernel
theorem dX10_isRest_26 : decode cX10_isRest 26 = .ok (.if_icmp .gt 105, 3) := by decide +kernel
theorem dX10_isRest_29 : decode cX10_isRest 29 = .ok (.iload_n 3, 1) := by decide +kernel
theorem dX10_isRest_30 : decode cX10_isRest 30 = .ok (.iload_n 2, 1) := by decide +kernel
theorem dX10_isRest_31 : decode cX10_isRest 31 = .ok (.isub, 1) := by decide +kernel
theorem dX10_isRest_32 : decode cX10_isRest 32 = .ok (.iload 6, 2) := by decide +kernel
theorem dX10_isRest_34 : decode cX10_isRest 34 = .ok (.iadd, 1) := by decide +kernel
theorem dX10_isRest_35 : decode cX10_isRest 35 = .ok (.istore 7, 2) := by decide +kernel
theorem dX10_isRest_37 : decode cX10_isRest 37 = .ok (.iload 4, 2) := by decide +kernel
theorem dX10_isRest_39 : decode cX10_isRest 39 = .ok (.iload_n 2, 1) := by decide +kernel
theorem dX10_isRest_40 : decode cX10_isRest 40 = .ok (.ifCond .le 7, 3) := by decide +kernel
theorem dX10_isRest_43 : decode cX10_isRest 43 = .ok (.iconst 1, 1) := by decide +kernel
theorem dX10_isRest_44 : decode cX10_isRest 44 = .ok (.goto 4, 3) := by decide +kernel
theorem dX10_isRest_47 : decode cX10_isRest 47 = .ok (.iconst 0, 1) := by decide +kernel
theorem dX10_isRest_48 : decode cX10_isRest 48 = .ok (.isub, 1) := by decide +kernel
theorem dX10_isRest_49 : decode cX10_isRest 49 = .ok (.iload 6, 2) := by decide +kernel
theorem dX10_isRest_51 : decode cX10_isRest 51 = .ok (.ifCond .le 7, 3) := by decide +kernel
theorem dX10_isRest_54 : decode cX10_isRest 54 = .ok (.iconst 1, 1) := by decide +kernel
theorem dX10_isRest_55 : decode cX10_isRest 55 = .ok (.goto 4, 3) := by decide +kernel
theorem dX10_isRest_58 : decode cX10_isRest 58 = .ok (.iconst 0, 1) := by decide +kernel
theorem dX10_isRest_59 : decode cX10_isRest 59 = .ok (.iadd, 1) := by decide +kernel
theorem dX10_isRest_60 : decode cX10_isRest 60 = .ok (.istore 8, 2) := by decide +kernel
theorem dX10_isRest_62 : decode cX10_isRest 62 = .ok (.iload 7, 2) := by decide +kernel
theorem dX10_isRest_64 : decode cX10_isRest 64 = .ok (.aload_n 0, 1) := by decide +kernel
theorem dX10_isRest_65 : decode cX10_isRest 65 = .ok (.getfield 154, 3) := by decide +kernel
theorem dX10_isRest_68 : decode cX10_isRest 68 = .ok (.if_icmp .lt 25, 3) := by decide +kernel
theorem dX10_isRest_71 : decode cX10_isRest 71 = .ok (.iload 8, 2) := by decide +kernel
theorem dX10_isRest_73 : decode cX10_isRest 73 = .ok (.aload_n 0, 1) := by decide +kernel
theorem dX10_isRest_74 : decode cX10_isRest 74 = .ok (.getfield 13, 3) := by decide +kernel
theorem dX10_isRest_77 : decode cX10_isRest 77 = .ok (.iconst 1, 1) := by decide +kernel
theorem dX10_isRest_78 : decode cX10_isRest 78 = .ok (.iaload, 1) := by decide +kernel
theorem dX10_isRest_79 : decode cX10_isRest 79 = .ok (.if_icmp .lt 14, 3) := by decide +kernel
theorem dX10_isRest_82 : decode cX10_isRest 82 = .ok (.aload_n 0, 1) := by decide +kernel
theorem dX10_isRest_83 : decode cX10_isRest 83 = .ok (.iload_n 1, 1) := by decide +kernel
theorem dX10_isRest_84 : decode cX10_isRest 84 = .ok (.invokevirtual 253, 3) := by decide +kernel
theorem dX10_isRest_87 : decode cX10_isRest 87 = .ok (.iload 6, 2) := by decide +kernel
theorem dX10_isRest_89 : decode cX10_isRest 89 = .ok (.isub, 1) := by decide +kernel
theorem dX10_isRest_90 : decode cX10_isRest 90 = .ok (.goto 18, 3) := by decide +kernel
theorem dX10_isRest_93 : decode cX10_isRest 93 = .ok (.iload 6, 2) := by decide +kernel
theorem dX10_isRest_95 : decode cX10_isRest 95 = .ok (.ifCond .le 12, 3) := by decide +kernel
theorem dX10_isRest_98 : decode cX10_isRest 98 = .ok (.aload_n 0, 1) := by decide +kernel
theorem dX10_isRest_99 : decode cX10_isRest 99 = .ok (.getfield 13, 3) := by decide +kernel
theorem dX10_isRest_102 : decode cX10_isRest 102 = .ok (.iconst 4, 1) := by decide +kernel
theorem dX10_isRest_103 : decode cX10_isRest 103 = .ok (.iaload, 1) := by decide +kernel
theorem dX10_isRest_104 : decode cX10_isRest 104 = .ok (.goto 4, 3) := by decide +kernel
theorem dX10_isRest_107 : decode cX10_isRest 107 = .ok (.iconst 0, 1) := by decide +kernel
theorem dX10_isRest_108 : decode cX10_isRest 108 = .ok (.istore 9, 2) := by decide +kernel
theorem dX10_isRest_110 : decode cX10_isRest 110 = .ok (.iload 6, 2) := by decide +kernel
theorem dX10_isRest_112 : decode cX10_isRest 112 = .ok (.iload_n 2, 1) := by decide +kernel
theorem dX10_isRest_113 : decode cX10_isRest 113 = .ok (.if_icmp .eq 12, 3) := by decide +kernel
theorem dX10_isRest_116 : decode cX10_isRest 116 = .ok (.iload 9, 2) := by decide +kernel
theorem dX10_isRest_118 : decode cX10_isRest 118 = .ok (.iload 5, 2) := by decide +kernel
theorem dX10_isRest_120 : decode cX10_isRest 120 = .ok (.if_icmp .le 5, 3) := by decide +kernel
theorem dX10_isRest_123 : decode cX10_isRest 123 = .ok (.iconst 0, 1) := by decide +kernel
theorem dX10_isRest_124 : decode cX10_isRest 124 = .ok (.ireturn, 1) := by decide +kernel
theorem dX10_isRest_125 : decode cX10_isRest 125 = .ok (.iinc 6 1, 3) := by decide +kernel
theorem dX10_isRest_128 : decode cX10_isRest 128 = .ok (.goto (-109), 3) := by decide +kernel
theorem dX10_isRest_131 : decode cX10_isRest 131 = .ok (.iconst 1, 1) := by decide +kernel
theorem dX10_isRest_132 : decode cX10_isRest 132 = .ok (.ireturn, 1) := by decide +kernel
theorem dX10_restsOf_0 : decode cX10_restsOf 0 = .ok (.iconst 0, 1) := by decide +kernel
theorem dX10_restsOf_1 : decode cX10_restsOf 1 = .ok (.istore_n 3, 1) := by decide +kernel
theorem dX10_restsOf_2 : decode cX10_restsOf 2 = .ok (.iload_n 3, 1) := by decide +kernel
theorem dX10_restsOf_3 : decode cX10_restsOf 3 = .ok (.sipush 900, 3) := by decide +kernel
theorem dX10_restsOf_6 : decode cX10_restsOf 6 = .ok (.if_icmp .ge 24, 3) := by decide +kernel
theorem dX10_restsOf_9 : decode cX10_restsOf 9 = .ok (.aload_n 0, 1) := by decide +kernel
theorem dX10_restsOf_10 : decode cX10_restsOf 10 = .ok (.getfield 80, 3) := by decide +kernel
theorem dX10_restsOf_13 : decode cX10_restsOf 13 = .ok (.iload_n 3, 1) := by decide +kernel
theorem dX10_restsOf_14 : decode cX10_restsOf 14 = .ok (.iload_n 3, 1) := by decide +kernel
theorem dX10_restsOf_15 : decode cX10_restsOf 15 = .ok (.ifCond .ne 7, 3) := by decide +kernel
theorem dX10_restsOf_18 : decode cX10_restsOf 18 = .ok (.lconst 1, 1) := by decide +kernel
theorem dX10_restsOf_19 : decode cX10_restsOf 19 = .ok (.goto 4, 3) := by decide +kernel
theorem dX10_restsOf_22 : decode cX10_restsOf 22 = .ok (.lconst 0, 1) := by decide +kernel
theorem dX10_restsOf_23 : decode cX10_restsOf 23 = .ok (.lastore, 1) := by decide +kernel
theorem dX10_restsOf_24 : decode cX10_restsOf 24 = .ok (.iinc 3 1, 3) := by decide +kernel
theorem dX10_restsOf_27 : decode cX10_restsOf 27 = .ok (.goto (-25), 3) := by decide +kernel
theorem dX10_restsOf_30 : decode cX10_restsOf 30 = .ok (.iconst 0, 1) := by decide +kernel
theorem dX10_restsOf_31 : decode cX10_restsOf 31 = .ok (.istore_n 3, 1) := by decide +kernel
theorem dX10_restsOf_32 : decode cX10_restsOf 32 = .ok (.iload_n 3, 1) := by decide +kernel
theorem dX10_restsOf_33 : decode cX10_restsOf 33 = .ok (.aload_n 0, 1) := by decide +kernel
theorem dX10_restsOf_34 : decode cX10_restsOf 34 = .ok (.getfield 148, 3) := by decide +kernel
theorem dX10_restsOf_37 : decode cX10_restsOf 37 = .ok (.if_icmp .ge 205, 3) := by decide +kernel
theorem dX10_restsOf_40 : decode cX10_restsOf 40 = .ok (.iconst 0, 1) := by decide +kernel
theorem dX10_restsOf_41 : decode cX10_restsOf 41 = .ok (.istore 4, 2) := by decide +kernel
theorem dX10_restsOf_43 : decode cX10_restsOf 43 = .ok (.iload 4, 2) := by decide +kernel
theorem dX10_restsOf_45 : decode cX10_restsOf 45 = .ok (.sipush 900, 3) := by decide +kernel
theorem dX10_restsOf_48 : decode cX10_restsOf 48 = .ok (.if_icmp .ge 17, 3) := by decide +kernel
theorem dX10_restsOf_51 : decode cX10_restsOf 51 = .ok (.aload_n 0, 1) := by decide +kernel
theorem dX10_restsOf_52 : decode cX10_restsOf 52 = .ok (.getfield 83, 3) := by decide +kernel
theorem dX10_restsOf_55 : decode cX10_restsOf 55 = .ok (.iload 4, 2) := by decide +kernel
theorem dX10_restsOf_57 : decode cX10_restsOf 57 = .ok (.lconst 0, 1) := by decide +kernel
theorem dX10_restsOf_58 : decode cX10_restsOf 58 = .ok (.lastore, 1) := by decide +kernel
theorem dX10_restsOf_59 : decode cX10_restsOf 59 = .ok (.iinc 4 1, 3) := by decide +kernel
theorem dX10_restsOf_62 : decode cX10_restsOf 62 = .ok (.goto (-19), 3) := by decide +kernel
theorem dX10_restsOf_65 : decode cX10_restsOf 65 = .ok (.iconst 0, 1) := by decide +kernel
theorem dX10_restsOf_66 : decode cX10_restsOf 66 = .ok (.istore 4, 2) := by decide +kernel
theorem dX10_restsOf_68 : decode cX10_restsOf 68 = .ok (.iload 4, 2) := by decide +kernel
theorem dX10_restsOf_70 : decode cX10_restsOf 70 = .ok (.aload_n 0, 1) := by decide +kernel
theorem dX10_restsOf_71 : decode cX10_restsOf 71 = .ok (.iload_n 3, 1) := by decide +kernel
theorem dX10_restsOf_72 : decode cX10_restsOf 72 = .ok (.invokevirtual 259, 3) := by decide +kernel
theorem dX10_restsOf_75 : decode cX10_restsOf 75 = .ok (.if_icmp .gt 130, 3) := by decide +kernel
theorem dX10_restsOf_78 : decode cX10_restsOf 78 = .ok (.iload 4, 2) := by decide +kernel
theorem dX10_restsOf_80 : decode cX10_restsOf 80 = .ok (.iload_n 1, 1) := by decide +kernel
theorem dX10_restsOf_81 : decode cX10_restsOf 81 = .ok (.if_icmp .gt 124, 3) := by decide +kernel
theorem dX10_restsOf_84 : decode cX10_restsOf 84 = .ok (.aload_n 0, 1) := by decide +kernel
theorem dX10_restsOf_85 : decode cX10_restsOf 85 = .ok (.iload_n 3, 1) := by decide +kernel
theorem dX10_restsOf_86 : decode cX10_restsOf 86 = .ok (.invokevirtual 256, 3) := by decide +kernel
theorem dX10_restsOf_89 : decode cX10_restsOf 89 = .ok (.ifCond .eq 15, 3) := by decide +kernel
theorem dX10_restsOf_92 : decode cX10_restsOf 92 = .ok (.aload_n 0, 1) := by decide +kernel
theorem dX10_restsOf_93 : decode cX10_restsOf 93 = .ok (.iload_n 3, 1) := by decide +kernel
theorem dX10_restsOf_94 : decode cX10_restsOf 94 = .ok (.iload 4, 2) := by decide +kernel
theorem dX10_restsOf_96 : decode cX10_restsOf 96 = .ok (.iload_n 1, 1) := by decide +kernel
theorem dX10_restsOf_97 : decode cX10_restsOf 97 = .ok (.iload_n 2, 1) := by decide +kernel
theorem dX10_restsOf_98 : decode cX10_restsOf 98 = .ok (.invokevirtual 273, 3) := by decide +kernel
theorem dX10_restsOf_101 : decode cX10_restsOf 101 = .ok (.ifCond .eq 7, 3) := by decide +kernel
theorem dX10_restsOf_104 : decode cX10_restsOf 104 = .ok (.iconst 1, 1) := by decide +kernel
theorem dX10_restsOf_105 : decode cX10_restsOf 105 = .ok (.goto 4, 3) := by decide +kernel
theorem dX10_restsOf_108 : decode cX10_restsOf 108 = .ok (.iconst 0, 1) := by decide +kernel
theorem dX10_restsOf_109 : decode cX10_restsOf 109 = .ok (.istore 5, 2) := by decide +kernel
theorem dX10_restsOf_111 : decode cX10_restsOf 111 = .ok (.iload 4, 2) := by decide +kernel
theorem dX10_restsOf_113 : decode cX10_restsOf 113 = .ok (.ifCond .le 7, 3) := by decide +kernel
theorem dX10_restsOf_116 : decode cX10_restsOf 116 = .ok (.iconst 1, 1) := by decide +kernel
theorem dX10_restsOf_117 : decode cX10_restsOf 117 = .ok (.goto 4, 3) := by decide +kernel
theorem dX10_restsOf_120 : decode cX10_restsOf 120 = .ok (.iconst 0, 1) := by decide +kernel
theorem dX10_restsOf_121 : decode cX10_restsOf 121 = .ok (.istore 6, 2) := by decide +kernel
theorem dX10_restsOf_123 : decode cX10_restsOf 123 = .ok (.iconst 0, 1) := by decide +kernel
theorem dX10_restsOf_124 : decode cX10_restsOf 124 = .ok (.istore 7, 2) := by decide +kernel
theorem dX10_restsOf_126 : decode cX10_restsOf 126 = .ok (.iload 7, 2) := by decide +kernel
theorem dX10_restsOf_128 : decode cX10_restsOf 128 = .ok (.iload 4, 2) := by decide +kernel
theorem dX10_restsOf_130 : decode cX10_restsOf 130 = .ok (.iadd, 1) := by decide +kernel
theorem dX10_restsOf_131 : decode cX10_restsOf 131 = .ok (.iload_n 1, 1) := by decide +kernel
theorem dX10_restsOf_132 : decode cX10_restsOf 132 = .ok (.if_icmp .gt 67, 3) := by decide +kernel
theorem dX10_restsOf_135 : decode cX10_restsOf 135 = .ok (.iload 5, 2) := by decide +kernel
theorem dX10_restsOf_137 : decode cX10_restsOf 137 = .ok (.ifCond .eq 62, 3) := by decide +kernel
theorem dX10_restsOf_140 : decode cX10_restsOf 140 = .ok (.iconst 0, 1) := by decide +kernel
theorem dX10_restsOf_141 : decode cX10_restsOf 141 = .ok (.istore 8, 2) := by decide +kernel
theorem dX10_restsOf_143 : decode cX10_restsOf 143 = .ok (.iload 8, 2) := by decide +kernel
theorem dX10_restsOf_145 : decode cX10_restsOf 145 = .ok (.iload 6, 2) := by decide +kernel
theorem dX10_restsOf_147 : decode cX10_restsOf 147 = .ok (.iadd, 1) := by decide +kernel
theorem dX10_restsOf_148 : decode cX10_restsOf 148 = .ok (.iload_n 2, 1) := by decide +kernel
theorem dX10_restsOf_149 : decode cX10_restsOf 149 = .ok (.if_icmp .gt 44, 3) := by decide +kernel
theorem dX10_restsOf_152 : decode cX10_restsOf 152 = .ok (.aload_n 0, 1) := by decide +kernel
theorem dX10_restsOf_153 : decode cX10_restsOf 153 = .ok (.getfield 83, 3) := by decide +kernel
theorem dX10_restsOf_156 : decode cX10_restsOf 156 = .ok (.bipush 9, 2) := by decide +kernel
theorem dX10_restsOf_158 : decode cX10_restsOf 158 = .ok (.iload 7, 2) := by decide +kernel
theorem dX10_restsOf_160 : decode cX10_restsOf 160 = .ok (.iload 4, 2) := by decide +kernel
theorem dX10_restsOf_162 : decode cX10_restsOf 162 = .ok (.iadd, 1) := by decide +kernel
theorem dX10_restsOf_163 : decode cX10_restsOf 163 = .ok (.imul, 1) := by decide +kernel
theorem dX10_restsOf_164 : decode cX10_restsOf 164 = .ok (.iload 8, 2) := by decide +kernel
theorem dX10_restsOf_166 : decode cX10_restsOf 166 = .ok (.iadd, 1) := by decide +kernel
theorem dX10_restsOf_167 : decode cX10_restsOf 167 = .ok (.iload 6, 2) := by decide +kernel
theorem dX10_restsOf_169 : decode cX10_restsOf 169 = .ok (.iadd, 1) := by decide +kernel
theorem dX10_restsOf_170 : decode cX10_restsOf 170 = .ok (.dup2, 1) := by decide +kernel
theorem dX10_restsOf_171 : decode cX10_restsOf 171 = .ok (.laload, 1) := by decide +kernel
theorem dX10_restsOf_172 : decode cX10_restsOf 172 = .ok (.aload_n 0, 1) := by decide +kernel
theorem dX10_restsOf_173 : decode cX10_restsOf 173 = .ok (.getfield 80, 3) := by decide +kernel
theorem dX10_restsOf_176 : decode cX10_restsOf 176 = .ok (.bipush 9, 2) := by decide +kernel
theorem dX10_restsOf_178 : decode cX10_restsOf 178 = .ok (.iload 7, 2) := by decide +kernel
theorem dX10_restsOf_180 : decode cX10_restsOf 180 = .ok (.imul, 1) := by decide +kernel
theorem dX10_restsOf_181 : decode cX10_restsOf 181 = .ok (.iload 8, 2) := by decide +kernel
theorem dX10_restsOf_183 : decode cX10_restsOf 183 = .ok (.iadd, 1) := by decide +kernel
theorem dX10_restsOf_184 : decode cX10_restsOf 184 = .ok (.laload, 1) := by decide +kernel
theorem dX10_restsOf_185 : decode cX10_restsOf 185 = .ok (.ladd, 1) := by decide +kernel
theorem dX10_restsOf_186 : decode cX10_restsOf 186 = .ok (.lastore, 1) := by decide +kernel
theorem dX10_restsOf_187 : decode cX10_restsOf 187 = .ok (.iinc 8 1, 3) := by decide +kernel
theorem dX10_restsOf_190 : decode cX10_restsOf 190 = .ok (.goto (-47), 3) := by decide +kernel
theorem dX10_restsOf_193 : decode cX10_restsOf 193 = .ok (.iinc 7 1, 3) := by decide +kernel
theorem dX10_restsOf_196 : decode cX10_restsOf 196 = .ok (.goto (-70), 3) := by decide +kernel
theorem dX10_restsOf_199 : decode cX10_restsOf 199 = .ok (.iinc 4 1, 3) := by decide +kernel
theorem dX10_restsOf_202 : decode cX10_restsOf 202 = .ok (.goto (-134), 3) := by decide +kernel
theorem dX10_restsOf_205 : decode cX10_restsOf 205 = .ok (.iconst 0, 1) := by decide +kernel
theorem dX10_restsOf_206 : decode cX10_restsOf 206 = .ok (.istore 4, 2) := by decide +kernel
theorem dX10_restsOf_208 : decode cX10_restsOf 208 = .ok (.iload 4, 2) := by decide +kernel
theorem dX10_restsOf_210 : decode cX10_restsOf 210 = .ok (.sipush 900, 3) := by decide +kernel
theorem dX10_restsOf_213 : decode cX10_restsOf 213 = .ok (.if_icmp .ge 23, 3) := by decide +kernel
theorem dX10_restsOf_216 : decode cX10_restsOf 216 = .ok (.aload_n 0, 1) := by decide +kernel
theorem dX10_restsOf_217 : decode cX10_restsOf 217 = .ok (.getfield 80, 3) := by decide +kernel
theorem dX10_restsOf_220 : decode cX10_restsOf 220 = .ok (.iload 4, 2) := by decide +kernel
theorem dX10_restsOf_222 : decode cX10_restsOf 222 = .ok (.aload_n 0, 1) := by decide +kernel
theorem dX10_restsOf_223 : decode cX10_restsOf 223 = .ok (.getfield 83, 3) := by decide +kernel
theorem dX10_restsOf_226 : decode cX10_restsOf 226 = .ok (.iload 4, 2) := by decide +kernel
theorem dX10_restsOf_228 : decode cX10_restsOf 228 = .ok (.laload, 1) := by decide +kernel
theorem dX10_restsOf_229 : decode cX10_restsOf 229 = .ok (.lastore, 1) := by decide +kernel
theorem dX10_restsOf_230 : decode cX10_restsOf 230 = .ok (.iinc 4 1, 3) := by decide +kernel
theorem dX10_restsOf_233 : decode cX10_restsOf 233 = .ok (.goto (-25), 3) := by decide +kernel
theorem dX10_restsOf_236 : decode cX10_restsOf 236 = .ok (.iinc 3 1, 3) := by decide +kernel
theorem dX10_restsOf_239 : decode cX10_restsOf 239 = .ok (.goto (-207), 3) := by decide +kernel
theorem dX10_restsOf_242 : decode cX10_restsOf 242 = .ok (.aload_n 0, 1) := by decide +kernel
theorem dX10_restsOf_243 : decode cX10_restsOf 243 = .ok (.getfield 80, 3) := by decide +kernel
theorem dX10_restsOf_246 : decode cX10_restsOf 246 = .ok (.bipush 9, 2) := by decide +kernel
theorem dX10_restsOf_248 : decode cX10_restsOf 248 = .ok (.iload_n 1, 1) := by decide +kernel
theorem dX10_restsOf_249 : decode cX10_restsOf 249 = .ok (.imul, 1) := by decide +kernel
theorem dX10_restsOf_250 : decode cX10_restsOf 250 = .ok (.iload_n 2, 1) := by decide +kernel
theorem dX10_restsOf_251 : decode cX10_restsOf 251 = .ok (.iadd, 1) := by decide +kernel
theorem dX10_restsOf_252 : decode cX10_restsOf 252 = .ok (.laload, 1) := by decide +kernel
theorem dX10_restsOf_253 : decode cX10_restsOf 253 = .ok (.lreturn, 1) := by decide +kernel
theorem dX10_fails_0 : decode cX10_fails 0 = .ok (.aload_n 0, 1) := by decide +kernel
theorem dX10_fails_1 : decode cX10_fails 1 = .ok (.invokevirtual 151, 3) := by decide +kernel
theorem dX10_fails_4 : decode cX10_fails 4 = .ok (.aload_n 0, 1) := by decide +kernel
theorem dX10_fails_5 : decode cX10_fails 5 = .ok (.invokevirtual 184, 3) := by decide +kernel
theorem dX10_fails_8 : decode cX10_fails 8 = .ok (.lconst 0, 1) := by decide +kernel
theorem dX10_fails_9 : decode cX10_fails 9 = .ok (.lstore_n 1, 1) := by decide +kernel
theorem dX10_fails_10 : decode cX10_fails 10 = .ok (.iconst 0, 1) := by decide +kernel
theorem dX10_fails_11 : decode cX10_fails 11 = .ok (.istore_n 3, 1) := by decide +kernel
theorem dX10_fails_12 : decode cX10_fails 12 = .ok (.iload_n 3, 1) := by decide +kernel
theorem dX10_fails_13 : decode cX10_fails 13 = .ok (.aload_n 0, 1) := by decide +kernel
theorem dX10_fails_14 : decode cX10_fails 14 = .ok (.getfield 154, 3) := by decide +kernel
theorem dX10_fails_17 : decode cX10_fails 17 = .ok (.if_icmp .ge 37, 3) := by decide +kernel
theorem dX10_fails_20 : decode cX10_fails 20 = .ok (.iconst 0, 1) := by decide +kernel
theorem dX10_fails_21 : decode cX10_fails 21 = .ok (.istore 4, 2) := by decide +kernel
theorem dX10_fails_23 : decode cX10_fails 23 = .ok (.iload 4, 2) := by decide +kernel
theorem dX10_fails_25 : decode cX10_fails 25 = .ok (.aload_n 0, 1) := by decide +kernel
theorem dX10_fails_26 : decode cX10_fails 26 = .ok (.getfield 175, 3) := by decide +kernel
theorem dX10_fails_29 : decode cX10_fails 29 = .ok (.if_icmp .gt 19, 3) := by decide +kernel
theorem dX10_fails_32 : decode cX10_fails 32 = .ok (.lload_n 1, 1) := by decide +kernel
theorem dX10_fails_33 : decode cX10_fails 33 = .ok (.aload_n 0, 1) := by decide +kernel
theorem dX10_fails_34 : decode cX10_fails 34 = .ok (.iload_n 3, 1) := by decide +kernel
theorem dX10_fails_35 : decode cX10_fails 35 = .ok (.iload 4, 2) := by decide +kernel
theorem dX10_fails_37 : decode cX10_fails 37 = .ok (.invokevirtual 277, 3) := by decide +kernel
theorem dX10_fails_40 : decode cX10_fails 40 = .ok (.ladd, 1) := by decide +kernel
theorem dX10_fails_41 : decode cX10_fails 41 = .ok (.lstore_n 1, 1) := by decide +kernel
theorem dX10_fails_42 : decode cX10_fails 42 = .ok (.iinc 4 1, 3) := by decide +kernel
theorem dX10_fails_45 : decode cX10_fails 45 = .ok (.goto (-22), 3) := by decide +kernel
theorem dX10_fails_48 : decode cX10_fails 48 = .ok (.iinc 3 1, 3) := by decide +kernel
theorem dX10_fails_51 : decode cX10_fails 51 = .ok (.goto (-39), 3) := by decide +kernel
theorem dX10_fails_54 : decode cX10_fails 54 = .ok (.lload_n 1, 1) := by decide +kernel
theorem dX10_fails_55 : decode cX10_fails 55 = .ok (.lreturn, 1) := by decide +kernel
theorem dX10_bestBar_0 : decode cX10_bestBar 0 = .ok (.iload_n 1, 1) := by decide +kernel
theorem dX10_bestBar_1 : decode cX10_bestBar 1 = .ok (.i2l, 1) := by decide +kernel
theorem dX10_bestBar_2 : decode cX10_bestBar 2 = .ok (.lconst 0, 1) := by decide +kernel
theorem dX10_bestBar_3 : decode cX10_bestBar 3 = .ok (.lconst 1, 1) := by decide +kernel
theorem dX10_bestBar_4 : decode cX10_bestBar 4 = .ok (.invokestatic 95, 3) := by decide +kernel
theorem dX10_bestBar_7 : decode cX10_bestBar 7 = .ok (.ifCond .ne 7, 3) := by decide +kernel
theorem dX10_bestBar_10 : decode cX10_bestBar 10 = .ok (.ldc2_w 231, 3) := by decide +kernel
theorem dX10_bestBar_13 : decode cX10_bestBar 13 = .ok (.lreturn, 1) := by decide +kernel
theorem dX10_bestBar_14 : decode cX10_bestBar 14 = .ok (.aload_n 0, 1) := by decide +kernel
theorem dX10_bestBar_15 : decode cX10_bestBar 15 = .ok (.invokevirtual 151, 3) := by decide +kernel
theorem dX10_bestBar_18 : decode cX10_bestBar 18 = .ok (.iconst 0, 1) := by decide +kernel
theorem dX10_bestBar_19 : decode cX10_bestBar 19 = .ok (.istore_n 2, 1) := by decide +kernel
theorem dX10_bestBar_20 : decode cX10_bestBar 20 = .ok (.lconst 0, 1) := by decide +kernel
theorem dX10_bestBar_21 : decode cX10_bestBar 21 = .ok (.lstore_n 3, 1) := by decide +kernel
theorem dX10_bestBar_22 : decode cX10_bestBar 22 = .ok (.iconst 1, 1) := by decide +kernel
theorem dX10_bestBar_23 : decode cX10_bestBar 23 = .ok (.istore 5, 2) := by decide +kernel
theorem dX10_bestBar_25 : decode cX10_bestBar 25 = .ok (.iload 5, 2) := by decide +kernel
theorem dX10_bestBar_27 : decode cX10_bestBar 27 = .ok (.bipush 60, 2) := by decide +kernel
theorem dX10_bestBar_29 : decode cX10_bestBar 29 = .ok (.if_icmp .gt 39, 3) := by decide +kernel
theorem dX10_bestBar_32 : decode cX10_bestBar 32 = .ok (.aload_n 0, 1) := by decide +kernel
theorem dX10_bestBar_33 : decode cX10_bestBar 33 = .ok (.iload 5, 2) := by decide +kernel
theorem dX10_bestBar_35 : decode cX10_bestBar 35 = .ok (.putfield 154, 3) := by decide +kernel
theorem dX10_bestBar_38 : decode cX10_bestBar 38 = .ok (.aload_n 0, 1) := by decide +kernel
theorem dX10_bestBar_39 : decode cX10_bestBar 39 = .ok (.iconst 3, 1) := by decide +kernel
theorem dX10_bestBar_40 : decode cX10_bestBar 40 = .ok (.invokevirtual 233, 3) := by decide +kernel
theorem dX10_bestBar_43 : decode cX10_bestBar 43 = .ok (.lstore 6, 2) := by decide +kernel
theorem dX10_bestBar_45 : decode cX10_bestBar 45 = .ok (.iload_n 2, 1) := by decide +kernel
theorem dX10_bestBar_46 : decode cX10_bestBar 46 = .ok (.ifCond .eq 10, 3) := by decide +kernel
theorem dX10_bestBar_49 : decode cX10_bestBar 49 = .ok (.lload 6, 2) := by decide +kernel
theorem dX10_bestBar_51 : decode cX10_bestBar 51 = .ok (.lload_n 3, 1) := by decide +kernel
theorem dX10_bestBar_52 : decode cX10_bestBar 52 = .ok (.lcmp, 1) := by decide +kernel
theorem dX10_bestBar_53 : decode cX10_bestBar 53 = .ok (.ifCond .ge 9, 3) := by decide +kernel
theorem dX10_bestBar_56 : decode cX10_bestBar 56 = .ok (.iload 5, 2) := by decide +kernel
theorem dX10_bestBar_58 : decode cX10_bestBar 58 = .ok (.istore_n 2, 1) := by decide +kernel
theorem dX10_bestBar_59 : decode cX10_bestBar 59 = .ok (.lload 6, 2) := by decide +kernel
theorem dX10_bestBar_61 : decode cX10_bestBar 61 = .ok (.lstore_n 3, 1) := by decide +kernel
theorem dX10_bestBar_62 : decode cX10_bestBar 62 = .ok (.iinc 5 1, 3) := by decide +kernel
theorem dX10_bestBar_65 : decode cX10_bestBar 65 = .ok (.goto (-40), 3) := by decide +kernel
theorem dX10_bestBar_68 : decode cX10_bestBar 68 = .ok (.iload_n 1, 1) := by decide +kernel
theorem dX10_bestBar_69 : decode cX10_bestBar 69 = .ok (.ifCond .ne 8, 3) := by decide +kernel
theorem dX10_bestBar_72 : decode cX10_bestBar 72 = .ok (.iload_n 2, 1) := by decide +kernel
theorem dX10_bestBar_73 : decode cX10_bestBar 73 = .ok (.i2l, 1) := by decide +kernel
theorem dX10_bestBar_74 : decode cX10_bestBar 74 = .ok (.goto 4, 3) := by decide +kernel
theorem dX10_bestBar_77 : decode cX10_bestBar 77 = .ok (.lload_n 3, 1) := by decide +kernel
theorem dX10_bestBar_78 : decode cX10_bestBar 78 = .ok (.lreturn, 1) := by decide +kernel
theorem dX10_bestDay_0 : decode cX10_bestDay 0 = .ok (.aload_n 0, 1) := by decide +kernel
theorem dX10_bestDay_1 : decode cX10_bestDay 1 = .ok (.invokevirtual 151, 3) := by decide +kernel
theorem dX10_bestDay_4 : decode cX10_bestDay 4 = .ok (.bipush (-4), 2) := by decide +kernel
theorem dX10_bestDay_6 : decode cX10_bestDay 6 = .ok (.istore_n 1, 1) := by decide +kernel
theorem dX10_bestDay_7 : decode cX10_bestDay 7 = .ok (.lconst 0, 1) := by decide +kernel
theorem dX10_bestDay_8 : decode cX10_bestDay 8 = .ok (.lstore_n 2, 1) := by decide +kernel
theorem dX10_bestDay_9 : decode cX10_bestDay 9 = .ok (.lconst 1, 1) := by decide +kernel
theorem dX10_bestDay_10 : decode cX10_bestDay 10 = .ok (.lstore 4, 2) := by decide +kernel
theorem dX10_bestDay_12 : decode cX10_bestDay 12 = .ok (.iconst 0, 1) := by decide +kernel
theorem dX10_bestDay_13 : decode cX10_bestDay 13 = .ok (.istore 6, 2) := by decide +kernel
theorem dX10_bestDay_15 : decode cX10_bestDay 15 = .ok (.iload 6, 2) := by decide +kernel
theorem dX10_bestDay_17 : decode cX10_bestDay 17 = .ok (.bipush 30, 2) := by decide +kernel
theorem dX10_bestDay_19 : decode cX10_bestDay 19 = .ok (.if_icmp .gt 55, 3) := by decide +kernel
theorem dX10_bestDay_22 : decode cX10_bestDay 22 = .ok (.aload_n 0, 1) := by decide +kernel
theorem dX10_bestDay_23 : decode cX10_bestDay 23 = .ok (.iload 6, 2) := by decide +kernel
theorem dX10_bestDay_25 : decode cX10_bestDay 25 = .ok (.putfield 157, 3) := by decide +kernel
theorem dX10_bestDay_28 : decode cX10_bestDay 28 = .ok (.aload_n 0, 1) := by decide +kernel
theorem dX10_bestDay_29 : decode cX10_bestDay 29 = .ok (.iconst 0, 1) := by decide +kernel
theorem dX10_bestDay_30 : decode cX10_bestDay 30 = .ok (.invokevirtual 233, 3) := by decide +kernel
theorem dX10_bestDay_33 : decode cX10_bestDay 33 = .ok (.lstore 7, 2) := by decide +kernel
theorem dX10_bestDay_35 : decode cX10_bestDay 35 = .ok (.aload_n 0, 1) := by decide +kernel
theorem dX10_bestDay_36 : decode cX10_bestDay 36 = .ok (.invokevirtual 237, 3) := by decide +kernel
theorem dX10_bestDay_39 : decode cX10_bestDay 39 = .ok (.lstore 9, 2) := by decide +kernel
theorem dX10_bestDay_41 : decode cX10_bestDay 41 = .ok (.iload_n 1, 1) := by decide +kernel
theorem dX10_bestDay_42 : decode cX10_bestDay 42 = .ok (.ifCond .lt 16, 3) := by decide +kernel
theorem dX10_bestDay_45 : decode cX10_bestDay 45 = .ok (.lload 7, 2) := by decide +kernel
theorem dX10_bestDay_47 : decode cX10_bestDay 47 = .ok (.lload 4, 2) := by decide +kernel
theorem dX10_bestDay_49 : decode cX10_bestDay 49 = .ok (.lmul, 1) := by decide +kernel
theorem dX10_bestDay_50 : decode cX10_bestDay 50 = .ok (.lload_n 2, 1) := by decide +kernel
theorem dX10_bestDay_51 : decode cX10_bestDay 51 = .ok (.lload 9, 2) := by decide +kernel
theorem dX10_bestDay_53 : decode cX10_bestDay 53 = .ok (.lmul, 1) := by decide +kernel
theorem dX10_bestDay_54 : decode cX10_bestDay 54 = .ok (.lcmp, 1) := by decide +kernel
theorem dX10_bestDay_55 : decode cX10_bestDay 55 = .ok (.ifCond .le 13, 3) := by decide +kernel
theorem dX10_bestDay_58 : decode cX10_bestDay 58 = .ok (.iload 6, 2) := by decide +kernel
theorem dX10_bestDay_60 : decode cX10_bestDay 60 = .ok (.istore_n 1, 1) := by decide +kernel
theorem dX10_bestDay_61 : decode cX10_bestDay 61 = .ok (.lload 7, 2) := by decide +kernel
theorem dX10_bestDay_63 : decode cX10_bestDay 63 = .ok (.lstore_n 2, 1) := by decide +kernel
theorem dX10_bestDay_64 : decode cX10_bestDay 64 = .ok (.lload 9, 2) := by decide +kernel
theorem dX10_bestDay_66 : decode cX10_bestDay 66 = .ok (.lstore 4, 2) := by decide +kernel
theorem dX10_bestDay_68 : decode cX10_bestDay 68 = .ok (.iinc 6 1, 3) := by decide +kernel
theorem dX10_bestDay_71 : decode cX10_bestDay 71 = .ok (.goto (-56), 3) := by decide +kernel
theorem dX10_bestDay_74 : decode cX10_bestDay 74 = .ok (.iload_n 1, 1) := by decide +kernel
theorem dX10_bestDay_75 : decode cX10_bestDay 75 = .ok (.ireturn, 1) := by decide +kernel
theorem dX10_extra_0 : decode cX10_extra 0 = .ok (.iload_n 1, 1) := by decide +kernel
theorem dX10_extra_1 : decode cX10_extra 1 = .ok (.i2l, 1) := by decide +kernel
theorem dX10_extra_2 : decode cX10_extra 2 = .ok (.lconst 0, 1) := by decide +kernel
theorem dX10_extra_3 : decode cX10_extra 3 = .ok (.ldc2_w 126, 3) := by decide +kernel
theorem dX10_extra_6 : decode cX10_extra 6 = .ok (.invokestatic 95, 3) := by decide +kernel
theorem dX10_extra_9 : decode cX10_extra 9 = .ok (.ifCond .ne 5, 3) := by decide +kernel
theorem dX10_extra_12 : decode cX10_extra 12 = .ok (.iconst (-1), 1) := by decide +kernel
theorem dX10_extra_13 : decode cX10_extra 13 = .ok (.ireturn, 1) := by decide +kernel
theorem dX10_extra_14 : decode cX10_extra 14 = .ok (.aload_n 0, 1) := by decide +kernel
theorem dX10_extra_15 : decode cX10_extra 15 = .ok (.invokevirtual 151, 3) := by decide +kernel
theorem dX10_extra_18 : decode cX10_extra 18 = .ok (.iconst 0, 1) := by decide +kernel
theorem dX10_extra_19 : decode cX10_extra 19 = .ok (.istore_n 2, 1) := by decide +kernel
theorem dX10_extra_20 : decode cX10_extra 20 = .ok (.iload_n 2, 1) := by decide +kernel
theorem dX10_extra_21 : decode cX10_extra 21 = .ok (.bipush 9, 2) := by decide +kernel
theorem dX10_extra_23 : decode cX10_extra 23 = .ok (.if_icmp .gt 36, 3) := by decide +kernel
theorem dX10_extra_26 : decode cX10_extra 26 = .ok (.aload_n 0, 1) := by decide +kernel
theorem dX10_extra_27 : decode cX10_extra 27 = .ok (.iload_n 2, 1) := by decide +kernel
theorem dX10_extra_28 : decode cX10_extra 28 = .ok (.putfield 160, 3) := by decide +kernel
theorem dX10_extra_31 : decode cX10_extra 31 = .ok (.ldc2_w 126, 3) := by decide +kernel
theorem dX10_extra_34 : decode cX10_extra 34 = .ok (.aload_n 0, 1) := by decide +kernel
theorem dX10_extra_35 : decode cX10_extra 35 = .ok (.iconst 0, 1) := by decide +kernel
theorem dX10_extra_36 : decode cX10_extra 36 = .ok (.invokevirtual 233, 3) := by decide +kernel
theorem dX10_extra_39 : decode cX10_extra 39 = .ok (.lmul, 1) := by decide +kernel
theorem dX10_extra_40 : decode cX10_extra 40 = .ok (.iload_n 1, 1) := by decide +kernel
theorem dX10_extra_41 : decode cX10_extra 41 = .ok (.i2l, 1) := by decide +kernel
theorem dX10_extra_42 : decode cX10_extra 42 = .ok (.aload_n 0, 1) := by decide +kernel
theorem dX10_extra_43 : decode cX10_extra 43 = .ok (.invokevirtual 237, 3) := by decide +kernel
theorem dX10_extra_46 : decode cX10_extra 46 = .ok (.lmul, 1) := by decide +kernel
theorem dX10_extra_47 : decode cX10_extra 47 = .ok (.lcmp, 1) := by decide +kernel
theorem dX10_extra_48 : decode cX10_extra 48 = .ok (.ifCond .lt 5, 3) := by decide +kernel
theorem dX10_extra_51 : decode cX10_extra 51 = .ok (.iload_n 2, 1) := by decide +kernel
theorem dX10_extra_52 : decode cX10_extra 52 = .ok (.ireturn, 1) := by decide +kernel
theorem dX10_extra_53 : decode cX10_extra 53 = .ok (.iinc 2 1, 3) := by decide +kernel
theorem dX10_extra_56 : decode cX10_extra 56 = .ok (.goto (-36), 3) := by decide +kernel
theorem dX10_extra_59 : decode cX10_extra 59 = .ok (.bipush (-4), 2) := by decide +kernel
theorem dX10_extra_61 : decode cX10_extra 61 = .ok (.ireturn, 1) := by decide +kernel
theorem dX10_bestShow_0 : decode cX10_bestShow 0 = .ok (.aload_n 0, 1) := by decide +kernel
theorem dX10_bestShow_1 : decode cX10_bestShow 1 = .ok (.invokevirtual 151, 3) := by decide +kernel
theorem dX10_bestShow_4 : decode cX10_bestShow 4 = .ok (.iconst 0, 1) := by decide +kernel
theorem dX10_bestShow_5 : decode cX10_bestShow 5 = .ok (.istore_n 1, 1) := by decide +kernel
theorem dX10_bestShow_6 : decode cX10_bestShow 6 = .ok (.ldc2_w 231, 3) := by decide +kernel
theorem dX10_bestShow_9 : decode cX10_bestShow 9 = .ok (.lstore_n 2, 1) := by decide +kernel
theorem dX10_bestShow_10 : decode cX10_bestShow 10 = .ok (.iconst 0, 1) := by decide +kernel
theorem dX10_bestShow_11 : decode cX10_bestShow 11 = .ok (.istore 4, 2) := by decide +kernel
theorem dX10_bestShow_13 : decode cX10_bestShow 13 = .ok (.iload 4, 2) := by decide +kernel
theorem dX10_bestShow_15 : decode cX10_bestShow 15 = .ok (.iconst 3, 1) := by decide +kernel
theorem dX10_bestShow_16 : decode cX10_bestShow 16 = .ok (.if_icmp .ge 50, 3) := by decide +kernel
theorem dX10_bestShow_19 : decode cX10_bestShow 19 = .ok (.aload_n 0, 1) := by decide +kernel
theorem dX10_bestShow_20 : decode cX10_bestShow 20 = .ok (.iload 4, 2) := by decide +kernel
theorem dX10_bestShow_22 : decode cX10_bestShow 22 = .ok (.putfield 163, 3) := by decide +kernel
theorem dX10_bestShow_25 : decode cX10_bestShow 25 = .ok (.aload_n 0, 1) := by decide +kernel
theorem dX10_bestShow_26 : decode cX10_bestShow 26 = .ok (.iconst 0, 1) := by decide +kernel
theorem dX10_bestShow_27 : decode cX10_bestShow 27 = .ok (.invokevirtual 233, 3) := by decide +kernel
theorem dX10_bestShow_30 : decode cX10_bestShow 30 = .ok (.lstore 5, 2) := by decide +kernel
theorem dX10_bestShow_32 : decode cX10_bestShow 32 = .ok (.lload 5, 2) := by decide +kernel
theorem dX10_bestShow_34 : decode cX10_bestShow 34 = .ok (.lload_n 2, 1) := by decide +kernel
theorem dX10_bestShow_35 : decode cX10_bestShow 35 = .ok (.lcmp, 1) := by decide +kernel
theorem dX10_bestShow_36 : decode cX10_bestShow 36 = .ok (.ifCond .le 8, 3) := by decide +kernel
theorem dX10_bestShow_39 : decode cX10_bestShow 39 = .ok (.iload 4, 2) := by decide +kernel
theorem dX10_bestShow_41 : decode cX10_bestShow 41 = .ok (.goto 4, 3) := by decide +kernel
theorem dX10_bestShow_44 : decode cX10_bestShow 44 = .ok (.iload_n 1, 1) := by decide +kernel
theorem dX10_bestShow_45 : decode cX10_bestShow 45 = .ok (.istore_n 1, 1) := by decide +kernel
theorem dX10_bestShow_46 : decode cX10_bestShow 46 = .ok (.lload 5, 2) := by decide +kernel
theorem dX10_bestShow_48 : decode cX10_bestShow 48 = .ok (.lload_n 2, 1) := by decide +kernel
theorem dX10_bestShow_49 : decode cX10_bestShow 49 = .ok (.lcmp, 1) := by decide +kernel
theorem dX10_bestShow_50 : decode cX10_bestShow 50 = .ok (.ifCond .le 8, 3) := by decide +kernel
theorem dX10_bestShow_53 : decode cX10_bestShow 53 = .ok (.lload 5, 2) := by decide +kernel
theorem dX10_bestShow_55 : decode cX10_bestShow 55 = .ok (.goto 4, 3) := by decide +kernel
theorem dX10_bestShow_58 : decode cX10_bestShow 58 = .ok (.lload_n 2, 1) := by decide +kernel
theorem dX10_bestShow_59 : decode cX10_bestShow 59 = .ok (.lstore_n 2, 1) := by decide +kernel
theorem dX10_bestShow_60 : decode cX10_bestShow 60 = .ok (.iinc 4 1, 3) := by decide +kernel
theorem dX10_bestShow_63 : decode cX10_bestShow 63 = .ok (.goto (-50), 3) := by decide +kernel
theorem dX10_bestShow_66 : decode cX10_bestShow 66 = .ok (.iload_n 1, 1) := by decide +kernel
theorem dX10_bestShow_67 : decode cX10_bestShow 67 = .ok (.ireturn, 1) := by decide +kernel
theorem dX10_richWays_0 : decode cX10_richWays 0 = .ok (.aload_n 0, 1) := by decide +kernel
theorem dX10_richWays_1 : decode cX10_richWays 1 = .ok (.invokevirtual 151, 3) := by decide +kernel
theorem dX10_richWays_4 : decode cX10_richWays 4 = .ok (.aload_n 0, 1) := by decide +kernel
theorem dX10_richWays_5 : decode cX10_richWays 5 = .ok (.iload_n 1, 1) := by decide +kernel
theorem dX10_richWays_6 : decode cX10_richWays 6 = .ok (.putfield 166, 3) := by decide +kernel
theorem dX10_richWays_9 : decode cX10_richWays 9 = .ok (.aload_n 0, 1) := by decide +kernel
theorem dX10_richWays_10 : decode cX10_richWays 10 = .ok (.iload_n 2, 1) := by decide +kernel
theorem dX10_richWays_11 : decode cX10_richWays 11 = .ok (.putfield 169, 3) := by decide +kernel
theorem dX10_richWays_14 : decode cX10_richWays 14 = .ok (.aload_n 0, 1) := by decide +kernel
theorem dX10_richWays_15 : decode cX10_richWays 15 = .ok (.iconst 0, 1) := by decide +kernel
theorem dX10_richWays_16 : decode cX10_richWays 16 = .ok (.invokevirtual 233, 3) := by decide +kernel
theorem dX10_richWays_19 : decode cX10_richWays 19 = .ok (.lreturn, 1) := by decide +kernel
theorem dX10_rich_0 : decode cX10_rich 0 = .ok (.iload_n 1, 1) := by decide +kernel
theorem dX10_rich_1 : decode cX10_rich 1 = .ok (.i2l, 1) := by decide +kernel
theorem dX10_rich_2 : decode cX10_rich 2 = .ok (.lconst 0, 1) := by decide +kernel
theorem dX10_rich_3 : decode cX10_rich 3 = .ok (.ldc2_w 281, 3) := by decide +kernel
theorem dX10_rich_6 : decode cX10_rich 6 = .ok (.invokestatic 95, 3) := by decide +kernel
theorem dX10_rich_9 : decode cX10_rich 9 = .ok (.ifCond .eq 28, 3) := by decide +kernel
theorem dX10_rich_12 : decode cX10_rich 12 = .ok (.iload_n 2, 1) := by decide +kernel
theorem dX10_rich_13 : decode cX10_rich 13 = .ok (.i2l, 1) := by decide +kernel
theorem dX10_rich_14 : decode cX10_rich 14 = .ok (.lconst 0, 1) := by decide +kernel
theorem dX10_rich_15 : decode cX10_rich 15 = .ok (.aload_n 0, 1) := by decide +kernel
theorem dX10_rich_16 : decode cX10_rich 16 = .ok (.getfield 13, 3) := by decide +kernel
theorem dX10_rich_19 : decode cX10_rich 19 = .ok (.iconst 2, 1) := by decide +kernel
theorem dX10_rich_20 : decode cX10_rich 20 = .ok (.iaload, 1) := by decide +kernel
theorem dX10_rich_21 : decode cX10_rich 21 = .ok (.i2l, 1) := by decide +kernel
theorem dX10_rich_22 : decode cX10_rich 22 = .ok (.invokestatic 95, 3) := by decide +kernel
theorem dX10_rich_25 : decode cX10_rich 25 = .ok (.ifCond .eq 12, 3) := by decide +kernel
theorem dX10_rich_28 : decode cX10_rich 28 = .ok (.aload_n 0, 1) := by decide +kernel
theorem dX10_rich_29 : decode cX10_rich 29 = .ok (.iload_n 1, 1) := by decide +kernel
theorem dX10_rich_30 : decode cX10_rich 30 = .ok (.iload_n 2, 1) := by decide +kernel
theorem dX10_rich_31 : decode cX10_rich 31 = .ok (.invokevirtual 283, 3) := by decide +kernel
theorem dX10_rich_34 : decode cX10_rich 34 = .ok (.goto 6, 3) := by decide +kernel
theorem dX10_rich_37 : decode cX10_rich 37 = .ok (.ldc2_w 231, 3) := by decide +kernel
theorem dX10_rich_40 : decode cX10_rich 40 = .ok (.lreturn, 1) := by decide +kernel
theorem dX10_richDay_0 : decode cX10_richDay 0 = .ok (.iload_n 1, 1) := by decide +kernel
theorem dX10_richDay_1 : decode cX10_richDay 1 = .ok (.i2l, 1) := by decide +kernel
theorem dX10_richDay_2 : decode cX10_richDay 2 = .ok (.lconst 0, 1) := by decide +kernel
theorem dX10_richDay_3 : decode cX10_richDay 3 = .ok (.ldc2_w 281, 3) := by decide +kernel
theorem dX10_richDay_6 : decode cX10_richDay 6 = .ok (.invokestatic 95, 3) := by decide +kernel
theorem dX10_richDay_9 : decode cX10_richDay 9 = .ok (.ifCond .ne 5, 3) := by decide +kernel
theorem dX10_richDay_12 : decode cX10_richDay 12 = .ok (.iconst (-1), 1) := by decide +kernel
theorem dX10_richDay_13 : decode cX10_richDay 13 = .ok (.ireturn, 1) := by decide +kernel
theorem dX10_richDay_14 : decode cX10_richDay 14 = .ok (.iconst 0, 1) := by decide +kernel
theorem dX10_richDay_15 : decode cX10_richDay 15 = .ok (.istore_n 2, 1) := by decide +kernel
theorem dX10_richDay_16 : decode cX10_richDay 16 = .ok (.aload_n 0, 1) := by decide +kernel
theorem dX10_richDay_17 : decode cX10_richDay 17 = .ok (.iload_n 1, 1) := by decide +kernel
theorem dX10_richDay_18 : decode cX10_richDay 18 = .ok (.iconst 0, 1) := by decide +kernel
theorem dX10_richDay_19 : decode cX10_richDay 19 = .ok (.invokevirtual 283, 3) := by decide +kernel
theorem dX10_richDay_22 : decode cX10_richDay 22 = .ok (.lstore_n 3, 1) := by decide +kernel
theorem dX10_richDay_23 : decode cX10_richDay 23 = .ok (.iconst 1, 1) := by decide +kernel
theorem dX10_richDay_24 : decode cX10_richDay 24 = .ok (.istore 5, 2) := by decide +kernel
theorem dX10_richDay_26 : decode cX10_richDay 26 = .ok (.iload 5, 2) := by decide +kernel
theorem dX10_richDay_28 : decode cX10_richDay 28 = .ok (.aload_n 0, 1) := by decide +kernel
theorem dX10_richDay_29 : decode cX10_richDay 29 = .ok (.getfield 13, 3) := by decide +kernel
theorem dX10_richDay_32 : decode cX10_richDay 32 = .ok (.iconst 2, 1) := by decide +kernel
theorem dX10_richDay_33 : decode cX10_richDay 33 = .ok (.iaload, 1) := by decide +kernel
theorem dX10_richDay_34 : decode cX10_richDay 34 = .ok (.if_icmp .gt 46, 3) := by decide +kernel
theorem dX10_richDay_37 : decode cX10_richDay 37 = .ok (.aload_n 0, 1) := by decide +kernel
theorem dX10_richDay_38 : decode cX10_richDay 38 = .ok (.iload_n 1, 1) := by decide +kernel
theorem dX10_richDay_39 : decode cX10_richDay 39 = .ok (.iload 5, 2) := by decide +kernel
theorem dX10_richDay_41 : decode cX10_richDay 41 = .ok (.invokevirtual 283, 3) := by decide +kernel
theorem dX10_richDay_44 : decode cX10_richDay 44 = .ok (.lstore 6, 2) := by decide +kernel
theorem dX10_richDay_46 : decode cX10_richDay 46 = .ok (.lload 6, 2) := by decide +kernel
theorem dX10_richDay_48 : decode cX10_richDay 48 = .ok (.lload_n 3, 1) := by decide +kernel
theorem dX10_richDay_49 : decode cX10_richDay 49 = .ok (.lcmp, 1) := by decide +kernel
theorem dX10_richDay_50 : decode cX10_richDay 50 = .ok (.ifCond .le 8, 3) := by decide +kernel
theorem dX10_richDay_53 : decode cX10_richDay 53 = .ok (.iload 5, 2) := by decide +kernel
theorem dX10_richDay_55 : decode cX10_richDay 55 = .ok (.goto 4, 3) := by decide +kernel
theorem dX10_richDay_58 : decode cX10_richDay 58 = .ok (.iload_n 2, 1) := by decide +kernel
theorem dX10_richDay_59 : decode cX10_richDay 59 = .ok (.istore_n 2, 1) := by decide +kernel
theorem dX10_richDay_60 : decode cX10_richDay 60 = .ok (.lload 6, 2) := by decide +kernel
theorem dX10_richDay_62 : decode cX10_richDay 62 = .ok (.lload_n 3, 1) := by decide +kernel
theorem dX10_richDay_63 : decode cX10_richDay 63 = .ok (.lcmp, 1) := by decide +kernel
theorem dX10_richDay_64 : decode cX10_richDay 64 = .ok (.ifCond .le 8, 3) := by decide +kernel
theorem dX10_richDay_67 : decode cX10_richDay 67 = .ok (.lload 6, 2) := by decide +kernel
theorem dX10_richDay_69 : decode cX10_richDay 69 = .ok (.goto 4, 3) := by decide +kernel
theorem dX10_richDay_72 : decode cX10_richDay 72 = .ok (.lload_n 3, 1) := by decide +kernel
theorem dX10_richDay_73 : decode cX10_richDay 73 = .ok (.lstore_n 3, 1) := by decide +kernel
theorem dX10_richDay_74 : decode cX10_richDay 74 = .ok (.iinc 5 1, 3) := by decide +kernel
theorem dX10_richDay_77 : decode cX10_richDay 77 = .ok (.goto (-51), 3) := by decide +kernel
theorem dX10_richDay_80 : decode cX10_richDay 80 = .ok (.iload_n 2, 1) := by decide +kernel
theorem dX10_richDay_81 : decode cX10_richDay 81 = .ok (.ireturn, 1) := by decide +kernel
theorem dX10_two_0 : decode cX10_two 0 = .ok (.iload_n 1, 1) := by decide +kernel
theorem dX10_two_1 : decode cX10_two 1 = .ok (.i2l, 1) := by decide +kernel
theorem dX10_two_2 : decode cX10_two 2 = .ok (.lconst 0, 1) := by decide +kernel
theorem dX10_two_3 : decode cX10_two 3 = .ok (.ldc2_w 190, 3) := by decide +kernel
theorem dX10_two_6 : decode cX10_two 6 = .ok (.invokestatic 95, 3) := by decide +kernel
theorem dX10_two_9 : decode cX10_two 9 = .ok (.ifCond .ne 7, 3) := by decide +kernel
theorem dX10_two_12 : decode cX10_two 12 = .ok (.ldc2_w 231, 3) := by decide +kernel
theorem dX10_two_15 : decode cX10_two 15 = .ok (.lreturn, 1) := by decide +kernel
theorem dX10_two_16 : decode cX10_two 16 = .ok (.aload_n 0, 1) := by decide +kernel
theorem dX10_two_17 : decode cX10_two 17 = .ok (.getfield 13, 3) := by decide +kernel
theorem dX10_two_20 : decode cX10_two 20 = .ok (.bipush 8, 2) := by decide +kernel
theorem dX10_two_22 : decode cX10_two 22 = .ok (.iaload, 1) := by decide +kernel
theorem dX10_two_23 : decode cX10_two 23 = .ok (.ifCond .ne 7, 3) := by decide +kernel
theorem dX10_two_26 : decode cX10_two 26 = .ok (.ldc2_w 286, 3) := by decide +kernel
theorem dX10_two_29 : decode cX10_two 29 = .ok (.lreturn, 1) := by decide +kernel
theorem dX10_two_30 : decode cX10_two 30 = .ok (.aload_n 0, 1) := by decide +kernel
theorem dX10_two_31 : decode cX10_two 31 = .ok (.invokevirtual 151, 3) := by decide +kernel
theorem dX10_two_34 : decode cX10_two 34 = .ok (.aload_n 0, 1) := by decide +kernel
theorem dX10_two_35 : decode cX10_two 35 = .ok (.iload_n 1, 1) := by decide +kernel
theorem dX10_two_36 : decode cX10_two 36 = .ok (.ifCond .ne 7, 3) := by decide +kernel
theorem dX10_two_39 : decode cX10_two 39 = .ok (.iconst 0, 1) := by decide +kernel
theorem dX10_two_40 : decode cX10_two 40 = .ok (.goto 6, 3) := by decide +kernel
theorem dX10_two_43 : decode cX10_two 43 = .ok (.iconst 3, 1) := by decide +kernel
theorem dX10_two_44 : decode cX10_two 44 = .ok (.iload_n 1, 1) := by decide +kernel
theorem dX10_two_45 : decode cX10_two 45 = .ok (.iadd, 1) := by decide +kernel
theorem dX10_two_46 : decode cX10_two 46 = .ok (.invokevirtual 233, 3) := by decide +kernel
theorem dX10_two_49 : decode cX10_two 49 = .ok (.lreturn, 1) := by decide +kernel
theorem dX10_goEvening_0 : decode cX10_goEvening 0 = .ok (.aload_n 0, 1) := by decide +kernel
theorem dX10_goEvening_1 : decode cX10_goEvening 1 = .ok (.invokevirtual 151, 3) := by decide +kernel
theorem dX10_goEvening_4 : decode cX10_goEvening 4 = .ok (.aload_n 0, 1) := by decide +kernel
theorem dX10_goEvening_5 : decode cX10_goEvening 5 = .ok (.invokevirtual 184, 3) := by decide +kernel
theorem dX10_goEvening_8 : decode cX10_goEvening 8 = .ok (.iconst 0, 1) := by decide +kernel
theorem dX10_goEvening_9 : decode cX10_goEvening 9 = .ok (.istore_n 2, 1) := by decide +kernel
theorem dX10_goEvening_10 : decode cX10_goEvening 10 = .ok (.iload_n 2, 1) := by decide +kernel
theorem dX10_goEvening_11 : decode cX10_goEvening 11 = .ok (.aload_n 0, 1) := by decide +kernel
theorem dX10_goEvening_12 : decode cX10_goEvening 12 = .ok (.getfield 175, 3) := by decide +kernel
theorem dX10_goEvening_15 : decode cX10_goEvening 15 = .ok (.if_icmp .ge 106, 3) := by decide +kernel
theorem dX10_goEvening_18 : decode cX10_goEvening 18 = .ok (.aload_n 0, 1) := by decide +kernel
theorem dX10_goEvening_19 : decode cX10_goEvening 19 = .ok (.getfield 61, 3) := by decide +kernel
theorem dX10_goEvening_22 : decode cX10_goEvening 22 = .ok (.iload_n 2, 1) := by decide +kernel
theorem dX10_goEvening_23 : decode cX10_goEvening 23 = .ok (.iaload, 1) := by decide +kernel
theorem dX10_goEvening_24 : decode cX10_goEvening 24 = .ok (.istore_n 3, 1) := by decide +kernel
theorem dX10_goEvening_25 : decode cX10_goEvening 25 = .ok (.ldc2_w 288, 3) := by decide +kernel
theorem dX10_goEvening_28 : decode cX10_goEvening 28 = .ok (.iload_n 1, 1) := by decide +kernel
theorem dX10_goEvening_29 : decode cX10_goEvening 29 = .ok (.i2l, 1) := by decide +kernel
theorem dX10_goEvening_30 : decode cX10_goEvening 30 = .ok (.lmul, 1) := by decide +kernel
theorem dX10_goEvening_31 : decode cX10_goEvening 31 = .ok (.ldc2_w 290, 3) := by decide +kernel
theorem dX10_goEvening_34 : decode cX10_goEvening 34 = .ok (.iload_n 3, 1) := by decide +kernel
theorem dX10_goEvening_35 : decode cX10_goEvening 35 = .ok (.i2l, 1) := by decide +kernel
theorem dX10_goEvening_36 : decode cX10_goEvening 36 = .ok (.lmul, 1) := by decide +kernel
theorem dX10_goEvening_37 : decode cX10_goEvening 37 = .ok (.ladd, 1) := by decide +kernel
theorem dX10_goEvening_38 : decode cX10_goEvening 38 = .ok (.lconst 1, 1) := by decide +kernel
theorem dX10_goEvening_39 : decode cX10_goEvening 39 = .ok (.ladd, 1) := by decide +kernel
theorem dX10_goEvening_40 : decode cX10_goEvening 40 = .ok (.lstore 4, 2) := by decide +kernel
theorem dX10_goEvening_42 : decode cX10_goEvening 42 = .ok (.lload 4, 2) := by decide +kernel
theorem dX10_goEvening_44 : decode cX10_goEvening 44 = .ok (.lload 4, 2) := by decide +kernel
theorem dX10_goEvening_46 : decode cX10_goEvening 46 = .ok (.lmul, 1) := by decide +kernel
theorem dX10_goEvening_47 : decode cX10_goEvening 47 = .ok (.ldc2_w 292, 3) := by decide +kernel
theorem dX10_goEvening_50 : decode cX10_goEvening 50 = .ok (.lrem, 1) := by decide +kernel
theorem dX10_goEvening_51 : decode cX10_goEvening 51 = .ok (.ldc2_w 126, 3) := by decide +kernel
theorem dX10_goEvening_54 : decode cX10_goEvening 54 = .ok (.lrem, 1) := by decide +kernel
theorem dX10_goEvening_55 : decode cX10_goEvening 55 = .ok (.l2i, 1) := by decide +kernel
theorem dX10_goEvening_56 : decode cX10_goEvening 56 = .ok (.istore 6, 2) := by decide +kernel
theorem dX10_goEvening_58 : decode cX10_goEvening 58 = .ok (.iconst 3, 1) := by decide +kernel
theorem dX10_goEvening_59 : decode cX10_goEvening 59 = .ok (.aload_n 0, 1) := by decide +kernel
theorem dX10_goEvening_60 : decode cX10_goEvening 60 = .ok (.getfield 46, 3) := by decide +kernel
theorem dX10_goEvening_63 : decode cX10_goEvening 63 = .ok (.iload_n 3, 1) := by decide +kernel
theorem dX10_goEvening_64 : decode cX10_goEvening 64 = .ok (.iaload, 1) := by decide +kernel
theorem dX10_goEvening_65 : decode cX10_goEvening 65 = .ok (.imul, 1) := by decide +kernel
theorem dX10_goEvening_66 : decode cX10_goEvening 66 = .ok (.istore 7, 2) := by decide +kernel
theorem dX10_goEvening_68 : decode cX10_goEvening 68 = .ok (.aload_n 0, 1) := by decide +kernel
theorem dX10_goEvening_69 : decode cX10_goEvening 69 = .ok (.getfield 43, 3) := by decide +kernel
theorem dX10_goEvening_72 : decode cX10_goEvening 72 = .ok (.iload 7, 2) := by decide +kernel
theorem dX10_goEvening_74 : decode cX10_goEvening 74 = .ok (.iaload, 1) := by decide +kernel
theorem dX10_goEvening_75 : decode cX10_goEvening 75 = .ok (.istore 8, 2) := by decide +kernel
theorem dX10_goEvening_77 : decode cX10_goEvening 77 = .ok (.iload 8, 2) := by decide +kernel
theorem dX10_goEvening_79 : decode cX10_goEvening 79 = .ok (.iload 6, 2) := by decide +kernel
theorem dX10_goEvening_81 : decode cX10_goEvening 81 = .ok (.if_icmp .gt 21, 3) := by decide +kernel
theorem dX10_goEvening_84 : decode cX10_goEvening 84 = .ok (.iinc 7 1, 3) := by decide +kernel
theorem dX10_goEvening_87 : decode cX10_goEvening 87 = .ok (.iload 8, 2) := by decide +kernel
theorem dX10_goEvening_89 : decode cX10_goEvening 89 = .ok (.aload_n 0, 1) := by decide +kernel
theorem dX10_goEvening_90 : decode cX10_goEvening 90 = .ok (.getfield 43, 3) := by decide +kernel
theorem dX10_goEvening_93 : decode cX10_goEvening 93 = .ok (.iload 7, 2) := by decide +kernel
theorem dX10_goEvening_95 : decode cX10_goEvening 95 = .ok (.iaload, 1) := by decide +kernel
theorem dX10_goEvening_96 : decode cX10_goEvening 96 = .ok (.iadd, 1) := by decide +kernel
theorem dX10_goEvening_97 : decode cX10_goEvening 97 = .ok (.istore 8, 2) := by decide +kernel
theorem dX10_goEvening_99 : decode cX10_goEvening 99 = .ok (.goto (-22), 3) := by decide +kernel
theorem dX10_goEvening_102 : decode cX10_goEvening 102 = .ok (.aload_n 0, 1) := by decide +kernel
theorem dX10_goEvening_103 : decode cX10_goEvening 103 = .ok (.getfield 64, 3) := by decide +kernel
theorem dX10_goEvening_106 : decode cX10_goEvening 106 = .ok (.iload_n 3, 1) := by decide +kernel
theorem dX10_goEvening_107 : decode cX10_goEvening 107 = .ok (.aload_n 0, 1) := by decide +kernel
theorem dX10_goEvening_108 : decode cX10_goEvening 108 = .ok (.getfield 40, 3) := by decide +kernel
theorem dX10_goEvening_111 : decode cX10_goEvening 111 = .ok (.iload 7, 2) := by decide +kernel
theorem dX10_goEvening_113 : decode cX10_goEvening 113 = .ok (.iaload, 1) := by decide +kernel
theorem dX10_goEvening_114 : decode cX10_goEvening 114 = .ok (.iastore, 1) := by decide +kernel
theorem dX10_goEvening_115 : decode cX10_goEvening 115 = .ok (.iinc 2 1, 3) := by decide +kernel
theorem dX10_goEvening_118 : decode cX10_goEvening 118 = .ok (.goto (-108), 3) := by decide +kernel
theorem dX10_goEvening_121 : decode cX10_goEvening 121 = .ok (.aload_n 0, 1) := by decide +kernel
theorem dX10_goEvening_122 : decode cX10_goEvening 122 = .ok (.invokevirtual 215, 3) := by decide +kernel
theorem dX10_goEvening_125 : decode cX10_goEvening 125 = .ok (.return_, 1) := by decide +kernel
theorem dX10_evening_0 : decode cX10_evening 0 = .ok (.iload_n 1, 1) := by decide +kernel
theorem dX10_evening_1 : decode cX10_evening 1 = .ok (.i2l, 1) := by decide +kernel
theorem dX10_evening_2 : decode cX10_evening 2 = .ok (.lconst 0, 1) := by decide +kernel
theorem dX10_evening_3 : decode cX10_evening 3 = .ok (.ldc2_w 294, 3) := by decide +kernel
theorem dX10_evening_6 : decode cX10_evening 6 = .ok (.invokestatic 95, 3) := by decide +kernel
theorem dX10_evening_9 : decode cX10_evening 9 = .ok (.ifCond .eq 21, 3) := by decide +kernel
theorem dX10_evening_12 : decode cX10_evening 12 = .ok (.aload_n 0, 1) := by decide +kernel
theorem dX10_evening_13 : decode cX10_evening 13 = .ok (.iload_n 2, 1) := by decide +kernel
theorem dX10_evening_14 : decode cX10_evening 14 = .ok (.invokevirtual 181, 3) := by decide +kernel
theorem dX10_evening_17 : decode cX10_evening 17 = .ok (.ifCond .eq 13, 3) := by decide +kernel
theorem dX10_evening_20 : decode cX10_evening 20 = .ok (.iload_n 3, 1) := by decide +kernel
theorem dX10_evening_21 : decode cX10_evening 21 = .ok (.i2l, 1) := by decide +kernel
theorem dX10_evening_22 : decode cX10_evening 22 = .ok (.lconst 0, 1) := by decide +kernel
theorem dX10_evening_23 : decode cX10_evening 23 = .ok (.lconst 1, 1) := by decide +kernel
theorem dX10_evening_24 : decode cX10_evening 24 = .ok (.invokestatic 95, 3) := by decide +kernel
theorem dX10_evening_27 : decode cX10_evening 27 = .ok (.ifCond .ne 7, 3) := by decide +kernel
theorem dX10_evening_30 : decode cX10_evening 30 = .ok (.sipush (-1001), 3) := by decide +kernel
theorem dX10_evening_33 : decode cX10_evening 33 = .ok (.ireturn, 1) := by decide +kernel
theorem dX10_evening_34 : decode cX10_evening 34 = .ok (.aload_n 0, 1) := by decide +kernel
theorem dX10_evening_35 : decode cX10_evening 35 = .ok (.iload_n 1, 1) := by decide +kernel
theorem dX10_evening_36 : decode cX10_evening 36 = .ok (.invokevirtual 296, 3) := by decide +kernel
theorem dX10_evening_39 : decode cX10_evening 39 = .ok (.aload_n 0, 1) := by decide +kernel
theorem dX10_evening_40 : decode cX10_evening 40 = .ok (.iload_n 2, 1) := by decide +kernel
theorem dX10_evening_41 : decode cX10_evening 41 = .ok (.invokevirtual 187, 3) := by decide +kernel
theorem dX10_evening_44 : decode cX10_evening 44 = .ok (.bipush (-4), 2) := by decide +kernel
theorem dX10_evening_46 : decode cX10_evening 46 = .ok (.if_icmp .ne 7, 3) := by decide +kernel
theorem dX10_evening_49 : decode cX10_evening 49 = .ok (.sipush (-1004), 3) := by decide +kernel
theorem dX10_evening_52 : decode cX10_evening 52 = .ok (.ireturn, 1) := by decide +kernel
theorem dX10_evening_53 : decode cX10_evening 53 = .ok (.iload_n 3, 1) := by decide +kernel
theorem dX10_evening_54 : decode cX10_evening 54 = .ok (.ifCond .ne 12, 3) := by decide +kernel
theorem dX10_evening_57 : decode cX10_evening 57 = .ok (.aload_n 0, 1) := by decide +kernel
theorem dX10_evening_58 : decode cX10_evening 58 = .ok (.getfield 67, 3) := by decide +kernel
theorem dX10_evening_61 : decode cX10_evening 61 = .ok (.iload_n 2, 1) := by decide +kernel
theorem dX10_evening_62 : decode cX10_evening 62 = .ok (.iaload, 1) := by decide +kernel
theorem dX10_evening_63 : decode cX10_evening 63 = .ok (.goto 8, 3) := by decide +kernel
theorem dX10_evening_66 : decode cX10_evening 66 = .ok (.aload_n 0, 1) := by decide +kernel
theorem dX10_evening_67 : decode cX10_evening 67 = .ok (.iload_n 2, 1) := by decide +kernel
theorem dX10_evening_68 : decode cX10_evening 68 = .ok (.invokevirtual 248, 3) := by decide +kernel
theorem dX10_evening_71 : decode cX10_evening 71 = .ok (.ireturn, 1) := by decide +kernel
theorem dX10_whole_0 : decode cX10_whole 0 = .ok (.iload_n 1, 1) := by decide +kernel
theorem dX10_whole_1 : decode cX10_whole 1 = .ok (.i2l, 1) := by decide +kernel
theorem dX10_whole_2 : decode cX10_whole 2 = .ok (.lconst 0, 1) := by decide +kernel
theorem dX10_whole_3 : decode cX10_whole 3 = .ok (.ldc2_w 294, 3) := by decide +kernel
theorem dX10_whole_6 : decode cX10_whole 6 = .ok (.invokestatic 95, 3) := by decide +kernel
theorem dX10_whole_9 : decode cX10_whole 9 = .ok (.ifCond .eq 13, 3) := by decide +kernel
theorem dX10_whole_12 : decode cX10_whole 12 = .ok (.iload_n 2, 1) := by decide +kernel
theorem dX10_whole_13 : decode cX10_whole 13 = .ok (.i2l, 1) := by decide +kernel
theorem dX10_whole_14 : decode cX10_whole 14 = .ok (.lconst 0, 1) := by decide +kernel
theorem dX10_whole_15 : decode cX10_whole 15 = .ok (.lconst 1, 1) := by decide +kernel
theorem dX10_whole_16 : decode cX10_whole 16 = .ok (.invokestatic 95, 3) := by decide +kernel
theorem dX10_whole_19 : decode cX10_whole 19 = .ok (.ifCond .ne 5, 3) := by decide +kernel
theorem dX10_whole_22 : decode cX10_whole 22 = .ok (.iconst (-1), 1) := by decide +kernel
theorem dX10_whole_23 : decode cX10_whole 23 = .ok (.ireturn, 1) := by decide +kernel
theorem dX10_whole_24 : decode cX10_whole 24 = .ok (.aload_n 0, 1) := by decide +kernel
theorem dX10_whole_25 : decode cX10_whole 25 = .ok (.iload_n 1, 1) := by decide +kernel
theorem dX10_whole_26 : decode cX10_whole 26 = .ok (.invokevirtual 296, 3) := by decide +kernel
theorem dX10_whole_29 : decode cX10_whole 29 = .ok (.iload_n 2, 1) := by decide +kernel
theorem dX10_whole_30 : decode cX10_whole 30 = .ok (.ifCond .ne 10, 3) := by decide +kernel
theorem dX10_whole_33 : decode cX10_whole 33 = .ok (.aload_n 0, 1) := by decide +kernel
theorem dX10_whole_34 : decode cX10_whole 34 = .ok (.getfield 196, 3) := by decide +kernel
theorem dX10_whole_37 : decode cX10_whole 37 = .ok (.goto 15, 3) := by decide +kernel
theorem dX10_whole_40 : decode cX10_whole 40 = .ok (.aload_n 0, 1) := by decide +kernel
theorem dX10_whole_41 : decode cX10_whole 41 = .ok (.invokevirtual 212, 3) := by decide +kernel
theorem dX10_whole_44 : decode cX10_whole 44 = .ok (.ifCond .eq 7, 3) := by decide +kernel
theorem dX10_whole_47 : decode cX10_whole 47 = .ok (.iconst 1, 1) := by decide +kernel
theorem dX10_whole_48 : decode cX10_whole 48 = .ok (.goto 4, 3) := by decide +kernel
theorem dX10_whole_51 : decode cX10_whole 51 = .ok (.iconst 0, 1) := by decide +kernel
theorem dX10_whole_52 : decode cX10_whole 52 = .ok (.ireturn, 1) := by decide +kernel
theorem dX10_keep_0 : decode cX10_keep 0 = .ok (.aload_n 0, 1) := by decide +kernel
theorem dX10_keep_1 : decode cX10_keep 1 = .ok (.getfield 172, 3) := by decide +kernel
theorem dX10_keep_4 : decode cX10_keep 4 = .ok (.iconst 2, 1) := by decide +kernel
theorem dX10_keep_5 : decode cX10_keep 5 = .ok (.if_icmp .ne 6, 3) := by decide +kernel
theorem dX10_keep_8 : decode cX10_keep 8 = .ok (.bipush (-3), 2) := by decide +kernel
theorem dX10_keep_10 : decode cX10_keep 10 = .ok (.ireturn, 1) := by decide +kernel
theorem dX10_keep_11 : decode cX10_keep 11 = .ok (.aload_n 0, 1) := by decide +kernel
theorem dX10_keep_12 : decode cX10_keep 12 = .ok (.dup, 1) := by decide +kernel
theorem dX10_keep_13 : decode cX10_keep 13 = .ok (.getfield 172, 3) := by decide +kernel
theorem dX10_keep_16 : decode cX10_keep 16 = .ok (.iconst 1, 1) := by decide +kernel
theorem dX10_keep_17 : decode cX10_keep 17 = .ok (.iadd, 1) := by decide +kernel
theorem dX10_keep_18 : decode cX10_keep 18 = .ok (.putfield 172, 3) := by decide +kernel
theorem dX10_keep_21 : decode cX10_keep 21 = .ok (.aload_n 0, 1) := by decide +kernel
theorem dX10_keep_22 : decode cX10_keep 22 = .ok (.getfield 52, 3) := by decide +kernel
theorem dX10_keep_25 : decode cX10_keep 25 = .ok (.aload_n 0, 1) := by decide +kernel
theorem dX10_keep_26 : decode cX10_keep 26 = .ok (.getfield 172, 3) := by decide +kernel
theorem dX10_keep_29 : decode cX10_keep 29 = .ok (.aload_n 0, 1) := by decide +kernel
theorem dX10_keep_30 : decode cX10_keep 30 = .ok (.getfield 52, 3) := by decide +kernel
theorem dX10_keep_33 : decode cX10_keep 33 = .ok (.iconst 0, 1) := by decide +kernel
theorem dX10_keep_34 : decode cX10_keep 34 = .ok (.iaload, 1) := by decide +kernel
theorem dX10_keep_35 : decode cX10_keep 35 = .ok (.iastore, 1) := by decide +kernel
theorem dX10_keep_36 : decode cX10_keep 36 = .ok (.iconst 0, 1) := by decide +kernel
theorem dX10_keep_37 : decode cX10_keep 37 = .ok (.istore_n 1, 1) := by decide +kernel
theorem dX10_keep_38 : decode cX10_keep 38 = .ok (.iload_n 1, 1) := by decide +kernel
theorem dX10_keep_39 : decode cX10_keep 39 = .ok (.bipush 8, 2) := by decide +kernel
theorem dX10_keep_41 : decode cX10_keep 41 = .ok (.if_icmp .ge 29, 3) := by decide +kernel
theorem dX10_keep_44 : decode cX10_keep 44 = .ok (.aload_n 0, 1) := by decide +kernel
theorem dX10_keep_45 : decode cX10_keep 45 = .ok (.getfield 55, 3) := by decide +kernel
theorem dX10_keep_48 : decode cX10_keep 48 = .ok (.bipush 8, 2) := by decide +kernel
theorem dX10_keep_50 : decode cX10_keep 50 = .ok (.aload_n 0, 1) := by decide +kernel
theorem dX10_keep_51 : decode cX10_keep 51 = .ok (.getfield 172, 3) := by decide +kernel
theorem dX10_keep_54 : decode cX10_keep 54 = .ok (.imul, 1) := by decide +kernel
theorem dX10_keep_55 : decode cX10_keep 55 = .ok (.iload_n 1, 1) := by decide +kernel
theorem dX10_keep_56 : decode cX10_keep 56 = .ok (.iadd, 1) := by decide +kernel
theorem dX10_keep_57 : decode cX10_keep 57 = .ok (.aload_n 0, 1) := by decide +kernel
theorem dX10_keep_58 : decode cX10_keep 58 = .ok (.getfield 55, 3) := by decide +kernel
theorem dX10_keep_61 : decode cX10_keep 61 = .ok (.iload_n 1, 1) := by decide +kernel
theorem dX10_keep_62 : decode cX10_keep 62 = .ok (.iaload, 1) := by decide +kernel
theorem dX10_keep_63 : decode cX10_keep 63 = .ok (.iastore, 1) := by decide +kernel
theorem dX10_keep_64 : decode cX10_keep 64 = .ok (.iinc 1 1, 3) := by decide +kernel
theorem dX10_keep_67 : decode cX10_keep 67 = .ok (.goto (-29), 3) := by decide +kernel
theorem dX10_keep_70 : decode cX10_keep 70 = .ok (.aload_n 0, 1) := by decide +kernel
theorem dX10_keep_71 : decode cX10_keep 71 = .ok (.getfield 172, 3) := by decide +kernel
theorem dX10_keep_74 : decode cX10_keep 74 = .ok (.ireturn, 1) := by decide +kernel
theorem dX10_back_0 : decode cX10_back 0 = .ok (.aload_n 0, 1) := by decide +kernel
theorem dX10_back_1 : decode cX10_back 1 = .ok (.getfield 172, 3) := by decide +kernel
theorem dX10_back_4 : decode cX10_back 4 = .ok (.ifCond .ne 6, 3) := by decide +kernel
theorem dX10_back_7 : decode cX10_back 7 = .ok (.bipush (-2), 2) := by decide +kernel
theorem dX10_back_9 : decode cX10_back 9 = .ok (.ireturn, 1) := by decide +kernel
theorem dX10_back_10 : decode cX10_back 10 = .ok (.aload_n 0, 1) := by decide +kernel
theorem dX10_back_11 : decode cX10_back 11 = .ok (.getfield 52, 3) := by decide +kernel
theorem dX10_back_14 : decode cX10_back 14 = .ok (.iconst 0, 1) := by decide +kernel
theorem dX10_back_15 : decode cX10_back 15 = .ok (.aload_n 0, 1) := by decide +kernel
theorem dX10_back_16 : decode cX10_back 16 = .ok (.getfield 52, 3) := by decide +kernel
theorem dX10_back_19 : decode cX10_back 19 = .ok (.aload_n 0, 1) := by decide +kernel
theorem dX10_back_20 : decode cX10_back 20 = .ok (.getfield 172, 3) := by decide +kernel
theorem dX10_back_23 : decode cX10_back 23 = .ok (.iaload, 1) := by decide +kernel
theorem dX10_back_24 : decode cX10_back 24 = .ok (.iastore, 1) := by decide +kernel
theorem dX10_back_25 : decode cX10_back 25 = .ok (.iconst 0, 1) := by decide +kernel
theorem dX10_back_26 : decode cX10_back 26 = .ok (.istore_n 1, 1) := by decide +kernel
theorem dX10_back_27 : decode cX10_back 27 = .ok (.iload_n 1, 1) := by decide +kernel
theorem dX10_back_28 : decode cX10_back 28 = .ok (.bipush 8, 2) := by decide +kernel
theorem dX10_back_30 : decode cX10_back 30 = .ok (.if_icmp .ge 29, 3) := by decide +kernel
theorem dX10_back_33 : decode cX10_back 33 = .ok (.aload_n 0, 1) := by decide +kernel
theorem dX10_back_34 : decode cX10_back 34 = .ok (.getfield 55, 3) := by decide +kernel
theorem dX10_back_37 : decode cX10_back 37 = .ok (.iload_n 1, 1) := by decide +kernel
theorem dX10_back_38 : decode cX10_back 38 = .ok (.aload_n 0, 1) := by decide +kernel
theorem dX10_back_39 : decode cX10_back 39 = .ok (.getfield 55, 3) := by decide +kernel
theorem dX10_back_42 : decode cX10_back 42 = .ok (.bipush 8, 2) := by decide +kernel
theorem dX10_back_44 : decode cX10_back 44 = .ok (.aload_n 0, 1) := by decide +kernel
theorem dX10_back_45 : decode cX10_back 45 = .ok (.getfield 172, 3) := by decide +kernel
theorem dX10_back_48 : decode cX10_back 48 = .ok (.imul, 1) := by decide +kernel
theorem dX10_back_49 : decode cX10_back 49 = .ok (.iload_n 1, 1) := by decide +kernel
theorem dX10_back_50 : decode cX10_back 50 = .ok (.iadd, 1) := by decide +kernel
theorem dX10_back_51 : decode cX10_back 51 = .ok (.iaload, 1) := by decide +kernel
theorem dX10_back_52 : decode cX10_back 52 = .ok (.iastore, 1) := by decide +kernel
theorem dX10_back_53 : decode cX10_back 53 = .ok (.iinc 1 1, 3) := by decide +kernel
theorem dX10_back_56 : decode cX10_back 56 = .ok (.goto (-29), 3) := by decide +kernel
theorem dX10_back_59 : decode cX10_back 59 = .ok (.aload_n 0, 1) := by decide +kernel
theorem dX10_back_60 : decode cX10_back 60 = .ok (.dup, 1) := by decide +kernel
theorem dX10_back_61 : decode cX10_back 61 = .ok (.getfield 172, 3) := by decide +kernel
theorem dX10_back_64 : decode cX10_back 64 = .ok (.iconst 1, 1) := by decide +kernel
theorem dX10_back_65 : decode cX10_back 65 = .ok (.isub, 1) := by decide +kernel
theorem dX10_back_66 : decode cX10_back 66 = .ok (.putfield 172, 3) := by decide +kernel
theorem dX10_back_69 : decode cX10_back 69 = .ok (.aload_n 0, 1) := by decide +kernel
theorem dX10_back_70 : decode cX10_back 70 = .ok (.getfield 172, 3) := by decide +kernel
theorem dX10_back_73 : decode cX10_back 73 = .ok (.ireturn, 1) := by decide +kernel
theorem dX10_count_0 : decode cX10_count 0 = .ok (.iload_n 1, 1) := by decide +kernel
theorem dX10_count_1 : decode cX10_count 1 = .ok (.tableswitch 92 0 6 #[43, 48, 61, 68, 73, 78, 85], 43) := by decide +kernel
theorem dX10_count_44 : decode cX10_count 44 = .ok (.aload_n 0, 1) := by decide +kernel
theorem dX10_count_45 : decode cX10_count 45 = .ok (.getfield 148, 3) := by decide +kernel
theorem dX10_count_48 : decode cX10_count 48 = .ok (.ireturn, 1) := by decide +kernel
theorem dX10_count_49 : decode cX10_count 49 = .ok (.aload_n 0, 1) := by decide +kernel
theorem dX10_count_50 : decode cX10_count 50 = .ok (.invokevirtual 151, 3) := by decide +kernel
theorem dX10_count_53 : decode cX10_count 53 = .ok (.aload_n 0, 1) := by decide +kernel
theorem dX10_count_54 : decode cX10_count 54 = .ok (.invokevirtual 184, 3) := by decide +kernel
theorem dX10_count_57 : decode cX10_count 57 = .ok (.aload_n 0, 1) := by decide +kernel
theorem dX10_count_58 : decode cX10_count 58 = .ok (.getfield 175, 3) := by decide +kernel
theorem dX10_count_61 : decode cX10_count 61 = .ok (.ireturn, 1) := by decide +kernel
theorem dX10_count_62 : decode cX10_count 62 = .ok (.aload_n 0, 1) := by decide +kernel
theorem dX10_count_63 : decode cX10_count 63 = .ok (.getfield 16, 3) := by decide +kernel
theorem dX10_count_66 : decode cX10_count 66 = .ok (.iconst 0, 1) := by decide +kernel
theorem dX10_count_67 : decode cX10_count 67 = .ok (.iaload, 1) := by decide +kernel
theorem dX10_count_68 : decode cX10_count 68 = .ok (.ireturn, 1) := by decide +kernel
theorem dX10_count_69 : decode cX10_count 69 = .ok (.aload_n 0, 1) := by decide +kernel
theorem dX10_count_70 : decode cX10_count 70 = .ok (.getfield 99, 3) := by decide +kernel
theorem dX10_count_73 : decode cX10_count 73 = .ok (.ireturn, 1) := by decide +kernel
theorem dX10_count_74 : decode cX10_count 74 = .ok (.aload_n 0, 1) := by decide +kernel
theorem dX10_count_75 : decode cX10_count 75 = .ok (.getfield 172, 3) := by decide +kernel
theorem dX10_count_78 : decode cX10_count 78 = .ok (.ireturn, 1) := by decide +kernel
theorem dX10_count_79 : decode cX10_count 79 = .ok (.aload_n 0, 1) := by decide +kernel
theorem dX10_count_80 : decode cX10_count 80 = .ok (.getfield 13, 3) := by decide +kernel
theorem dX10_count_83 : decode cX10_count 83 = .ok (.iconst 0, 1) := by decide +kernel
theorem dX10_count_84 : decode cX10_count 84 = .ok (.iaload, 1) := by decide +kernel
theorem dX10_count_85 : decode cX10_count 85 = .ok (.ireturn, 1) := by decide +kernel
theorem dX10_count_86 : decode cX10_count 86 = .ok (.aload_n 0, 1) := by decide +kernel
theorem dX10_count_87 : decode cX10_count 87 = .ok (.getfield 13, 3) := by decide +kernel
theorem dX10_count_90 : decode cX10_count 90 = .ok (.iconst 2, 1) := by decide +kernel
theorem dX10_count_91 : decode cX10_count 91 = .ok (.iaload, 1) := by decide +kernel
theorem dX10_count_92 : decode cX10_count 92 = .ok (.ireturn, 1) := by decide +kernel
theorem dX10_count_93 : decode cX10_count 93 = .ok (.iconst (-1), 1) := by decide +kernel
theorem dX10_count_94 : decode cX10_count 94 = .ok (.ireturn, 1) := by decide +kernel
