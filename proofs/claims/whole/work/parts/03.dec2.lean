theorem dX8_init_0 : decode cX8_init 0 = .ok (.aload_n 0, 1) := by decide +kernel
theorem dX8_init_1 : decode cX8_init 1 = .ok (.invokespecial 1, 3) := by decide +kernel
theorem dX8_init_4 : decode cX8_init 4 = .ok (.aload_n 0, 1) := by decide +kernel
theorem dX8_init_5 : decode cX8_init 5 = .ok (.new 7, 3) := by decide +kernel
theorem dX8_init_8 : decode cX8_init 8 = .ok (.dup, 1) := by decide +kernel
theorem dX8_init_9 : decode cX8_init 9 = .ok (.invokespecial 9, 3) := by decide +kernel
theorem dX8_init_12 : decode cX8_init 12 = .ok (.putfield 10, 3) := by decide +kernel
theorem dX8_init_15 : decode cX8_init 15 = .ok (.aload_n 0, 1) := by decide +kernel
theorem dX8_init_16 : decode cX8_init 16 = .ok (.new 16, 3) := by decide +kernel
theorem dX8_init_19 : decode cX8_init 19 = .ok (.dup, 1) := by decide +kernel
theorem dX8_init_20 : decode cX8_init 20 = .ok (.invokespecial 18, 3) := by decide +kernel
theorem dX8_init_23 : decode cX8_init 23 = .ok (.putfield 19, 3) := by decide +kernel
theorem dX8_init_26 : decode cX8_init 26 = .ok (.aload_n 0, 1) := by decide +kernel
theorem dX8_init_27 : decode cX8_init 27 = .ok (.new 23, 3) := by decide +kernel
theorem dX8_init_30 : decode cX8_init 30 = .ok (.dup, 1) := by decide +kernel
theorem dX8_init_31 : decode cX8_init 31 = .ok (.invokespecial 25, 3) := by decide +kernel
theorem dX8_init_34 : decode cX8_init 34 = .ok (.putfield 26, 3) := by decide +kernel
theorem dX8_init_37 : decode cX8_init 37 = .ok (.aload_n 0, 1) := by decide +kernel
theorem dX8_init_38 : decode cX8_init 38 = .ok (.new 23, 3) := by decide +kernel
theorem dX8_init_41 : decode cX8_init 41 = .ok (.dup, 1) := by decide +kernel
theorem dX8_init_42 : decode cX8_init 42 = .ok (.invokespecial 25, 3) := by decide +kernel
theorem dX8_init_45 : decode cX8_init 45 = .ok (.putfield 30, 3) := by decide +kernel
theorem dX8_init_48 : decode cX8_init 48 = .ok (.aload_n 0, 1) := by decide +kernel
theorem dX8_init_49 : decode cX8_init 49 = .ok (.new 33, 3) := by decide +kernel
theorem dX8_init_52 : decode cX8_init 52 = .ok (.dup, 1) := by decide +kernel
theorem dX8_init_53 : decode cX8_init 53 = .ok (.invokespecial 35, 3) := by decide +kernel
theorem dX8_init_56 : decode cX8_init 56 = .ok (.putfield 36, 3) := by decide +kernel
theorem dX8_init_59 : decode cX8_init 59 = .ok (.aload_n 0, 1) := by decide +kernel
theorem dX8_init_60 : decode cX8_init 60 = .ok (.new 33, 3) := by decide +kernel
theorem dX8_init_63 : decode cX8_init 63 = .ok (.dup, 1) := by decide +kernel
theorem dX8_init_64 : decode cX8_init 64 = .ok (.invokespecial 35, 3) := by decide +kernel
theorem dX8_init_67 : decode cX8_init 67 = .ok (.putfield 40, 3) := by decide +kernel
theorem dX8_init_70 : decode cX8_init 70 = .ok (.aload_n 0, 1) := by decide +kernel
theorem dX8_init_71 : decode cX8_init 71 = .ok (.new 43, 3) := by decide +kernel
theorem dX8_init_74 : decode cX8_init 74 = .ok (.dup, 1) := by decide +kernel
theorem dX8_init_75 : decode cX8_init 75 = .ok (.invokespecial 45, 3) := by decide +kernel
theorem dX8_init_78 : decode cX8_init 78 = .ok (.putfield 46, 3) := by decide +kernel
theorem dX8_init_81 : decode cX8_init 81 = .ok (.aload_n 0, 1) := by decide +kernel
theorem dX8_init_82 : decode cX8_init 82 = .ok (.new 50, 3) := by decide +kernel
theorem dX8_init_85 : decode cX8_init 85 = .ok (.dup, 1) := by decide +kernel
theorem dX8_init_86 : decode cX8_init 86 = .ok (.invokespecial 52, 3) := by decide +kernel
theorem dX8_init_89 : decode cX8_init 89 = .ok (.putfield 53, 3) := by decide +kernel
theorem dX8_init_92 : decode cX8_init 92 = .ok (.aload_n 0, 1) := by decide +kernel
theorem dX8_init_93 : decode cX8_init 93 = .ok (.new 50, 3) := by decide +kernel
theorem dX8_init_96 : decode cX8_init 96 = .ok (.dup, 1) := by decide +kernel
theorem dX8_init_97 : decode cX8_init 97 = .ok (.invokespecial 52, 3) := by decide +kernel
theorem dX8_init_100 : decode cX8_init 100 = .ok (.putfield 57, 3) := by decide +kernel
theorem dX8_init_103 : decode cX8_init 103 = .ok (.aload_n 0, 1) := by decide +kernel
theorem dX8_init_104 : decode cX8_init 104 = .ok (.new 60, 3) := by decide +kernel
theorem dX8_init_107 : decode cX8_init 107 = .ok (.dup, 1) := by decide +kernel
theorem dX8_init_108 : decode cX8_init 108 = .ok (.invokespecial 62, 3) := by decide +kernel
theorem dX8_init_111 : decode cX8_init 111 = .ok (.putfield 63, 3) := by decide +kernel
theorem dX8_init_114 : decode cX8_init 114 = .ok (.aload_n 0, 1) := by decide +kernel
theorem dX8_init_115 : decode cX8_init 115 = .ok (.bipush 8, 2) := by decide +kernel
theorem dX8_init_117 : decode cX8_init 117 = .ok (.newarray .int, 2) := by decide +kernel
theorem dX8_init_119 : decode cX8_init 119 = .ok (.putfield 69, 3) := by decide +kernel
theorem dX8_init_122 : decode cX8_init 122 = .ok (.aload_n 0, 1) := by decide +kernel
theorem dX8_init_123 : decode cX8_init 123 = .ok (.bipush 16, 2) := by decide +kernel
theorem dX8_init_125 : decode cX8_init 125 = .ok (.newarray .int, 2) := by decide +kernel
theorem dX8_init_127 : decode cX8_init 127 = .ok (.putfield 73, 3) := by decide +kernel
theorem dX8_init_130 : decode cX8_init 130 = .ok (.aload_n 0, 1) := by decide +kernel
theorem dX8_init_131 : decode cX8_init 131 = .ok (.iconst 2, 1) := by decide +kernel
theorem dX8_init_132 : decode cX8_init 132 = .ok (.newarray .int, 2) := by decide +kernel
theorem dX8_init_134 : decode cX8_init 134 = .ok (.putfield 76, 3) := by decide +kernel
theorem dX8_init_137 : decode cX8_init 137 = .ok (.aload_n 0, 1) := by decide +kernel
theorem dX8_init_138 : decode cX8_init 138 = .ok (.getfield 26, 3) := by decide +kernel
theorem dX8_init_141 : decode cX8_init 141 = .ok (.invokevirtual 79, 3) := by decide +kernel
theorem dX8_init_144 : decode cX8_init 144 = .ok (.aload_n 0, 1) := by decide +kernel
theorem dX8_init_145 : decode cX8_init 145 = .ok (.getfield 26, 3) := by decide +kernel
theorem dX8_init_148 : decode cX8_init 148 = .ok (.getfield 82, 3) := by decide +kernel
theorem dX8_init_151 : decode cX8_init 151 = .ok (.iconst 1, 1) := by decide +kernel
theorem dX8_init_152 : decode cX8_init 152 = .ok (.iconst 1, 1) := by decide +kernel
theorem dX8_init_153 : decode cX8_init 153 = .ok (.bipush 20, 2) := by decide +kernel
theorem dX8_init_155 : decode cX8_init 155 = .ok (.iconst 0, 1) := by decide +kernel
theorem dX8_init_156 : decode cX8_init 156 = .ok (.iconst 0, 1) := by decide +kernel
theorem dX8_init_157 : decode cX8_init 157 = .ok (.invokevirtual 86, 3) := by decide +kernel
theorem dX8_init_160 : decode cX8_init 160 = .ok (.pop, 1) := by decide +kernel
theorem dX8_init_161 : decode cX8_init 161 = .ok (.aload_n 0, 1) := by decide +kernel
theorem dX8_init_162 : decode cX8_init 162 = .ok (.getfield 26, 3) := by decide +kernel
theorem dX8_init_165 : decode cX8_init 165 = .ok (.getfield 82, 3) := by decide +kernel
theorem dX8_init_168 : decode cX8_init 168 = .ok (.iconst 0, 1) := by decide +kernel
theorem dX8_init_169 : decode cX8_init 169 = .ok (.bipush 20, 2) := by decide +kernel
theorem dX8_init_171 : decode cX8_init 171 = .ok (.bipush 10, 2) := by decide +kernel
theorem dX8_init_173 : decode cX8_init 173 = .ok (.invokevirtual 90, 3) := by decide +kernel
theorem dX8_init_176 : decode cX8_init 176 = .ok (.pop, 1) := by decide +kernel
theorem dX8_init_177 : decode cX8_init 177 = .ok (.aload_n 0, 1) := by decide +kernel
theorem dX8_init_178 : decode cX8_init 178 = .ok (.getfield 36, 3) := by decide +kernel
theorem dX8_init_181 : decode cX8_init 181 = .ok (.aload_n 0, 1) := by decide +kernel
theorem dX8_init_182 : decode cX8_init 182 = .ok (.getfield 26, 3) := by decide +kernel
theorem dX8_init_185 : decode cX8_init 185 = .ok (.aload_n 0, 1) := by decide +kernel
theorem dX8_init_186 : decode cX8_init 186 = .ok (.getfield 26, 3) := by decide +kernel
theorem dX8_init_189 : decode cX8_init 189 = .ok (.getfield 94, 3) := by decide +kernel
theorem dX8_init_192 : decode cX8_init 192 = .ok (.invokevirtual 98, 3) := by decide +kernel
theorem dX8_init_195 : decode cX8_init 195 = .ok (.pop, 1) := by decide +kernel
theorem dX8_init_196 : decode cX8_init 196 = .ok (.return_, 1) := by decide +kernel
theorem dX8_write_0 : decode cX8_write 0 = .ok (.iload_n 1, 1) := by decide +kernel
theorem dX8_write_1 : decode cX8_write 1 = .ok (.iconst 1, 1) := by decide +kernel
theorem dX8_write_2 : decode cX8_write 2 = .ok (.bipush 8, 2) := by decide +kernel
theorem dX8_write_4 : decode cX8_write 4 = .ok (.invokestatic 102, 3) := by decide +kernel
theorem dX8_write_7 : decode cX8_write 7 = .ok (.ifCond .ne 5, 3) := by decide +kernel
theorem dX8_write_10 : decode cX8_write 10 = .ok (.iconst (-1), 1) := by decide +kernel
theorem dX8_write_11 : decode cX8_write 11 = .ok (.ireturn, 1) := by decide +kernel
theorem dX8_write_12 : decode cX8_write 12 = .ok (.aload_n 0, 1) := by decide +kernel
theorem dX8_write_13 : decode cX8_write 13 = .ok (.getfield 10, 3) := by decide +kernel
theorem dX8_write_16 : decode cX8_write 16 = .ok (.iload_n 1, 1) := by decide +kernel
theorem dX8_write_17 : decode cX8_write 17 = .ok (.lload_n 2, 1) := by decide +kernel
theorem dX8_write_18 : decode cX8_write 18 = .ok (.invokevirtual 105, 3) := by decide +kernel
theorem dX8_write_21 : decode cX8_write 21 = .ok (.ifCond .eq 13, 3) := by decide +kernel
theorem dX8_write_24 : decode cX8_write 24 = .ok (.aload_n 0, 1) := by decide +kernel
theorem dX8_write_25 : decode cX8_write 25 = .ok (.getfield 10, 3) := by decide +kernel
theorem dX8_write_28 : decode cX8_write 28 = .ok (.getfield 109, 3) := by decide +kernel
theorem dX8_write_31 : decode cX8_write 31 = .ok (.goto 5, 3) := by decide +kernel
theorem dX8_write_34 : decode cX8_write 34 = .ok (.bipush (-3), 2) := by decide +kernel
theorem dX8_write_36 : decode cX8_write 36 = .ok (.ireturn, 1) := by decide +kernel
theorem dX8_wipe_0 : decode cX8_wipe 0 = .ok (.aload_n 0, 1) := by decide +kernel
theorem dX8_wipe_1 : decode cX8_wipe 1 = .ok (.getfield 10, 3) := by decide +kernel
theorem dX8_wipe_4 : decode cX8_wipe 4 = .ok (.getfield 109, 3) := by decide +kernel
theorem dX8_wipe_7 : decode cX8_wipe 7 = .ok (.istore_n 1, 1) := by decide +kernel
theorem dX8_wipe_8 : decode cX8_wipe 8 = .ok (.aload_n 0, 1) := by decide +kernel
theorem dX8_wipe_9 : decode cX8_wipe 9 = .ok (.getfield 10, 3) := by decide +kernel
theorem dX8_wipe_12 : decode cX8_wipe 12 = .ok (.iconst 0, 1) := by decide +kernel
theorem dX8_wipe_13 : decode cX8_wipe 13 = .ok (.putfield 109, 3) := by decide +kernel
theorem dX8_wipe_16 : decode cX8_wipe 16 = .ok (.iload_n 1, 1) := by decide +kernel
theorem dX8_wipe_17 : decode cX8_wipe 17 = .ok (.ireturn, 1) := by decide +kernel
theorem dX8_fault_0 : decode cX8_fault 0 = .ok (.aload_n 0, 1) := by decide +kernel
theorem dX8_fault_1 : decode cX8_fault 1 = .ok (.getfield 19, 3) := by decide +kernel
theorem dX8_fault_4 : decode cX8_fault 4 = .ok (.aload_n 0, 1) := by decide +kernel
theorem dX8_fault_5 : decode cX8_fault 5 = .ok (.getfield 10, 3) := by decide +kernel
theorem dX8_fault_8 : decode cX8_fault 8 = .ok (.aload_n 0, 1) := by decide +kernel
theorem dX8_fault_9 : decode cX8_fault 9 = .ok (.getfield 30, 3) := by decide +kernel
theorem dX8_fault_12 : decode cX8_fault 12 = .ok (.invokevirtual 112, 3) := by decide +kernel
theorem dX8_fault_15 : decode cX8_fault 15 = .ok (.ireturn, 1) := by decide +kernel
theorem dX8_lay_0 : decode cX8_lay 0 = .ok (.aload_n 0, 1) := by decide +kernel
theorem dX8_lay_1 : decode cX8_lay 1 = .ok (.getfield 19, 3) := by decide +kernel
theorem dX8_lay_4 : decode cX8_lay 4 = .ok (.aload_n 0, 1) := by decide +kernel
theorem dX8_lay_5 : decode cX8_lay 5 = .ok (.getfield 10, 3) := by decide +kernel
theorem dX8_lay_8 : decode cX8_lay 8 = .ok (.aload_n 0, 1) := by decide +kernel
theorem dX8_lay_9 : decode cX8_lay 9 = .ok (.getfield 30, 3) := by decide +kernel
theorem dX8_lay_12 : decode cX8_lay 12 = .ok (.invokevirtual 112, 3) := by decide +kernel
theorem dX8_lay_15 : decode cX8_lay 15 = .ok (.bipush (-4), 2) := by decide +kernel
theorem dX8_lay_17 : decode cX8_lay 17 = .ok (.if_icmp .ne 16, 3) := by decide +kernel
theorem dX8_lay_20 : decode cX8_lay 20 = .ok (.aload_n 0, 1) := by decide +kernel
theorem dX8_lay_21 : decode cX8_lay 21 = .ok (.getfield 30, 3) := by decide +kernel
theorem dX8_lay_24 : decode cX8_lay 24 = .ok (.getfield 82, 3) := by decide +kernel
theorem dX8_lay_27 : decode cX8_lay 27 = .ok (.getfield 116, 3) := by decide +kernel
theorem dX8_lay_30 : decode cX8_lay 30 = .ok (.ifCond .ne 6, 3) := by decide +kernel
theorem dX8_lay_33 : decode cX8_lay 33 = .ok (.bipush (-2), 2) := by decide +kernel
theorem dX8_lay_35 : decode cX8_lay 35 = .ok (.ireturn, 1) := by decide +kernel
theorem dX8_lay_36 : decode cX8_lay 36 = .ok (.aload_n 0, 1) := by decide +kernel
theorem dX8_lay_37 : decode cX8_lay 37 = .ok (.getfield 26, 3) := by decide +kernel
theorem dX8_lay_40 : decode cX8_lay 40 = .ok (.astore_n 1, 1) := by decide +kernel
theorem dX8_lay_41 : decode cX8_lay 41 = .ok (.aload_n 0, 1) := by decide +kernel
theorem dX8_lay_42 : decode cX8_lay 42 = .ok (.aload_n 0, 1) := by decide +kernel
theorem dX8_lay_43 : decode cX8_lay 43 = .ok (.getfield 30, 3) := by decide +kernel
theorem dX8_lay_46 : decode cX8_lay 46 = .ok (.putfield 26, 3) := by decide +kernel
theorem dX8_lay_49 : decode cX8_lay 49 = .ok (.aload_n 0, 1) := by decide +kernel
theorem dX8_lay_50 : decode cX8_lay 50 = .ok (.aload_n 1, 1) := by decide +kernel
theorem dX8_lay_51 : decode cX8_lay 51 = .ok (.putfield 30, 3) := by decide +kernel
theorem dX8_lay_54 : decode cX8_lay 54 = .ok (.aload_n 0, 1) := by decide +kernel
theorem dX8_lay_55 : decode cX8_lay 55 = .ok (.getfield 36, 3) := by decide +kernel
theorem dX8_lay_58 : decode cX8_lay 58 = .ok (.aload_n 0, 1) := by decide +kernel
theorem dX8_lay_59 : decode cX8_lay 59 = .ok (.getfield 26, 3) := by decide +kernel
theorem dX8_lay_62 : decode cX8_lay 62 = .ok (.aload_n 0, 1) := by decide +kernel
theorem dX8_lay_63 : decode cX8_lay 63 = .ok (.getfield 26, 3) := by decide +kernel
theorem dX8_lay_66 : decode cX8_lay 66 = .ok (.getfield 94, 3) := by decide +kernel
theorem dX8_lay_69 : decode cX8_lay 69 = .ok (.invokevirtual 98, 3) := by decide +kernel
theorem dX8_lay_72 : decode cX8_lay 72 = .ok (.pop, 1) := by decide +kernel
theorem dX8_lay_73 : decode cX8_lay 73 = .ok (.aload_n 0, 1) := by decide +kernel
theorem dX8_lay_74 : decode cX8_lay 74 = .ok (.getfield 69, 3) := by decide +kernel
theorem dX8_lay_77 : decode cX8_lay 77 = .ok (.iconst 0, 1) := by decide +kernel
theorem dX8_lay_78 : decode cX8_lay 78 = .ok (.invokestatic 118, 3) := by decide +kernel
theorem dX8_lay_81 : decode cX8_lay 81 = .ok (.aload_n 0, 1) := by decide +kernel
theorem dX8_lay_82 : decode cX8_lay 82 = .ok (.iconst 0, 1) := by decide +kernel
theorem dX8_lay_83 : decode cX8_lay 83 = .ok (.putfield 124, 3) := by decide +kernel
theorem dX8_lay_86 : decode cX8_lay 86 = .ok (.aload_n 0, 1) := by decide +kernel
theorem dX8_lay_87 : decode cX8_lay 87 = .ok (.iconst 0, 1) := by decide +kernel
theorem dX8_lay_88 : decode cX8_lay 88 = .ok (.putfield 127, 3) := by decide +kernel
theorem dX8_lay_91 : decode cX8_lay 91 = .ok (.aload_n 0, 1) := by decide +kernel
theorem dX8_lay_92 : decode cX8_lay 92 = .ok (.iconst 0, 1) := by decide +kernel
theorem dX8_lay_93 : decode cX8_lay 93 = .ok (.putfield 130, 3) := by decide +kernel
theorem dX8_lay_96 : decode cX8_lay 96 = .ok (.aload_n 0, 1) := by decide +kernel
theorem dX8_lay_97 : decode cX8_lay 97 = .ok (.invokevirtual 134, 3) := by decide +kernel
theorem dX8_lay_100 : decode cX8_lay 100 = .ok (.aload_n 0, 1) := by decide +kernel
theorem dX8_lay_101 : decode cX8_lay 101 = .ok (.getfield 26, 3) := by decide +kernel
theorem dX8_lay_104 : decode cX8_lay 104 = .ok (.getfield 82, 3) := by decide +kernel
theorem dX8_lay_107 : decode cX8_lay 107 = .ok (.getfield 137, 3) := by decide +kernel
theorem dX8_lay_110 : decode cX8_lay 110 = .ok (.ireturn, 1) := by decide +kernel
theorem dX8_giver_0 : decode cX8_giver 0 = .ok (.aload_n 0, 1) := by decide +kernel
theorem dX8_giver_1 : decode cX8_giver 1 = .ok (.iload_n 1, 1) := by decide +kernel
theorem dX8_giver_2 : decode cX8_giver 2 = .ok (.invokevirtual 140, 3) := by decide +kernel
theorem dX8_giver_5 : decode cX8_giver 5 = .ok (.ifCond .eq 12, 3) := by decide +kernel
theorem dX8_giver_8 : decode cX8_giver 8 = .ok (.iload_n 2, 1) := by decide +kernel
theorem dX8_giver_9 : decode cX8_giver 9 = .ok (.iconst 0, 1) := by decide +kernel
theorem dX8_giver_10 : decode cX8_giver 10 = .ok (.iconst 3, 1) := by decide +kernel
theorem dX8_giver_11 : decode cX8_giver 11 = .ok (.invokestatic 102, 3) := by decide +kernel
theorem dX8_giver_14 : decode cX8_giver 14 = .ok (.ifCond .ne 5, 3) := by decide +kernel
theorem dX8_giver_17 : decode cX8_giver 17 = .ok (.iconst (-1), 1) := by decide +kernel
theorem dX8_giver_18 : decode cX8_giver 18 = .ok (.ireturn, 1) := by decide +kernel
theorem dX8_giver_19 : decode cX8_giver 19 = .ok (.aload_n 0, 1) := by decide +kernel
theorem dX8_giver_20 : decode cX8_giver 20 = .ok (.getfield 36, 3) := by decide +kernel
theorem dX8_giver_23 : decode cX8_giver 23 = .ok (.iload_n 1, 1) := by decide +kernel
theorem dX8_giver_24 : decode cX8_giver 24 = .ok (.invokevirtual 144, 3) := by decide +kernel
theorem dX8_giver_27 : decode cX8_giver 27 = .ok (.istore_n 3, 1) := by decide +kernel
theorem dX8_giver_28 : decode cX8_giver 28 = .ok (.iload_n 2, 1) := by decide +kernel
theorem dX8_giver_29 : decode cX8_giver 29 = .ok (.tableswitch 83 0 2 #[27, 39, 62], 27) := by decide +kernel
theorem dX8_giver_56 : decode cX8_giver 56 = .ok (.aload_n 0, 1) := by decide +kernel
theorem dX8_giver_57 : decode cX8_giver 57 = .ok (.getfield 26, 3) := by decide +kernel
theorem dX8_giver_60 : decode cX8_giver 60 = .ok (.getfield 82, 3) := by decide +kernel
theorem dX8_giver_63 : decode cX8_giver 63 = .ok (.iload_n 1, 1) := by decide +kernel
theorem dX8_giver_64 : decode cX8_giver 64 = .ok (.invokevirtual 148, 3) := by decide +kernel
theorem dX8_giver_67 : decode cX8_giver 67 = .ok (.ireturn, 1) := by decide +kernel
theorem dX8_giver_68 : decode cX8_giver 68 = .ok (.aload_n 0, 1) := by decide +kernel
theorem dX8_giver_69 : decode cX8_giver 69 = .ok (.getfield 26, 3) := by decide +kernel
theorem dX8_giver_72 : decode cX8_giver 72 = .ok (.getfield 82, 3) := by decide +kernel
theorem dX8_giver_75 : decode cX8_giver 75 = .ok (.getfield 151, 3) := by decide +kernel
theorem dX8_giver_78 : decode cX8_giver 78 = .ok (.aload_n 0, 1) := by decide +kernel
theorem dX8_giver_79 : decode cX8_giver 79 = .ok (.getfield 26, 3) := by decide +kernel
theorem dX8_giver_82 : decode cX8_giver 82 = .ok (.getfield 82, 3) := by decide +kernel
theorem dX8_giver_85 : decode cX8_giver 85 = .ok (.iload_n 1, 1) := by decide +kernel
theorem dX8_giver_86 : decode cX8_giver 86 = .ok (.invokevirtual 148, 3) := by decide +kernel
theorem dX8_giver_89 : decode cX8_giver 89 = .ok (.iaload, 1) := by decide +kernel
theorem dX8_giver_90 : decode cX8_giver 90 = .ok (.ireturn, 1) := by decide +kernel
theorem dX8_giver_91 : decode cX8_giver 91 = .ok (.iload_n 3, 1) := by decide +kernel
theorem dX8_giver_92 : decode cX8_giver 92 = .ok (.bipush (-4), 2) := by decide +kernel
theorem dX8_giver_94 : decode cX8_giver 94 = .ok (.if_icmp .ne 8, 3) := by decide +kernel
theorem dX8_giver_97 : decode cX8_giver 97 = .ok (.bipush (-4), 2) := by decide +kernel
theorem dX8_giver_99 : decode cX8_giver 99 = .ok (.goto 12, 3) := by decide +kernel
theorem dX8_giver_102 : decode cX8_giver 102 = .ok (.aload_n 0, 1) := by decide +kernel
theorem dX8_giver_103 : decode cX8_giver 103 = .ok (.getfield 36, 3) := by decide +kernel
theorem dX8_giver_106 : decode cX8_giver 106 = .ok (.getfield 154, 3) := by decide +kernel
theorem dX8_giver_109 : decode cX8_giver 109 = .ok (.iload_n 3, 1) := by decide +kernel
theorem dX8_giver_110 : decode cX8_giver 110 = .ok (.iaload, 1) := by decide +kernel
theorem dX8_giver_111 : decode cX8_giver 111 = .ok (.ireturn, 1) := by decide +kernel
theorem dX8_giver_112 : decode cX8_giver 112 = .ok (.iload_n 3, 1) := by decide +kernel
theorem dX8_giver_113 : decode cX8_giver 113 = .ok (.ireturn, 1) := by decide +kernel
theorem dX8_show_0 : decode cX8_show 0 = .ok (.iload_n 1, 1) := by decide +kernel
theorem dX8_show_1 : decode cX8_show 1 = .ok (.iconst 0, 1) := by decide +kernel
theorem dX8_show_2 : decode cX8_show 2 = .ok (.iconst 2, 1) := by decide +kernel
theorem dX8_show_3 : decode cX8_show 3 = .ok (.invokestatic 102, 3) := by decide +kernel
theorem dX8_show_6 : decode cX8_show 6 = .ok (.ifCond .ne 5, 3) := by decide +kernel
theorem dX8_show_9 : decode cX8_show 9 = .ok (.iconst (-1), 1) := by decide +kernel
theorem dX8_show_10 : decode cX8_show 10 = .ok (.ireturn, 1) := by decide +kernel
theorem dX8_show_11 : decode cX8_show 11 = .ok (.aload_n 0, 1) := by decide +kernel
theorem dX8_show_12 : decode cX8_show 12 = .ok (.getfield 124, 3) := by decide +kernel
theorem dX8_show_15 : decode cX8_show 15 = .ok (.istore_n 2, 1) := by decide +kernel
theorem dX8_show_16 : decode cX8_show 16 = .ok (.aload_n 0, 1) := by decide +kernel
theorem dX8_show_17 : decode cX8_show 17 = .ok (.iload_n 1, 1) := by decide +kernel
theorem dX8_show_18 : decode cX8_show 18 = .ok (.putfield 124, 3) := by decide +kernel
theorem dX8_show_21 : decode cX8_show 21 = .ok (.aload_n 0, 1) := by decide +kernel
theorem dX8_show_22 : decode cX8_show 22 = .ok (.invokevirtual 134, 3) := by decide +kernel
theorem dX8_show_25 : decode cX8_show 25 = .ok (.iload_n 2, 1) := by decide +kernel
theorem dX8_show_26 : decode cX8_show 26 = .ok (.ireturn, 1) := by decide +kernel
theorem dX8_odds_0 : decode cX8_odds 0 = .ok (.iload_n 1, 1) := by decide +kernel
theorem dX8_odds_1 : decode cX8_odds 1 = .ok (.iconst 0, 1) := by decide +kernel
theorem dX8_odds_2 : decode cX8_odds 2 = .ok (.iconst 2, 1) := by decide +kernel
theorem dX8_odds_3 : decode cX8_odds 3 = .ok (.invokestatic 102, 3) := by decide +kernel
theorem dX8_odds_6 : decode cX8_odds 6 = .ok (.ifCond .ne 7, 3) := by decide +kernel
theorem dX8_odds_9 : decode cX8_odds 9 = .ok (.ldc2_w 157, 3) := by decide +kernel
theorem dX8_odds_12 : decode cX8_odds 12 = .ok (.lreturn, 1) := by decide +kernel
theorem dX8_odds_13 : decode cX8_odds 13 = .ok (.aload_n 0, 1) := by decide +kernel
theorem dX8_odds_14 : decode cX8_odds 14 = .ok (.invokevirtual 159, 3) := by decide +kernel
theorem dX8_odds_17 : decode cX8_odds 17 = .ok (.getfield 163, 3) := by decide +kernel
theorem dX8_odds_20 : decode cX8_odds 20 = .ok (.lstore_n 2, 1) := by decide +kernel
theorem dX8_odds_21 : decode cX8_odds 21 = .ok (.iload_n 1, 1) := by decide +kernel
theorem dX8_odds_22 : decode cX8_odds 22 = .ok (.ifCond .ne 5, 3) := by decide +kernel
theorem dX8_odds_25 : decode cX8_odds 25 = .ok (.lload_n 2, 1) := by decide +kernel
theorem dX8_odds_26 : decode cX8_odds 26 = .ok (.lreturn, 1) := by decide +kernel
theorem dX8_odds_27 : decode cX8_odds 27 = .ok (.aload_n 0, 1) := by decide +kernel
theorem dX8_odds_28 : decode cX8_odds 28 = .ok (.getfield 36, 3) := by decide +kernel
theorem dX8_odds_31 : decode cX8_odds 31 = .ok (.invokevirtual 167, 3) := by decide +kernel
theorem dX8_odds_34 : decode cX8_odds 34 = .ok (.lstore 4, 2) := by decide +kernel
theorem dX8_odds_36 : decode cX8_odds 36 = .ok (.lload_n 2, 1) := by decide +kernel
theorem dX8_odds_37 : decode cX8_odds 37 = .ok (.lload 4, 2) := by decide +kernel
theorem dX8_odds_39 : decode cX8_odds 39 = .ok (.invokestatic 171, 3) := by decide +kernel
theorem dX8_odds_42 : decode cX8_odds 42 = .ok (.lstore 6, 2) := by decide +kernel
theorem dX8_odds_44 : decode cX8_odds 44 = .ok (.iload_n 1, 1) := by decide +kernel
theorem dX8_odds_45 : decode cX8_odds 45 = .ok (.iconst 1, 1) := by decide +kernel
theorem dX8_odds_46 : decode cX8_odds 46 = .ok (.if_icmp .ne 7, 3) := by decide +kernel
theorem dX8_odds_49 : decode cX8_odds 49 = .ok (.lload_n 2, 1) := by decide +kernel
theorem dX8_odds_50 : decode cX8_odds 50 = .ok (.goto 5, 3) := by decide +kernel
theorem dX8_odds_53 : decode cX8_odds 53 = .ok (.lload 4, 2) := by decide +kernel
theorem dX8_odds_55 : decode cX8_odds 55 = .ok (.lload 6, 2) := by decide +kernel
theorem dX8_odds_57 : decode cX8_odds 57 = .ok (.ldiv, 1) := by decide +kernel
theorem dX8_odds_58 : decode cX8_odds 58 = .ok (.lreturn, 1) := by decide +kernel
theorem dX8_mean_0 : decode cX8_mean 0 = .ok (.aload_n 0, 1) := by decide +kernel
theorem dX8_mean_1 : decode cX8_mean 1 = .ok (.iload_n 1, 1) := by decide +kernel
theorem dX8_mean_2 : decode cX8_mean 2 = .ok (.invokevirtual 140, 3) := by decide +kernel
theorem dX8_mean_5 : decode cX8_mean 5 = .ok (.ifCond .eq 12, 3) := by decide +kernel
theorem dX8_mean_8 : decode cX8_mean 8 = .ok (.iload_n 2, 1) := by decide +kernel
theorem dX8_mean_9 : decode cX8_mean 9 = .ok (.iconst 0, 1) := by decide +kernel
theorem dX8_mean_10 : decode cX8_mean 10 = .ok (.iconst 1, 1) := by decide +kernel
theorem dX8_mean_11 : decode cX8_mean 11 = .ok (.invokestatic 102, 3) := by decide +kernel
theorem dX8_mean_14 : decode cX8_mean 14 = .ok (.ifCond .ne 7, 3) := by decide +kernel
theorem dX8_mean_17 : decode cX8_mean 17 = .ok (.ldc2_w 177, 3) := by decide +kernel
theorem dX8_mean_20 : decode cX8_mean 20 = .ok (.lreturn, 1) := by decide +kernel
theorem dX8_mean_21 : decode cX8_mean 21 = .ok (.aload_n 0, 1) := by decide +kernel
theorem dX8_mean_22 : decode cX8_mean 22 = .ok (.getfield 36, 3) := by decide +kernel
theorem dX8_mean_25 : decode cX8_mean 25 = .ok (.iload_n 1, 1) := by decide +kernel
theorem dX8_mean_26 : decode cX8_mean 26 = .ok (.invokevirtual 144, 3) := by decide +kernel
theorem dX8_mean_29 : decode cX8_mean 29 = .ok (.istore_n 3, 1) := by decide +kernel
theorem dX8_mean_30 : decode cX8_mean 30 = .ok (.iload_n 3, 1) := by decide +kernel
theorem dX8_mean_31 : decode cX8_mean 31 = .ok (.bipush (-4), 2) := by decide +kernel
theorem dX8_mean_33 : decode cX8_mean 33 = .ok (.if_icmp .ne 7, 3) := by decide +kernel
theorem dX8_mean_36 : decode cX8_mean 36 = .ok (.ldc2_w 179, 3) := by decide +kernel
theorem dX8_mean_39 : decode cX8_mean 39 = .ok (.lreturn, 1) := by decide +kernel
theorem dX8_mean_40 : decode cX8_mean 40 = .ok (.aload_n 0, 1) := by decide +kernel
theorem dX8_mean_41 : decode cX8_mean 41 = .ok (.invokevirtual 159, 3) := by decide +kernel
theorem dX8_mean_44 : decode cX8_mean 44 = .ok (.astore 4, 2) := by decide +kernel
theorem dX8_mean_46 : decode cX8_mean 46 = .ok (.iload_n 2, 1) := by decide +kernel
theorem dX8_mean_47 : decode cX8_mean 47 = .ok (.ifCond .ne 13, 3) := by decide +kernel
theorem dX8_mean_50 : decode cX8_mean 50 = .ok (.aload 4, 2) := by decide +kernel
theorem dX8_mean_52 : decode cX8_mean 52 = .ok (.getfield 181, 3) := by decide +kernel
theorem dX8_mean_55 : decode cX8_mean 55 = .ok (.iload_n 3, 1) := by decide +kernel
theorem dX8_mean_56 : decode cX8_mean 56 = .ok (.laload, 1) := by decide +kernel
theorem dX8_mean_57 : decode cX8_mean 57 = .ok (.goto 10, 3) := by decide +kernel
theorem dX8_mean_60 : decode cX8_mean 60 = .ok (.aload 4, 2) := by decide +kernel
theorem dX8_mean_62 : decode cX8_mean 62 = .ok (.getfield 185, 3) := by decide +kernel
theorem dX8_mean_65 : decode cX8_mean 65 = .ok (.iload_n 3, 1) := by decide +kernel
theorem dX8_mean_66 : decode cX8_mean 66 = .ok (.laload, 1) := by decide +kernel
theorem dX8_mean_67 : decode cX8_mean 67 = .ok (.lreturn, 1) := by decide +kernel
theorem dX8_wrong_0 : decode cX8_wrong 0 = .ok (.iload_n 1, 1) := by decide +kernel
theorem dX8_wrong_1 : decode cX8_wrong 1 = .ok (.iconst 0, 1) := by decide +kernel
theorem dX8_wrong_2 : decode cX8_wrong 2 = .ok (.iconst 1, 1) := by decide +kernel
theorem dX8_wrong_3 : decode cX8_wrong 3 = .ok (.invokestatic 102, 3) := by decide +kernel
theorem dX8_wrong_6 : decode cX8_wrong 6 = .ok (.ifCond .ne 7, 3) := by decide +kernel
theorem dX8_wrong_9 : decode cX8_wrong 9 = .ok (.ldc2_w 157, 3) := by decide +kernel
theorem dX8_wrong_12 : decode cX8_wrong 12 = .ok (.lreturn, 1) := by decide +kernel
theorem dX8_wrong_13 : decode cX8_wrong 13 = .ok (.aload_n 0, 1) := by decide +kernel
theorem dX8_wrong_14 : decode cX8_wrong 14 = .ok (.invokevirtual 159, 3) := by decide +kernel
theorem dX8_wrong_17 : decode cX8_wrong 17 = .ok (.astore_n 2, 1) := by decide +kernel
theorem dX8_wrong_18 : decode cX8_wrong 18 = .ok (.iload_n 1, 1) := by decide +kernel
theorem dX8_wrong_19 : decode cX8_wrong 19 = .ok (.ifCond .ne 10, 3) := by decide +kernel
theorem dX8_wrong_22 : decode cX8_wrong 22 = .ok (.aload_n 2, 1) := by decide +kernel
theorem dX8_wrong_23 : decode cX8_wrong 23 = .ok (.getfield 188, 3) := by decide +kernel
theorem dX8_wrong_26 : decode cX8_wrong 26 = .ok (.goto 7, 3) := by decide +kernel
theorem dX8_wrong_29 : decode cX8_wrong 29 = .ok (.aload_n 2, 1) := by decide +kernel
theorem dX8_wrong_30 : decode cX8_wrong 30 = .ok (.getfield 191, 3) := by decide +kernel
theorem dX8_wrong_33 : decode cX8_wrong 33 = .ok (.lreturn, 1) := by decide +kernel
theorem dX8_row_0 : decode cX8_row 0 = .ok (.aload_n 0, 1) := by decide +kernel
theorem dX8_row_1 : decode cX8_row 1 = .ok (.iload_n 1, 1) := by decide +kernel
theorem dX8_row_2 : decode cX8_row 2 = .ok (.invokevirtual 140, 3) := by decide +kernel
theorem dX8_row_5 : decode cX8_row 5 = .ok (.ifCond .eq 13, 3) := by decide +kernel
theorem dX8_row_8 : decode cX8_row 8 = .ok (.iload_n 2, 1) := by decide +kernel
theorem dX8_row_9 : decode cX8_row 9 = .ok (.iconst 0, 1) := by decide +kernel
theorem dX8_row_10 : decode cX8_row 10 = .ok (.bipush 30, 2) := by decide +kernel
theorem dX8_row_12 : decode cX8_row 12 = .ok (.invokestatic 102, 3) := by decide +kernel
theorem dX8_row_15 : decode cX8_row 15 = .ok (.ifCond .ne 5, 3) := by decide +kernel
theorem dX8_row_18 : decode cX8_row 18 = .ok (.iconst (-1), 1) := by decide +kernel
theorem dX8_row_19 : decode cX8_row 19 = .ok (.ireturn, 1) := by decide +kernel
theorem dX8_row_20 : decode cX8_row 20 = .ok (.aload_n 0, 1) := by decide +kernel
theorem dX8_row_21 : decode cX8_row 21 = .ok (.getfield 69, 3) := by decide +kernel
theorem dX8_row_24 : decode cX8_row 24 = .ok (.iload_n 1, 1) := by decide +kernel
theorem dX8_row_25 : decode cX8_row 25 = .ok (.iaload, 1) := by decide +kernel
theorem dX8_row_26 : decode cX8_row 26 = .ok (.istore_n 3, 1) := by decide +kernel
theorem dX8_row_27 : decode cX8_row 27 = .ok (.aload_n 0, 1) := by decide +kernel
theorem dX8_row_28 : decode cX8_row 28 = .ok (.getfield 69, 3) := by decide +kernel
theorem dX8_row_31 : decode cX8_row 31 = .ok (.iload_n 1, 1) := by decide +kernel
theorem dX8_row_32 : decode cX8_row 32 = .ok (.iload_n 2, 1) := by decide +kernel
theorem dX8_row_33 : decode cX8_row 33 = .ok (.iastore, 1) := by decide +kernel
theorem dX8_row_34 : decode cX8_row 34 = .ok (.iload_n 3, 1) := by decide +kernel
theorem dX8_row_35 : decode cX8_row 35 = .ok (.ireturn, 1) := by decide +kernel
theorem dX8_judge_0 : decode cX8_judge 0 = .ok (.aload_n 0, 1) := by decide +kernel
theorem dX8_judge_1 : decode cX8_judge 1 = .ok (.invokevirtual 194, 3) := by decide +kernel
theorem dX8_judge_4 : decode cX8_judge 4 = .ok (.iconst 0, 1) := by decide +kernel
theorem dX8_judge_5 : decode cX8_judge 5 = .ok (.istore_n 1, 1) := by decide +kernel
theorem dX8_judge_6 : decode cX8_judge 6 = .ok (.iconst 0, 1) := by decide +kernel
theorem dX8_judge_7 : decode cX8_judge 7 = .ok (.istore_n 2, 1) := by decide +kernel
theorem dX8_judge_8 : decode cX8_judge 8 = .ok (.iload_n 2, 1) := by decide +kernel
theorem dX8_judge_9 : decode cX8_judge 9 = .ok (.aload_n 0, 1) := by decide +kernel
theorem dX8_judge_10 : decode cX8_judge 10 = .ok (.getfield 36, 3) := by decide +kernel
theorem dX8_judge_13 : decode cX8_judge 13 = .ok (.getfield 197, 3) := by decide +kernel
theorem dX8_judge_16 : decode cX8_judge 16 = .ok (.if_icmp .ge 57, 3) := by decide +kernel
theorem dX8_judge_19 : decode cX8_judge 19 = .ok (.aload_n 0, 1) := by decide +kernel
theorem dX8_judge_20 : decode cX8_judge 20 = .ok (.getfield 36, 3) := by decide +kernel
theorem dX8_judge_23 : decode cX8_judge 23 = .ok (.getfield 200, 3) := by decide +kernel
theorem dX8_judge_26 : decode cX8_judge 26 = .ok (.iload_n 2, 1) := by decide +kernel
theorem dX8_judge_27 : decode cX8_judge 27 = .ok (.iaload, 1) := by decide +kernel
theorem dX8_judge_28 : decode cX8_judge 28 = .ok (.istore_n 3, 1) := by decide +kernel
theorem dX8_judge_29 : decode cX8_judge 29 = .ok (.aload_n 0, 1) := by decide +kernel
theorem dX8_judge_30 : decode cX8_judge 30 = .ok (.getfield 46, 3) := by decide +kernel
theorem dX8_judge_33 : decode cX8_judge 33 = .ok (.iload_n 2, 1) := by decide +kernel
theorem dX8_judge_34 : decode cX8_judge 34 = .ok (.aload_n 0, 1) := by decide +kernel
theorem dX8_judge_35 : decode cX8_judge 35 = .ok (.getfield 36, 3) := by decide +kernel
theorem dX8_judge_38 : decode cX8_judge 38 = .ok (.getfield 203, 3) := by decide +kernel
theorem dX8_judge_41 : decode cX8_judge 41 = .ok (.iload_n 2, 1) := by decide +kernel
theorem dX8_judge_42 : decode cX8_judge 42 = .ok (.iaload, 1) := by decide +kernel
theorem dX8_judge_43 : decode cX8_judge 43 = .ok (.iload_n 1, 1) := by decide +kernel
theorem dX8_judge_44 : decode cX8_judge 44 = .ok (.invokevirtual 206, 3) := by decide +kernel
theorem dX8_judge_47 : decode cX8_judge 47 = .ok (.aload_n 0, 1) := by decide +kernel
theorem dX8_judge_48 : decode cX8_judge 48 = .ok (.getfield 69, 3) := by decide +kernel
theorem dX8_judge_51 : decode cX8_judge 51 = .ok (.iload_n 3, 1) := by decide +kernel
theorem dX8_judge_52 : decode cX8_judge 52 = .ok (.iaload, 1) := by decide +kernel
theorem dX8_judge_53 : decode cX8_judge 53 = .ok (.if_icmp .eq 5, 3) := by decide +kernel
theorem dX8_judge_56 : decode cX8_judge 56 = .ok (.iload_n 3, 1) := by decide +kernel
theorem dX8_judge_57 : decode cX8_judge 57 = .ok (.ireturn, 1) := by decide +kernel
theorem dX8_judge_58 : decode cX8_judge 58 = .ok (.iload_n 1, 1) := by decide +kernel
theorem dX8_judge_59 : decode cX8_judge 59 = .ok (.aload_n 0, 1) := by decide +kernel
theorem dX8_judge_60 : decode cX8_judge 60 = .ok (.getfield 69, 3) := by decide +kernel
theorem dX8_judge_63 : decode cX8_judge 63 = .ok (.iload_n 3, 1) := by decide +kernel
theorem dX8_judge_64 : decode cX8_judge 64 = .ok (.iaload, 1) := by decide +kernel
theorem dX8_judge_65 : decode cX8_judge 65 = .ok (.iadd, 1) := by decide +kernel
theorem dX8_judge_66 : decode cX8_judge 66 = .ok (.istore_n 1, 1) := by decide +kernel
theorem dX8_judge_67 : decode cX8_judge 67 = .ok (.iinc 2 1, 3) := by decide +kernel
theorem dX8_judge_70 : decode cX8_judge 70 = .ok (.goto (-62), 3) := by decide +kernel
theorem dX8_judge_73 : decode cX8_judge 73 = .ok (.bipush (-4), 2) := by decide +kernel
theorem dX8_judge_75 : decode cX8_judge 75 = .ok (.ireturn, 1) := by decide +kernel
theorem dX8_made_0 : decode cX8_made 0 = .ok (.iload_n 1, 1) := by decide +kernel
theorem dX8_made_1 : decode cX8_made 1 = .ok (.iconst 0, 1) := by decide +kernel
theorem dX8_made_2 : decode cX8_made 2 = .ok (.iconst 1, 1) := by decide +kernel
theorem dX8_made_3 : decode cX8_made 3 = .ok (.invokestatic 102, 3) := by decide +kernel
theorem dX8_made_6 : decode cX8_made 6 = .ok (.ifCond .ne 5, 3) := by decide +kernel
theorem dX8_made_9 : decode cX8_made 9 = .ok (.iconst (-1), 1) := by decide +kernel
theorem dX8_made_10 : decode cX8_made 10 = .ok (.ireturn, 1) := by decide +kernel
theorem dX8_made_11 : decode cX8_made 11 = .ok (.iconst 0, 1) := by decide +kernel
theorem dX8_made_12 : decode cX8_made 12 = .ok (.istore_n 2, 1) := by decide +kernel
theorem dX8_made_13 : decode cX8_made 13 = .ok (.iconst 0, 1) := by decide +kernel
theorem dX8_made_14 : decode cX8_made 14 = .ok (.istore_n 3, 1) := by decide +kernel
theorem dX8_made_15 : decode cX8_made 15 = .ok (.iconst 0, 1) := by decide +kernel
theorem dX8_made_16 : decode cX8_made 16 = .ok (.istore 4, 2) := by decide +kernel
theorem dX8_made_18 : decode cX8_made 18 = .ok (.iload 4, 2) := by decide +kernel
theorem dX8_made_20 : decode cX8_made 20 = .ok (.aload_n 0, 1) := by decide +kernel
theorem dX8_made_21 : decode cX8_made 21 = .ok (.getfield 36, 3) := by decide +kernel
theorem dX8_made_24 : decode cX8_made 24 = .ok (.getfield 197, 3) := by decide +kernel
theorem dX8_made_27 : decode cX8_made 27 = .ok (.if_icmp .ge 39, 3) := by decide +kernel
theorem dX8_made_30 : decode cX8_made 30 = .ok (.aload_n 0, 1) := by decide +kernel
theorem dX8_made_31 : decode cX8_made 31 = .ok (.getfield 69, 3) := by decide +kernel
theorem dX8_made_34 : decode cX8_made 34 = .ok (.aload_n 0, 1) := by decide +kernel
theorem dX8_made_35 : decode cX8_made 35 = .ok (.getfield 36, 3) := by decide +kernel
theorem dX8_made_38 : decode cX8_made 38 = .ok (.getfield 200, 3) := by decide +kernel
theorem dX8_made_41 : decode cX8_made 41 = .ok (.iload 4, 2) := by decide +kernel
theorem dX8_made_43 : decode cX8_made 43 = .ok (.iaload, 1) := by decide +kernel
theorem dX8_made_44 : decode cX8_made 44 = .ok (.iaload, 1) := by decide +kernel
theorem dX8_made_45 : decode cX8_made 45 = .ok (.istore 5, 2) := by decide +kernel
theorem dX8_made_47 : decode cX8_made 47 = .ok (.iload_n 2, 1) := by decide +kernel
theorem dX8_made_48 : decode cX8_made 48 = .ok (.iload 5, 2) := by decide +kernel
theorem dX8_made_50 : decode cX8_made 50 = .ok (.iadd, 1) := by decide +kernel
theorem dX8_made_51 : decode cX8_made 51 = .ok (.istore_n 2, 1) := by decide +kernel
theorem dX8_made_52 : decode cX8_made 52 = .ok (.iload 5, 2) := by decide +kernel
theorem dX8_made_54 : decode cX8_made 54 = .ok (.ifCond .le 6, 3) := by decide +kernel
theorem dX8_made_57 : decode cX8_made 57 = .ok (.iinc 3 1, 3) := by decide +kernel
theorem dX8_made_60 : decode cX8_made 60 = .ok (.iinc 4 1, 3) := by decide +kernel
theorem dX8_made_63 : decode cX8_made 63 = .ok (.goto (-45), 3) := by decide +kernel
theorem dX8_made_66 : decode cX8_made 66 = .ok (.iload_n 1, 1) := by decide +kernel
theorem dX8_made_67 : decode cX8_made 67 = .ok (.ifCond .ne 5, 3) := by decide +kernel
theorem dX8_made_70 : decode cX8_made 70 = .ok (.iload_n 2, 1) := by decide +kernel
theorem dX8_made_71 : decode cX8_made 71 = .ok (.ireturn, 1) := by decide +kernel
theorem dX8_made_72 : decode cX8_made 72 = .ok (.iload_n 2, 1) := by decide +kernel
theorem dX8_made_73 : decode cX8_made 73 = .ok (.aload_n 0, 1) := by decide +kernel
theorem dX8_made_74 : decode cX8_made 74 = .ok (.getfield 26, 3) := by decide +kernel
theorem dX8_made_77 : decode cX8_made 77 = .ok (.getfield 210, 3) := by decide +kernel
theorem dX8_made_80 : decode cX8_made 80 = .ok (.if_icmp .lt 18, 3) := by decide +kernel
theorem dX8_made_83 : decode cX8_made 83 = .ok (.iload_n 3, 1) := by decide +kernel
theorem dX8_made_84 : decode cX8_made 84 = .ok (.aload_n 0, 1) := by decide +kernel
theorem dX8_made_85 : decode cX8_made 85 = .ok (.getfield 26, 3) := by decide +kernel
theorem dX8_made_88 : decode cX8_made 88 = .ok (.getfield 213, 3) := by decide +kernel
theorem dX8_made_91 : decode cX8_made 91 = .ok (.if_icmp .lt 7, 3) := by decide +kernel
theorem dX8_made_94 : decode cX8_made 94 = .ok (.iconst 1, 1) := by decide +kernel
theorem dX8_made_95 : decode cX8_made 95 = .ok (.goto 4, 3) := by decide +kernel
theorem dX8_made_98 : decode cX8_made 98 = .ok (.iconst 0, 1) := by decide +kernel
theorem dX8_made_99 : decode cX8_made 99 = .ok (.ireturn, 1) := by decide +kernel
theorem dX8_just_0 : decode cX8_just 0 = .ok (.iload_n 1, 1) := by decide +kernel
theorem dX8_just_1 : decode cX8_just 1 = .ok (.iconst (-1), 1) := by decide +kernel
theorem dX8_just_2 : decode cX8_just 2 = .ok (.if_icmp .eq 28, 3) := by decide +kernel
theorem dX8_just_5 : decode cX8_just 5 = .ok (.aload_n 0, 1) := by decide +kernel
theorem dX8_just_6 : decode cX8_just 6 = .ok (.iload_n 1, 1) := by decide +kernel
theorem dX8_just_7 : decode cX8_just 7 = .ok (.invokevirtual 140, 3) := by decide +kernel
theorem dX8_just_10 : decode cX8_just 10 = .ok (.ifCond .eq 16, 3) := by decide +kernel
theorem dX8_just_13 : decode cX8_just 13 = .ok (.aload_n 0, 1) := by decide +kernel
theorem dX8_just_14 : decode cX8_just 14 = .ok (.getfield 36, 3) := by decide +kernel
theorem dX8_just_17 : decode cX8_just 17 = .ok (.iload_n 1, 1) := by decide +kernel
theorem dX8_just_18 : decode cX8_just 18 = .ok (.invokevirtual 144, 3) := by decide +kernel
theorem dX8_just_21 : decode cX8_just 21 = .ok (.bipush (-4), 2) := by decide +kernel
theorem dX8_just_23 : decode cX8_just 23 = .ok (.if_icmp .ne 7, 3) := by decide +kernel
theorem dX8_just_26 : decode cX8_just 26 = .ok (.ldc2_w 157, 3) := by decide +kernel
theorem dX8_just_29 : decode cX8_just 29 = .ok (.lreturn, 1) := by decide +kernel
theorem dX8_just_30 : decode cX8_just 30 = .ok (.aload_n 0, 1) := by decide +kernel
theorem dX8_just_31 : decode cX8_just 31 = .ok (.getfield 63, 3) := by decide +kernel
theorem dX8_just_34 : decode cX8_just 34 = .ok (.aload_n 0, 1) := by decide +kernel
theorem dX8_just_35 : decode cX8_just 35 = .ok (.getfield 26, 3) := by decide +kernel
theorem dX8_just_38 : decode cX8_just 38 = .ok (.aload_n 0, 1) := by decide +kernel
theorem dX8_just_39 : decode cX8_just 39 = .ok (.getfield 36, 3) := by decide +kernel
theorem dX8_just_42 : decode cX8_just 42 = .ok (.invokevirtual 216, 3) := by decide +kernel
theorem dX8_just_45 : decode cX8_just 45 = .ok (.aload_n 0, 1) := by decide +kernel
theorem dX8_just_46 : decode cX8_just 46 = .ok (.getfield 63, 3) := by decide +kernel
theorem dX8_just_49 : decode cX8_just 49 = .ok (.invokevirtual 220, 3) := by decide +kernel
theorem dX8_just_52 : decode cX8_just 52 = .ok (.lstore_n 2, 1) := by decide +kernel
theorem dX8_just_53 : decode cX8_just 53 = .ok (.iload_n 1, 1) := by decide +kernel
theorem dX8_just_54 : decode cX8_just 54 = .ok (.iconst (-1), 1) := by decide +kernel
theorem dX8_just_55 : decode cX8_just 55 = .ok (.if_icmp .ne 5, 3) := by decide +kernel
theorem dX8_just_58 : decode cX8_just 58 = .ok (.lload_n 2, 1) := by decide +kernel
theorem dX8_just_59 : decode cX8_just 59 = .ok (.lreturn, 1) := by decide +kernel
theorem dX8_just_60 : decode cX8_just 60 = .ok (.lload_n 2, 1) := by decide +kernel
theorem dX8_just_61 : decode cX8_just 61 = .ok (.lconst 0, 1) := by decide +kernel
theorem dX8_just_62 : decode cX8_just 62 = .ok (.lcmp, 1) := by decide +kernel
theorem dX8_just_63 : decode cX8_just 63 = .ok (.ifCond .ne 9, 3) := by decide +kernel
theorem dX8_just_66 : decode cX8_just 66 = .ok (.ldc2_w 179, 3) := by decide +kernel
theorem dX8_just_69 : decode cX8_just 69 = .ok (.goto 12, 3) := by decide +kernel
theorem dX8_just_72 : decode cX8_just 72 = .ok (.aload_n 0, 1) := by decide +kernel
theorem dX8_just_73 : decode cX8_just 73 = .ok (.getfield 63, 3) := by decide +kernel
theorem dX8_just_76 : decode cX8_just 76 = .ok (.iload_n 1, 1) := by decide +kernel
theorem dX8_just_77 : decode cX8_just 77 = .ok (.invokevirtual 223, 3) := by decide +kernel
theorem dX8_just_80 : decode cX8_just 80 = .ok (.i2l, 1) := by decide +kernel
theorem dX8_just_81 : decode cX8_just 81 = .ok (.lreturn, 1) := by decide +kernel
theorem dX8_fails_0 : decode cX8_fails 0 = .ok (.aload_n 0, 1) := by decide +kernel
theorem dX8_fails_1 : decode cX8_fails 1 = .ok (.getfield 130, 3) := by decide +kernel
theorem dX8_fails_4 : decode cX8_fails 4 = .ok (.ifCond .ne 34, 3) := by decide +kernel
theorem dX8_fails_7 : decode cX8_fails 7 = .ok (.aload_n 0, 1) := by decide +kernel
theorem dX8_fails_8 : decode cX8_fails 8 = .ok (.getfield 63, 3) := by decide +kernel
theorem dX8_fails_11 : decode cX8_fails 11 = .ok (.aload_n 0, 1) := by decide +kernel
theorem dX8_fails_12 : decode cX8_fails 12 = .ok (.getfield 26, 3) := by decide +kernel
theorem dX8_fails_15 : decode cX8_fails 15 = .ok (.aload_n 0, 1) := by decide +kernel
theorem dX8_fails_16 : decode cX8_fails 16 = .ok (.getfield 36, 3) := by decide +kernel
theorem dX8_fails_19 : decode cX8_fails 19 = .ok (.invokevirtual 216, 3) := by decide +kernel
theorem dX8_fails_22 : decode cX8_fails 22 = .ok (.aload_n 0, 1) := by decide +kernel
theorem dX8_fails_23 : decode cX8_fails 23 = .ok (.aload_n 0, 1) := by decide +kernel
theorem dX8_fails_24 : decode cX8_fails 24 = .ok (.getfield 63, 3) := by decide +kernel
theorem dX8_fails_27 : decode cX8_fails 27 = .ok (.invokevirtual 226, 3) := by decide +kernel
theorem dX8_fails_30 : decode cX8_fails 30 = .ok (.putfield 229, 3) := by decide +kernel
theorem dX8_fails_33 : decode cX8_fails 33 = .ok (.aload_n 0, 1) := by decide +kernel
theorem dX8_fails_34 : decode cX8_fails 34 = .ok (.iconst 1, 1) := by decide +kernel
theorem dX8_fails_35 : decode cX8_fails 35 = .ok (.putfield 130, 3) := by decide +kernel
theorem dX8_fails_38 : decode cX8_fails 38 = .ok (.aload_n 0, 1) := by decide +kernel
theorem dX8_fails_39 : decode cX8_fails 39 = .ok (.getfield 229, 3) := by decide +kernel
theorem dX8_fails_42 : decode cX8_fails 42 = .ok (.lreturn, 1) := by decide +kernel
theorem dX8_bestBar_0 : decode cX8_bestBar 0 = .ok (.iload_n 1, 1) := by decide +kernel
theorem dX8_bestBar_1 : decode cX8_bestBar 1 = .ok (.iconst 0, 1) := by decide +kernel
theorem dX8_bestBar_2 : decode cX8_bestBar 2 = .ok (.iconst 1, 1) := by decide +kernel
theorem dX8_bestBar_3 : decode cX8_bestBar 3 = .ok (.invokestatic 102, 3) := by decide +kernel
theorem dX8_bestBar_6 : decode cX8_bestBar 6 = .ok (.ifCond .ne 7, 3) := by decide +kernel
theorem dX8_bestBar_9 : decode cX8_bestBar 9 = .ok (.ldc2_w 157, 3) := by decide +kernel
theorem dX8_bestBar_12 : decode cX8_bestBar 12 = .ok (.lreturn, 1) := by decide +kernel
theorem dX8_bestBar_13 : decode cX8_bestBar 13 = .ok (.aload_n 0, 1) := by decide +kernel
theorem dX8_bestBar_14 : decode cX8_bestBar 14 = .ok (.getfield 232, 3) := by decide +kernel
theorem dX8_bestBar_17 : decode cX8_bestBar 17 = .ok (.ifCond .ne 12, 3) := by decide +kernel
theorem dX8_bestBar_20 : decode cX8_bestBar 20 = .ok (.aload_n 0, 1) := by decide +kernel
theorem dX8_bestBar_21 : decode cX8_bestBar 21 = .ok (.invokevirtual 235, 3) := by decide +kernel
theorem dX8_bestBar_24 : decode cX8_bestBar 24 = .ok (.aload_n 0, 1) := by decide +kernel
theorem dX8_bestBar_25 : decode cX8_bestBar 25 = .ok (.iconst 1, 1) := by decide +kernel
theorem dX8_bestBar_26 : decode cX8_bestBar 26 = .ok (.putfield 232, 3) := by decide +kernel
theorem dX8_bestBar_29 : decode cX8_bestBar 29 = .ok (.iload_n 1, 1) := by decide +kernel
theorem dX8_bestBar_30 : decode cX8_bestBar 30 = .ok (.ifCond .ne 11, 3) := by decide +kernel
theorem dX8_bestBar_33 : decode cX8_bestBar 33 = .ok (.aload_n 0, 1) := by decide +kernel
theorem dX8_bestBar_34 : decode cX8_bestBar 34 = .ok (.getfield 238, 3) := by decide +kernel
theorem dX8_bestBar_37 : decode cX8_bestBar 37 = .ok (.i2l, 1) := by decide +kernel
theorem dX8_bestBar_38 : decode cX8_bestBar 38 = .ok (.goto 7, 3) := by decide +kernel
theorem dX8_bestBar_41 : decode cX8_bestBar 41 = .ok (.aload_n 0, 1) := by decide +kernel
theorem dX8_bestBar_42 : decode cX8_bestBar 42 = .ok (.getfield 241, 3) := by decide +kernel
theorem dX8_bestBar_45 : decode cX8_bestBar 45 = .ok (.lreturn, 1) := by decide +kernel
theorem dX8_bestDay_0 : decode cX8_bestDay 0 = .ok (.iconst 0, 1) := by decide +kernel
theorem dX8_bestDay_1 : decode cX8_bestDay 1 = .ok (.istore_n 1, 1) := by decide +kernel
theorem dX8_bestDay_2 : decode cX8_bestDay 2 = .ok (.ldc2_w 157, 3) := by decide +kernel
theorem dX8_bestDay_5 : decode cX8_bestDay 5 = .ok (.lstore_n 2, 1) := by decide +kernel
theorem dX8_bestDay_6 : decode cX8_bestDay 6 = .ok (.iconst 0, 1) := by decide +kernel
theorem dX8_bestDay_7 : decode cX8_bestDay 7 = .ok (.istore 4, 2) := by decide +kernel
theorem dX8_bestDay_9 : decode cX8_bestDay 9 = .ok (.iload 4, 2) := by decide +kernel
theorem dX8_bestDay_11 : decode cX8_bestDay 11 = .ok (.bipush 30, 2) := by decide +kernel
theorem dX8_bestDay_13 : decode cX8_bestDay 13 = .ok (.if_icmp .gt 98, 3) := by decide +kernel
theorem dX8_bestDay_16 : decode cX8_bestDay 16 = .ok (.aload_n 0, 1) := by decide +kernel
theorem dX8_bestDay_17 : decode cX8_bestDay 17 = .ok (.getfield 40, 3) := by decide +kernel
theorem dX8_bestDay_20 : decode cX8_bestDay 20 = .ok (.aload_n 0, 1) := by decide +kernel
theorem dX8_bestDay_21 : decode cX8_bestDay 21 = .ok (.getfield 26, 3) := by decide +kernel
theorem dX8_bestDay_24 : decode cX8_bestDay 24 = .ok (.iload 4, 2) := by decide +kernel
theorem dX8_bestDay_26 : decode cX8_bestDay 26 = .ok (.invokevirtual 98, 3) := by decide +kernel
theorem dX8_bestDay_29 : decode cX8_bestDay 29 = .ok (.istore 5, 2) := by decide +kernel
theorem dX8_bestDay_31 : decode cX8_bestDay 31 = .ok (.iload 4, 2) := by decide +kernel
theorem dX8_bestDay_33 : decode cX8_bestDay 33 = .ok (.ifCond .le 11, 3) := by decide +kernel
theorem dX8_bestDay_36 : decode cX8_bestDay 36 = .ok (.iload 5, 2) := by decide +kernel
theorem dX8_bestDay_38 : decode cX8_bestDay 38 = .ok (.ifCond .ne 6, 3) := by decide +kernel
theorem dX8_bestDay_41 : decode cX8_bestDay 41 = .ok (.goto 64, 3) := by decide +kernel
theorem dX8_bestDay_44 : decode cX8_bestDay 44 = .ok (.aload_n 0, 1) := by decide +kernel
theorem dX8_bestDay_45 : decode cX8_bestDay 45 = .ok (.getfield 46, 3) := by decide +kernel
theorem dX8_bestDay_48 : decode cX8_bestDay 48 = .ok (.aload_n 0, 1) := by decide +kernel
theorem dX8_bestDay_49 : decode cX8_bestDay 49 = .ok (.getfield 26, 3) := by decide +kernel
theorem dX8_bestDay_52 : decode cX8_bestDay 52 = .ok (.aload_n 0, 1) := by decide +kernel
theorem dX8_bestDay_53 : decode cX8_bestDay 53 = .ok (.getfield 40, 3) := by decide +kernel
theorem dX8_bestDay_56 : decode cX8_bestDay 56 = .ok (.aload_n 0, 1) := by decide +kernel
theorem dX8_bestDay_57 : decode cX8_bestDay 57 = .ok (.getfield 124, 3) := by decide +kernel
theorem dX8_bestDay_60 : decode cX8_bestDay 60 = .ok (.invokevirtual 244, 3) := by decide +kernel
theorem dX8_bestDay_63 : decode cX8_bestDay 63 = .ok (.aload_n 0, 1) := by decide +kernel
theorem dX8_bestDay_64 : decode cX8_bestDay 64 = .ok (.getfield 57, 3) := by decide +kernel
theorem dX8_bestDay_67 : decode cX8_bestDay 67 = .ok (.aload_n 0, 1) := by decide +kernel
theorem dX8_bestDay_68 : decode cX8_bestDay 68 = .ok (.getfield 46, 3) := by decide +kernel
theorem dX8_bestDay_71 : decode cX8_bestDay 71 = .ok (.iconst 0, 1) := by decide +kernel
theorem dX8_bestDay_72 : decode cX8_bestDay 72 = .ok (.invokevirtual 248, 3) := by decide +kernel
theorem dX8_bestDay_75 : decode cX8_bestDay 75 = .ok (.aload_n 0, 1) := by decide +kernel
theorem dX8_bestDay_76 : decode cX8_bestDay 76 = .ok (.getfield 57, 3) := by decide +kernel
theorem dX8_bestDay_79 : decode cX8_bestDay 79 = .ok (.getfield 163, 3) := by decide +kernel
theorem dX8_bestDay_82 : decode cX8_bestDay 82 = .ok (.aload_n 0, 1) := by decide +kernel
theorem dX8_bestDay_83 : decode cX8_bestDay 83 = .ok (.getfield 40, 3) := by decide +kernel
theorem dX8_bestDay_86 : decode cX8_bestDay 86 = .ok (.invokevirtual 252, 3) := by decide +kernel
theorem dX8_bestDay_89 : decode cX8_bestDay 89 = .ok (.lmul, 1) := by decide +kernel
theorem dX8_bestDay_90 : decode cX8_bestDay 90 = .ok (.lstore 6, 2) := by decide +kernel
theorem dX8_bestDay_92 : decode cX8_bestDay 92 = .ok (.lload 6, 2) := by decide +kernel
theorem dX8_bestDay_94 : decode cX8_bestDay 94 = .ok (.lload_n 2, 1) := by decide +kernel
theorem dX8_bestDay_95 : decode cX8_bestDay 95 = .ok (.lcmp, 1) := by decide +kernel
theorem dX8_bestDay_96 : decode cX8_bestDay 96 = .ok (.ifCond .le 9, 3) := by decide +kernel
theorem dX8_bestDay_99 : decode cX8_bestDay 99 = .ok (.lload 6, 2) := by decide +kernel
theorem dX8_bestDay_101 : decode cX8_bestDay 101 = .ok (.lstore_n 2, 1) := by decide +kernel
theorem dX8_bestDay_102 : decode cX8_bestDay 102 = .ok (.iload 4, 2) := by decide +kernel
theorem dX8_bestDay_104 : decode cX8_bestDay 104 = .ok (.istore_n 1, 1) := by decide +kernel
theorem dX8_bestDay_105 : decode cX8_bestDay 105 = .ok (.iinc 4 1, 3) := by decide +kernel
theorem dX8_bestDay_108 : decode cX8_bestDay 108 = .ok (.goto (-99), 3) := by decide +kernel
theorem dX8_bestDay_111 : decode cX8_bestDay 111 = .ok (.iload_n 1, 1) := by decide +kernel
theorem dX8_bestDay_112 : decode cX8_bestDay 112 = .ok (.ireturn, 1) := by decide +kernel
theorem dX8_extra_0 : decode cX8_extra 0 = .ok (.iload_n 1, 1) := by decide +kernel
theorem dX8_extra_1 : decode cX8_extra 1 = .ok (.iconst 0, 1) := by decide +kernel
theorem dX8_extra_2 : decode cX8_extra 2 = .ok (.bipush 10, 2) := by decide +kernel
theorem dX8_extra_4 : decode cX8_extra 4 = .ok (.invokestatic 102, 3) := by decide +kernel
theorem dX8_extra_7 : decode cX8_extra 7 = .ok (.ifCond .ne 5, 3) := by decide +kernel
theorem dX8_extra_10 : decode cX8_extra 10 = .ok (.iconst (-1), 1) := by decide +kernel
theorem dX8_extra_11 : decode cX8_extra 11 = .ok (.ireturn, 1) := by decide +kernel
theorem dX8_extra_12 : decode cX8_extra 12 = .ok (.iconst 0, 1) := by decide +kernel
theorem dX8_extra_13 : decode cX8_extra 13 = .ok (.istore_n 2, 1) := by decide +kernel
theorem dX8_extra_14 : decode cX8_extra 14 = .ok (.iload_n 2, 1) := by decide +kernel
theorem dX8_extra_15 : decode cX8_extra 15 = .ok (.bipush 9, 2) := by decide +kernel
theorem dX8_extra_17 : decode cX8_extra 17 = .ok (.if_icmp .gt 60, 3) := by decide +kernel
theorem dX8_extra_20 : decode cX8_extra 20 = .ok (.aload_n 0, 1) := by decide +kernel
theorem dX8_extra_21 : decode cX8_extra 21 = .ok (.invokevirtual 194, 3) := by decide +kernel
theorem dX8_extra_24 : decode cX8_extra 24 = .ok (.aload_n 0, 1) := by decide +kernel
theorem dX8_extra_25 : decode cX8_extra 25 = .ok (.getfield 46, 3) := by decide +kernel
theorem dX8_extra_28 : decode cX8_extra 28 = .ok (.iload_n 2, 1) := by decide +kernel
theorem dX8_extra_29 : decode cX8_extra 29 = .ok (.putfield 255, 3) := by decide +kernel
theorem dX8_extra_32 : decode cX8_extra 32 = .ok (.aload_n 0, 1) := by decide +kernel
theorem dX8_extra_33 : decode cX8_extra 33 = .ok (.getfield 57, 3) := by decide +kernel
theorem dX8_extra_36 : decode cX8_extra 36 = .ok (.aload_n 0, 1) := by decide +kernel
theorem dX8_extra_37 : decode cX8_extra 37 = .ok (.getfield 46, 3) := by decide +kernel
theorem dX8_extra_40 : decode cX8_extra 40 = .ok (.iconst 0, 1) := by decide +kernel
theorem dX8_extra_41 : decode cX8_extra 41 = .ok (.invokevirtual 248, 3) := by decide +kernel
theorem dX8_extra_44 : decode cX8_extra 44 = .ok (.aload_n 0, 1) := by decide +kernel
theorem dX8_extra_45 : decode cX8_extra 45 = .ok (.getfield 57, 3) := by decide +kernel
theorem dX8_extra_48 : decode cX8_extra 48 = .ok (.getfield 163, 3) := by decide +kernel
theorem dX8_extra_51 : decode cX8_extra 51 = .ok (.ldc2_w 258, 3) := by decide +kernel
theorem dX8_extra_54 : decode cX8_extra 54 = .ok (.lmul, 1) := by decide +kernel
theorem dX8_extra_55 : decode cX8_extra 55 = .ok (.iload_n 1, 1) := by decide +kernel
theorem dX8_extra_56 : decode cX8_extra 56 = .ok (.i2l, 1) := by decide +kernel
theorem dX8_extra_57 : decode cX8_extra 57 = .ok (.aload_n 0, 1) := by decide +kernel
theorem dX8_extra_58 : decode cX8_extra 58 = .ok (.getfield 36, 3) := by decide +kernel
theorem dX8_extra_61 : decode cX8_extra 61 = .ok (.invokevirtual 167, 3) := by decide +kernel
theorem dX8_extra_64 : decode cX8_extra 64 = .ok (.lmul, 1) := by decide +kernel
theorem dX8_extra_65 : decode cX8_extra 65 = .ok (.lcmp, 1) := by decide +kernel
theorem dX8_extra_66 : decode cX8_extra 66 = .ok (.ifCond .lt 5, 3) := by decide +kernel
theorem dX8_extra_69 : decode cX8_extra 69 = .ok (.iload_n 2, 1) := by decide +kernel
theorem dX8_extra_70 : decode cX8_extra 70 = .ok (.ireturn, 1) := by decide +kernel
theorem dX8_extra_71 : decode cX8_extra 71 = .ok (.iinc 2 1, 3) := by decide +kernel
theorem dX8_extra_74 : decode cX8_extra 74 = .ok (.goto (-60), 3) := by decide +kernel
theorem dX8_extra_77 : decode cX8_extra 77 = .ok (.bipush (-4), 2) := by decide +kernel
theorem dX8_extra_79 : decode cX8_extra 79 = .ok (.ireturn, 1) := by decide +kernel
theorem dX8_bestShow_0 : decode cX8_bestShow 0 = .ok (.iconst 0, 1) := by decide +kernel
theorem dX8_bestShow_1 : decode cX8_bestShow 1 = .ok (.istore_n 1, 1) := by decide +kernel
theorem dX8_bestShow_2 : decode cX8_bestShow 2 = .ok (.ldc2_w 157, 3) := by decide +kernel
theorem dX8_bestShow_5 : decode cX8_bestShow 5 = .ok (.lstore_n 2, 1) := by decide +kernel
theorem dX8_bestShow_6 : decode cX8_bestShow 6 = .ok (.iconst 0, 1) := by decide +kernel
theorem dX8_bestShow_7 : decode cX8_bestShow 7 = .ok (.istore 4, 2) := by decide +kernel
theorem dX8_bestShow_9 : decode cX8_bestShow 9 = .ok (.iload 4, 2) := by decide +kernel
theorem dX8_bestShow_11 : decode cX8_bestShow 11 = .ok (.iconst 2, 1) := by decide +kernel
theorem dX8_bestShow_12 : decode cX8_bestShow 12 = .ok (.if_icmp .gt 61, 3) := by decide +kernel
theorem dX8_bestShow_15 : decode cX8_bestShow 15 = .ok (.aload_n 0, 1) := by decide +kernel
theorem dX8_bestShow_16 : decode cX8_bestShow 16 = .ok (.getfield 46, 3) := by decide +kernel
theorem dX8_bestShow_19 : decode cX8_bestShow 19 = .ok (.aload_n 0, 1) := by decide +kernel
theorem dX8_bestShow_20 : decode cX8_bestShow 20 = .ok (.getfield 26, 3) := by decide +kernel
theorem dX8_bestShow_23 : decode cX8_bestShow 23 = .ok (.aload_n 0, 1) := by decide +kernel
theorem dX8_bestShow_24 : decode cX8_bestShow 24 = .ok (.getfield 36, 3) := by decide +kernel
theorem dX8_bestShow_27 : decode cX8_bestShow 27 = .ok (.iload 4, 2) := by decide +kernel
theorem dX8_bestShow_29 : decode cX8_bestShow 29 = .ok (.invokevirtual 244, 3) := by decide +kernel
theorem dX8_bestShow_32 : decode cX8_bestShow 32 = .ok (.aload_n 0, 1) := by decide +kernel
theorem dX8_bestShow_33 : decode cX8_bestShow 33 = .ok (.getfield 57, 3) := by decide +kernel
theorem dX8_bestShow_36 : decode cX8_bestShow 36 = .ok (.aload_n 0, 1) := by decide +kernel
theorem dX8_bestShow_37 : decode cX8_bestShow 37 = .ok (.getfield 46, 3) := by decide +kernel
theorem dX8_bestShow_40 : decode cX8_bestShow 40 = .ok (.iconst 0, 1) := by decide +kernel
theorem dX8_bestShow_41 : decode cX8_bestShow 41 = .ok (.invokevirtual 248, 3) := by decide +kernel
theorem dX8_bestShow_44 : decode cX8_bestShow 44 = .ok (.aload_n 0, 1) := by decide +kernel
theorem dX8_bestShow_45 : decode cX8_bestShow 45 = .ok (.getfield 57, 3) := by decide +kernel
theorem dX8_bestShow_48 : decode cX8_bestShow 48 = .ok (.getfield 163, 3) := by decide +kernel
theorem dX8_bestShow_51 : decode cX8_bestShow 51 = .ok (.lload_n 2, 1) := by decide +kernel
theorem dX8_bestShow_52 : decode cX8_bestShow 52 = .ok (.lcmp, 1) := by decide +kernel
theorem dX8_bestShow_53 : decode cX8_bestShow 53 = .ok (.ifCond .le 14, 3) := by decide +kernel
theorem dX8_bestShow_56 : decode cX8_bestShow 56 = .ok (.aload_n 0, 1) := by decide +kernel
theorem dX8_bestShow_57 : decode cX8_bestShow 57 = .ok (.getfield 57, 3) := by decide +kernel
theorem dX8_bestShow_60 : decode cX8_bestShow 60 = .ok (.getfield 163, 3) := by decide +kernel
theorem dX8_bestShow_63 : decode cX8_bestShow 63 = .ok (.lstore_n 2, 1) := by decide +kernel
theorem dX8_bestShow_64 : decode cX8_bestShow 64 = .ok (.iload 4, 2) := by decide +kernel
theorem dX8_bestShow_66 : decode cX8_bestShow 66 = .ok (.istore_n 1, 1) := by decide +kernel
theorem dX8_bestShow_67 : decode cX8_bestShow 67 = .ok (.iinc 4 1, 3) := by decide +kernel
theorem dX8_bestShow_70 : decode cX8_bestShow 70 = .ok (.goto (-61), 3) := by decide +kernel
theorem dX8_bestShow_73 : decode cX8_bestShow 73 = .ok (.iload_n 1, 1) := by decide +kernel
theorem dX8_bestShow_74 : decode cX8_bestShow 74 = .ok (.ireturn, 1) := by decide +kernel
theorem dX8_rich_0 : decode cX8_rich 0 = .ok (.iload_n 1, 1) := by decide +kernel
theorem dX8_rich_1 : decode cX8_rich 1 = .ok (.iconst 0, 1) := by decide +kernel
theorem dX8_rich_2 : decode cX8_rich 2 = .ok (.bipush 99, 2) := by decide +kernel
theorem dX8_rich_4 : decode cX8_rich 4 = .ok (.invokestatic 102, 3) := by decide +kernel
theorem dX8_rich_7 : decode cX8_rich 7 = .ok (.ifCond .eq 18, 3) := by decide +kernel
theorem dX8_rich_10 : decode cX8_rich 10 = .ok (.iload_n 2, 1) := by decide +kernel
theorem dX8_rich_11 : decode cX8_rich 11 = .ok (.iconst 0, 1) := by decide +kernel
theorem dX8_rich_12 : decode cX8_rich 12 = .ok (.aload_n 0, 1) := by decide +kernel
theorem dX8_rich_13 : decode cX8_rich 13 = .ok (.getfield 26, 3) := by decide +kernel
theorem dX8_rich_16 : decode cX8_rich 16 = .ok (.getfield 94, 3) := by decide +kernel
theorem dX8_rich_19 : decode cX8_rich 19 = .ok (.invokestatic 102, 3) := by decide +kernel
theorem dX8_rich_22 : decode cX8_rich 22 = .ok (.ifCond .ne 7, 3) := by decide +kernel
theorem dX8_rich_25 : decode cX8_rich 25 = .ok (.ldc2_w 157, 3) := by decide +kernel
theorem dX8_rich_28 : decode cX8_rich 28 = .ok (.lreturn, 1) := by decide +kernel
theorem dX8_rich_29 : decode cX8_rich 29 = .ok (.aload_n 0, 1) := by decide +kernel
theorem dX8_rich_30 : decode cX8_rich 30 = .ok (.iload_n 1, 1) := by decide +kernel
theorem dX8_rich_31 : decode cX8_rich 31 = .ok (.aload_n 0, 1) := by decide +kernel
theorem dX8_rich_32 : decode cX8_rich 32 = .ok (.getfield 36, 3) := by decide +kernel
theorem dX8_rich_35 : decode cX8_rich 35 = .ok (.iload_n 2, 1) := by decide +kernel
theorem dX8_rich_36 : decode cX8_rich 36 = .ok (.invokevirtual 260, 3) := by decide +kernel
theorem dX8_rich_39 : decode cX8_rich 39 = .ok (.invokevirtual 263, 3) := by decide +kernel
theorem dX8_rich_42 : decode cX8_rich 42 = .ok (.lreturn, 1) := by decide +kernel
theorem dX8_richDay_0 : decode cX8_richDay 0 = .ok (.iload_n 1, 1) := by decide +kernel
theorem dX8_richDay_1 : decode cX8_richDay 1 = .ok (.iconst 0, 1) := by decide +kernel
theorem dX8_richDay_2 : decode cX8_richDay 2 = .ok (.bipush 99, 2) := by decide +kernel
theorem dX8_richDay_4 : decode cX8_richDay 4 = .ok (.invokestatic 102, 3) := by decide +kernel
theorem dX8_richDay_7 : decode cX8_richDay 7 = .ok (.ifCond .ne 5, 3) := by decide +kernel
theorem dX8_richDay_10 : decode cX8_richDay 10 = .ok (.iconst (-1), 1) := by decide +kernel
theorem dX8_richDay_11 : decode cX8_richDay 11 = .ok (.ireturn, 1) := by decide +kernel
theorem dX8_richDay_12 : decode cX8_richDay 12 = .ok (.iconst 0, 1) := by decide +kernel
theorem dX8_richDay_13 : decode cX8_richDay 13 = .ok (.istore_n 2, 1) := by decide +kernel
theorem dX8_richDay_14 : decode cX8_richDay 14 = .ok (.ldc2_w 157, 3) := by decide +kernel
theorem dX8_richDay_17 : decode cX8_richDay 17 = .ok (.lstore_n 3, 1) := by decide +kernel
theorem dX8_richDay_18 : decode cX8_richDay 18 = .ok (.iconst (-1), 1) := by decide +kernel
theorem dX8_richDay_19 : decode cX8_richDay 19 = .ok (.istore 5, 2) := by decide +kernel
theorem dX8_richDay_21 : decode cX8_richDay 21 = .ok (.iconst 0, 1) := by decide +kernel
theorem dX8_richDay_22 : decode cX8_richDay 22 = .ok (.istore 6, 2) := by decide +kernel
theorem dX8_richDay_24 : decode cX8_richDay 24 = .ok (.iload 6, 2) := by decide +kernel
theorem dX8_richDay_26 : decode cX8_richDay 26 = .ok (.aload_n 0, 1) := by decide +kernel
theorem dX8_richDay_27 : decode cX8_richDay 27 = .ok (.getfield 26, 3) := by decide +kernel
theorem dX8_richDay_30 : decode cX8_richDay 30 = .ok (.getfield 94, 3) := by decide +kernel
theorem dX8_richDay_33 : decode cX8_richDay 33 = .ok (.if_icmp .gt 56, 3) := by decide +kernel
theorem dX8_richDay_36 : decode cX8_richDay 36 = .ok (.aload_n 0, 1) := by decide +kernel
theorem dX8_richDay_37 : decode cX8_richDay 37 = .ok (.getfield 36, 3) := by decide +kernel
theorem dX8_richDay_40 : decode cX8_richDay 40 = .ok (.iload 6, 2) := by decide +kernel
theorem dX8_richDay_42 : decode cX8_richDay 42 = .ok (.invokevirtual 260, 3) := by decide +kernel
theorem dX8_richDay_45 : decode cX8_richDay 45 = .ok (.istore 7, 2) := by decide +kernel
theorem dX8_richDay_47 : decode cX8_richDay 47 = .ok (.iload 7, 2) := by decide +kernel
theorem dX8_richDay_49 : decode cX8_richDay 49 = .ok (.iload 5, 2) := by decide +kernel
theorem dX8_richDay_51 : decode cX8_richDay 51 = .ok (.if_icmp .ne 6, 3) := by decide +kernel
theorem dX8_richDay_54 : decode cX8_richDay 54 = .ok (.goto 29, 3) := by decide +kernel
theorem dX8_richDay_57 : decode cX8_richDay 57 = .ok (.iload 7, 2) := by decide +kernel
theorem dX8_richDay_59 : decode cX8_richDay 59 = .ok (.istore 5, 2) := by decide +kernel
theorem dX8_richDay_61 : decode cX8_richDay 61 = .ok (.aload_n 0, 1) := by decide +kernel
theorem dX8_richDay_62 : decode cX8_richDay 62 = .ok (.iload_n 1, 1) := by decide +kernel
theorem dX8_richDay_63 : decode cX8_richDay 63 = .ok (.iload 7, 2) := by decide +kernel
theorem dX8_richDay_65 : decode cX8_richDay 65 = .ok (.invokevirtual 263, 3) := by decide +kernel
theorem dX8_richDay_68 : decode cX8_richDay 68 = .ok (.lstore 8, 2) := by decide +kernel
theorem dX8_richDay_70 : decode cX8_richDay 70 = .ok (.lload 8, 2) := by decide +kernel
theorem dX8_richDay_72 : decode cX8_richDay 72 = .ok (.lload_n 3, 1) := by decide +kernel
theorem dX8_richDay_73 : decode cX8_richDay 73 = .ok (.lcmp, 1) := by decide +kernel
theorem dX8_richDay_74 : decode cX8_richDay 74 = .ok (.ifCond .le 9, 3) := by decide +kernel
theorem dX8_richDay_77 : decode cX8_richDay 77 = .ok (.lload 8, 2) := by decide +kernel
theorem dX8_richDay_79 : decode cX8_richDay 79 = .ok (.lstore_n 3, 1) := by decide +kernel
theorem dX8_richDay_80 : decode cX8_richDay 80 = .ok (.iload 6, 2) := by decide +kernel
theorem dX8_richDay_82 : decode cX8_richDay 82 = .ok (.istore_n 2, 1) := by decide +kernel
theorem dX8_richDay_83 : decode cX8_richDay 83 = .ok (.iinc 6 1, 3) := by decide +kernel
theorem dX8_richDay_86 : decode cX8_richDay 86 = .ok (.goto (-62), 3) := by decide +kernel
theorem dX8_richDay_89 : decode cX8_richDay 89 = .ok (.iload_n 2, 1) := by decide +kernel
theorem dX8_richDay_90 : decode cX8_richDay 90 = .ok (.ireturn, 1) := by decide +kernel
theorem dX8_two_0 : decode cX8_two 0 = .ok (.iload_n 1, 1) := by decide +kernel
theorem dX8_two_1 : decode cX8_two 1 = .ok (.iconst 0, 1) := by decide +kernel
theorem dX8_two_2 : decode cX8_two 2 = .ok (.iconst 2, 1) := by decide +kernel
theorem dX8_two_3 : decode cX8_two 3 = .ok (.invokestatic 102, 3) := by decide +kernel
theorem dX8_two_6 : decode cX8_two 6 = .ok (.ifCond .ne 7, 3) := by decide +kernel
theorem dX8_two_9 : decode cX8_two 9 = .ok (.ldc2_w 157, 3) := by decide +kernel
theorem dX8_two_12 : decode cX8_two 12 = .ok (.lreturn, 1) := by decide +kernel
theorem dX8_two_13 : decode cX8_two 13 = .ok (.aload_n 0, 1) := by decide +kernel
theorem dX8_two_14 : decode cX8_two 14 = .ok (.getfield 26, 3) := by decide +kernel
theorem dX8_two_17 : decode cX8_two 17 = .ok (.getfield 267, 3) := by decide +kernel
theorem dX8_two_20 : decode cX8_two 20 = .ok (.ifCond .ne 7, 3) := by decide +kernel
theorem dX8_two_23 : decode cX8_two 23 = .ok (.ldc2_w 270, 3) := by decide +kernel
theorem dX8_two_26 : decode cX8_two 26 = .ok (.lreturn, 1) := by decide +kernel
theorem dX8_two_27 : decode cX8_two 27 = .ok (.aload_n 0, 1) := by decide +kernel
theorem dX8_two_28 : decode cX8_two 28 = .ok (.invokevirtual 159, 3) := by decide +kernel
theorem dX8_two_31 : decode cX8_two 31 = .ok (.astore_n 2, 1) := by decide +kernel
theorem dX8_two_32 : decode cX8_two 32 = .ok (.iload_n 1, 1) := by decide +kernel
theorem dX8_two_33 : decode cX8_two 33 = .ok (.ifCond .ne 8, 3) := by decide +kernel
theorem dX8_two_36 : decode cX8_two 36 = .ok (.aload_n 2, 1) := by decide +kernel
theorem dX8_two_37 : decode cX8_two 37 = .ok (.getfield 163, 3) := by decide +kernel
theorem dX8_two_40 : decode cX8_two 40 = .ok (.lreturn, 1) := by decide +kernel
theorem dX8_two_41 : decode cX8_two 41 = .ok (.iload_n 1, 1) := by decide +kernel
theorem dX8_two_42 : decode cX8_two 42 = .ok (.iconst 1, 1) := by decide +kernel
theorem dX8_two_43 : decode cX8_two 43 = .ok (.if_icmp .ne 10, 3) := by decide +kernel
theorem dX8_two_46 : decode cX8_two 46 = .ok (.aload_n 2, 1) := by decide +kernel
theorem dX8_two_47 : decode cX8_two 47 = .ok (.getfield 272, 3) := by decide +kernel
theorem dX8_two_50 : decode cX8_two 50 = .ok (.goto 7, 3) := by decide +kernel
theorem dX8_two_53 : decode cX8_two 53 = .ok (.aload_n 2, 1) := by decide +kernel
theorem dX8_two_54 : decode cX8_two 54 = .ok (.getfield 275, 3) := by decide +kernel
theorem dX8_two_57 : decode cX8_two 57 = .ok (.lreturn, 1) := by decide +kernel
theorem dX8_evening_0 : decode cX8_evening 0 = .ok (.iload_n 1, 1) := by decide +kernel
theorem dX8_evening_1 : decode cX8_evening 1 = .ok (.iconst 0, 1) := by decide +kernel
theorem dX8_evening_2 : decode cX8_evening 2 = .ok (.sipush 9999, 3) := by decide +kernel
theorem dX8_evening_5 : decode cX8_evening 5 = .ok (.invokestatic 102, 3) := by decide +kernel
theorem dX8_evening_8 : decode cX8_evening 8 = .ok (.ifCond .eq 20, 3) := by decide +kernel
theorem dX8_evening_11 : decode cX8_evening 11 = .ok (.aload_n 0, 1) := by decide +kernel
theorem dX8_evening_12 : decode cX8_evening 12 = .ok (.iload_n 2, 1) := by decide +kernel
theorem dX8_evening_13 : decode cX8_evening 13 = .ok (.invokevirtual 140, 3) := by decide +kernel
theorem dX8_evening_16 : decode cX8_evening 16 = .ok (.ifCond .eq 12, 3) := by decide +kernel
theorem dX8_evening_19 : decode cX8_evening 19 = .ok (.iload_n 3, 1) := by decide +kernel
theorem dX8_evening_20 : decode cX8_evening 20 = .ok (.iconst 0, 1) := by decide +kernel
theorem dX8_evening_21 : decode cX8_evening 21 = .ok (.iconst 1, 1) := by decide +kernel
theorem dX8_evening_22 : decode cX8_evening 22 = .ok (.invokestatic 102, 3) := by decide +kernel
theorem dX8_evening_25 : decode cX8_evening 25 = .ok (.ifCond .ne 7, 3) := by decide +kernel
theorem dX8_evening_28 : decode cX8_evening 28 = .ok (.sipush (-1001), 3) := by decide +kernel
theorem dX8_evening_31 : decode cX8_evening 31 = .ok (.ireturn, 1) := by decide +kernel
theorem dX8_evening_32 : decode cX8_evening 32 = .ok (.aload_n 0, 1) := by decide +kernel
theorem dX8_evening_33 : decode cX8_evening 33 = .ok (.getfield 36, 3) := by decide +kernel
theorem dX8_evening_36 : decode cX8_evening 36 = .ok (.iload_n 2, 1) := by decide +kernel
theorem dX8_evening_37 : decode cX8_evening 37 = .ok (.invokevirtual 144, 3) := by decide +kernel
theorem dX8_evening_40 : decode cX8_evening 40 = .ok (.istore 4, 2) := by decide +kernel
theorem dX8_evening_42 : decode cX8_evening 42 = .ok (.iload 4, 2) := by decide +kernel
theorem dX8_evening_44 : decode cX8_evening 44 = .ok (.bipush (-4), 2) := by decide +kernel
theorem dX8_evening_46 : decode cX8_evening 46 = .ok (.if_icmp .ne 7, 3) := by decide +kernel
theorem dX8_evening_49 : decode cX8_evening 49 = .ok (.sipush (-1004), 3) := by decide +kernel
theorem dX8_evening_52 : decode cX8_evening 52 = .ok (.ireturn, 1) := by decide +kernel
theorem dX8_evening_53 : decode cX8_evening 53 = .ok (.aload_n 0, 1) := by decide +kernel
theorem dX8_evening_54 : decode cX8_evening 54 = .ok (.iload_n 1, 1) := by decide +kernel
theorem dX8_evening_55 : decode cX8_evening 55 = .ok (.invokevirtual 278, 3) := by decide +kernel
theorem dX8_evening_58 : decode cX8_evening 58 = .ok (.iload_n 3, 1) := by decide +kernel
theorem dX8_evening_59 : decode cX8_evening 59 = .ok (.ifCond .ne 16, 3) := by decide +kernel
theorem dX8_evening_62 : decode cX8_evening 62 = .ok (.aload_n 0, 1) := by decide +kernel
theorem dX8_evening_63 : decode cX8_evening 63 = .ok (.getfield 46, 3) := by decide +kernel
theorem dX8_evening_66 : decode cX8_evening 66 = .ok (.getfield 282, 3) := by decide +kernel
theorem dX8_evening_69 : decode cX8_evening 69 = .ok (.iload 4, 2) := by decide +kernel
theorem dX8_evening_71 : decode cX8_evening 71 = .ok (.iaload, 1) := by decide +kernel
theorem dX8_evening_72 : decode cX8_evening 72 = .ok (.goto 19, 3) := by decide +kernel
theorem dX8_evening_75 : decode cX8_evening 75 = .ok (.aload_n 0, 1) := by decide +kernel
theorem dX8_evening_76 : decode cX8_evening 76 = .ok (.getfield 46, 3) := by decide +kernel
theorem dX8_evening_79 : decode cX8_evening 79 = .ok (.iload 4, 2) := by decide +kernel
theorem dX8_evening_81 : decode cX8_evening 81 = .ok (.aload_n 0, 1) := by decide +kernel
theorem dX8_evening_82 : decode cX8_evening 82 = .ok (.iload_n 1, 1) := by decide +kernel
theorem dX8_evening_83 : decode cX8_evening 83 = .ok (.iload 4, 2) := by decide +kernel
theorem dX8_evening_85 : decode cX8_evening 85 = .ok (.invokevirtual 285, 3) := by decide +kernel
theorem dX8_evening_88 : decode cX8_evening 88 = .ok (.invokevirtual 289, 3) := by decide +kernel
theorem dX8_evening_91 : decode cX8_evening 91 = .ok (.ireturn, 1) := by decide +kernel
theorem dX8_whole_0 : decode cX8_whole 0 = .ok (.iload_n 1, 1) := by decide +kernel
theorem dX8_whole_1 : decode cX8_whole 1 = .ok (.iconst 0, 1) := by decide +kernel
theorem dX8_whole_2 : decode cX8_whole 2 = .ok (.sipush 9999, 3) := by decide +kernel
theorem dX8_whole_5 : decode cX8_whole 5 = .ok (.invokestatic 102, 3) := by decide +kernel
theorem dX8_whole_8 : decode cX8_whole 8 = .ok (.ifCond .eq 12, 3) := by decide +kernel
theorem dX8_whole_11 : decode cX8_whole 11 = .ok (.iload_n 2, 1) := by decide +kernel
theorem dX8_whole_12 : decode cX8_whole 12 = .ok (.iconst 0, 1) := by decide +kernel
theorem dX8_whole_13 : decode cX8_whole 13 = .ok (.iconst 1, 1) := by decide +kernel
theorem dX8_whole_14 : decode cX8_whole 14 = .ok (.invokestatic 102, 3) := by decide +kernel
theorem dX8_whole_17 : decode cX8_whole 17 = .ok (.ifCond .ne 5, 3) := by decide +kernel
theorem dX8_whole_20 : decode cX8_whole 20 = .ok (.iconst (-1), 1) := by decide +kernel
theorem dX8_whole_21 : decode cX8_whole 21 = .ok (.ireturn, 1) := by decide +kernel
theorem dX8_whole_22 : decode cX8_whole 22 = .ok (.aload_n 0, 1) := by decide +kernel
theorem dX8_whole_23 : decode cX8_whole 23 = .ok (.iload_n 1, 1) := by decide +kernel
theorem dX8_whole_24 : decode cX8_whole 24 = .ok (.invokevirtual 278, 3) := by decide +kernel
theorem dX8_whole_27 : decode cX8_whole 27 = .ok (.iload_n 2, 1) := by decide +kernel
theorem dX8_whole_28 : decode cX8_whole 28 = .ok (.ifCond .ne 19, 3) := by decide +kernel
theorem dX8_whole_31 : decode cX8_whole 31 = .ok (.aload_n 0, 1) := by decide +kernel
theorem dX8_whole_32 : decode cX8_whole 32 = .ok (.getfield 46, 3) := by decide +kernel
theorem dX8_whole_35 : decode cX8_whole 35 = .ok (.getfield 292, 3) := by decide +kernel
theorem dX8_whole_38 : decode cX8_whole 38 = .ok (.aload_n 0, 1) := by decide +kernel
theorem dX8_whole_39 : decode cX8_whole 39 = .ok (.getfield 36, 3) := by decide +kernel
theorem dX8_whole_42 : decode cX8_whole 42 = .ok (.getfield 197, 3) := by decide +kernel
theorem dX8_whole_45 : decode cX8_whole 45 = .ok (.iaload, 1) := by decide +kernel
theorem dX8_whole_46 : decode cX8_whole 46 = .ok (.ireturn, 1) := by decide +kernel
theorem dX8_whole_47 : decode cX8_whole 47 = .ok (.aload_n 0, 1) := by decide +kernel
theorem dX8_whole_48 : decode cX8_whole 48 = .ok (.getfield 46, 3) := by decide +kernel
theorem dX8_whole_51 : decode cX8_whole 51 = .ok (.invokevirtual 295, 3) := by decide +kernel
theorem dX8_whole_54 : decode cX8_whole 54 = .ok (.ifCond .eq 7, 3) := by decide +kernel
theorem dX8_whole_57 : decode cX8_whole 57 = .ok (.iconst 1, 1) := by decide +kernel
theorem dX8_whole_58 : decode cX8_whole 58 = .ok (.goto 4, 3) := by decide +kernel
theorem dX8_whole_61 : decode cX8_whole 61 = .ok (.iconst 0, 1) := by decide +kernel
theorem dX8_whole_62 : decode cX8_whole 62 = .ok (.ireturn, 1) := by decide +kernel
theorem dX8_keep_0 : decode cX8_keep 0 = .ok (.aload_n 0, 1) := by decide +kernel
theorem dX8_keep_1 : decode cX8_keep 1 = .ok (.getfield 127, 3) := by decide +kernel
theorem dX8_keep_4 : decode cX8_keep 4 = .ok (.iconst 2, 1) := by decide +kernel
theorem dX8_keep_5 : decode cX8_keep 5 = .ok (.if_icmp .lt 6, 3) := by decide +kernel
theorem dX8_keep_8 : decode cX8_keep 8 = .ok (.bipush (-3), 2) := by decide +kernel
theorem dX8_keep_10 : decode cX8_keep 10 = .ok (.ireturn, 1) := by decide +kernel
theorem dX8_keep_11 : decode cX8_keep 11 = .ok (.aload_n 0, 1) := by decide +kernel
theorem dX8_keep_12 : decode cX8_keep 12 = .ok (.getfield 69, 3) := by decide +kernel
theorem dX8_keep_15 : decode cX8_keep 15 = .ok (.iconst 0, 1) := by decide +kernel
theorem dX8_keep_16 : decode cX8_keep 16 = .ok (.aload_n 0, 1) := by decide +kernel
theorem dX8_keep_17 : decode cX8_keep 17 = .ok (.getfield 73, 3) := by decide +kernel
theorem dX8_keep_20 : decode cX8_keep 20 = .ok (.aload_n 0, 1) := by decide +kernel
theorem dX8_keep_21 : decode cX8_keep 21 = .ok (.getfield 127, 3) := by decide +kernel
theorem dX8_keep_24 : decode cX8_keep 24 = .ok (.bipush 8, 2) := by decide +kernel
theorem dX8_keep_26 : decode cX8_keep 26 = .ok (.imul, 1) := by decide +kernel
theorem dX8_keep_27 : decode cX8_keep 27 = .ok (.bipush 8, 2) := by decide +kernel
theorem dX8_keep_29 : decode cX8_keep 29 = .ok (.invokestatic 299, 3) := by decide +kernel
theorem dX8_keep_32 : decode cX8_keep 32 = .ok (.aload_n 0, 1) := by decide +kernel
theorem dX8_keep_33 : decode cX8_keep 33 = .ok (.getfield 76, 3) := by decide +kernel
theorem dX8_keep_36 : decode cX8_keep 36 = .ok (.aload_n 0, 1) := by decide +kernel
theorem dX8_keep_37 : decode cX8_keep 37 = .ok (.getfield 127, 3) := by decide +kernel
theorem dX8_keep_40 : decode cX8_keep 40 = .ok (.aload_n 0, 1) := by decide +kernel
theorem dX8_keep_41 : decode cX8_keep 41 = .ok (.getfield 124, 3) := by decide +kernel
theorem dX8_keep_44 : decode cX8_keep 44 = .ok (.iastore, 1) := by decide +kernel
theorem dX8_keep_45 : decode cX8_keep 45 = .ok (.aload_n 0, 1) := by decide +kernel
theorem dX8_keep_46 : decode cX8_keep 46 = .ok (.dup, 1) := by decide +kernel
theorem dX8_keep_47 : decode cX8_keep 47 = .ok (.getfield 127, 3) := by decide +kernel
theorem dX8_keep_50 : decode cX8_keep 50 = .ok (.iconst 1, 1) := by decide +kernel
theorem dX8_keep_51 : decode cX8_keep 51 = .ok (.iadd, 1) := by decide +kernel
theorem dX8_keep_52 : decode cX8_keep 52 = .ok (.putfield 127, 3) := by decide +kernel
theorem dX8_keep_55 : decode cX8_keep 55 = .ok (.aload_n 0, 1) := by decide +kernel
theorem dX8_keep_56 : decode cX8_keep 56 = .ok (.getfield 127, 3) := by decide +kernel
theorem dX8_keep_59 : decode cX8_keep 59 = .ok (.ireturn, 1) := by decide +kernel
theorem dX8_back_0 : decode cX8_back 0 = .ok (.aload_n 0, 1) := by decide +kernel
theorem dX8_back_1 : decode cX8_back 1 = .ok (.getfield 127, 3) := by decide +kernel
theorem dX8_back_4 : decode cX8_back 4 = .ok (.iconst 1, 1) := by decide +kernel
theorem dX8_back_5 : decode cX8_back 5 = .ok (.if_icmp .ge 6, 3) := by decide +kernel
theorem dX8_back_8 : decode cX8_back 8 = .ok (.bipush (-2), 2) := by decide +kernel
theorem dX8_back_10 : decode cX8_back 10 = .ok (.ireturn, 1) := by decide +kernel
theorem dX8_back_11 : decode cX8_back 11 = .ok (.aload_n 0, 1) := by decide +kernel
theorem dX8_back_12 : decode cX8_back 12 = .ok (.dup, 1) := by decide +kernel
theorem dX8_back_13 : decode cX8_back 13 = .ok (.getfield 127, 3) := by decide +kernel
theorem dX8_back_16 : decode cX8_back 16 = .ok (.iconst 1, 1) := by decide +kernel
theorem dX8_back_17 : decode cX8_back 17 = .ok (.isub, 1) := by decide +kernel
theorem dX8_back_18 : decode cX8_back 18 = .ok (.putfield 127, 3) := by decide +kernel
theorem dX8_back_21 : decode cX8_back 21 = .ok (.aload_n 0, 1) := by decide +kernel
theorem dX8_back_22 : decode cX8_back 22 = .ok (.getfield 73, 3) := by decide +kernel
theorem dX8_back_25 : decode cX8_back 25 = .ok (.aload_n 0, 1) := by decide +kernel
theorem dX8_back_26 : decode cX8_back 26 = .ok (.getfield 127, 3) := by decide +kernel
theorem dX8_back_29 : decode cX8_back 29 = .ok (.bipush 8, 2) := by decide +kernel
theorem dX8_back_31 : decode cX8_back 31 = .ok (.imul, 1) := by decide +kernel
theorem dX8_back_32 : decode cX8_back 32 = .ok (.aload_n 0, 1) := by decide +kernel
theorem dX8_back_33 : decode cX8_back 33 = .ok (.getfield 69, 3) := by decide +kernel
theorem dX8_back_36 : decode cX8_back 36 = .ok (.iconst 0, 1) := by decide +kernel
theorem dX8_back_37 : decode cX8_back 37 = .ok (.bipush 8, 2) := by decide +kernel
theorem dX8_back_39 : decode cX8_back 39 = .ok (.invokestatic 299, 3) := by decide +kernel
theorem dX8_back_42 : decode cX8_back 42 = .ok (.aload_n 0, 1) := by decide +kernel
theorem dX8_back_43 : decode cX8_back 43 = .ok (.aload_n 0, 1) := by decide +kernel
theorem dX8_back_44 : decode cX8_back 44 = .ok (.getfield 76, 3) := by decide +kernel
theorem dX8_back_47 : decode cX8_back 47 = .ok (.aload_n 0, 1) := by decide +kernel
theorem dX8_back_48 : decode cX8_back 48 = .ok (.getfield 127, 3) := by decide +kernel
theorem dX8_back_51 : decode cX8_back 51 = .ok (.iaload, 1) := by decide +kernel
theorem dX8_back_52 : decode cX8_back 52 = .ok (.putfield 124, 3) := by decide +kernel
theorem dX8_back_55 : decode cX8_back 55 = .ok (.aload_n 0, 1) := by decide +kernel
theorem dX8_back_56 : decode cX8_back 56 = .ok (.invokevirtual 134, 3) := by decide +kernel
theorem dX8_back_59 : decode cX8_back 59 = .ok (.aload_n 0, 1) := by decide +kernel
theorem dX8_back_60 : decode cX8_back 60 = .ok (.getfield 127, 3) := by decide +kernel
theorem dX8_back_63 : decode cX8_back 63 = .ok (.ireturn, 1) := by decide +kernel
theorem dX8_count_0 : decode cX8_count 0 = .ok (.iload_n 1, 1) := by decide +kernel
theorem dX8_count_1 : decode cX8_count 1 = .ok (.tableswitch 102 0 6 #[43, 54, 62, 73, 81, 86, 94], 43) := by decide +kernel
theorem dX8_count_44 : decode cX8_count 44 = .ok (.aload_n 0, 1) := by decide +kernel
theorem dX8_count_45 : decode cX8_count 45 = .ok (.getfield 26, 3) := by decide +kernel
theorem dX8_count_48 : decode cX8_count 48 = .ok (.getfield 82, 3) := by decide +kernel
theorem dX8_count_51 : decode cX8_count 51 = .ok (.getfield 137, 3) := by decide +kernel
theorem dX8_count_54 : decode cX8_count 54 = .ok (.ireturn, 1) := by decide +kernel
theorem dX8_count_55 : decode cX8_count 55 = .ok (.aload_n 0, 1) := by decide +kernel
theorem dX8_count_56 : decode cX8_count 56 = .ok (.getfield 36, 3) := by decide +kernel
theorem dX8_count_59 : decode cX8_count 59 = .ok (.getfield 197, 3) := by decide +kernel
theorem dX8_count_62 : decode cX8_count 62 = .ok (.ireturn, 1) := by decide +kernel
theorem dX8_count_63 : decode cX8_count 63 = .ok (.aload_n 0, 1) := by decide +kernel
theorem dX8_count_64 : decode cX8_count 64 = .ok (.getfield 26, 3) := by decide +kernel
theorem dX8_count_67 : decode cX8_count 67 = .ok (.getfield 82, 3) := by decide +kernel
theorem dX8_count_70 : decode cX8_count 70 = .ok (.getfield 116, 3) := by decide +kernel
theorem dX8_count_73 : decode cX8_count 73 = .ok (.ireturn, 1) := by decide +kernel
theorem dX8_count_74 : decode cX8_count 74 = .ok (.aload_n 0, 1) := by decide +kernel
theorem dX8_count_75 : decode cX8_count 75 = .ok (.getfield 10, 3) := by decide +kernel
theorem dX8_count_78 : decode cX8_count 78 = .ok (.getfield 109, 3) := by decide +kernel
theorem dX8_count_81 : decode cX8_count 81 = .ok (.ireturn, 1) := by decide +kernel
theorem dX8_count_82 : decode cX8_count 82 = .ok (.aload_n 0, 1) := by decide +kernel
theorem dX8_count_83 : decode cX8_count 83 = .ok (.getfield 127, 3) := by decide +kernel
theorem dX8_count_86 : decode cX8_count 86 = .ok (.ireturn, 1) := by decide +kernel
theorem dX8_count_87 : decode cX8_count 87 = .ok (.aload_n 0, 1) := by decide +kernel
theorem dX8_count_88 : decode cX8_count 88 = .ok (.getfield 26, 3) := by decide +kernel
theorem dX8_count_91 : decode cX8_count 91 = .ok (.getfield 210, 3) := by decide +kernel
theorem dX8_count_94 : decode cX8_count 94 = .ok (.ireturn, 1) := by decide +kernel
theorem dX8_count_95 : decode cX8_count 95 = .ok (.aload_n 0, 1) := by decide +kernel
theorem dX8_count_96 : decode cX8_count 96 = .ok (.getfield 26, 3) := by decide +kernel
theorem dX8_count_99 : decode cX8_count 99 = .ok (.getfield 94, 3) := by decide +kernel
theorem dX8_count_102 : decode cX8_count 102 = .ok (.ireturn, 1) := by decide +kernel
theorem dX8_count_103 : decode cX8_count 103 = .ok (.iconst (-1), 1) := by decide +kernel
theorem dX8_count_104 : decode cX8_count 104 = .ok (.ireturn, 1) := by decide +kernel
theorem dX8_isWithin_0 : decode cX8_isWithin 0 = .ok (.iload_n 0, 1) := by decide +kernel
theorem dX8_isWithin_1 : decode cX8_isWithin 1 = .ok (.iload_n 1, 1) := by decide +kernel
theorem dX8_isWithin_2 : decode cX8_isWithin 2 = .ok (.if_icmp .lt 12, 3) := by decide +kernel
theorem dX8_isWithin_5 : decode cX8_isWithin 5 = .ok (.iload_n 0, 1) := by decide +kernel
theorem dX8_isWithin_6 : decode cX8_isWithin 6 = .ok (.iload_n 2, 1) := by decide +kernel
theorem dX8_isWithin_7 : decode cX8_isWithin 7 = .ok (.if_icmp .gt 7, 3) := by decide +kernel
theorem dX8_isWithin_10 : decode cX8_isWithin 10 = .ok (.iconst 1, 1) := by decide +kernel
theorem dX8_isWithin_11 : decode cX8_isWithin 11 = .ok (.goto 4, 3) := by decide +kernel
theorem dX8_isWithin_14 : decode cX8_isWithin 14 = .ok (.iconst 0, 1) := by decide +kernel
theorem dX8_isWithin_15 : decode cX8_isWithin 15 = .ok (.ireturn, 1) := by decide +kernel
theorem dX8_isGiver_0 : decode cX8_isGiver 0 = .ok (.iload_n 1, 1) := by decide +kernel
theorem dX8_isGiver_1 : decode cX8_isGiver 1 = .ok (.ifCond .lt 21, 3) := by decide +kernel
theorem dX8_isGiver_4 : decode cX8_isGiver 4 = .ok (.iload_n 1, 1) := by decide +kernel
theorem dX8_isGiver_5 : decode cX8_isGiver 5 = .ok (.aload_n 0, 1) := by decide +kernel
theorem dX8_isGiver_6 : decode cX8_isGiver 6 = .ok (.getfield 26, 3) := by decide +kernel
theorem dX8_isGiver_9 : decode cX8_isGiver 9 = .ok (.getfield 82, 3) := by decide +kernel
theorem dX8_isGiver_12 : decode cX8_isGiver 12 = .ok (.getfield 137, 3) := by decide +kernel
theorem dX8_isGiver_15 : decode cX8_isGiver 15 = .ok (.if_icmp .ge 7, 3) := by decide +kernel
theorem dX8_isGiver_18 : decode cX8_isGiver 18 = .ok (.iconst 1, 1) := by decide +kernel
theorem dX8_isGiver_19 : decode cX8_isGiver 19 = .ok (.goto 4, 3) := by decide +kernel
theorem dX8_isGiver_22 : decode cX8_isGiver 22 = .ok (.iconst 0, 1) := by decide +kernel
theorem dX8_isGiver_23 : decode cX8_isGiver 23 = .ok (.ireturn, 1) := by decide +kernel
theorem dX8_greatestPart_0 : decode cX8_greatestPart 0 = .ok (.iconst 0, 1) := by decide +kernel
theorem dX8_greatestPart_1 : decode cX8_greatestPart 1 = .ok (.istore 4, 2) := by decide +kernel
theorem dX8_greatestPart_3 : decode cX8_greatestPart 3 = .ok (.iload 4, 2) := by decide +kernel
theorem dX8_greatestPart_5 : decode cX8_greatestPart 5 = .ok (.bipush 100, 2) := by decide +kernel
theorem dX8_greatestPart_7 : decode cX8_greatestPart 7 = .ok (.if_icmp .ge 25, 3) := by decide +kernel
theorem dX8_greatestPart_10 : decode cX8_greatestPart 10 = .ok (.lload_n 2, 1) := by decide +kernel
theorem dX8_greatestPart_11 : decode cX8_greatestPart 11 = .ok (.lconst 0, 1) := by decide +kernel
theorem dX8_greatestPart_12 : decode cX8_greatestPart 12 = .ok (.lcmp, 1) := by decide +kernel
theorem dX8_greatestPart_13 : decode cX8_greatestPart 13 = .ok (.ifCond .eq 19, 3) := by decide +kernel
theorem dX8_greatestPart_16 : decode cX8_greatestPart 16 = .ok (.lload_n 0, 1) := by decide +kernel
theorem dX8_greatestPart_17 : decode cX8_greatestPart 17 = .ok (.lload_n 2, 1) := by decide +kernel
theorem dX8_greatestPart_18 : decode cX8_greatestPart 18 = .ok (.lrem, 1) := by decide +kernel
theorem dX8_greatestPart_19 : decode cX8_greatestPart 19 = .ok (.lstore 5, 2) := by decide +kernel
theorem dX8_greatestPart_21 : decode cX8_greatestPart 21 = .ok (.lload_n 2, 1) := by decide +kernel
theorem dX8_greatestPart_22 : decode cX8_greatestPart 22 = .ok (.lstore_n 0, 1) := by decide +kernel
theorem dX8_greatestPart_23 : decode cX8_greatestPart 23 = .ok (.lload 5, 2) := by decide +kernel
theorem dX8_greatestPart_25 : decode cX8_greatestPart 25 = .ok (.lstore_n 2, 1) := by decide +kernel
theorem dX8_greatestPart_26 : decode cX8_greatestPart 26 = .ok (.iinc 4 1, 3) := by decide +kernel
theorem dX8_greatestPart_29 : decode cX8_greatestPart 29 = .ok (.goto (-26), 3) := by decide +kernel
theorem dX8_greatestPart_32 : decode cX8_greatestPart 32 = .ok (.lload_n 0, 1) := by decide +kernel
theorem dX8_greatestPart_33 : decode cX8_greatestPart 33 = .ok (.lconst 0, 1) := by decide +kernel
theorem dX8_greatestPart_34 : decode cX8_greatestPart 34 = .ok (.lcmp, 1) := by decide +kernel
theorem dX8_greatestPart_35 : decode cX8_greatestPart 35 = .ok (.ifCond .ne 7, 3) := by decide +kernel
theorem dX8_greatestPart_38 : decode cX8_greatestPart 38 = .ok (.lconst 1, 1) := by decide +kernel
theorem dX8_greatestPart_39 : decode cX8_greatestPart 39 = .ok (.goto 4, 3) := by decide +kernel
theorem dX8_greatestPart_42 : decode cX8_greatestPart 42 = .ok (.lload_n 0, 1) := by decide +kernel
theorem dX8_greatestPart_43 : decode cX8_greatestPart 43 = .ok (.lreturn, 1) := by decide +kernel
theorem dX8_forgetWays_0 : decode cX8_forgetWays 0 = .ok (.aload_n 0, 1) := by decide +kernel
theorem dX8_forgetWays_1 : decode cX8_forgetWays 1 = .ok (.iconst 0, 1) := by decide +kernel
theorem dX8_forgetWays_2 : decode cX8_forgetWays 2 = .ok (.putfield 305, 3) := by decide +kernel
theorem dX8_forgetWays_5 : decode cX8_forgetWays 5 = .ok (.aload_n 0, 1) := by decide +kernel
theorem dX8_forgetWays_6 : decode cX8_forgetWays 6 = .ok (.iconst 0, 1) := by decide +kernel
theorem dX8_forgetWays_7 : decode cX8_forgetWays 7 = .ok (.putfield 232, 3) := by decide +kernel
theorem dX8_forgetWays_10 : decode cX8_forgetWays 10 = .ok (.return_, 1) := by decide +kernel
theorem dX8_setGame_0 : decode cX8_setGame 0 = .ok (.aload_n 0, 1) := by decide +kernel
theorem dX8_setGame_1 : decode cX8_setGame 1 = .ok (.getfield 46, 3) := by decide +kernel
theorem dX8_setGame_4 : decode cX8_setGame 4 = .ok (.aload_n 0, 1) := by decide +kernel
theorem dX8_setGame_5 : decode cX8_setGame 5 = .ok (.getfield 26, 3) := by decide +kernel
theorem dX8_setGame_8 : decode cX8_setGame 8 = .ok (.aload_n 0, 1) := by decide +kernel
theorem dX8_setGame_9 : decode cX8_setGame 9 = .ok (.getfield 36, 3) := by decide +kernel
theorem dX8_setGame_12 : decode cX8_setGame 12 = .ok (.aload_n 0, 1) := by decide +kernel
theorem dX8_setGame_13 : decode cX8_setGame 13 = .ok (.getfield 124, 3) := by decide +kernel
theorem dX8_setGame_16 : decode cX8_setGame 16 = .ok (.invokevirtual 244, 3) := by decide +kernel
theorem dX8_setGame_19 : decode cX8_setGame 19 = .ok (.return_, 1) := by decide +kernel
theorem dX8_waysAsTheyStand_0 : decode cX8_waysAsTheyStand 0 = .ok (.aload_n 0, 1) := by decide +kernel
theorem dX8_waysAsTheyStand_1 : decode cX8_waysAsTheyStand 1 = .ok (.getfield 305, 3) := by decide +kernel
theorem dX8_waysAsTheyStand_4 : decode cX8_waysAsTheyStand 4 = .ok (.ifCond .ne 24, 3) := by decide +kernel
theorem dX8_waysAsTheyStand_7 : decode cX8_waysAsTheyStand 7 = .ok (.aload_n 0, 1) := by decide +kernel
theorem dX8_waysAsTheyStand_8 : decode cX8_waysAsTheyStand 8 = .ok (.invokevirtual 194, 3) := by decide +kernel
theorem dX8_waysAsTheyStand_11 : decode cX8_waysAsTheyStand 11 = .ok (.aload_n 0, 1) := by decide +kernel
theorem dX8_waysAsTheyStand_12 : decode cX8_waysAsTheyStand 12 = .ok (.getfield 53, 3) := by decide +kernel
theorem dX8_waysAsTheyStand_15 : decode cX8_waysAsTheyStand 15 = .ok (.aload_n 0, 1) := by decide +kernel
theorem dX8_waysAsTheyStand_16 : decode cX8_waysAsTheyStand 16 = .ok (.getfield 46, 3) := by decide +kernel
theorem dX8_waysAsTheyStand_19 : decode cX8_waysAsTheyStand 19 = .ok (.iconst 1, 1) := by decide +kernel
theorem dX8_waysAsTheyStand_20 : decode cX8_waysAsTheyStand 20 = .ok (.invokevirtual 248, 3) := by decide +kernel
theorem dX8_waysAsTheyStand_23 : decode cX8_waysAsTheyStand 23 = .ok (.aload_n 0, 1) := by decide +kernel
theorem dX8_waysAsTheyStand_24 : decode cX8_waysAsTheyStand 24 = .ok (.iconst 1, 1) := by decide +kernel
theorem dX8_waysAsTheyStand_25 : decode cX8_waysAsTheyStand 25 = .ok (.putfield 305, 3) := by decide +kernel
theorem dX8_waysAsTheyStand_28 : decode cX8_waysAsTheyStand 28 = .ok (.aload_n 0, 1) := by decide +kernel
theorem dX8_waysAsTheyStand_29 : decode cX8_waysAsTheyStand 29 = .ok (.getfield 53, 3) := by decide +kernel
theorem dX8_waysAsTheyStand_32 : decode cX8_waysAsTheyStand 32 = .ok (.areturn, 1) := by decide +kernel
theorem dX8_findBestBar_0 : decode cX8_findBestBar 0 = .ok (.iconst 1, 1) := by decide +kernel
theorem dX8_findBestBar_1 : decode cX8_findBestBar 1 = .ok (.istore_n 1, 1) := by decide +kernel
theorem dX8_findBestBar_2 : decode cX8_findBestBar 2 = .ok (.iload_n 1, 1) := by decide +kernel
theorem dX8_findBestBar_3 : decode cX8_findBestBar 3 = .ok (.bipush 60, 2) := by decide +kernel
theorem dX8_findBestBar_5 : decode cX8_findBestBar 5 = .ok (.if_icmp .gt 73, 3) := by decide +kernel
theorem dX8_findBestBar_8 : decode cX8_findBestBar 8 = .ok (.aload_n 0, 1) := by decide +kernel
theorem dX8_findBestBar_9 : decode cX8_findBestBar 9 = .ok (.invokevirtual 194, 3) := by decide +kernel
theorem dX8_findBestBar_12 : decode cX8_findBestBar 12 = .ok (.aload_n 0, 1) := by decide +kernel
theorem dX8_findBestBar_13 : decode cX8_findBestBar 13 = .ok (.getfield 46, 3) := by decide +kernel
theorem dX8_findBestBar_16 : decode cX8_findBestBar 16 = .ok (.iload_n 1, 1) := by decide +kernel
theorem dX8_findBestBar_17 : decode cX8_findBestBar 17 = .ok (.putfield 308, 3) := by decide +kernel
theorem dX8_findBestBar_20 : decode cX8_findBestBar 20 = .ok (.aload_n 0, 1) := by decide +kernel
theorem dX8_findBestBar_21 : decode cX8_findBestBar 21 = .ok (.getfield 57, 3) := by decide +kernel
theorem dX8_findBestBar_24 : decode cX8_findBestBar 24 = .ok (.aload_n 0, 1) := by decide +kernel
theorem dX8_findBestBar_25 : decode cX8_findBestBar 25 = .ok (.getfield 46, 3) := by decide +kernel
theorem dX8_findBestBar_28 : decode cX8_findBestBar 28 = .ok (.iconst 0, 1) := by decide +kernel
theorem dX8_findBestBar_29 : decode cX8_findBestBar 29 = .ok (.invokevirtual 248, 3) := by decide +kernel
theorem dX8_findBestBar_32 : decode cX8_findBestBar 32 = .ok (.aload_n 0, 1) := by decide +kernel
theorem dX8_findBestBar_33 : decode cX8_findBestBar 33 = .ok (.getfield 57, 3) := by decide +kernel
theorem dX8_findBestBar_36 : decode cX8_findBestBar 36 = .ok (.getfield 188, 3) := by decide +kernel
theorem dX8_findBestBar_39 : decode cX8_findBestBar 39 = .ok (.aload_n 0, 1) := by decide +kernel
theorem dX8_findBestBar_40 : decode cX8_findBestBar 40 = .ok (.getfield 57, 3) := by decide +kernel
theorem dX8_findBestBar_43 : decode cX8_findBestBar 43 = .ok (.getfield 191, 3) := by decide +kernel
theorem dX8_findBestBar_46 : decode cX8_findBestBar 46 = .ok (.ladd, 1) := by decide +kernel
theorem dX8_findBestBar_47 : decode cX8_findBestBar 47 = .ok (.lstore_n 2, 1) := by decide +kernel
theorem dX8_findBestBar_48 : decode cX8_findBestBar 48 = .ok (.iload_n 1, 1) := by decide +kernel
theorem dX8_findBestBar_49 : decode cX8_findBestBar 49 = .ok (.iconst 1, 1) := by decide +kernel
theorem dX8_findBestBar_50 : decode cX8_findBestBar 50 = .ok (.if_icmp .eq 12, 3) := by decide +kernel
theorem dX8_findBestBar_53 : decode cX8_findBestBar 53 = .ok (.lload_n 2, 1) := by decide +kernel
theorem dX8_findBestBar_54 : decode cX8_findBestBar 54 = .ok (.aload_n 0, 1) := by decide +kernel
theorem dX8_findBestBar_55 : decode cX8_findBestBar 55 = .ok (.getfield 241, 3) := by decide +kernel
theorem dX8_findBestBar_58 : decode cX8_findBestBar 58 = .ok (.lcmp, 1) := by decide +kernel
theorem dX8_findBestBar_59 : decode cX8_findBestBar 59 = .ok (.ifCond .ge 13, 3) := by decide +kernel
theorem dX8_findBestBar_62 : decode cX8_findBestBar 62 = .ok (.aload_n 0, 1) := by decide +kernel
theorem dX8_findBestBar_63 : decode cX8_findBestBar 63 = .ok (.iload_n 1, 1) := by decide +kernel
theorem dX8_findBestBar_64 : decode cX8_findBestBar 64 = .ok (.putfield 238, 3) := by decide +kernel
theorem dX8_findBestBar_67 : decode cX8_findBestBar 67 = .ok (.aload_n 0, 1) := by decide +kernel
theorem dX8_findBestBar_68 : decode cX8_findBestBar 68 = .ok (.lload_n 2, 1) := by decide +kernel
theorem dX8_findBestBar_69 : decode cX8_findBestBar 69 = .ok (.putfield 241, 3) := by decide +kernel
theorem dX8_findBestBar_72 : decode cX8_findBestBar 72 = .ok (.iinc 1 1, 3) := by decide +kernel
theorem dX8_findBestBar_75 : decode cX8_findBestBar 75 = .ok (.goto (-73), 3) := by decide +kernel
theorem dX8_findBestBar_78 : decode cX8_findBestBar 78 = .ok (.return_, 1) := by decide +kernel
theorem dX8_richWays_0 : decode cX8_richWays 0 = .ok (.aload_n 0, 1) := by decide +kernel
theorem dX8_richWays_1 : decode cX8_richWays 1 = .ok (.invokevirtual 194, 3) := by decide +kernel
theorem dX8_richWays_4 : decode cX8_richWays 4 = .ok (.aload_n 0, 1) := by decide +kernel
theorem dX8_richWays_5 : decode cX8_richWays 5 = .ok (.getfield 46, 3) := by decide +kernel
theorem dX8_richWays_8 : decode cX8_richWays 8 = .ok (.iload_n 1, 1) := by decide +kernel
theorem dX8_richWays_9 : decode cX8_richWays 9 = .ok (.putfield 309, 3) := by decide +kernel
theorem dX8_richWays_12 : decode cX8_richWays 12 = .ok (.aload_n 0, 1) := by decide +kernel
theorem dX8_richWays_13 : decode cX8_richWays 13 = .ok (.getfield 46, 3) := by decide +kernel
theorem dX8_richWays_16 : decode cX8_richWays 16 = .ok (.iload_n 2, 1) := by decide +kernel
theorem dX8_richWays_17 : decode cX8_richWays 17 = .ok (.iconst 1, 1) := by decide +kernel
theorem dX8_richWays_18 : decode cX8_richWays 18 = .ok (.isub, 1) := by decide +kernel
theorem dX8_richWays_19 : decode cX8_richWays 19 = .ok (.putfield 312, 3) := by decide +kernel
theorem dX8_richWays_22 : decode cX8_richWays 22 = .ok (.aload_n 0, 1) := by decide +kernel
theorem dX8_richWays_23 : decode cX8_richWays 23 = .ok (.getfield 57, 3) := by decide +kernel
theorem dX8_richWays_26 : decode cX8_richWays 26 = .ok (.aload_n 0, 1) := by decide +kernel
theorem dX8_richWays_27 : decode cX8_richWays 27 = .ok (.getfield 46, 3) := by decide +kernel
theorem dX8_richWays_30 : decode cX8_richWays 30 = .ok (.iconst 0, 1) := by decide +kernel
theorem dX8_richWays_31 : decode cX8_richWays 31 = .ok (.invokevirtual 248, 3) := by decide +kernel
theorem dX8_richWays_34 : decode cX8_richWays 34 = .ok (.aload_n 0, 1) := by decide +kernel
theorem dX8_richWays_35 : decode cX8_richWays 35 = .ok (.getfield 57, 3) := by decide +kernel
theorem dX8_richWays_38 : decode cX8_richWays 38 = .ok (.getfield 163, 3) := by decide +kernel
theorem dX8_richWays_41 : decode cX8_richWays 41 = .ok (.lreturn, 1) := by decide +kernel
theorem dX8_playEvening_0 : decode cX8_playEvening 0 = .ok (.aload_n 0, 1) := by decide +kernel
theorem dX8_playEvening_1 : decode cX8_playEvening 1 = .ok (.invokevirtual 194, 3) := by decide +kernel
theorem dX8_playEvening_4 : decode cX8_playEvening 4 = .ok (.iconst 0, 1) := by decide +kernel
theorem dX8_playEvening_5 : decode cX8_playEvening 5 = .ok (.istore_n 2, 1) := by decide +kernel
theorem dX8_playEvening_6 : decode cX8_playEvening 6 = .ok (.iload_n 2, 1) := by decide +kernel
theorem dX8_playEvening_7 : decode cX8_playEvening 7 = .ok (.aload_n 0, 1) := by decide +kernel
theorem dX8_playEvening_8 : decode cX8_playEvening 8 = .ok (.getfield 36, 3) := by decide +kernel
theorem dX8_playEvening_11 : decode cX8_playEvening 11 = .ok (.getfield 197, 3) := by decide +kernel
theorem dX8_playEvening_14 : decode cX8_playEvening 14 = .ok (.if_icmp .ge 23, 3) := by decide +kernel
theorem dX8_playEvening_17 : decode cX8_playEvening 17 = .ok (.aload_n 0, 1) := by decide +kernel
theorem dX8_playEvening_18 : decode cX8_playEvening 18 = .ok (.getfield 46, 3) := by decide +kernel
theorem dX8_playEvening_21 : decode cX8_playEvening 21 = .ok (.iload_n 2, 1) := by decide +kernel
theorem dX8_playEvening_22 : decode cX8_playEvening 22 = .ok (.aload_n 0, 1) := by decide +kernel
theorem dX8_playEvening_23 : decode cX8_playEvening 23 = .ok (.iload_n 1, 1) := by decide +kernel
theorem dX8_playEvening_24 : decode cX8_playEvening 24 = .ok (.iload_n 2, 1) := by decide +kernel
theorem dX8_playEvening_25 : decode cX8_playEvening 25 = .ok (.invokevirtual 285, 3) := by decide +kernel
theorem dX8_playEvening_28 : decode cX8_playEvening 28 = .ok (.invokevirtual 315, 3) := by decide +kernel
theorem dX8_playEvening_31 : decode cX8_playEvening 31 = .ok (.iinc 2 1, 3) := by decide +kernel
theorem dX8_playEvening_34 : decode cX8_playEvening 34 = .ok (.goto (-28), 3) := by decide +kernel
theorem dX8_playEvening_37 : decode cX8_playEvening 37 = .ok (.return_, 1) := by decide +kernel
theorem dX8_drawnWorth_0 : decode cX8_drawnWorth 0 = .ok (.ldc2_w 319, 3) := by decide +kernel
theorem dX8_drawnWorth_3 : decode cX8_drawnWorth 3 = .ok (.iload_n 1, 1) := by decide +kernel
theorem dX8_drawnWorth_4 : decode cX8_drawnWorth 4 = .ok (.i2l, 1) := by decide +kernel
theorem dX8_drawnWorth_5 : decode cX8_drawnWorth 5 = .ok (.lmul, 1) := by decide +kernel
theorem dX8_drawnWorth_6 : decode cX8_drawnWorth 6 = .ok (.ldc2_w 321, 3) := by decide +kernel
theorem dX8_drawnWorth_9 : decode cX8_drawnWorth 9 = .ok (.aload_n 0, 1) := by decide +kernel
theorem dX8_drawnWorth_10 : decode cX8_drawnWorth 10 = .ok (.getfield 36, 3) := by decide +kernel
theorem dX8_drawnWorth_13 : decode cX8_drawnWorth 13 = .ok (.getfield 200, 3) := by decide +kernel
theorem dX8_drawnWorth_16 : decode cX8_drawnWorth 16 = .ok (.iload_n 2, 1) := by decide +kernel
theorem dX8_drawnWorth_17 : decode cX8_drawnWorth 17 = .ok (.iaload, 1) := by decide +kernel
theorem dX8_drawnWorth_18 : decode cX8_drawnWorth 18 = .ok (.i2l, 1) := by decide +kernel
theorem dX8_drawnWorth_19 : decode cX8_drawnWorth 19 = .ok (.lmul, 1) := by decide +kernel
theorem dX8_drawnWorth_20 : decode cX8_drawnWorth 20 = .ok (.ladd, 1) := by decide +kernel
theorem dX8_drawnWorth_21 : decode cX8_drawnWorth 21 = .ok (.lconst 1, 1) := by decide +kernel
theorem dX8_drawnWorth_22 : decode cX8_drawnWorth 22 = .ok (.ladd, 1) := by decide +kernel
theorem dX8_drawnWorth_23 : decode cX8_drawnWorth 23 = .ok (.lstore_n 3, 1) := by decide +kernel
theorem dX8_drawnWorth_24 : decode cX8_drawnWorth 24 = .ok (.aload_n 0, 1) := by decide +kernel
theorem dX8_drawnWorth_25 : decode cX8_drawnWorth 25 = .ok (.getfield 36, 3) := by decide +kernel
theorem dX8_drawnWorth_28 : decode cX8_drawnWorth 28 = .ok (.iload_n 2, 1) := by decide +kernel
theorem dX8_drawnWorth_29 : decode cX8_drawnWorth 29 = .ok (.lload_n 3, 1) := by decide +kernel
theorem dX8_drawnWorth_30 : decode cX8_drawnWorth 30 = .ok (.lload_n 3, 1) := by decide +kernel
theorem dX8_drawnWorth_31 : decode cX8_drawnWorth 31 = .ok (.lmul, 1) := by decide +kernel
theorem dX8_drawnWorth_32 : decode cX8_drawnWorth 32 = .ok (.ldc2_w 323, 3) := by decide +kernel
theorem dX8_drawnWorth_35 : decode cX8_drawnWorth 35 = .ok (.lrem, 1) := by decide +kernel
theorem dX8_drawnWorth_36 : decode cX8_drawnWorth 36 = .ok (.ldc2_w 258, 3) := by decide +kernel
theorem dX8_drawnWorth_39 : decode cX8_drawnWorth 39 = .ok (.lrem, 1) := by decide +kernel
theorem dX8_drawnWorth_40 : decode cX8_drawnWorth 40 = .ok (.l2i, 1) := by decide +kernel
theorem dX8_drawnWorth_41 : decode cX8_drawnWorth 41 = .ok (.invokevirtual 325, 3) := by decide +kernel
theorem dX8_drawnWorth_44 : decode cX8_drawnWorth 44 = .ok (.ireturn, 1) := by decide +kernel
theorem dL_law_0 : decode cL_law 0 = .ok (.new 7, 3) := by decide +kernel
theorem dL_law_3 : decode cL_law 3 = .ok (.dup, 1) := by decide +kernel
theorem dL_law_4 : decode cL_law 4 = .ok (.invokespecial 9, 3) := by decide +kernel
theorem dL_law_7 : decode cL_law 7 = .ok (.astore_n 1, 1) := by decide +kernel
theorem dL_law_8 : decode cL_law 8 = .ok (.new 10, 3) := by decide +kernel
theorem dL_law_11 : decode cL_law 11 = .ok (.dup, 1) := by decide +kernel
theorem dL_law_12 : decode cL_law 12 = .ok (.invokespecial 12, 3) := by decide +kernel
theorem dL_law_15 : decode cL_law 15 = .ok (.astore_n 2, 1) := by decide +kernel
theorem dL_law_16 : decode cL_law 16 = .ok (.iconst 0, 1) := by decide +kernel
theorem dL_law_17 : decode cL_law 17 = .ok (.istore_n 3, 1) := by decide +kernel
theorem dL_law_18 : decode cL_law 18 = .ok (.iload_n 3, 1) := by decide +kernel
theorem dL_law_19 : decode cL_law 19 = .ok (.aload_n 0, 1) := by decide +kernel
theorem dL_law_20 : decode cL_law 20 = .ok (.arraylength, 1) := by decide +kernel
theorem dL_law_21 : decode cL_law 21 = .ok (.iconst 4, 1) := by decide +kernel
theorem dL_law_22 : decode cL_law 22 = .ok (.isub, 1) := by decide +kernel
theorem dL_law_23 : decode cL_law 23 = .ok (.if_icmp .gt 761, 3) := by decide +kernel
theorem dL_law_26 : decode cL_law 26 = .ok (.aload_n 0, 1) := by decide +kernel
theorem dL_law_27 : decode cL_law 27 = .ok (.iload_n 3, 1) := by decide +kernel
theorem dL_law_28 : decode cL_law 28 = .ok (.iaload, 1) := by decide +kernel
theorem dL_law_29 : decode cL_law 29 = .ok (.bipush 31, 2) := by decide +kernel
theorem dL_law_31 : decode cL_law 31 = .ok (.iand, 1) := by decide +kernel
theorem dL_law_32 : decode cL_law 32 = .ok (.tableswitch 746 0 25 #[120, 183, 196, 209, 222, 255, 278, 302, 336, 360, 393, 406, 429, 453, 467, 491, 504, 527, 540, 574, 597, 621, 664, 697, 710, 723], 120) := by decide +kernel
theorem dL_law_152 : decode cL_law 152 = .ok (.aload_n 1, 1) := by decide +kernel
theorem dL_law_153 : decode cL_law 153 = .ok (.aload_n 0, 1) := by decide +kernel
theorem dL_law_154 : decode cL_law 154 = .ok (.iload_n 3, 1) := by decide +kernel
theorem dL_law_155 : decode cL_law 155 = .ok (.iconst 1, 1) := by decide +kernel
theorem dL_law_156 : decode cL_law 156 = .ok (.iadd, 1) := by decide +kernel
theorem dL_law_157 : decode cL_law 157 = .ok (.iaload, 1) := by decide +kernel
theorem dL_law_158 : decode cL_law 158 = .ok (.aload_n 0, 1) := by decide +kernel
theorem dL_law_159 : decode cL_law 159 = .ok (.iload_n 3, 1) := by decide +kernel
theorem dL_law_160 : decode cL_law 160 = .ok (.iconst 2, 1) := by decide +kernel
theorem dL_law_161 : decode cL_law 161 = .ok (.iadd, 1) := by decide +kernel
theorem dL_law_162 : decode cL_law 162 = .ok (.iaload, 1) := by decide +kernel
theorem dL_law_163 : decode cL_law 163 = .ok (.i2l, 1) := by decide +kernel
theorem dL_law_164 : decode cL_law 164 = .ok (.bipush 32, 2) := by decide +kernel
theorem dL_law_166 : decode cL_law 166 = .ok (.lshl, 1) := by decide +kernel
theorem dL_law_167 : decode cL_law 167 = .ok (.aload_n 0, 1) := by decide +kernel
theorem dL_law_168 : decode cL_law 168 = .ok (.iload_n 3, 1) := by decide +kernel
theorem dL_law_169 : decode cL_law 169 = .ok (.iconst 3, 1) := by decide +kernel
theorem dL_law_170 : decode cL_law 170 = .ok (.iadd, 1) := by decide +kernel
theorem dL_law_171 : decode cL_law 171 = .ok (.iaload, 1) := by decide +kernel
theorem dL_law_172 : decode cL_law 172 = .ok (.i2l, 1) := by decide +kernel
theorem dL_law_173 : decode cL_law 173 = .ok (.ldc2_w 13, 3) := by decide +kernel
theorem dL_law_176 : decode cL_law 176 = .ok (.land, 1) := by decide +kernel
theorem dL_law_177 : decode cL_law 177 = .ok (.lor, 1) := by decide +kernel
theorem dL_law_178 : decode cL_law 178 = .ok (.invokevirtual 15, 3) := by decide +kernel
theorem dL_law_181 : decode cL_law 181 = .ok (.aload_n 2, 1) := by decide +kernel
theorem dL_law_182 : decode cL_law 182 = .ok (.aload_n 0, 1) := by decide +kernel
theorem dL_law_183 : decode cL_law 183 = .ok (.iload_n 3, 1) := by decide +kernel
theorem dL_law_184 : decode cL_law 184 = .ok (.iconst 1, 1) := by decide +kernel
theorem dL_law_185 : decode cL_law 185 = .ok (.iadd, 1) := by decide +kernel
theorem dL_law_186 : decode cL_law 186 = .ok (.iaload, 1) := by decide +kernel
theorem dL_law_187 : decode cL_law 187 = .ok (.aload_n 0, 1) := by decide +kernel
theorem dL_law_188 : decode cL_law 188 = .ok (.iload_n 3, 1) := by decide +kernel
theorem dL_law_189 : decode cL_law 189 = .ok (.iconst 2, 1) := by decide +kernel
theorem dL_law_190 : decode cL_law 190 = .ok (.iadd, 1) := by decide +kernel
theorem dL_law_191 : decode cL_law 191 = .ok (.iaload, 1) := by decide +kernel
theorem dL_law_192 : decode cL_law 192 = .ok (.i2l, 1) := by decide +kernel
theorem dL_law_193 : decode cL_law 193 = .ok (.bipush 32, 2) := by decide +kernel
theorem dL_law_195 : decode cL_law 195 = .ok (.lshl, 1) := by decide +kernel
theorem dL_law_196 : decode cL_law 196 = .ok (.aload_n 0, 1) := by decide +kernel
theorem dL_law_197 : decode cL_law 197 = .ok (.iload_n 3, 1) := by decide +kernel
theorem dL_law_198 : decode cL_law 198 = .ok (.iconst 3, 1) := by decide +kernel
theorem dL_law_199 : decode cL_law 199 = .ok (.iadd, 1) := by decide +kernel
theorem dL_law_200 : decode cL_law 200 = .ok (.iaload, 1) := by decide +kernel
theorem dL_law_201 : decode cL_law 201 = .ok (.i2l, 1) := by decide +kernel
theorem dL_law_202 : decode cL_law 202 = .ok (.ldc2_w 13, 3) := by decide +kernel
theorem dL_law_205 : decode cL_law 205 = .ok (.land, 1) := by decide +kernel
theorem dL_law_206 : decode cL_law 206 = .ok (.lor, 1) := by decide +kernel
theorem dL_law_207 : decode cL_law 207 = .ok (.invokevirtual 19, 3) := by decide +kernel
theorem dL_law_210 : decode cL_law 210 = .ok (.if_icmp .eq 568, 3) := by decide +kernel
theorem dL_law_213 : decode cL_law 213 = .ok (.iconst 0, 1) := by decide +kernel
theorem dL_law_214 : decode cL_law 214 = .ok (.ireturn, 1) := by decide +kernel
theorem dL_law_215 : decode cL_law 215 = .ok (.aload_n 1, 1) := by decide +kernel
theorem dL_law_216 : decode cL_law 216 = .ok (.invokevirtual 20, 3) := by decide +kernel
theorem dL_law_219 : decode cL_law 219 = .ok (.aload_n 2, 1) := by decide +kernel
theorem dL_law_220 : decode cL_law 220 = .ok (.invokevirtual 24, 3) := by decide +kernel
theorem dL_law_223 : decode cL_law 223 = .ok (.if_icmp .eq 555, 3) := by decide +kernel
theorem dL_law_226 : decode cL_law 226 = .ok (.iconst 0, 1) := by decide +kernel
theorem dL_law_227 : decode cL_law 227 = .ok (.ireturn, 1) := by decide +kernel
theorem dL_law_228 : decode cL_law 228 = .ok (.aload_n 1, 1) := by decide +kernel
theorem dL_law_229 : decode cL_law 229 = .ok (.invokevirtual 25, 3) := by decide +kernel
theorem dL_law_232 : decode cL_law 232 = .ok (.aload_n 2, 1) := by decide +kernel
theorem dL_law_233 : decode cL_law 233 = .ok (.invokevirtual 28, 3) := by decide +kernel
theorem dL_law_236 : decode cL_law 236 = .ok (.if_icmp .eq 542, 3) := by decide +kernel
theorem dL_law_239 : decode cL_law 239 = .ok (.iconst 0, 1) := by decide +kernel
theorem dL_law_240 : decode cL_law 240 = .ok (.ireturn, 1) := by decide +kernel
theorem dL_law_241 : decode cL_law 241 = .ok (.aload_n 1, 1) := by decide +kernel
theorem dL_law_242 : decode cL_law 242 = .ok (.invokevirtual 29, 3) := by decide +kernel
theorem dL_law_245 : decode cL_law 245 = .ok (.aload_n 2, 1) := by decide +kernel
theorem dL_law_246 : decode cL_law 246 = .ok (.invokevirtual 32, 3) := by decide +kernel
theorem dL_law_249 : decode cL_law 249 = .ok (.if_icmp .eq 529, 3) := by decide +kernel
theorem dL_law_252 : decode cL_law 252 = .ok (.iconst 0, 1) := by decide +kernel
theorem dL_law_253 : decode cL_law 253 = .ok (.ireturn, 1) := by decide +kernel
theorem dL_law_254 : decode cL_law 254 = .ok (.aload_n 1, 1) := by decide +kernel
theorem dL_law_255 : decode cL_law 255 = .ok (.aload_n 0, 1) := by decide +kernel
theorem dL_law_256 : decode cL_law 256 = .ok (.iload_n 3, 1) := by decide +kernel
theorem dL_law_257 : decode cL_law 257 = .ok (.iconst 1, 1) := by decide +kernel
theorem dL_law_258 : decode cL_law 258 = .ok (.iadd, 1) := by decide +kernel
theorem dL_law_259 : decode cL_law 259 = .ok (.iaload, 1) := by decide +kernel
theorem dL_law_260 : decode cL_law 260 = .ok (.aload_n 0, 1) := by decide +kernel
theorem dL_law_261 : decode cL_law 261 = .ok (.iload_n 3, 1) := by decide +kernel
theorem dL_law_262 : decode cL_law 262 = .ok (.iconst 2, 1) := by decide +kernel
theorem dL_law_263 : decode cL_law 263 = .ok (.iadd, 1) := by decide +kernel
theorem dL_law_264 : decode cL_law 264 = .ok (.iaload, 1) := by decide +kernel
theorem dL_law_265 : decode cL_law 265 = .ok (.invokevirtual 33, 3) := by decide +kernel
theorem dL_law_268 : decode cL_law 268 = .ok (.aload_n 2, 1) := by decide +kernel
theorem dL_law_269 : decode cL_law 269 = .ok (.aload_n 0, 1) := by decide +kernel
theorem dL_law_270 : decode cL_law 270 = .ok (.iload_n 3, 1) := by decide +kernel
theorem dL_law_271 : decode cL_law 271 = .ok (.iconst 1, 1) := by decide +kernel
theorem dL_law_272 : decode cL_law 272 = .ok (.iadd, 1) := by decide +kernel
theorem dL_law_273 : decode cL_law 273 = .ok (.iaload, 1) := by decide +kernel
theorem dL_law_274 : decode cL_law 274 = .ok (.aload_n 0, 1) := by decide +kernel
theorem dL_law_275 : decode cL_law 275 = .ok (.iload_n 3, 1) := by decide +kernel
theorem dL_law_276 : decode cL_law 276 = .ok (.iconst 2, 1) := by decide +kernel
theorem dL_law_277 : decode cL_law 277 = .ok (.iadd, 1) := by decide +kernel
theorem dL_law_278 : decode cL_law 278 = .ok (.iaload, 1) := by decide +kernel
theorem dL_law_279 : decode cL_law 279 = .ok (.invokevirtual 37, 3) := by decide +kernel
theorem dL_law_282 : decode cL_law 282 = .ok (.if_icmp .eq 496, 3) := by decide +kernel
theorem dL_law_285 : decode cL_law 285 = .ok (.iconst 0, 1) := by decide +kernel
theorem dL_law_286 : decode cL_law 286 = .ok (.ireturn, 1) := by decide +kernel
theorem dL_law_287 : decode cL_law 287 = .ok (.aload_n 1, 1) := by decide +kernel
theorem dL_law_288 : decode cL_law 288 = .ok (.aload_n 0, 1) := by decide +kernel
theorem dL_law_289 : decode cL_law 289 = .ok (.iload_n 3, 1) := by decide +kernel
theorem dL_law_290 : decode cL_law 290 = .ok (.iconst 1, 1) := by decide +kernel
theorem dL_law_291 : decode cL_law 291 = .ok (.iadd, 1) := by decide +kernel
theorem dL_law_292 : decode cL_law 292 = .ok (.iaload, 1) := by decide +kernel
theorem dL_law_293 : decode cL_law 293 = .ok (.invokevirtual 38, 3) := by decide +kernel
theorem dL_law_296 : decode cL_law 296 = .ok (.aload_n 2, 1) := by decide +kernel
theorem dL_law_297 : decode cL_law 297 = .ok (.aload_n 0, 1) := by decide +kernel
theorem dL_law_298 : decode cL_law 298 = .ok (.iload_n 3, 1) := by decide +kernel
theorem dL_law_299 : decode cL_law 299 = .ok (.iconst 1, 1) := by decide +kernel
theorem dL_law_300 : decode cL_law 300 = .ok (.iadd, 1) := by decide +kernel
theorem dL_law_301 : decode cL_law 301 = .ok (.iaload, 1) := by decide +kernel
theorem dL_law_302 : decode cL_law 302 = .ok (.invokevirtual 42, 3) := by decide +kernel
theorem dL_law_305 : decode cL_law 305 = .ok (.if_icmp .eq 473, 3) := by decide +kernel
theorem dL_law_308 : decode cL_law 308 = .ok (.iconst 0, 1) := by decide +kernel
theorem dL_law_309 : decode cL_law 309 = .ok (.ireturn, 1) := by decide +kernel
theorem dL_law_310 : decode cL_law 310 = .ok (.aload_n 1, 1) := by decide +kernel
theorem dL_law_311 : decode cL_law 311 = .ok (.aload_n 0, 1) := by decide +kernel
theorem dL_law_312 : decode cL_law 312 = .ok (.iload_n 3, 1) := by decide +kernel
theorem dL_law_313 : decode cL_law 313 = .ok (.iconst 1, 1) := by decide +kernel
theorem dL_law_314 : decode cL_law 314 = .ok (.iadd, 1) := by decide +kernel
theorem dL_law_315 : decode cL_law 315 = .ok (.iaload, 1) := by decide +kernel
theorem dL_law_316 : decode cL_law 316 = .ok (.invokevirtual 43, 3) := by decide +kernel
theorem dL_law_319 : decode cL_law 319 = .ok (.aload_n 2, 1) := by decide +kernel
theorem dL_law_320 : decode cL_law 320 = .ok (.aload_n 0, 1) := by decide +kernel
theorem dL_law_321 : decode cL_law 321 = .ok (.iload_n 3, 1) := by decide +kernel
theorem dL_law_322 : decode cL_law 322 = .ok (.iconst 1, 1) := by decide +kernel
theorem dL_law_323 : decode cL_law 323 = .ok (.iadd, 1) := by decide +kernel
theorem dL_law_324 : decode cL_law 324 = .ok (.iaload, 1) := by decide +kernel
theorem dL_law_325 : decode cL_law 325 = .ok (.invokevirtual 47, 3) := by decide +kernel
theorem dL_law_328 : decode cL_law 328 = .ok (.lcmp, 1) := by decide +kernel
theorem dL_law_329 : decode cL_law 329 = .ok (.ifCond .eq 449, 3) := by decide +kernel
theorem dL_law_332 : decode cL_law 332 = .ok (.iconst 0, 1) := by decide +kernel
theorem dL_law_333 : decode cL_law 333 = .ok (.ireturn, 1) := by decide +kernel
theorem dL_law_334 : decode cL_law 334 = .ok (.aload_n 1, 1) := by decide +kernel
theorem dL_law_335 : decode cL_law 335 = .ok (.aload_n 0, 1) := by decide +kernel
theorem dL_law_336 : decode cL_law 336 = .ok (.iload_n 3, 1) := by decide +kernel
theorem dL_law_337 : decode cL_law 337 = .ok (.iconst 1, 1) := by decide +kernel
theorem dL_law_338 : decode cL_law 338 = .ok (.iadd, 1) := by decide +kernel
theorem dL_law_339 : decode cL_law 339 = .ok (.iaload, 1) := by decide +kernel
theorem dL_law_340 : decode cL_law 340 = .ok (.aload_n 0, 1) := by decide +kernel
theorem dL_law_341 : decode cL_law 341 = .ok (.iload_n 3, 1) := by decide +kernel
theorem dL_law_342 : decode cL_law 342 = .ok (.iconst 2, 1) := by decide +kernel
theorem dL_law_343 : decode cL_law 343 = .ok (.iadd, 1) := by decide +kernel
theorem dL_law_344 : decode cL_law 344 = .ok (.iaload, 1) := by decide +kernel
theorem dL_law_345 : decode cL_law 345 = .ok (.invokevirtual 48, 3) := by decide +kernel
theorem dL_law_348 : decode cL_law 348 = .ok (.aload_n 2, 1) := by decide +kernel
theorem dL_law_349 : decode cL_law 349 = .ok (.aload_n 0, 1) := by decide +kernel
theorem dL_law_350 : decode cL_law 350 = .ok (.iload_n 3, 1) := by decide +kernel
theorem dL_law_351 : decode cL_law 351 = .ok (.iconst 1, 1) := by decide +kernel
theorem dL_law_352 : decode cL_law 352 = .ok (.iadd, 1) := by decide +kernel
theorem dL_law_353 : decode cL_law 353 = .ok (.iaload, 1) := by decide +kernel
theorem dL_law_354 : decode cL_law 354 = .ok (.aload_n 0, 1) := by decide +kernel
theorem dL_law_355 : decode cL_law 355 = .ok (.iload_n 3, 1) := by decide +kernel
theorem dL_law_356 : decode cL_law 356 = .ok (.iconst 2, 1) := by decide +kernel
theorem dL_law_357 : decode cL_law 357 = .ok (.iadd, 1) := by decide +kernel
theorem dL_law_358 : decode cL_law 358 = .ok (.iaload, 1) := by decide +kernel
theorem dL_law_359 : decode cL_law 359 = .ok (.invokevirtual 52, 3) := by decide +kernel
theorem dL_law_362 : decode cL_law 362 = .ok (.lcmp, 1) := by decide +kernel
theorem dL_law_363 : decode cL_law 363 = .ok (.ifCond .eq 415, 3) := by decide +kernel
theorem dL_law_366 : decode cL_law 366 = .ok (.iconst 0, 1) := by decide +kernel
theorem dL_law_367 : decode cL_law 367 = .ok (.ireturn, 1) := by decide +kernel
theorem dL_law_368 : decode cL_law 368 = .ok (.aload_n 1, 1) := by decide +kernel
theorem dL_law_369 : decode cL_law 369 = .ok (.aload_n 0, 1) := by decide +kernel
theorem dL_law_370 : decode cL_law 370 = .ok (.iload_n 3, 1) := by decide +kernel
theorem dL_law_371 : decode cL_law 371 = .ok (.iconst 1, 1) := by decide +kernel
theorem dL_law_372 : decode cL_law 372 = .ok (.iadd, 1) := by decide +kernel
theorem dL_law_373 : decode cL_law 373 = .ok (.iaload, 1) := by decide +kernel
theorem dL_law_374 : decode cL_law 374 = .ok (.invokevirtual 53, 3) := by decide +kernel
theorem dL_law_377 : decode cL_law 377 = .ok (.aload_n 2, 1) := by decide +kernel
theorem dL_law_378 : decode cL_law 378 = .ok (.aload_n 0, 1) := by decide +kernel
theorem dL_law_379 : decode cL_law 379 = .ok (.iload_n 3, 1) := by decide +kernel
theorem dL_law_380 : decode cL_law 380 = .ok (.iconst 1, 1) := by decide +kernel
theorem dL_law_381 : decode cL_law 381 = .ok (.iadd, 1) := by decide +kernel
theorem dL_law_382 : decode cL_law 382 = .ok (.iaload, 1) := by decide +kernel
theorem dL_law_383 : decode cL_law 383 = .ok (.invokevirtual 56, 3) := by decide +kernel
theorem dL_law_386 : decode cL_law 386 = .ok (.lcmp, 1) := by decide +kernel
theorem dL_law_387 : decode cL_law 387 = .ok (.ifCond .eq 391, 3) := by decide +kernel
theorem dL_law_390 : decode cL_law 390 = .ok (.iconst 0, 1) := by decide +kernel
theorem dL_law_391 : decode cL_law 391 = .ok (.ireturn, 1) := by decide +kernel
theorem dL_law_392 : decode cL_law 392 = .ok (.aload_n 1, 1) := by decide +kernel
theorem dL_law_393 : decode cL_law 393 = .ok (.aload_n 0, 1) := by decide +kernel
theorem dL_law_394 : decode cL_law 394 = .ok (.iload_n 3, 1) := by decide +kernel
theorem dL_law_395 : decode cL_law 395 = .ok (.iconst 1, 1) := by decide +kernel
theorem dL_law_396 : decode cL_law 396 = .ok (.iadd, 1) := by decide +kernel
theorem dL_law_397 : decode cL_law 397 = .ok (.iaload, 1) := by decide +kernel
theorem dL_law_398 : decode cL_law 398 = .ok (.aload_n 0, 1) := by decide +kernel
theorem dL_law_399 : decode cL_law 399 = .ok (.iload_n 3, 1) := by decide +kernel
theorem dL_law_400 : decode cL_law 400 = .ok (.iconst 2, 1) := by decide +kernel
theorem dL_law_401 : decode cL_law 401 = .ok (.iadd, 1) := by decide +kernel
theorem dL_law_402 : decode cL_law 402 = .ok (.iaload, 1) := by decide +kernel
theorem dL_law_403 : decode cL_law 403 = .ok (.invokevirtual 57, 3) := by decide +kernel
theorem dL_law_406 : decode cL_law 406 = .ok (.aload_n 2, 1) := by decide +kernel
theorem dL_law_407 : decode cL_law 407 = .ok (.aload_n 0, 1) := by decide +kernel
theorem dL_law_408 : decode cL_law 408 = .ok (.iload_n 3, 1) := by decide +kernel
theorem dL_law_409 : decode cL_law 409 = .ok (.iconst 1, 1) := by decide +kernel
theorem dL_law_410 : decode cL_law 410 = .ok (.iadd, 1) := by decide +kernel
theorem dL_law_411 : decode cL_law 411 = .ok (.iaload, 1) := by decide +kernel
theorem dL_law_412 : decode cL_law 412 = .ok (.aload_n 0, 1) := by decide +kernel
theorem dL_law_413 : decode cL_law 413 = .ok (.iload_n 3, 1) := by decide +kernel
theorem dL_law_414 : decode cL_law 414 = .ok (.iconst 2, 1) := by decide +kernel
theorem dL_law_415 : decode cL_law 415 = .ok (.iadd, 1) := by decide +kernel
theorem dL_law_416 : decode cL_law 416 = .ok (.iaload, 1) := by decide +kernel
theorem dL_law_417 : decode cL_law 417 = .ok (.invokevirtual 60, 3) := by decide +kernel
theorem dL_law_420 : decode cL_law 420 = .ok (.if_icmp .eq 358, 3) := by decide +kernel
theorem dL_law_423 : decode cL_law 423 = .ok (.iconst 0, 1) := by decide +kernel
theorem dL_law_424 : decode cL_law 424 = .ok (.ireturn, 1) := by decide +kernel
theorem dL_law_425 : decode cL_law 425 = .ok (.aload_n 1, 1) := by decide +kernel
theorem dL_law_426 : decode cL_law 426 = .ok (.invokevirtual 61, 3) := by decide +kernel
theorem dL_law_429 : decode cL_law 429 = .ok (.aload_n 2, 1) := by decide +kernel
theorem dL_law_430 : decode cL_law 430 = .ok (.invokevirtual 64, 3) := by decide +kernel
theorem dL_law_433 : decode cL_law 433 = .ok (.if_icmp .eq 345, 3) := by decide +kernel
theorem dL_law_436 : decode cL_law 436 = .ok (.iconst 0, 1) := by decide +kernel
theorem dL_law_437 : decode cL_law 437 = .ok (.ireturn, 1) := by decide +kernel
theorem dL_law_438 : decode cL_law 438 = .ok (.aload_n 1, 1) := by decide +kernel
theorem dL_law_439 : decode cL_law 439 = .ok (.aload_n 0, 1) := by decide +kernel
theorem dL_law_440 : decode cL_law 440 = .ok (.iload_n 3, 1) := by decide +kernel
theorem dL_law_441 : decode cL_law 441 = .ok (.iconst 1, 1) := by decide +kernel
theorem dL_law_442 : decode cL_law 442 = .ok (.iadd, 1) := by decide +kernel
theorem dL_law_443 : decode cL_law 443 = .ok (.iaload, 1) := by decide +kernel
theorem dL_law_444 : decode cL_law 444 = .ok (.invokevirtual 65, 3) := by decide +kernel
theorem dL_law_447 : decode cL_law 447 = .ok (.aload_n 2, 1) := by decide +kernel
theorem dL_law_448 : decode cL_law 448 = .ok (.aload_n 0, 1) := by decide +kernel
theorem dL_law_449 : decode cL_law 449 = .ok (.iload_n 3, 1) := by decide +kernel
theorem dL_law_450 : decode cL_law 450 = .ok (.iconst 1, 1) := by decide +kernel
theorem dL_law_451 : decode cL_law 451 = .ok (.iadd, 1) := by decide +kernel
theorem dL_law_452 : decode cL_law 452 = .ok (.iaload, 1) := by decide +kernel
theorem dL_law_453 : decode cL_law 453 = .ok (.invokevirtual 68, 3) := by decide +kernel
theorem dL_law_456 : decode cL_law 456 = .ok (.if_icmp .eq 322, 3) := by decide +kernel
theorem dL_law_459 : decode cL_law 459 = .ok (.iconst 0, 1) := by decide +kernel
theorem dL_law_460 : decode cL_law 460 = .ok (.ireturn, 1) := by decide +kernel
theorem dL_law_461 : decode cL_law 461 = .ok (.aload_n 1, 1) := by decide +kernel
theorem dL_law_462 : decode cL_law 462 = .ok (.aload_n 0, 1) := by decide +kernel
theorem dL_law_463 : decode cL_law 463 = .ok (.iload_n 3, 1) := by decide +kernel
theorem dL_law_464 : decode cL_law 464 = .ok (.iconst 1, 1) := by decide +kernel
theorem dL_law_465 : decode cL_law 465 = .ok (.iadd, 1) := by decide +kernel
theorem dL_law_466 : decode cL_law 466 = .ok (.iaload, 1) := by decide +kernel
theorem dL_law_467 : decode cL_law 467 = .ok (.invokevirtual 69, 3) := by decide +kernel
theorem dL_law_470 : decode cL_law 470 = .ok (.aload_n 2, 1) := by decide +kernel
theorem dL_law_471 : decode cL_law 471 = .ok (.aload_n 0, 1) := by decide +kernel
theorem dL_law_472 : decode cL_law 472 = .ok (.iload_n 3, 1) := by decide +kernel
theorem dL_law_473 : decode cL_law 473 = .ok (.iconst 1, 1) := by decide +kernel
theorem dL_law_474 : decode cL_law 474 = .ok (.iadd, 1) := by decide +kernel
theorem dL_law_475 : decode cL_law 475 = .ok (.iaload, 1) := by decide +kernel
theorem dL_law_476 : decode cL_law 476 = .ok (.invokevirtual 72, 3) := by decide +kernel
theorem dL_law_479 : decode cL_law 479 = .ok (.lcmp, 1) := by decide +kernel
theorem dL_law_480 : decode cL_law 480 = .ok (.ifCond .eq 298, 3) := by decide +kernel
theorem dL_law_483 : decode cL_law 483 = .ok (.iconst 0, 1) := by decide +kernel
theorem dL_law_484 : decode cL_law 484 = .ok (.ireturn, 1) := by decide +kernel
theorem dL_law_485 : decode cL_law 485 = .ok (.aload_n 1, 1) := by decide +kernel
theorem dL_law_486 : decode cL_law 486 = .ok (.invokevirtual 73, 3) := by decide +kernel
theorem dL_law_489 : decode cL_law 489 = .ok (.aload_n 2, 1) := by decide +kernel
theorem dL_law_490 : decode cL_law 490 = .ok (.invokevirtual 77, 3) := by decide +kernel
theorem dL_law_493 : decode cL_law 493 = .ok (.lcmp, 1) := by decide +kernel
theorem dL_law_494 : decode cL_law 494 = .ok (.ifCond .eq 284, 3) := by decide +kernel
theorem dL_law_497 : decode cL_law 497 = .ok (.iconst 0, 1) := by decide +kernel
theorem dL_law_498 : decode cL_law 498 = .ok (.ireturn, 1) := by decide +kernel
theorem dL_law_499 : decode cL_law 499 = .ok (.aload_n 1, 1) := by decide +kernel
theorem dL_law_500 : decode cL_law 500 = .ok (.aload_n 0, 1) := by decide +kernel
theorem dL_law_501 : decode cL_law 501 = .ok (.iload_n 3, 1) := by decide +kernel
theorem dL_law_502 : decode cL_law 502 = .ok (.iconst 1, 1) := by decide +kernel
theorem dL_law_503 : decode cL_law 503 = .ok (.iadd, 1) := by decide +kernel
theorem dL_law_504 : decode cL_law 504 = .ok (.iaload, 1) := by decide +kernel
theorem dL_law_505 : decode cL_law 505 = .ok (.invokevirtual 78, 3) := by decide +kernel
theorem dL_law_508 : decode cL_law 508 = .ok (.aload_n 2, 1) := by decide +kernel
theorem dL_law_509 : decode cL_law 509 = .ok (.aload_n 0, 1) := by decide +kernel
theorem dL_law_510 : decode cL_law 510 = .ok (.iload_n 3, 1) := by decide +kernel
theorem dL_law_511 : decode cL_law 511 = .ok (.iconst 1, 1) := by decide +kernel
theorem dL_law_512 : decode cL_law 512 = .ok (.iadd, 1) := by decide +kernel
theorem dL_law_513 : decode cL_law 513 = .ok (.iaload, 1) := by decide +kernel
theorem dL_law_514 : decode cL_law 514 = .ok (.invokevirtual 81, 3) := by decide +kernel
theorem dL_law_517 : decode cL_law 517 = .ok (.lcmp, 1) := by decide +kernel
theorem dL_law_518 : decode cL_law 518 = .ok (.ifCond .eq 260, 3) := by decide +kernel
theorem dL_law_521 : decode cL_law 521 = .ok (.iconst 0, 1) := by decide +kernel
theorem dL_law_522 : decode cL_law 522 = .ok (.ireturn, 1) := by decide +kernel
theorem dL_law_523 : decode cL_law 523 = .ok (.aload_n 1, 1) := by decide +kernel
theorem dL_law_524 : decode cL_law 524 = .ok (.invokevirtual 82, 3) := by decide +kernel
theorem dL_law_527 : decode cL_law 527 = .ok (.aload_n 2, 1) := by decide +kernel
theorem dL_law_528 : decode cL_law 528 = .ok (.invokevirtual 85, 3) := by decide +kernel
theorem dL_law_531 : decode cL_law 531 = .ok (.if_icmp .eq 247, 3) := by decide +kernel
theorem dL_law_534 : decode cL_law 534 = .ok (.iconst 0, 1) := by decide +kernel
theorem dL_law_535 : decode cL_law 535 = .ok (.ireturn, 1) := by decide +kernel
theorem dL_law_536 : decode cL_law 536 = .ok (.aload_n 1, 1) := by decide +kernel
theorem dL_law_537 : decode cL_law 537 = .ok (.aload_n 0, 1) := by decide +kernel
theorem dL_law_538 : decode cL_law 538 = .ok (.iload_n 3, 1) := by decide +kernel
theorem dL_law_539 : decode cL_law 539 = .ok (.iconst 1, 1) := by decide +kernel
theorem dL_law_540 : decode cL_law 540 = .ok (.iadd, 1) := by decide +kernel
theorem dL_law_541 : decode cL_law 541 = .ok (.iaload, 1) := by decide +kernel
theorem dL_law_542 : decode cL_law 542 = .ok (.invokevirtual 86, 3) := by decide +kernel
theorem dL_law_545 : decode cL_law 545 = .ok (.aload_n 2, 1) := by decide +kernel
theorem dL_law_546 : decode cL_law 546 = .ok (.aload_n 0, 1) := by decide +kernel
theorem dL_law_547 : decode cL_law 547 = .ok (.iload_n 3, 1) := by decide +kernel
theorem dL_law_548 : decode cL_law 548 = .ok (.iconst 1, 1) := by decide +kernel
theorem dL_law_549 : decode cL_law 549 = .ok (.iadd, 1) := by decide +kernel
theorem dL_law_550 : decode cL_law 550 = .ok (.iaload, 1) := by decide +kernel
theorem dL_law_551 : decode cL_law 551 = .ok (.invokevirtual 89, 3) := by decide +kernel
theorem dL_law_554 : decode cL_law 554 = .ok (.if_icmp .eq 224, 3) := by decide +kernel
theorem dL_law_557 : decode cL_law 557 = .ok (.iconst 0, 1) := by decide +kernel
theorem dL_law_558 : decode cL_law 558 = .ok (.ireturn, 1) := by decide +kernel
theorem dL_law_559 : decode cL_law 559 = .ok (.aload_n 1, 1) := by decide +kernel
theorem dL_law_560 : decode cL_law 560 = .ok (.invokevirtual 90, 3) := by decide +kernel
theorem dL_law_563 : decode cL_law 563 = .ok (.aload_n 2, 1) := by decide +kernel
theorem dL_law_564 : decode cL_law 564 = .ok (.invokevirtual 93, 3) := by decide +kernel
theorem dL_law_567 : decode cL_law 567 = .ok (.if_icmp .eq 211, 3) := by decide +kernel
theorem dL_law_570 : decode cL_law 570 = .ok (.iconst 0, 1) := by decide +kernel
theorem dL_law_571 : decode cL_law 571 = .ok (.ireturn, 1) := by decide +kernel
theorem dL_law_572 : decode cL_law 572 = .ok (.aload_n 1, 1) := by decide +kernel
theorem dL_law_573 : decode cL_law 573 = .ok (.aload_n 0, 1) := by decide +kernel
theorem dL_law_574 : decode cL_law 574 = .ok (.iload_n 3, 1) := by decide +kernel
theorem dL_law_575 : decode cL_law 575 = .ok (.iconst 1, 1) := by decide +kernel
theorem dL_law_576 : decode cL_law 576 = .ok (.iadd, 1) := by decide +kernel
theorem dL_law_577 : decode cL_law 577 = .ok (.iaload, 1) := by decide +kernel
theorem dL_law_578 : decode cL_law 578 = .ok (.aload_n 0, 1) := by decide +kernel
theorem dL_law_579 : decode cL_law 579 = .ok (.iload_n 3, 1) := by decide +kernel
theorem dL_law_580 : decode cL_law 580 = .ok (.iconst 2, 1) := by decide +kernel
theorem dL_law_581 : decode cL_law 581 = .ok (.iadd, 1) := by decide +kernel
theorem dL_law_582 : decode cL_law 582 = .ok (.iaload, 1) := by decide +kernel
theorem dL_law_583 : decode cL_law 583 = .ok (.invokevirtual 94, 3) := by decide +kernel
theorem dL_law_586 : decode cL_law 586 = .ok (.aload_n 2, 1) := by decide +kernel
theorem dL_law_587 : decode cL_law 587 = .ok (.aload_n 0, 1) := by decide +kernel
theorem dL_law_588 : decode cL_law 588 = .ok (.iload_n 3, 1) := by decide +kernel
theorem dL_law_589 : decode cL_law 589 = .ok (.iconst 1, 1) := by decide +kernel
theorem dL_law_590 : decode cL_law 590 = .ok (.iadd, 1) := by decide +kernel
theorem dL_law_591 : decode cL_law 591 = .ok (.iaload, 1) := by decide +kernel
theorem dL_law_592 : decode cL_law 592 = .ok (.aload_n 0, 1) := by decide +kernel
theorem dL_law_593 : decode cL_law 593 = .ok (.iload_n 3, 1) := by decide +kernel
theorem dL_law_594 : decode cL_law 594 = .ok (.iconst 2, 1) := by decide +kernel
theorem dL_law_595 : decode cL_law 595 = .ok (.iadd, 1) := by decide +kernel
theorem dL_law_596 : decode cL_law 596 = .ok (.iaload, 1) := by decide +kernel
theorem dL_law_597 : decode cL_law 597 = .ok (.invokevirtual 97, 3) := by decide +kernel
theorem dL_law_600 : decode cL_law 600 = .ok (.lcmp, 1) := by decide +kernel
theorem dL_law_601 : decode cL_law 601 = .ok (.ifCond .eq 177, 3) := by decide +kernel
theorem dL_law_604 : decode cL_law 604 = .ok (.iconst 0, 1) := by decide +kernel
theorem dL_law_605 : decode cL_law 605 = .ok (.ireturn, 1) := by decide +kernel
theorem dL_law_606 : decode cL_law 606 = .ok (.aload_n 1, 1) := by decide +kernel
theorem dL_law_607 : decode cL_law 607 = .ok (.aload_n 0, 1) := by decide +kernel
theorem dL_law_608 : decode cL_law 608 = .ok (.iload_n 3, 1) := by decide +kernel
theorem dL_law_609 : decode cL_law 609 = .ok (.iconst 1, 1) := by decide +kernel
theorem dL_law_610 : decode cL_law 610 = .ok (.iadd, 1) := by decide +kernel
theorem dL_law_611 : decode cL_law 611 = .ok (.iaload, 1) := by decide +kernel
theorem dL_law_612 : decode cL_law 612 = .ok (.invokevirtual 98, 3) := by decide +kernel
theorem dL_law_615 : decode cL_law 615 = .ok (.aload_n 2, 1) := by decide +kernel
theorem dL_law_616 : decode cL_law 616 = .ok (.aload_n 0, 1) := by decide +kernel
theorem dL_law_617 : decode cL_law 617 = .ok (.iload_n 3, 1) := by decide +kernel
theorem dL_law_618 : decode cL_law 618 = .ok (.iconst 1, 1) := by decide +kernel
theorem dL_law_619 : decode cL_law 619 = .ok (.iadd, 1) := by decide +kernel
theorem dL_law_620 : decode cL_law 620 = .ok (.iaload, 1) := by decide +kernel
theorem dL_law_621 : decode cL_law 621 = .ok (.invokevirtual 101, 3) := by decide +kernel
theorem dL_law_624 : decode cL_law 624 = .ok (.if_icmp .eq 154, 3) := by decide +kernel
theorem dL_law_627 : decode cL_law 627 = .ok (.iconst 0, 1) := by decide +kernel
theorem dL_law_628 : decode cL_law 628 = .ok (.ireturn, 1) := by decide +kernel
theorem dL_law_629 : decode cL_law 629 = .ok (.aload_n 1, 1) := by decide +kernel
theorem dL_law_630 : decode cL_law 630 = .ok (.aload_n 0, 1) := by decide +kernel
theorem dL_law_631 : decode cL_law 631 = .ok (.iload_n 3, 1) := by decide +kernel
theorem dL_law_632 : decode cL_law 632 = .ok (.iconst 1, 1) := by decide +kernel
theorem dL_law_633 : decode cL_law 633 = .ok (.iadd, 1) := by decide +kernel
theorem dL_law_634 : decode cL_law 634 = .ok (.iaload, 1) := by decide +kernel
theorem dL_law_635 : decode cL_law 635 = .ok (.invokevirtual 102, 3) := by decide +kernel
theorem dL_law_638 : decode cL_law 638 = .ok (.aload_n 2, 1) := by decide +kernel
theorem dL_law_639 : decode cL_law 639 = .ok (.aload_n 0, 1) := by decide +kernel
theorem dL_law_640 : decode cL_law 640 = .ok (.iload_n 3, 1) := by decide +kernel
theorem dL_law_641 : decode cL_law 641 = .ok (.iconst 1, 1) := by decide +kernel
theorem dL_law_642 : decode cL_law 642 = .ok (.iadd, 1) := by decide +kernel
theorem dL_law_643 : decode cL_law 643 = .ok (.iaload, 1) := by decide +kernel
theorem dL_law_644 : decode cL_law 644 = .ok (.invokevirtual 105, 3) := by decide +kernel
theorem dL_law_647 : decode cL_law 647 = .ok (.lcmp, 1) := by decide +kernel
theorem dL_law_648 : decode cL_law 648 = .ok (.ifCond .eq 130, 3) := by decide +kernel
theorem dL_law_651 : decode cL_law 651 = .ok (.iconst 0, 1) := by decide +kernel
theorem dL_law_652 : decode cL_law 652 = .ok (.ireturn, 1) := by decide +kernel
theorem dL_law_653 : decode cL_law 653 = .ok (.aload_n 1, 1) := by decide +kernel
theorem dL_law_654 : decode cL_law 654 = .ok (.aload_n 0, 1) := by decide +kernel
theorem dL_law_655 : decode cL_law 655 = .ok (.iload_n 3, 1) := by decide +kernel
theorem dL_law_656 : decode cL_law 656 = .ok (.iconst 1, 1) := by decide +kernel
theorem dL_law_657 : decode cL_law 657 = .ok (.iadd, 1) := by decide +kernel
theorem dL_law_658 : decode cL_law 658 = .ok (.iaload, 1) := by decide +kernel
theorem dL_law_659 : decode cL_law 659 = .ok (.aload_n 0, 1) := by decide +kernel
theorem dL_law_660 : decode cL_law 660 = .ok (.iload_n 3, 1) := by decide +kernel
theorem dL_law_661 : decode cL_law 661 = .ok (.iconst 2, 1) := by decide +kernel
theorem dL_law_662 : decode cL_law 662 = .ok (.iadd, 1) := by decide +kernel
theorem dL_law_663 : decode cL_law 663 = .ok (.iaload, 1) := by decide +kernel
theorem dL_law_664 : decode cL_law 664 = .ok (.aload_n 0, 1) := by decide +kernel
theorem dL_law_665 : decode cL_law 665 = .ok (.iload_n 3, 1) := by decide +kernel
theorem dL_law_666 : decode cL_law 666 = .ok (.iconst 3, 1) := by decide +kernel
theorem dL_law_667 : decode cL_law 667 = .ok (.iadd, 1) := by decide +kernel
theorem dL_law_668 : decode cL_law 668 = .ok (.iaload, 1) := by decide +kernel
theorem dL_law_669 : decode cL_law 669 = .ok (.invokevirtual 106, 3) := by decide +kernel
theorem dL_law_672 : decode cL_law 672 = .ok (.aload_n 2, 1) := by decide +kernel
theorem dL_law_673 : decode cL_law 673 = .ok (.aload_n 0, 1) := by decide +kernel
theorem dL_law_674 : decode cL_law 674 = .ok (.iload_n 3, 1) := by decide +kernel
theorem dL_law_675 : decode cL_law 675 = .ok (.iconst 1, 1) := by decide +kernel
theorem dL_law_676 : decode cL_law 676 = .ok (.iadd, 1) := by decide +kernel
theorem dL_law_677 : decode cL_law 677 = .ok (.iaload, 1) := by decide +kernel
theorem dL_law_678 : decode cL_law 678 = .ok (.aload_n 0, 1) := by decide +kernel
theorem dL_law_679 : decode cL_law 679 = .ok (.iload_n 3, 1) := by decide +kernel
theorem dL_law_680 : decode cL_law 680 = .ok (.iconst 2, 1) := by decide +kernel
theorem dL_law_681 : decode cL_law 681 = .ok (.iadd, 1) := by decide +kernel
theorem dL_law_682 : decode cL_law 682 = .ok (.iaload, 1) := by decide +kernel
theorem dL_law_683 : decode cL_law 683 = .ok (.aload_n 0, 1) := by decide +kernel
theorem dL_law_684 : decode cL_law 684 = .ok (.iload_n 3, 1) := by decide +kernel
theorem dL_law_685 : decode cL_law 685 = .ok (.iconst 3, 1) := by decide +kernel
theorem dL_law_686 : decode cL_law 686 = .ok (.iadd, 1) := by decide +kernel
theorem dL_law_687 : decode cL_law 687 = .ok (.iaload, 1) := by decide +kernel
theorem dL_law_688 : decode cL_law 688 = .ok (.invokevirtual 110, 3) := by decide +kernel
theorem dL_law_691 : decode cL_law 691 = .ok (.if_icmp .eq 87, 3) := by decide +kernel
theorem dL_law_694 : decode cL_law 694 = .ok (.iconst 0, 1) := by decide +kernel
theorem dL_law_695 : decode cL_law 695 = .ok (.ireturn, 1) := by decide +kernel
theorem dL_law_696 : decode cL_law 696 = .ok (.aload_n 1, 1) := by decide +kernel
theorem dL_law_697 : decode cL_law 697 = .ok (.aload_n 0, 1) := by decide +kernel
theorem dL_law_698 : decode cL_law 698 = .ok (.iload_n 3, 1) := by decide +kernel
theorem dL_law_699 : decode cL_law 699 = .ok (.iconst 1, 1) := by decide +kernel
theorem dL_law_700 : decode cL_law 700 = .ok (.iadd, 1) := by decide +kernel
theorem dL_law_701 : decode cL_law 701 = .ok (.iaload, 1) := by decide +kernel
theorem dL_law_702 : decode cL_law 702 = .ok (.aload_n 0, 1) := by decide +kernel
theorem dL_law_703 : decode cL_law 703 = .ok (.iload_n 3, 1) := by decide +kernel
theorem dL_law_704 : decode cL_law 704 = .ok (.iconst 2, 1) := by decide +kernel
theorem dL_law_705 : decode cL_law 705 = .ok (.iadd, 1) := by decide +kernel
theorem dL_law_706 : decode cL_law 706 = .ok (.iaload, 1) := by decide +kernel
theorem dL_law_707 : decode cL_law 707 = .ok (.invokevirtual 111, 3) := by decide +kernel
theorem dL_law_710 : decode cL_law 710 = .ok (.aload_n 2, 1) := by decide +kernel
theorem dL_law_711 : decode cL_law 711 = .ok (.aload_n 0, 1) := by decide +kernel
theorem dL_law_712 : decode cL_law 712 = .ok (.iload_n 3, 1) := by decide +kernel
theorem dL_law_713 : decode cL_law 713 = .ok (.iconst 1, 1) := by decide +kernel
theorem dL_law_714 : decode cL_law 714 = .ok (.iadd, 1) := by decide +kernel
theorem dL_law_715 : decode cL_law 715 = .ok (.iaload, 1) := by decide +kernel
theorem dL_law_716 : decode cL_law 716 = .ok (.aload_n 0, 1) := by decide +kernel
theorem dL_law_717 : decode cL_law 717 = .ok (.iload_n 3, 1) := by decide +kernel
theorem dL_law_718 : decode cL_law 718 = .ok (.iconst 2, 1) := by decide +kernel
theorem dL_law_719 : decode cL_law 719 = .ok (.iadd, 1) := by decide +kernel
theorem dL_law_720 : decode cL_law 720 = .ok (.iaload, 1) := by decide +kernel
theorem dL_law_721 : decode cL_law 721 = .ok (.invokevirtual 114, 3) := by decide +kernel
theorem dL_law_724 : decode cL_law 724 = .ok (.if_icmp .eq 54, 3) := by decide +kernel
theorem dL_law_727 : decode cL_law 727 = .ok (.iconst 0, 1) := by decide +kernel
theorem dL_law_728 : decode cL_law 728 = .ok (.ireturn, 1) := by decide +kernel
theorem dL_law_729 : decode cL_law 729 = .ok (.aload_n 1, 1) := by decide +kernel
theorem dL_law_730 : decode cL_law 730 = .ok (.invokevirtual 115, 3) := by decide +kernel
theorem dL_law_733 : decode cL_law 733 = .ok (.aload_n 2, 1) := by decide +kernel
theorem dL_law_734 : decode cL_law 734 = .ok (.invokevirtual 118, 3) := by decide +kernel
theorem dL_law_737 : decode cL_law 737 = .ok (.if_icmp .eq 41, 3) := by decide +kernel
theorem dL_law_740 : decode cL_law 740 = .ok (.iconst 0, 1) := by decide +kernel
theorem dL_law_741 : decode cL_law 741 = .ok (.ireturn, 1) := by decide +kernel
theorem dL_law_742 : decode cL_law 742 = .ok (.aload_n 1, 1) := by decide +kernel
theorem dL_law_743 : decode cL_law 743 = .ok (.invokevirtual 119, 3) := by decide +kernel
theorem dL_law_746 : decode cL_law 746 = .ok (.aload_n 2, 1) := by decide +kernel
theorem dL_law_747 : decode cL_law 747 = .ok (.invokevirtual 122, 3) := by decide +kernel
theorem dL_law_750 : decode cL_law 750 = .ok (.if_icmp .eq 28, 3) := by decide +kernel
theorem dL_law_753 : decode cL_law 753 = .ok (.iconst 0, 1) := by decide +kernel
theorem dL_law_754 : decode cL_law 754 = .ok (.ireturn, 1) := by decide +kernel
theorem dL_law_755 : decode cL_law 755 = .ok (.aload_n 1, 1) := by decide +kernel
theorem dL_law_756 : decode cL_law 756 = .ok (.aload_n 0, 1) := by decide +kernel
theorem dL_law_757 : decode cL_law 757 = .ok (.iload_n 3, 1) := by decide +kernel
theorem dL_law_758 : decode cL_law 758 = .ok (.iconst 1, 1) := by decide +kernel
theorem dL_law_759 : decode cL_law 759 = .ok (.iadd, 1) := by decide +kernel
theorem dL_law_760 : decode cL_law 760 = .ok (.iaload, 1) := by decide +kernel
theorem dL_law_761 : decode cL_law 761 = .ok (.invokevirtual 123, 3) := by decide +kernel
theorem dL_law_764 : decode cL_law 764 = .ok (.aload_n 2, 1) := by decide +kernel
theorem dL_law_765 : decode cL_law 765 = .ok (.aload_n 0, 1) := by decide +kernel
theorem dL_law_766 : decode cL_law 766 = .ok (.iload_n 3, 1) := by decide +kernel
theorem dL_law_767 : decode cL_law 767 = .ok (.iconst 1, 1) := by decide +kernel
theorem dL_law_768 : decode cL_law 768 = .ok (.iadd, 1) := by decide +kernel
theorem dL_law_769 : decode cL_law 769 = .ok (.iaload, 1) := by decide +kernel
theorem dL_law_770 : decode cL_law 770 = .ok (.invokevirtual 126, 3) := by decide +kernel
theorem dL_law_773 : decode cL_law 773 = .ok (.if_icmp .eq 5, 3) := by decide +kernel
theorem dL_law_776 : decode cL_law 776 = .ok (.iconst 0, 1) := by decide +kernel
theorem dL_law_777 : decode cL_law 777 = .ok (.ireturn, 1) := by decide +kernel
theorem dL_law_778 : decode cL_law 778 = .ok (.iinc 3 4, 3) := by decide +kernel
theorem dL_law_781 : decode cL_law 781 = .ok (.goto (-763), 3) := by decide +kernel
theorem dL_law_784 : decode cL_law 784 = .ok (.iconst 1, 1) := by decide +kernel
theorem dL_law_785 : decode cL_law 785 = .ok (.ireturn, 1) := by decide +kernel
