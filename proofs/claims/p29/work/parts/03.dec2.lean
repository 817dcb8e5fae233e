theorem dX9_init_0 : decode cX9_init 0 = .ok (.aload_n 0, 1) := by decide +kernel
theorem dX9_init_1 : decode cX9_init 1 = .ok (.invokespecial 1, 3) := by decide +kernel
theorem dX9_init_4 : decode cX9_init 4 = .ok (.aload_n 0, 1) := by decide +kernel
theorem dX9_init_5 : decode cX9_init 5 = .ok (.new 7, 3) := by decide +kernel
theorem dX9_init_8 : decode cX9_init 8 = .ok (.dup, 1) := by decide +kernel
theorem dX9_init_9 : decode cX9_init 9 = .ok (.invokespecial 9, 3) := by decide +kernel
theorem dX9_init_12 : decode cX9_init 12 = .ok (.putfield 10, 3) := by decide +kernel
theorem dX9_init_15 : decode cX9_init 15 = .ok (.aload_n 0, 1) := by decide +kernel
theorem dX9_init_16 : decode cX9_init 16 = .ok (.new 16, 3) := by decide +kernel
theorem dX9_init_19 : decode cX9_init 19 = .ok (.dup, 1) := by decide +kernel
theorem dX9_init_20 : decode cX9_init 20 = .ok (.invokespecial 18, 3) := by decide +kernel
theorem dX9_init_23 : decode cX9_init 23 = .ok (.putfield 19, 3) := by decide +kernel
theorem dX9_init_26 : decode cX9_init 26 = .ok (.aload_n 0, 1) := by decide +kernel
theorem dX9_init_27 : decode cX9_init 27 = .ok (.new 23, 3) := by decide +kernel
theorem dX9_init_30 : decode cX9_init 30 = .ok (.dup, 1) := by decide +kernel
theorem dX9_init_31 : decode cX9_init 31 = .ok (.invokespecial 25, 3) := by decide +kernel
theorem dX9_init_34 : decode cX9_init 34 = .ok (.putfield 26, 3) := by decide +kernel
theorem dX9_init_37 : decode cX9_init 37 = .ok (.aload_n 0, 1) := by decide +kernel
theorem dX9_init_38 : decode cX9_init 38 = .ok (.new 23, 3) := by decide +kernel
theorem dX9_init_41 : decode cX9_init 41 = .ok (.dup, 1) := by decide +kernel
theorem dX9_init_42 : decode cX9_init 42 = .ok (.invokespecial 25, 3) := by decide +kernel
theorem dX9_init_45 : decode cX9_init 45 = .ok (.putfield 30, 3) := by decide +kernel
theorem dX9_init_48 : decode cX9_init 48 = .ok (.aload_n 0, 1) := by decide +kernel
theorem dX9_init_49 : decode cX9_init 49 = .ok (.new 33, 3) := by decide +kernel
theorem dX9_init_52 : decode cX9_init 52 = .ok (.dup, 1) := by decide +kernel
theorem dX9_init_53 : decode cX9_init 53 = .ok (.invokespecial 35, 3) := by decide +kernel
theorem dX9_init_56 : decode cX9_init 56 = .ok (.putfield 36, 3) := by decide +kernel
theorem dX9_init_59 : decode cX9_init 59 = .ok (.aload_n 0, 1) := by decide +kernel
theorem dX9_init_60 : decode cX9_init 60 = .ok (.new 33, 3) := by decide +kernel
theorem dX9_init_63 : decode cX9_init 63 = .ok (.dup, 1) := by decide +kernel
theorem dX9_init_64 : decode cX9_init 64 = .ok (.invokespecial 35, 3) := by decide +kernel
theorem dX9_init_67 : decode cX9_init 67 = .ok (.putfield 40, 3) := by decide +kernel
theorem dX9_init_70 : decode cX9_init 70 = .ok (.aload_n 0, 1) := by decide +kernel
theorem dX9_init_71 : decode cX9_init 71 = .ok (.new 43, 3) := by decide +kernel
theorem dX9_init_74 : decode cX9_init 74 = .ok (.dup, 1) := by decide +kernel
theorem dX9_init_75 : decode cX9_init 75 = .ok (.invokespecial 45, 3) := by decide +kernel
theorem dX9_init_78 : decode cX9_init 78 = .ok (.putfield 46, 3) := by decide +kernel
theorem dX9_init_81 : decode cX9_init 81 = .ok (.aload_n 0, 1) := by decide +kernel
theorem dX9_init_82 : decode cX9_init 82 = .ok (.new 50, 3) := by decide +kernel
theorem dX9_init_85 : decode cX9_init 85 = .ok (.dup, 1) := by decide +kernel
theorem dX9_init_86 : decode cX9_init 86 = .ok (.invokespecial 52, 3) := by decide +kernel
theorem dX9_init_89 : decode cX9_init 89 = .ok (.putfield 53, 3) := by decide +kernel
theorem dX9_init_92 : decode cX9_init 92 = .ok (.aload_n 0, 1) := by decide +kernel
theorem dX9_init_93 : decode cX9_init 93 = .ok (.new 50, 3) := by decide +kernel
theorem dX9_init_96 : decode cX9_init 96 = .ok (.dup, 1) := by decide +kernel
theorem dX9_init_97 : decode cX9_init 97 = .ok (.invokespecial 52, 3) := by decide +kernel
theorem dX9_init_100 : decode cX9_init 100 = .ok (.putfield 57, 3) := by decide +kernel
theorem dX9_init_103 : decode cX9_init 103 = .ok (.aload_n 0, 1) := by decide +kernel
theorem dX9_init_104 : decode cX9_init 104 = .ok (.new 60, 3) := by decide +kernel
theorem dX9_init_107 : decode cX9_init 107 = .ok (.dup, 1) := by decide +kernel
theorem dX9_init_108 : decode cX9_init 108 = .ok (.invokespecial 62, 3) := by decide +kernel
theorem dX9_init_111 : decode cX9_init 111 = .ok (.putfield 63, 3) := by decide +kernel
theorem dX9_init_114 : decode cX9_init 114 = .ok (.aload_n 0, 1) := by decide +kernel
theorem dX9_init_115 : decode cX9_init 115 = .ok (.bipush 8, 2) := by decide +kernel
theorem dX9_init_117 : decode cX9_init 117 = .ok (.newarray .int, 2) := by decide +kernel
theorem dX9_init_119 : decode cX9_init 119 = .ok (.putfield 69, 3) := by decide +kernel
theorem dX9_init_122 : decode cX9_init 122 = .ok (.aload_n 0, 1) := by decide +kernel
theorem dX9_init_123 : decode cX9_init 123 = .ok (.new 73, 3) := by decide +kernel
theorem dX9_init_126 : decode cX9_init 126 = .ok (.dup, 1) := by decide +kernel
theorem dX9_init_127 : decode cX9_init 127 = .ok (.invokespecial 75, 3) := by decide +kernel
theorem dX9_init_130 : decode cX9_init 130 = .ok (.putfield 76, 3) := by decide +kernel
theorem dX9_init_133 : decode cX9_init 133 = .ok (.aload_n 0, 1) := by decide +kernel
theorem dX9_init_134 : decode cX9_init 134 = .ok (.getfield 26, 3) := by decide +kernel
theorem dX9_init_137 : decode cX9_init 137 = .ok (.invokevirtual 80, 3) := by decide +kernel
theorem dX9_init_140 : decode cX9_init 140 = .ok (.aload_n 0, 1) := by decide +kernel
theorem dX9_init_141 : decode cX9_init 141 = .ok (.getfield 26, 3) := by decide +kernel
theorem dX9_init_144 : decode cX9_init 144 = .ok (.getfield 83, 3) := by decide +kernel
theorem dX9_init_147 : decode cX9_init 147 = .ok (.iconst 1, 1) := by decide +kernel
theorem dX9_init_148 : decode cX9_init 148 = .ok (.iconst 1, 1) := by decide +kernel
theorem dX9_init_149 : decode cX9_init 149 = .ok (.bipush 20, 2) := by decide +kernel
theorem dX9_init_151 : decode cX9_init 151 = .ok (.iconst 0, 1) := by decide +kernel
theorem dX9_init_152 : decode cX9_init 152 = .ok (.iconst 0, 1) := by decide +kernel
theorem dX9_init_153 : decode cX9_init 153 = .ok (.invokevirtual 87, 3) := by decide +kernel
theorem dX9_init_156 : decode cX9_init 156 = .ok (.pop, 1) := by decide +kernel
theorem dX9_init_157 : decode cX9_init 157 = .ok (.aload_n 0, 1) := by decide +kernel
theorem dX9_init_158 : decode cX9_init 158 = .ok (.getfield 26, 3) := by decide +kernel
theorem dX9_init_161 : decode cX9_init 161 = .ok (.getfield 83, 3) := by decide +kernel
theorem dX9_init_164 : decode cX9_init 164 = .ok (.iconst 0, 1) := by decide +kernel
theorem dX9_init_165 : decode cX9_init 165 = .ok (.bipush 20, 2) := by decide +kernel
theorem dX9_init_167 : decode cX9_init 167 = .ok (.bipush 10, 2) := by decide +kernel
theorem dX9_init_169 : decode cX9_init 169 = .ok (.invokevirtual 91, 3) := by decide +kernel
theorem dX9_init_172 : decode cX9_init 172 = .ok (.pop, 1) := by decide +kernel
theorem dX9_init_173 : decode cX9_init 173 = .ok (.aload_n 0, 1) := by decide +kernel
theorem dX9_init_174 : decode cX9_init 174 = .ok (.getfield 36, 3) := by decide +kernel
theorem dX9_init_177 : decode cX9_init 177 = .ok (.aload_n 0, 1) := by decide +kernel
theorem dX9_init_178 : decode cX9_init 178 = .ok (.getfield 26, 3) := by decide +kernel
theorem dX9_init_181 : decode cX9_init 181 = .ok (.aload_n 0, 1) := by decide +kernel
theorem dX9_init_182 : decode cX9_init 182 = .ok (.getfield 26, 3) := by decide +kernel
theorem dX9_init_185 : decode cX9_init 185 = .ok (.getfield 95, 3) := by decide +kernel
theorem dX9_init_188 : decode cX9_init 188 = .ok (.invokevirtual 99, 3) := by decide +kernel
theorem dX9_init_191 : decode cX9_init 191 = .ok (.pop, 1) := by decide +kernel
theorem dX9_init_192 : decode cX9_init 192 = .ok (.return_, 1) := by decide +kernel
theorem dX9_write_0 : decode cX9_write 0 = .ok (.iload_n 1, 1) := by decide +kernel
theorem dX9_write_1 : decode cX9_write 1 = .ok (.iconst 1, 1) := by decide +kernel
theorem dX9_write_2 : decode cX9_write 2 = .ok (.bipush 8, 2) := by decide +kernel
theorem dX9_write_4 : decode cX9_write 4 = .ok (.invokestatic 103, 3) := by decide +kernel
theorem dX9_write_7 : decode cX9_write 7 = .ok (.ifCond .ne 5, 3) := by decide +kernel
theorem dX9_write_10 : decode cX9_write 10 = .ok (.iconst (-1), 1) := by decide +kernel
theorem dX9_write_11 : decode cX9_write 11 = .ok (.ireturn, 1) := by decide +kernel
theorem dX9_write_12 : decode cX9_write 12 = .ok (.aload_n 0, 1) := by decide +kernel
theorem dX9_write_13 : decode cX9_write 13 = .ok (.getfield 10, 3) := by decide +kernel
theorem dX9_write_16 : decode cX9_write 16 = .ok (.iload_n 1, 1) := by decide +kernel
theorem dX9_write_17 : decode cX9_write 17 = .ok (.lload_n 2, 1) := by decide +kernel
theorem dX9_write_18 : decode cX9_write 18 = .ok (.invokevirtual 106, 3) := by decide +kernel
theorem dX9_write_21 : decode cX9_write 21 = .ok (.ifCond .eq 13, 3) := by decide +kernel
theorem dX9_write_24 : decode cX9_write 24 = .ok (.aload_n 0, 1) := by decide +kernel
theorem dX9_write_25 : decode cX9_write 25 = .ok (.getfield 10, 3) := by decide +kernel
theorem dX9_write_28 : decode cX9_write 28 = .ok (.getfield 110, 3) := by decide +kernel
theorem dX9_write_31 : decode cX9_write 31 = .ok (.goto 5, 3) := by decide +kernel
theorem dX9_write_34 : decode cX9_write 34 = .ok (.bipush (-3), 2) := by decide +kernel
theorem dX9_write_36 : decode cX9_write 36 = .ok (.ireturn, 1) := by decide +kernel
theorem dX9_wipe_0 : decode cX9_wipe 0 = .ok (.aload_n 0, 1) := by decide +kernel
theorem dX9_wipe_1 : decode cX9_wipe 1 = .ok (.getfield 10, 3) := by decide +kernel
theorem dX9_wipe_4 : decode cX9_wipe 4 = .ok (.getfield 110, 3) := by decide +kernel
theorem dX9_wipe_7 : decode cX9_wipe 7 = .ok (.istore_n 1, 1) := by decide +kernel
theorem dX9_wipe_8 : decode cX9_wipe 8 = .ok (.aload_n 0, 1) := by decide +kernel
theorem dX9_wipe_9 : decode cX9_wipe 9 = .ok (.getfield 10, 3) := by decide +kernel
theorem dX9_wipe_12 : decode cX9_wipe 12 = .ok (.iconst 0, 1) := by decide +kernel
theorem dX9_wipe_13 : decode cX9_wipe 13 = .ok (.putfield 110, 3) := by decide +kernel
theorem dX9_wipe_16 : decode cX9_wipe 16 = .ok (.iload_n 1, 1) := by decide +kernel
theorem dX9_wipe_17 : decode cX9_wipe 17 = .ok (.ireturn, 1) := by decide +kernel
theorem dX9_fault_0 : decode cX9_fault 0 = .ok (.aload_n 0, 1) := by decide +kernel
theorem dX9_fault_1 : decode cX9_fault 1 = .ok (.getfield 19, 3) := by decide +kernel
theorem dX9_fault_4 : decode cX9_fault 4 = .ok (.aload_n 0, 1) := by decide +kernel
theorem dX9_fault_5 : decode cX9_fault 5 = .ok (.getfield 10, 3) := by decide +kernel
theorem dX9_fault_8 : decode cX9_fault 8 = .ok (.aload_n 0, 1) := by decide +kernel
theorem dX9_fault_9 : decode cX9_fault 9 = .ok (.getfield 30, 3) := by decide +kernel
theorem dX9_fault_12 : decode cX9_fault 12 = .ok (.invokevirtual 113, 3) := by decide +kernel
theorem dX9_fault_15 : decode cX9_fault 15 = .ok (.ireturn, 1) := by decide +kernel
theorem dX9_lay_0 : decode cX9_lay 0 = .ok (.aload_n 0, 1) := by decide +kernel
theorem dX9_lay_1 : decode cX9_lay 1 = .ok (.getfield 19, 3) := by decide +kernel
theorem dX9_lay_4 : decode cX9_lay 4 = .ok (.aload_n 0, 1) := by decide +kernel
theorem dX9_lay_5 : decode cX9_lay 5 = .ok (.getfield 10, 3) := by decide +kernel
theorem dX9_lay_8 : decode cX9_lay 8 = .ok (.aload_n 0, 1) := by decide +kernel
theorem dX9_lay_9 : decode cX9_lay 9 = .ok (.getfield 30, 3) := by decide +kernel
theorem dX9_lay_12 : decode cX9_lay 12 = .ok (.invokevirtual 113, 3) := by decide +kernel
theorem dX9_lay_15 : decode cX9_lay 15 = .ok (.bipush (-4), 2) := by decide +kernel
theorem dX9_lay_17 : decode cX9_lay 17 = .ok (.if_icmp .ne 16, 3) := by decide +kernel
theorem dX9_lay_20 : decode cX9_lay 20 = .ok (.aload_n 0, 1) := by decide +kernel
theorem dX9_lay_21 : decode cX9_lay 21 = .ok (.getfield 30, 3) := by decide +kernel
theorem dX9_lay_24 : decode cX9_lay 24 = .ok (.getfield 83, 3) := by decide +kernel
theorem dX9_lay_27 : decode cX9_lay 27 = .ok (.getfield 117, 3) := by decide +kernel
theorem dX9_lay_30 : decode cX9_lay 30 = .ok (.ifCond .ne 6, 3) := by decide +kernel
theorem dX9_lay_33 : decode cX9_lay 33 = .ok (.bipush (-2), 2) := by decide +kernel
theorem dX9_lay_35 : decode cX9_lay 35 = .ok (.ireturn, 1) := by decide +kernel
theorem dX9_lay_36 : decode cX9_lay 36 = .ok (.aload_n 0, 1) := by decide +kernel
theorem dX9_lay_37 : decode cX9_lay 37 = .ok (.getfield 26, 3) := by decide +kernel
theorem dX9_lay_40 : decode cX9_lay 40 = .ok (.astore_n 1, 1) := by decide +kernel
theorem dX9_lay_41 : decode cX9_lay 41 = .ok (.aload_n 0, 1) := by decide +kernel
theorem dX9_lay_42 : decode cX9_lay 42 = .ok (.aload_n 0, 1) := by decide +kernel
theorem dX9_lay_43 : decode cX9_lay 43 = .ok (.getfield 30, 3) := by decide +kernel
theorem dX9_lay_46 : decode cX9_lay 46 = .ok (.putfield 26, 3) := by decide +kernel
theorem dX9_lay_49 : decode cX9_lay 49 = .ok (.aload_n 0, 1) := by decide +kernel
theorem dX9_lay_50 : decode cX9_lay 50 = .ok (.aload_n 1, 1) := by decide +kernel
theorem dX9_lay_51 : decode cX9_lay 51 = .ok (.putfield 30, 3) := by decide +kernel
theorem dX9_lay_54 : decode cX9_lay 54 = .ok (.aload_n 0, 1) := by decide +kernel
theorem dX9_lay_55 : decode cX9_lay 55 = .ok (.getfield 36, 3) := by decide +kernel
theorem dX9_lay_58 : decode cX9_lay 58 = .ok (.aload_n 0, 1) := by decide +kernel
theorem dX9_lay_59 : decode cX9_lay 59 = .ok (.getfield 26, 3) := by decide +kernel
theorem dX9_lay_62 : decode cX9_lay 62 = .ok (.aload_n 0, 1) := by decide +kernel
theorem dX9_lay_63 : decode cX9_lay 63 = .ok (.getfield 26, 3) := by decide +kernel
theorem dX9_lay_66 : decode cX9_lay 66 = .ok (.getfield 95, 3) := by decide +kernel
theorem dX9_lay_69 : decode cX9_lay 69 = .ok (.invokevirtual 99, 3) := by decide +kernel
theorem dX9_lay_72 : decode cX9_lay 72 = .ok (.pop, 1) := by decide +kernel
theorem dX9_lay_73 : decode cX9_lay 73 = .ok (.aload_n 0, 1) := by decide +kernel
theorem dX9_lay_74 : decode cX9_lay 74 = .ok (.getfield 69, 3) := by decide +kernel
theorem dX9_lay_77 : decode cX9_lay 77 = .ok (.iconst 0, 1) := by decide +kernel
theorem dX9_lay_78 : decode cX9_lay 78 = .ok (.invokestatic 119, 3) := by decide +kernel
theorem dX9_lay_81 : decode cX9_lay 81 = .ok (.aload_n 0, 1) := by decide +kernel
theorem dX9_lay_82 : decode cX9_lay 82 = .ok (.iconst 0, 1) := by decide +kernel
theorem dX9_lay_83 : decode cX9_lay 83 = .ok (.putfield 125, 3) := by decide +kernel
theorem dX9_lay_86 : decode cX9_lay 86 = .ok (.aload_n 0, 1) := by decide +kernel
theorem dX9_lay_87 : decode cX9_lay 87 = .ok (.getfield 76, 3) := by decide +kernel
theorem dX9_lay_90 : decode cX9_lay 90 = .ok (.iconst 0, 1) := by decide +kernel
theorem dX9_lay_91 : decode cX9_lay 91 = .ok (.putfield 128, 3) := by decide +kernel
theorem dX9_lay_94 : decode cX9_lay 94 = .ok (.aload_n 0, 1) := by decide +kernel
theorem dX9_lay_95 : decode cX9_lay 95 = .ok (.iconst 0, 1) := by decide +kernel
theorem dX9_lay_96 : decode cX9_lay 96 = .ok (.putfield 131, 3) := by decide +kernel
theorem dX9_lay_99 : decode cX9_lay 99 = .ok (.aload_n 0, 1) := by decide +kernel
theorem dX9_lay_100 : decode cX9_lay 100 = .ok (.invokevirtual 135, 3) := by decide +kernel
theorem dX9_lay_103 : decode cX9_lay 103 = .ok (.aload_n 0, 1) := by decide +kernel
theorem dX9_lay_104 : decode cX9_lay 104 = .ok (.getfield 26, 3) := by decide +kernel
theorem dX9_lay_107 : decode cX9_lay 107 = .ok (.getfield 83, 3) := by decide +kernel
theorem dX9_lay_110 : decode cX9_lay 110 = .ok (.getfield 138, 3) := by decide +kernel
theorem dX9_lay_113 : decode cX9_lay 113 = .ok (.ireturn, 1) := by decide +kernel
theorem dX9_giver_0 : decode cX9_giver 0 = .ok (.aload_n 0, 1) := by decide +kernel
theorem dX9_giver_1 : decode cX9_giver 1 = .ok (.iload_n 1, 1) := by decide +kernel
theorem dX9_giver_2 : decode cX9_giver 2 = .ok (.invokevirtual 141, 3) := by decide +kernel
theorem dX9_giver_5 : decode cX9_giver 5 = .ok (.ifCond .eq 12, 3) := by decide +kernel
theorem dX9_giver_8 : decode cX9_giver 8 = .ok (.iload_n 2, 1) := by decide +kernel
theorem dX9_giver_9 : decode cX9_giver 9 = .ok (.iconst 0, 1) := by decide +kernel
theorem dX9_giver_10 : decode cX9_giver 10 = .ok (.iconst 3, 1) := by decide +kernel
theorem dX9_giver_11 : decode cX9_giver 11 = .ok (.invokestatic 103, 3) := by decide +kernel
theorem dX9_giver_14 : decode cX9_giver 14 = .ok (.ifCond .ne 5, 3) := by decide +kernel
theorem dX9_giver_17 : decode cX9_giver 17 = .ok (.iconst (-1), 1) := by decide +kernel
theorem dX9_giver_18 : decode cX9_giver 18 = .ok (.ireturn, 1) := by decide +kernel
theorem dX9_giver_19 : decode cX9_giver 19 = .ok (.aload_n 0, 1) := by decide +kernel
theorem dX9_giver_20 : decode cX9_giver 20 = .ok (.getfield 36, 3) := by decide +kernel
theorem dX9_giver_23 : decode cX9_giver 23 = .ok (.iload_n 1, 1) := by decide +kernel
theorem dX9_giver_24 : decode cX9_giver 24 = .ok (.invokevirtual 145, 3) := by decide +kernel
theorem dX9_giver_27 : decode cX9_giver 27 = .ok (.istore_n 3, 1) := by decide +kernel
theorem dX9_giver_28 : decode cX9_giver 28 = .ok (.iload_n 2, 1) := by decide +kernel
theorem dX9_giver_29 : decode cX9_giver 29 = .ok (.tableswitch 83 0 2 #[27, 39, 62], 27) := by decide +kernel
theorem dX9_giver_56 : decode cX9_giver 56 = .ok (.aload_n 0, 1) := by decide +kernel
theorem dX9_giver_57 : decode cX9_giver 57 = .ok (.getfield 26, 3) := by decide +kernel
theorem dX9_giver_60 : decode cX9_giver 60 = .ok (.getfield 83, 3) := by decide +kernel
theorem dX9_giver_63 : decode cX9_giver 63 = .ok (.iload_n 1, 1) := by decide +kernel
theorem dX9_giver_64 : decode cX9_giver 64 = .ok (.invokevirtual 149, 3) := by decide +kernel
theorem dX9_giver_67 : decode cX9_giver 67 = .ok (.ireturn, 1) := by decide +kernel
theorem dX9_giver_68 : decode cX9_giver 68 = .ok (.aload_n 0, 1) := by decide +kernel
theorem dX9_giver_69 : decode cX9_giver 69 = .ok (.getfield 26, 3) := by decide +kernel
theorem dX9_giver_72 : decode cX9_giver 72 = .ok (.getfield 83, 3) := by decide +kernel
theorem dX9_giver_75 : decode cX9_giver 75 = .ok (.getfield 152, 3) := by decide +kernel
theorem dX9_giver_78 : decode cX9_giver 78 = .ok (.aload_n 0, 1) := by decide +kernel
theorem dX9_giver_79 : decode cX9_giver 79 = .ok (.getfield 26, 3) := by decide +kernel
theorem dX9_giver_82 : decode cX9_giver 82 = .ok (.getfield 83, 3) := by decide +kernel
theorem dX9_giver_85 : decode cX9_giver 85 = .ok (.iload_n 1, 1) := by decide +kernel
theorem dX9_giver_86 : decode cX9_giver 86 = .ok (.invokevirtual 149, 3) := by decide +kernel
theorem dX9_giver_89 : decode cX9_giver 89 = .ok (.iaload, 1) := by decide +kernel
theorem dX9_giver_90 : decode cX9_giver 90 = .ok (.ireturn, 1) := by decide +kernel
theorem dX9_giver_91 : decode cX9_giver 91 = .ok (.iload_n 3, 1) := by decide +kernel
theorem dX9_giver_92 : decode cX9_giver 92 = .ok (.bipush (-4), 2) := by decide +kernel
theorem dX9_giver_94 : decode cX9_giver 94 = .ok (.if_icmp .ne 8, 3) := by decide +kernel
theorem dX9_giver_97 : decode cX9_giver 97 = .ok (.bipush (-4), 2) := by decide +kernel
theorem dX9_giver_99 : decode cX9_giver 99 = .ok (.goto 12, 3) := by decide +kernel
theorem dX9_giver_102 : decode cX9_giver 102 = .ok (.aload_n 0, 1) := by decide +kernel
theorem dX9_giver_103 : decode cX9_giver 103 = .ok (.getfield 36, 3) := by decide +kernel
theorem dX9_giver_106 : decode cX9_giver 106 = .ok (.getfield 155, 3) := by decide +kernel
theorem dX9_giver_109 : decode cX9_giver 109 = .ok (.iload_n 3, 1) := by decide +kernel
theorem dX9_giver_110 : decode cX9_giver 110 = .ok (.iaload, 1) := by decide +kernel
theorem dX9_giver_111 : decode cX9_giver 111 = .ok (.ireturn, 1) := by decide +kernel
theorem dX9_giver_112 : decode cX9_giver 112 = .ok (.iload_n 3, 1) := by decide +kernel
theorem dX9_giver_113 : decode cX9_giver 113 = .ok (.ireturn, 1) := by decide +kernel
theorem dX9_show_0 : decode cX9_show 0 = .ok (.iload_n 1, 1) := by decide +kernel
theorem dX9_show_1 : decode cX9_show 1 = .ok (.iconst 0, 1) := by decide +kernel
theorem dX9_show_2 : decode cX9_show 2 = .ok (.iconst 2, 1) := by decide +kernel
theorem dX9_show_3 : decode cX9_show 3 = .ok (.invokestatic 103, 3) := by decide +kernel
theorem dX9_show_6 : decode cX9_show 6 = .ok (.ifCond .ne 5, 3) := by decide +kernel
theorem dX9_show_9 : decode cX9_show 9 = .ok (.iconst (-1), 1) := by decide +kernel
theorem dX9_show_10 : decode cX9_show 10 = .ok (.ireturn, 1) := by decide +kernel
theorem dX9_show_11 : decode cX9_show 11 = .ok (.aload_n 0, 1) := by decide +kernel
theorem dX9_show_12 : decode cX9_show 12 = .ok (.getfield 125, 3) := by decide +kernel
theorem dX9_show_15 : decode cX9_show 15 = .ok (.istore_n 2, 1) := by decide +kernel
theorem dX9_show_16 : decode cX9_show 16 = .ok (.aload_n 0, 1) := by decide +kernel
theorem dX9_show_17 : decode cX9_show 17 = .ok (.iload_n 1, 1) := by decide +kernel
theorem dX9_show_18 : decode cX9_show 18 = .ok (.putfield 125, 3) := by decide +kernel
theorem dX9_show_21 : decode cX9_show 21 = .ok (.aload_n 0, 1) := by decide +kernel
theorem dX9_show_22 : decode cX9_show 22 = .ok (.invokevirtual 135, 3) := by decide +kernel
theorem dX9_show_25 : decode cX9_show 25 = .ok (.iload_n 2, 1) := by decide +kernel
theorem dX9_show_26 : decode cX9_show 26 = .ok (.ireturn, 1) := by decide +kernel
theorem dX9_odds_0 : decode cX9_odds 0 = .ok (.iload_n 1, 1) := by decide +kernel
theorem dX9_odds_1 : decode cX9_odds 1 = .ok (.iconst 0, 1) := by decide +kernel
theorem dX9_odds_2 : decode cX9_odds 2 = .ok (.iconst 2, 1) := by decide +kernel
theorem dX9_odds_3 : decode cX9_odds 3 = .ok (.invokestatic 103, 3) := by decide +kernel
theorem dX9_odds_6 : decode cX9_odds 6 = .ok (.ifCond .ne 7, 3) := by decide +kernel
theorem dX9_odds_9 : decode cX9_odds 9 = .ok (.ldc2_w 158, 3) := by decide +kernel
theorem dX9_odds_12 : decode cX9_odds 12 = .ok (.lreturn, 1) := by decide +kernel
theorem dX9_odds_13 : decode cX9_odds 13 = .ok (.aload_n 0, 1) := by decide +kernel
theorem dX9_odds_14 : decode cX9_odds 14 = .ok (.invokevirtual 160, 3) := by decide +kernel
theorem dX9_odds_17 : decode cX9_odds 17 = .ok (.getfield 164, 3) := by decide +kernel
theorem dX9_odds_20 : decode cX9_odds 20 = .ok (.lstore_n 2, 1) := by decide +kernel
theorem dX9_odds_21 : decode cX9_odds 21 = .ok (.iload_n 1, 1) := by decide +kernel
theorem dX9_odds_22 : decode cX9_odds 22 = .ok (.ifCond .ne 5, 3) := by decide +kernel
theorem dX9_odds_25 : decode cX9_odds 25 = .ok (.lload_n 2, 1) := by decide +kernel
theorem dX9_odds_26 : decode cX9_odds 26 = .ok (.lreturn, 1) := by decide +kernel
theorem dX9_odds_27 : decode cX9_odds 27 = .ok (.aload_n 0, 1) := by decide +kernel
theorem dX9_odds_28 : decode cX9_odds 28 = .ok (.getfield 36, 3) := by decide +kernel
theorem dX9_odds_31 : decode cX9_odds 31 = .ok (.invokevirtual 168, 3) := by decide +kernel
theorem dX9_odds_34 : decode cX9_odds 34 = .ok (.lstore 4, 2) := by decide +kernel
theorem dX9_odds_36 : decode cX9_odds 36 = .ok (.lload_n 2, 1) := by decide +kernel
theorem dX9_odds_37 : decode cX9_odds 37 = .ok (.lload 4, 2) := by decide +kernel
theorem dX9_odds_39 : decode cX9_odds 39 = .ok (.invokestatic 172, 3) := by decide +kernel
theorem dX9_odds_42 : decode cX9_odds 42 = .ok (.lstore 6, 2) := by decide +kernel
theorem dX9_odds_44 : decode cX9_odds 44 = .ok (.iload_n 1, 1) := by decide +kernel
theorem dX9_odds_45 : decode cX9_odds 45 = .ok (.iconst 1, 1) := by decide +kernel
theorem dX9_odds_46 : decode cX9_odds 46 = .ok (.if_icmp .ne 7, 3) := by decide +kernel
theorem dX9_odds_49 : decode cX9_odds 49 = .ok (.lload_n 2, 1) := by decide +kernel
theorem dX9_odds_50 : decode cX9_odds 50 = .ok (.goto 5, 3) := by decide +kernel
theorem dX9_odds_53 : decode cX9_odds 53 = .ok (.lload 4, 2) := by decide +kernel
theorem dX9_odds_55 : decode cX9_odds 55 = .ok (.lload 6, 2) := by decide +kernel
theorem dX9_odds_57 : decode cX9_odds 57 = .ok (.ldiv, 1) := by decide +kernel
theorem dX9_odds_58 : decode cX9_odds 58 = .ok (.lreturn, 1) := by decide +kernel
theorem dX9_mean_0 : decode cX9_mean 0 = .ok (.aload_n 0, 1) := by decide +kernel
theorem dX9_mean_1 : decode cX9_mean 1 = .ok (.iload_n 1, 1) := by decide +kernel
theorem dX9_mean_2 : decode cX9_mean 2 = .ok (.invokevirtual 141, 3) := by decide +kernel
theorem dX9_mean_5 : decode cX9_mean 5 = .ok (.ifCond .eq 12, 3) := by decide +kernel
theorem dX9_mean_8 : decode cX9_mean 8 = .ok (.iload_n 2, 1) := by decide +kernel
theorem dX9_mean_9 : decode cX9_mean 9 = .ok (.iconst 0, 1) := by decide +kernel
theorem dX9_mean_10 : decode cX9_mean 10 = .ok (.iconst 1, 1) := by decide +kernel
theorem dX9_mean_11 : decode cX9_mean 11 = .ok (.invokestatic 103, 3) := by decide +kernel
theorem dX9_mean_14 : decode cX9_mean 14 = .ok (.ifCond .ne 7, 3) := by decide +kernel
theorem dX9_mean_17 : decode cX9_mean 17 = .ok (.ldc2_w 178, 3) := by decide +kernel
theorem dX9_mean_20 : decode cX9_mean 20 = .ok (.lreturn, 1) := by decide +kernel
theorem dX9_mean_21 : decode cX9_mean 21 = .ok (.aload_n 0, 1) := by decide +kernel
theorem dX9_mean_22 : decode cX9_mean 22 = .ok (.getfield 36, 3) := by decide +kernel
theorem dX9_mean_25 : decode cX9_mean 25 = .ok (.iload_n 1, 1) := by decide +kernel
theorem dX9_mean_26 : decode cX9_mean 26 = .ok (.invokevirtual 145, 3) := by decide +kernel
theorem dX9_mean_29 : decode cX9_mean 29 = .ok (.istore_n 3, 1) := by decide +kernel
theorem dX9_mean_30 : decode cX9_mean 30 = .ok (.iload_n 3, 1) := by decide +kernel
theorem dX9_mean_31 : decode cX9_mean 31 = .ok (.bipush (-4), 2) := by decide +kernel
theorem dX9_mean_33 : decode cX9_mean 33 = .ok (.if_icmp .ne 7, 3) := by decide +kernel
theorem dX9_mean_36 : decode cX9_mean 36 = .ok (.ldc2_w 180, 3) := by decide +kernel
theorem dX9_mean_39 : decode cX9_mean 39 = .ok (.lreturn, 1) := by decide +kernel
theorem dX9_mean_40 : decode cX9_mean 40 = .ok (.aload_n 0, 1) := by decide +kernel
theorem dX9_mean_41 : decode cX9_mean 41 = .ok (.invokevirtual 160, 3) := by decide +kernel
theorem dX9_mean_44 : decode cX9_mean 44 = .ok (.astore 4, 2) := by decide +kernel
theorem dX9_mean_46 : decode cX9_mean 46 = .ok (.iload_n 2, 1) := by decide +kernel
theorem dX9_mean_47 : decode cX9_mean 47 = .ok (.ifCond .ne 13, 3) := by decide +kernel
theorem dX9_mean_50 : decode cX9_mean 50 = .ok (.aload 4, 2) := by decide +kernel
theorem dX9_mean_52 : decode cX9_mean 52 = .ok (.getfield 182, 3) := by decide +kernel
theorem dX9_mean_55 : decode cX9_mean 55 = .ok (.iload_n 3, 1) := by decide +kernel
theorem dX9_mean_56 : decode cX9_mean 56 = .ok (.laload, 1) := by decide +kernel
theorem dX9_mean_57 : decode cX9_mean 57 = .ok (.goto 10, 3) := by decide +kernel
theorem dX9_mean_60 : decode cX9_mean 60 = .ok (.aload 4, 2) := by decide +kernel
theorem dX9_mean_62 : decode cX9_mean 62 = .ok (.getfield 186, 3) := by decide +kernel
theorem dX9_mean_65 : decode cX9_mean 65 = .ok (.iload_n 3, 1) := by decide +kernel
theorem dX9_mean_66 : decode cX9_mean 66 = .ok (.laload, 1) := by decide +kernel
theorem dX9_mean_67 : decode cX9_mean 67 = .ok (.lreturn, 1) := by decide +kernel
theorem dX9_wrong_0 : decode cX9_wrong 0 = .ok (.iload_n 1, 1) := by decide +kernel
theorem dX9_wrong_1 : decode cX9_wrong 1 = .ok (.iconst 0, 1) := by decide +kernel
theorem dX9_wrong_2 : decode cX9_wrong 2 = .ok (.iconst 1, 1) := by decide +kernel
theorem dX9_wrong_3 : decode cX9_wrong 3 = .ok (.invokestatic 103, 3) := by decide +kernel
theorem dX9_wrong_6 : decode cX9_wrong 6 = .ok (.ifCond .ne 7, 3) := by decide +kernel
theorem dX9_wrong_9 : decode cX9_wrong 9 = .ok (.ldc2_w 158, 3) := by decide +kernel
theorem dX9_wrong_12 : decode cX9_wrong 12 = .ok (.lreturn, 1) := by decide +kernel
theorem dX9_wrong_13 : decode cX9_wrong 13 = .ok (.aload_n 0, 1) := by decide +kernel
theorem dX9_wrong_14 : decode cX9_wrong 14 = .ok (.invokevirtual 160, 3) := by decide +kernel
theorem dX9_wrong_17 : decode cX9_wrong 17 = .ok (.astore_n 2, 1) := by decide +kernel
theorem dX9_wrong_18 : decode cX9_wrong 18 = .ok (.iload_n 1, 1) := by decide +kernel
theorem dX9_wrong_19 : decode cX9_wrong 19 = .ok (.ifCond .ne 10, 3) := by decide +kernel
theorem dX9_wrong_22 : decode cX9_wrong 22 = .ok (.aload_n 2, 1) := by decide +kernel
theorem dX9_wrong_23 : decode cX9_wrong 23 = .ok (.getfield 189, 3) := by decide +kernel
theorem dX9_wrong_26 : decode cX9_wrong 26 = .ok (.goto 7, 3) := by decide +kernel
theorem dX9_wrong_29 : decode cX9_wrong 29 = .ok (.aload_n 2, 1) := by decide +kernel
theorem dX9_wrong_30 : decode cX9_wrong 30 = .ok (.getfield 192, 3) := by decide +kernel
theorem dX9_wrong_33 : decode cX9_wrong 33 = .ok (.lreturn, 1) := by decide +kernel
theorem dX9_row_0 : decode cX9_row 0 = .ok (.aload_n 0, 1) := by decide +kernel
theorem dX9_row_1 : decode cX9_row 1 = .ok (.iload_n 1, 1) := by decide +kernel
theorem dX9_row_2 : decode cX9_row 2 = .ok (.invokevirtual 141, 3) := by decide +kernel
theorem dX9_row_5 : decode cX9_row 5 = .ok (.ifCond .eq 13, 3) := by decide +kernel
theorem dX9_row_8 : decode cX9_row 8 = .ok (.iload_n 2, 1) := by decide +kernel
theorem dX9_row_9 : decode cX9_row 9 = .ok (.iconst 0, 1) := by decide +kernel
theorem dX9_row_10 : decode cX9_row 10 = .ok (.bipush 30, 2) := by decide +kernel
theorem dX9_row_12 : decode cX9_row 12 = .ok (.invokestatic 103, 3) := by decide +kernel
theorem dX9_row_15 : decode cX9_row 15 = .ok (.ifCond .ne 5, 3) := by decide +kernel
theorem dX9_row_18 : decode cX9_row 18 = .ok (.iconst (-1), 1) := by decide +kernel
theorem dX9_row_19 : decode cX9_row 19 = .ok (.ireturn, 1) := by decide +kernel
theorem dX9_row_20 : decode cX9_row 20 = .ok (.aload_n 0, 1) := by decide +kernel
theorem dX9_row_21 : decode cX9_row 21 = .ok (.getfield 69, 3) := by decide +kernel
theorem dX9_row_24 : decode cX9_row 24 = .ok (.iload_n 1, 1) := by decide +kernel
theorem dX9_row_25 : decode cX9_row 25 = .ok (.iaload, 1) := by decide +kernel
theorem dX9_row_26 : decode cX9_row 26 = .ok (.istore_n 3, 1) := by decide +kernel
theorem dX9_row_27 : decode cX9_row 27 = .ok (.aload_n 0, 1) := by decide +kernel
theorem dX9_row_28 : decode cX9_row 28 = .ok (.getfield 69, 3) := by decide +kernel
theorem dX9_row_31 : decode cX9_row 31 = .ok (.iload_n 1, 1) := by decide +kernel
theorem dX9_row_32 : decode cX9_row 32 = .ok (.iload_n 2, 1) := by decide +kernel
theorem dX9_row_33 : decode cX9_row 33 = .ok (.iastore, 1) := by decide +kernel
theorem dX9_row_34 : decode cX9_row 34 = .ok (.iload_n 3, 1) := by decide +kernel
theorem dX9_row_35 : decode cX9_row 35 = .ok (.ireturn, 1) := by decide +kernel
theorem dX9_judge_0 : decode cX9_judge 0 = .ok (.aload_n 0, 1) := by decide +kernel
theorem dX9_judge_1 : decode cX9_judge 1 = .ok (.invokevirtual 195, 3) := by decide +kernel
theorem dX9_judge_4 : decode cX9_judge 4 = .ok (.iconst 0, 1) := by decide +kernel
theorem dX9_judge_5 : decode cX9_judge 5 = .ok (.istore_n 1, 1) := by decide +kernel
theorem dX9_judge_6 : decode cX9_judge 6 = .ok (.iconst 0, 1) := by decide +kernel
theorem dX9_judge_7 : decode cX9_judge 7 = .ok (.istore_n 2, 1) := by decide +kernel
theorem dX9_judge_8 : decode cX9_judge 8 = .ok (.iload_n 2, 1) := by decide +kernel
theorem dX9_judge_9 : decode cX9_judge 9 = .ok (.aload_n 0, 1) := by decide +kernel
theorem dX9_judge_10 : decode cX9_judge 10 = .ok (.getfield 36, 3) := by decide +kernel
theorem dX9_judge_13 : decode cX9_judge 13 = .ok (.getfield 198, 3) := by decide +kernel
theorem dX9_judge_16 : decode cX9_judge 16 = .ok (.if_icmp .ge 57, 3) := by decide +kernel
theorem dX9_judge_19 : decode cX9_judge 19 = .ok (.aload_n 0, 1) := by decide +kernel
theorem dX9_judge_20 : decode cX9_judge 20 = .ok (.getfield 36, 3) := by decide +kernel
theorem dX9_judge_23 : decode cX9_judge 23 = .ok (.getfield 199, 3) := by decide +kernel
theorem dX9_judge_26 : decode cX9_judge 26 = .ok (.iload_n 2, 1) := by decide +kernel
theorem dX9_judge_27 : decode cX9_judge 27 = .ok (.iaload, 1) := by decide +kernel
theorem dX9_judge_28 : decode cX9_judge 28 = .ok (.istore_n 3, 1) := by decide +kernel
theorem dX9_judge_29 : decode cX9_judge 29 = .ok (.aload_n 0, 1) := by decide +kernel
theorem dX9_judge_30 : decode cX9_judge 30 = .ok (.getfield 46, 3) := by decide +kernel
theorem dX9_judge_33 : decode cX9_judge 33 = .ok (.iload_n 2, 1) := by decide +kernel
theorem dX9_judge_34 : decode cX9_judge 34 = .ok (.aload_n 0, 1) := by decide +kernel
theorem dX9_judge_35 : decode cX9_judge 35 = .ok (.getfield 36, 3) := by decide +kernel
theorem dX9_judge_38 : decode cX9_judge 38 = .ok (.getfield 202, 3) := by decide +kernel
theorem dX9_judge_41 : decode cX9_judge 41 = .ok (.iload_n 2, 1) := by decide +kernel
theorem dX9_judge_42 : decode cX9_judge 42 = .ok (.iaload, 1) := by decide +kernel
theorem dX9_judge_43 : decode cX9_judge 43 = .ok (.iload_n 1, 1) := by decide +kernel
theorem dX9_judge_44 : decode cX9_judge 44 = .ok (.invokevirtual 205, 3) := by decide +kernel
theorem dX9_judge_47 : decode cX9_judge 47 = .ok (.aload_n 0, 1) := by decide +kernel
theorem dX9_judge_48 : decode cX9_judge 48 = .ok (.getfield 69, 3) := by decide +kernel
theorem dX9_judge_51 : decode cX9_judge 51 = .ok (.iload_n 3, 1) := by decide +kernel
theorem dX9_judge_52 : decode cX9_judge 52 = .ok (.iaload, 1) := by decide +kernel
theorem dX9_judge_53 : decode cX9_judge 53 = .ok (.if_icmp .eq 5, 3) := by decide +kernel
theorem dX9_judge_56 : decode cX9_judge 56 = .ok (.iload_n 3, 1) := by decide +kernel
theorem dX9_judge_57 : decode cX9_judge 57 = .ok (.ireturn, 1) := by decide +kernel
theorem dX9_judge_58 : decode cX9_judge 58 = .ok (.iload_n 1, 1) := by decide +kernel
theorem dX9_judge_59 : decode cX9_judge 59 = .ok (.aload_n 0, 1) := by decide +kernel
theorem dX9_judge_60 : decode cX9_judge 60 = .ok (.getfield 69, 3) := by decide +kernel
theorem dX9_judge_63 : decode cX9_judge 63 = .ok (.iload_n 3, 1) := by decide +kernel
theorem dX9_judge_64 : decode cX9_judge 64 = .ok (.iaload, 1) := by decide +kernel
theorem dX9_judge_65 : decode cX9_judge 65 = .ok (.iadd, 1) := by decide +kernel
theorem dX9_judge_66 : decode cX9_judge 66 = .ok (.istore_n 1, 1) := by decide +kernel
theorem dX9_judge_67 : decode cX9_judge 67 = .ok (.iinc 2 1, 3) := by decide +kernel
theorem dX9_judge_70 : decode cX9_judge 70 = .ok (.goto (-62), 3) := by decide +kernel
theorem dX9_judge_73 : decode cX9_judge 73 = .ok (.bipush (-4), 2) := by decide +kernel
theorem dX9_judge_75 : decode cX9_judge 75 = .ok (.ireturn, 1) := by decide +kernel
theorem dX9_made_0 : decode cX9_made 0 = .ok (.iload_n 1, 1) := by decide +kernel
theorem dX9_made_1 : decode cX9_made 1 = .ok (.iconst 0, 1) := by decide +kernel
theorem dX9_made_2 : decode cX9_made 2 = .ok (.iconst 1, 1) := by decide +kernel
theorem dX9_made_3 : decode cX9_made 3 = .ok (.invokestatic 103, 3) := by decide +kernel
theorem dX9_made_6 : decode cX9_made 6 = .ok (.ifCond .ne 5, 3) := by decide +kernel
theorem dX9_made_9 : decode cX9_made 9 = .ok (.iconst (-1), 1) := by decide +kernel
theorem dX9_made_10 : decode cX9_made 10 = .ok (.ireturn, 1) := by decide +kernel
theorem dX9_made_11 : decode cX9_made 11 = .ok (.iconst 0, 1) := by decide +kernel
theorem dX9_made_12 : decode cX9_made 12 = .ok (.istore_n 2, 1) := by decide +kernel
theorem dX9_made_13 : decode cX9_made 13 = .ok (.iconst 0, 1) := by decide +kernel
theorem dX9_made_14 : decode cX9_made 14 = .ok (.istore_n 3, 1) := by decide +kernel
theorem dX9_made_15 : decode cX9_made 15 = .ok (.iconst 0, 1) := by decide +kernel
theorem dX9_made_16 : decode cX9_made 16 = .ok (.istore 4, 2) := by decide +kernel
theorem dX9_made_18 : decode cX9_made 18 = .ok (.iload 4, 2) := by decide +kernel
theorem dX9_made_20 : decode cX9_made 20 = .ok (.aload_n 0, 1) := by decide +kernel
theorem dX9_made_21 : decode cX9_made 21 = .ok (.getfield 36, 3) := by decide +kernel
theorem dX9_made_24 : decode cX9_made 24 = .ok (.getfield 198, 3) := by decide +kernel
theorem dX9_made_27 : decode cX9_made 27 = .ok (.if_icmp .ge 39, 3) := by decide +kernel
theorem dX9_made_30 : decode cX9_made 30 = .ok (.aload_n 0, 1) := by decide +kernel
theorem dX9_made_31 : decode cX9_made 31 = .ok (.getfield 69, 3) := by decide +kernel
theorem dX9_made_34 : decode cX9_made 34 = .ok (.aload_n 0, 1) := by decide +kernel
theorem dX9_made_35 : decode cX9_made 35 = .ok (.getfield 36, 3) := by decide +kernel
theorem dX9_made_38 : decode cX9_made 38 = .ok (.getfield 199, 3) := by decide +kernel
theorem dX9_made_41 : decode cX9_made 41 = .ok (.iload 4, 2) := by decide +kernel
theorem dX9_made_43 : decode cX9_made 43 = .ok (.iaload, 1) := by decide +kernel
theorem dX9_made_44 : decode cX9_made 44 = .ok (.iaload, 1) := by decide +kernel
theorem dX9_made_45 : decode cX9_made 45 = .ok (.istore 5, 2) := by decide +kernel
theorem dX9_made_47 : decode cX9_made 47 = .ok (.iload_n 2, 1) := by decide +kernel
theorem dX9_made_48 : decode cX9_made 48 = .ok (.iload 5, 2) := by decide +kernel
theorem dX9_made_50 : decode cX9_made 50 = .ok (.iadd, 1) := by decide +kernel
theorem dX9_made_51 : decode cX9_made 51 = .ok (.istore_n 2, 1) := by decide +kernel
theorem dX9_made_52 : decode cX9_made 52 = .ok (.iload 5, 2) := by decide +kernel
theorem dX9_made_54 : decode cX9_made 54 = .ok (.ifCond .le 6, 3) := by decide +kernel
theorem dX9_made_57 : decode cX9_made 57 = .ok (.iinc 3 1, 3) := by decide +kernel
theorem dX9_made_60 : decode cX9_made 60 = .ok (.iinc 4 1, 3) := by decide +kernel
theorem dX9_made_63 : decode cX9_made 63 = .ok (.goto (-45), 3) := by decide +kernel
theorem dX9_made_66 : decode cX9_made 66 = .ok (.iload_n 1, 1) := by decide +kernel
theorem dX9_made_67 : decode cX9_made 67 = .ok (.ifCond .ne 5, 3) := by decide +kernel
theorem dX9_made_70 : decode cX9_made 70 = .ok (.iload_n 2, 1) := by decide +kernel
theorem dX9_made_71 : decode cX9_made 71 = .ok (.ireturn, 1) := by decide +kernel
theorem dX9_made_72 : decode cX9_made 72 = .ok (.iload_n 2, 1) := by decide +kernel
theorem dX9_made_73 : decode cX9_made 73 = .ok (.aload_n 0, 1) := by decide +kernel
theorem dX9_made_74 : decode cX9_made 74 = .ok (.getfield 26, 3) := by decide +kernel
theorem dX9_made_77 : decode cX9_made 77 = .ok (.getfield 209, 3) := by decide +kernel
theorem dX9_made_80 : decode cX9_made 80 = .ok (.if_icmp .lt 18, 3) := by decide +kernel
theorem dX9_made_83 : decode cX9_made 83 = .ok (.iload_n 3, 1) := by decide +kernel
theorem dX9_made_84 : decode cX9_made 84 = .ok (.aload_n 0, 1) := by decide +kernel
theorem dX9_made_85 : decode cX9_made 85 = .ok (.getfield 26, 3) := by decide +kernel
theorem dX9_made_88 : decode cX9_made 88 = .ok (.getfield 212, 3) := by decide +kernel
theorem dX9_made_91 : decode cX9_made 91 = .ok (.if_icmp .lt 7, 3) := by decide +kernel
theorem dX9_made_94 : decode cX9_made 94 = .ok (.iconst 1, 1) := by decide +kernel
theorem dX9_made_95 : decode cX9_made 95 = .ok (.goto 4, 3) := by decide +kernel
theorem dX9_made_98 : decode cX9_made 98 = .ok (.iconst 0, 1) := by decide +kernel
theorem dX9_made_99 : decode cX9_made 99 = .ok (.ireturn, 1) := by decide +kernel
theorem dX9_just_0 : decode cX9_just 0 = .ok (.iload_n 1, 1) := by decide +kernel
theorem dX9_just_1 : decode cX9_just 1 = .ok (.iconst (-1), 1) := by decide +kernel
theorem dX9_just_2 : decode cX9_just 2 = .ok (.if_icmp .eq 28, 3) := by decide +kernel
theorem dX9_just_5 : decode cX9_just 5 = .ok (.aload_n 0, 1) := by decide +kernel
theorem dX9_just_6 : decode cX9_just 6 = .ok (.iload_n 1, 1) := by decide +kernel
theorem dX9_just_7 : decode cX9_just 7 = .ok (.invokevirtual 141, 3) := by decide +kernel
theorem dX9_just_10 : decode cX9_just 10 = .ok (.ifCond .eq 16, 3) := by decide +kernel
theorem dX9_just_13 : decode cX9_just 13 = .ok (.aload_n 0, 1) := by decide +kernel
theorem dX9_just_14 : decode cX9_just 14 = .ok (.getfield 36, 3) := by decide +kernel
theorem dX9_just_17 : decode cX9_just 17 = .ok (.iload_n 1, 1) := by decide +kernel
theorem dX9_just_18 : decode cX9_just 18 = .ok (.invokevirtual 145, 3) := by decide +kernel
theorem dX9_just_21 : decode cX9_just 21 = .ok (.bipush (-4), 2) := by decide +kernel
theorem dX9_just_23 : decode cX9_just 23 = .ok (.if_icmp .ne 7, 3) := by decide +kernel
theorem dX9_just_26 : decode cX9_just 26 = .ok (.ldc2_w 158, 3) := by decide +kernel
theorem dX9_just_29 : decode cX9_just 29 = .ok (.lreturn, 1) := by decide +kernel
theorem dX9_just_30 : decode cX9_just 30 = .ok (.aload_n 0, 1) := by decide +kernel
theorem dX9_just_31 : decode cX9_just 31 = .ok (.getfield 63, 3) := by decide +kernel
theorem dX9_just_34 : decode cX9_just 34 = .ok (.aload_n 0, 1) := by decide +kernel
theorem dX9_just_35 : decode cX9_just 35 = .ok (.getfield 26, 3) := by decide +kernel
theorem dX9_just_38 : decode cX9_just 38 = .ok (.aload_n 0, 1) := by decide +kernel
theorem dX9_just_39 : decode cX9_just 39 = .ok (.getfield 36, 3) := by decide +kernel
theorem dX9_just_42 : decode cX9_just 42 = .ok (.invokevirtual 215, 3) := by decide +kernel
theorem dX9_just_45 : decode cX9_just 45 = .ok (.aload_n 0, 1) := by decide +kernel
theorem dX9_just_46 : decode cX9_just 46 = .ok (.getfield 63, 3) := by decide +kernel
theorem dX9_just_49 : decode cX9_just 49 = .ok (.invokevirtual 219, 3) := by decide +kernel
theorem dX9_just_52 : decode cX9_just 52 = .ok (.lstore_n 2, 1) := by decide +kernel
theorem dX9_just_53 : decode cX9_just 53 = .ok (.iload_n 1, 1) := by decide +kernel
theorem dX9_just_54 : decode cX9_just 54 = .ok (.iconst (-1), 1) := by decide +kernel
theorem dX9_just_55 : decode cX9_just 55 = .ok (.if_icmp .ne 5, 3) := by decide +kernel
theorem dX9_just_58 : decode cX9_just 58 = .ok (.lload_n 2, 1) := by decide +kernel
theorem dX9_just_59 : decode cX9_just 59 = .ok (.lreturn, 1) := by decide +kernel
theorem dX9_just_60 : decode cX9_just 60 = .ok (.lload_n 2, 1) := by decide +kernel
theorem dX9_just_61 : decode cX9_just 61 = .ok (.lconst 0, 1) := by decide +kernel
theorem dX9_just_62 : decode cX9_just 62 = .ok (.lcmp, 1) := by decide +kernel
theorem dX9_just_63 : decode cX9_just 63 = .ok (.ifCond .ne 9, 3) := by decide +kernel
theorem dX9_just_66 : decode cX9_just 66 = .ok (.ldc2_w 180, 3) := by decide +kernel
theorem dX9_just_69 : decode cX9_just 69 = .ok (.goto 12, 3) := by decide +kernel
theorem dX9_just_72 : decode cX9_just 72 = .ok (.aload_n 0, 1) := by decide +kernel
theorem dX9_just_73 : decode cX9_just 73 = .ok (.getfield 63, 3) := by decide +kernel
theorem dX9_just_76 : decode cX9_just 76 = .ok (.iload_n 1, 1) := by decide +kernel
theorem dX9_just_77 : decode cX9_just 77 = .ok (.invokevirtual 222, 3) := by decide +kernel
theorem dX9_just_80 : decode cX9_just 80 = .ok (.i2l, 1) := by decide +kernel
theorem dX9_just_81 : decode cX9_just 81 = .ok (.lreturn, 1) := by decide +kernel
theorem dX9_fails_0 : decode cX9_fails 0 = .ok (.aload_n 0, 1) := by decide +kernel
theorem dX9_fails_1 : decode cX9_fails 1 = .ok (.getfield 131, 3) := by decide +kernel
theorem dX9_fails_4 : decode cX9_fails 4 = .ok (.ifCond .ne 34, 3) := by decide +kernel
theorem dX9_fails_7 : decode cX9_fails 7 = .ok (.aload_n 0, 1) := by decide +kernel
theorem dX9_fails_8 : decode cX9_fails 8 = .ok (.getfield 63, 3) := by decide +kernel
theorem dX9_fails_11 : decode cX9_fails 11 = .ok (.aload_n 0, 1) := by decide +kernel
theorem dX9_fails_12 : decode cX9_fails 12 = .ok (.getfield 26, 3) := by decide +kernel
theorem dX9_fails_15 : decode cX9_fails 15 = .ok (.aload_n 0, 1) := by decide +kernel
theorem dX9_fails_16 : decode cX9_fails 16 = .ok (.getfield 36, 3) := by decide +kernel
theorem dX9_fails_19 : decode cX9_fails 19 = .ok (.invokevirtual 215, 3) := by decide +kernel
theorem dX9_fails_22 : decode cX9_fails 22 = .ok (.aload_n 0, 1) := by decide +kernel
theorem dX9_fails_23 : decode cX9_fails 23 = .ok (.aload_n 0, 1) := by decide +kernel
theorem dX9_fails_24 : decode cX9_fails 24 = .ok (.getfield 63, 3) := by decide +kernel
theorem dX9_fails_27 : decode cX9_fails 27 = .ok (.invokevirtual 225, 3) := by decide +kernel
theorem dX9_fails_30 : decode cX9_fails 30 = .ok (.putfield 228, 3) := by decide +kernel
theorem dX9_fails_33 : decode cX9_fails 33 = .ok (.aload_n 0, 1) := by decide +kernel
theorem dX9_fails_34 : decode cX9_fails 34 = .ok (.iconst 1, 1) := by decide +kernel
theorem dX9_fails_35 : decode cX9_fails 35 = .ok (.putfield 131, 3) := by decide +kernel
theorem dX9_fails_38 : decode cX9_fails 38 = .ok (.aload_n 0, 1) := by decide +kernel
theorem dX9_fails_39 : decode cX9_fails 39 = .ok (.getfield 228, 3) := by decide +kernel
theorem dX9_fails_42 : decode cX9_fails 42 = .ok (.lreturn, 1) := by decide +kernel
theorem dX9_bestBar_0 : decode cX9_bestBar 0 = .ok (.iload_n 1, 1) := by decide +kernel
theorem dX9_bestBar_1 : decode cX9_bestBar 1 = .ok (.iconst 0, 1) := by decide +kernel
theorem dX9_bestBar_2 : decode cX9_bestBar 2 = .ok (.iconst 1, 1) := by decide +kernel
theorem dX9_bestBar_3 : decode cX9_bestBar 3 = .ok (.invokestatic 103, 3) := by decide +kernel
theorem dX9_bestBar_6 : decode cX9_bestBar 6 = .ok (.ifCond .ne 7, 3) := by decide +kernel
theorem dX9_bestBar_9 : decode cX9_bestBar 9 = .ok (.ldc2_w 158, 3) := by decide +kernel
theorem dX9_bestBar_12 : decode cX9_bestBar 12 = .ok (.lreturn, 1) := by decide +kernel
theorem dX9_bestBar_13 : decode cX9_bestBar 13 = .ok (.aload_n 0, 1) := by decide +kernel
theorem dX9_bestBar_14 : decode cX9_bestBar 14 = .ok (.getfield 231, 3) := by decide +kernel
theorem dX9_bestBar_17 : decode cX9_bestBar 17 = .ok (.ifCond .ne 12, 3) := by decide +kernel
theorem dX9_bestBar_20 : decode cX9_bestBar 20 = .ok (.aload_n 0, 1) := by decide +kernel
theorem dX9_bestBar_21 : decode cX9_bestBar 21 = .ok (.invokevirtual 234, 3) := by decide +kernel
theorem dX9_bestBar_24 : decode cX9_bestBar 24 = .ok (.aload_n 0, 1) := by decide +kernel
theorem dX9_bestBar_25 : decode cX9_bestBar 25 = .ok (.iconst 1, 1) := by decide +kernel
theorem dX9_bestBar_26 : decode cX9_bestBar 26 = .ok (.putfield 231, 3) := by decide +kernel
theorem dX9_bestBar_29 : decode cX9_bestBar 29 = .ok (.iload_n 1, 1) := by decide +kernel
theorem dX9_bestBar_30 : decode cX9_bestBar 30 = .ok (.ifCond .ne 11, 3) := by decide +kernel
theorem dX9_bestBar_33 : decode cX9_bestBar 33 = .ok (.aload_n 0, 1) := by decide +kernel
theorem dX9_bestBar_34 : decode cX9_bestBar 34 = .ok (.getfield 237, 3) := by decide +kernel
theorem dX9_bestBar_37 : decode cX9_bestBar 37 = .ok (.i2l, 1) := by decide +kernel
theorem dX9_bestBar_38 : decode cX9_bestBar 38 = .ok (.goto 7, 3) := by decide +kernel
theorem dX9_bestBar_41 : decode cX9_bestBar 41 = .ok (.aload_n 0, 1) := by decide +kernel
theorem dX9_bestBar_42 : decode cX9_bestBar 42 = .ok (.getfield 240, 3) := by decide +kernel
theorem dX9_bestBar_45 : decode cX9_bestBar 45 = .ok (.lreturn, 1) := by decide +kernel
theorem dX9_bestDay_0 : decode cX9_bestDay 0 = .ok (.iconst 0, 1) := by decide +kernel
theorem dX9_bestDay_1 : decode cX9_bestDay 1 = .ok (.istore_n 1, 1) := by decide +kernel
theorem dX9_bestDay_2 : decode cX9_bestDay 2 = .ok (.ldc2_w 158, 3) := by decide +kernel
theorem dX9_bestDay_5 : decode cX9_bestDay 5 = .ok (.lstore_n 2, 1) := by decide +kernel
theorem dX9_bestDay_6 : decode cX9_bestDay 6 = .ok (.iconst 0, 1) := by decide +kernel
theorem dX9_bestDay_7 : decode cX9_bestDay 7 = .ok (.istore 4, 2) := by decide +kernel
theorem dX9_bestDay_9 : decode cX9_bestDay 9 = .ok (.iload 4, 2) := by decide +kernel
theorem dX9_bestDay_11 : decode cX9_bestDay 11 = .ok (.bipush 30, 2) := by decide +kernel
theorem dX9_bestDay_13 : decode cX9_bestDay 13 = .ok (.if_icmp .gt 98, 3) := by decide +kernel
theorem dX9_bestDay_16 : decode cX9_bestDay 16 = .ok (.aload_n 0, 1) := by decide +kernel
theorem dX9_bestDay_17 : decode cX9_bestDay 17 = .ok (.getfield 40, 3) := by decide +kernel
theorem dX9_bestDay_20 : decode cX9_bestDay 20 = .ok (.aload_n 0, 1) := by decide +kernel
theorem dX9_bestDay_21 : decode cX9_bestDay 21 = .ok (.getfield 26, 3) := by decide +kernel
theorem dX9_bestDay_24 : decode cX9_bestDay 24 = .ok (.iload 4, 2) := by decide +kernel
theorem dX9_bestDay_26 : decode cX9_bestDay 26 = .ok (.invokevirtual 99, 3) := by decide +kernel
theorem dX9_bestDay_29 : decode cX9_bestDay 29 = .ok (.istore 5, 2) := by decide +kernel
theorem dX9_bestDay_31 : decode cX9_bestDay 31 = .ok (.iload 4, 2) := by decide +kernel
theorem dX9_bestDay_33 : decode cX9_bestDay 33 = .ok (.ifCond .le 11, 3) := by decide +kernel
theorem dX9_bestDay_36 : decode cX9_bestDay 36 = .ok (.iload 5, 2) := by decide +kernel
theorem dX9_bestDay_38 : decode cX9_bestDay 38 = .ok (.ifCond .ne 6, 3) := by decide +kernel
theorem dX9_bestDay_41 : decode cX9_bestDay 41 = .ok (.goto 64, 3) := by decide +kernel
theorem dX9_bestDay_44 : decode cX9_bestDay 44 = .ok (.aload_n 0, 1) := by decide +kernel
theorem dX9_bestDay_45 : decode cX9_bestDay 45 = .ok (.getfield 46, 3) := by decide +kernel
theorem dX9_bestDay_48 : decode cX9_bestDay 48 = .ok (.aload_n 0, 1) := by decide +kernel
theorem dX9_bestDay_49 : decode cX9_bestDay 49 = .ok (.getfield 26, 3) := by decide +kernel
theorem dX9_bestDay_52 : decode cX9_bestDay 52 = .ok (.aload_n 0, 1) := by decide +kernel
theorem dX9_bestDay_53 : decode cX9_bestDay 53 = .ok (.getfield 40, 3) := by decide +kernel
theorem dX9_bestDay_56 : decode cX9_bestDay 56 = .ok (.aload_n 0, 1) := by decide +kernel
theorem dX9_bestDay_57 : decode cX9_bestDay 57 = .ok (.getfield 125, 3) := by decide +kernel
theorem dX9_bestDay_60 : decode cX9_bestDay 60 = .ok (.invokevirtual 243, 3) := by decide +kernel
theorem dX9_bestDay_63 : decode cX9_bestDay 63 = .ok (.aload_n 0, 1) := by decide +kernel
theorem dX9_bestDay_64 : decode cX9_bestDay 64 = .ok (.getfield 57, 3) := by decide +kernel
theorem dX9_bestDay_67 : decode cX9_bestDay 67 = .ok (.aload_n 0, 1) := by decide +kernel
theorem dX9_bestDay_68 : decode cX9_bestDay 68 = .ok (.getfield 46, 3) := by decide +kernel
theorem dX9_bestDay_71 : decode cX9_bestDay 71 = .ok (.iconst 0, 1) := by decide +kernel
theorem dX9_bestDay_72 : decode cX9_bestDay 72 = .ok (.invokevirtual 247, 3) := by decide +kernel
theorem dX9_bestDay_75 : decode cX9_bestDay 75 = .ok (.aload_n 0, 1) := by decide +kernel
theorem dX9_bestDay_76 : decode cX9_bestDay 76 = .ok (.getfield 57, 3) := by decide +kernel
theorem dX9_bestDay_79 : decode cX9_bestDay 79 = .ok (.getfield 164, 3) := by decide +kernel
theorem dX9_bestDay_82 : decode cX9_bestDay 82 = .ok (.aload_n 0, 1) := by decide +kernel
theorem dX9_bestDay_83 : decode cX9_bestDay 83 = .ok (.getfield 40, 3) := by decide +kernel
theorem dX9_bestDay_86 : decode cX9_bestDay 86 = .ok (.invokevirtual 251, 3) := by decide +kernel
theorem dX9_bestDay_89 : decode cX9_bestDay 89 = .ok (.lmul, 1) := by decide +kernel
theorem dX9_bestDay_90 : decode cX9_bestDay 90 = .ok (.lstore 6, 2) := by decide +kernel
theorem dX9_bestDay_92 : decode cX9_bestDay 92 = .ok (.lload 6, 2) := by decide +kernel
theorem dX9_bestDay_94 : decode cX9_bestDay 94 = .ok (.lload_n 2, 1) := by decide +kernel
theorem dX9_bestDay_95 : decode cX9_bestDay 95 = .ok (.lcmp, 1) := by decide +kernel
theorem dX9_bestDay_96 : decode cX9_bestDay 96 = .ok (.ifCond .le 9, 3) := by decide +kernel
theorem dX9_bestDay_99 : decode cX9_bestDay 99 = .ok (.lload 6, 2) := by decide +kernel
theorem dX9_bestDay_101 : decode cX9_bestDay 101 = .ok (.lstore_n 2, 1) := by decide +kernel
theorem dX9_bestDay_102 : decode cX9_bestDay 102 = .ok (.iload 4, 2) := by decide +kernel
theorem dX9_bestDay_104 : decode cX9_bestDay 104 = .ok (.istore_n 1, 1) := by decide +kernel
theorem dX9_bestDay_105 : decode cX9_bestDay 105 = .ok (.iinc 4 1, 3) := by decide +kernel
theorem dX9_bestDay_108 : decode cX9_bestDay 108 = .ok (.goto (-99), 3) := by decide +kernel
theorem dX9_bestDay_111 : decode cX9_bestDay 111 = .ok (.iload_n 1, 1) := by decide +kernel
theorem dX9_bestDay_112 : decode cX9_bestDay 112 = .ok (.ireturn, 1) := by decide +kernel
theorem dX9_extra_0 : decode cX9_extra 0 = .ok (.iload_n 1, 1) := by decide +kernel
theorem dX9_extra_1 : decode cX9_extra 1 = .ok (.iconst 0, 1) := by decide +kernel
theorem dX9_extra_2 : decode cX9_extra 2 = .ok (.bipush 10, 2) := by decide +kernel
theorem dX9_extra_4 : decode cX9_extra 4 = .ok (.invokestatic 103, 3) := by decide +kernel
theorem dX9_extra_7 : decode cX9_extra 7 = .ok (.ifCond .ne 5, 3) := by decide +kernel
theorem dX9_extra_10 : decode cX9_extra 10 = .ok (.iconst (-1), 1) := by decide +kernel
theorem dX9_extra_11 : decode cX9_extra 11 = .ok (.ireturn, 1) := by decide +kernel
theorem dX9_extra_12 : decode cX9_extra 12 = .ok (.iconst 0, 1) := by decide +kernel
theorem dX9_extra_13 : decode cX9_extra 13 = .ok (.istore_n 2, 1) := by decide +kernel
theorem dX9_extra_14 : decode cX9_extra 14 = .ok (.iload_n 2, 1) := by decide +kernel
theorem dX9_extra_15 : decode cX9_extra 15 = .ok (.bipush 9, 2) := by decide +kernel
theorem dX9_extra_17 : decode cX9_extra 17 = .ok (.if_icmp .gt 60, 3) := by decide +kernel
theorem dX9_extra_20 : decode cX9_extra 20 = .ok (.aload_n 0, 1) := by decide +kernel
theorem dX9_extra_21 : decode cX9_extra 21 = .ok (.invokevirtual 195, 3) := by decide +kernel
theorem dX9_extra_24 : decode cX9_extra 24 = .ok (.aload_n 0, 1) := by decide +kernel
theorem dX9_extra_25 : decode cX9_extra 25 = .ok (.getfield 46, 3) := by decide +kernel
theorem dX9_extra_28 : decode cX9_extra 28 = .ok (.iload_n 2, 1) := by decide +kernel
theorem dX9_extra_29 : decode cX9_extra 29 = .ok (.putfield 254, 3) := by decide +kernel
theorem dX9_extra_32 : decode cX9_extra 32 = .ok (.aload_n 0, 1) := by decide +kernel
theorem dX9_extra_33 : decode cX9_extra 33 = .ok (.getfield 57, 3) := by decide +kernel
theorem dX9_extra_36 : decode cX9_extra 36 = .ok (.aload_n 0, 1) := by decide +kernel
theorem dX9_extra_37 : decode cX9_extra 37 = .ok (.getfield 46, 3) := by decide +kernel
theorem dX9_extra_40 : decode cX9_extra 40 = .ok (.iconst 0, 1) := by decide +kernel
theorem dX9_extra_41 : decode cX9_extra 41 = .ok (.invokevirtual 247, 3) := by decide +kernel
theorem dX9_extra_44 : decode cX9_extra 44 = .ok (.aload_n 0, 1) := by decide +kernel
theorem dX9_extra_45 : decode cX9_extra 45 = .ok (.getfield 57, 3) := by decide +kernel
theorem dX9_extra_48 : decode cX9_extra 48 = .ok (.getfield 164, 3) := by decide +kernel
theorem dX9_extra_51 : decode cX9_extra 51 = .ok (.ldc2_w 257, 3) := by decide +kernel
theorem dX9_extra_54 : decode cX9_extra 54 = .ok (.lmul, 1) := by decide +kernel
theorem dX9_extra_55 : decode cX9_extra 55 = .ok (.iload_n 1, 1) := by decide +kernel
theorem dX9_extra_56 : decode cX9_extra 56 = .ok (.i2l, 1) := by decide +kernel
theorem dX9_extra_57 : decode cX9_extra 57 = .ok (.aload_n 0, 1) := by decide +kernel
theorem dX9_extra_58 : decode cX9_extra 58 = .ok (.getfield 36, 3) := by decide +kernel
theorem dX9_extra_61 : decode cX9_extra 61 = .ok (.invokevirtual 168, 3) := by decide +kernel
theorem dX9_extra_64 : decode cX9_extra 64 = .ok (.lmul, 1) := by decide +kernel
theorem dX9_extra_65 : decode cX9_extra 65 = .ok (.lcmp, 1) := by decide +kernel
theorem dX9_extra_66 : decode cX9_extra 66 = .ok (.ifCond .lt 5, 3) := by decide +kernel
theorem dX9_extra_69 : decode cX9_extra 69 = .ok (.iload_n 2, 1) := by decide +kernel
theorem dX9_extra_70 : decode cX9_extra 70 = .ok (.ireturn, 1) := by decide +kernel
theorem dX9_extra_71 : decode cX9_extra 71 = .ok (.iinc 2 1, 3) := by decide +kernel
theorem dX9_extra_74 : decode cX9_extra 74 = .ok (.goto (-60), 3) := by decide +kernel
theorem dX9_extra_77 : decode cX9_extra 77 = .ok (.bipush (-4), 2) := by decide +kernel
theorem dX9_extra_79 : decode cX9_extra 79 = .ok (.ireturn, 1) := by decide +kernel
theorem dX9_bestShow_0 : decode cX9_bestShow 0 = .ok (.iconst 0, 1) := by decide +kernel
theorem dX9_bestShow_1 : decode cX9_bestShow 1 = .ok (.istore_n 1, 1) := by decide +kernel
theorem dX9_bestShow_2 : decode cX9_bestShow 2 = .ok (.ldc2_w 158, 3) := by decide +kernel
theorem dX9_bestShow_5 : decode cX9_bestShow 5 = .ok (.lstore_n 2, 1) := by decide +kernel
theorem dX9_bestShow_6 : decode cX9_bestShow 6 = .ok (.iconst 0, 1) := by decide +kernel
theorem dX9_bestShow_7 : decode cX9_bestShow 7 = .ok (.istore 4, 2) := by decide +kernel
theorem dX9_bestShow_9 : decode cX9_bestShow 9 = .ok (.iload 4, 2) := by decide +kernel
theorem dX9_bestShow_11 : decode cX9_bestShow 11 = .ok (.iconst 2, 1) := by decide +kernel
theorem dX9_bestShow_12 : decode cX9_bestShow 12 = .ok (.if_icmp .gt 61, 3) := by decide +kernel
theorem dX9_bestShow_15 : decode cX9_bestShow 15 = .ok (.aload_n 0, 1) := by decide +kernel
theorem dX9_bestShow_16 : decode cX9_bestShow 16 = .ok (.getfield 46, 3) := by decide +kernel
theorem dX9_bestShow_19 : decode cX9_bestShow 19 = .ok (.aload_n 0, 1) := by decide +kernel
theorem dX9_bestShow_20 : decode cX9_bestShow 20 = .ok (.getfield 26, 3) := by decide +kernel
theorem dX9_bestShow_23 : decode cX9_bestShow 23 = .ok (.aload_n 0, 1) := by decide +kernel
theorem dX9_bestShow_24 : decode cX9_bestShow 24 = .ok (.getfield 36, 3) := by decide +kernel
theorem dX9_bestShow_27 : decode cX9_bestShow 27 = .ok (.iload 4, 2) := by decide +kernel
theorem dX9_bestShow_29 : decode cX9_bestShow 29 = .ok (.invokevirtual 243, 3) := by decide +kernel
theorem dX9_bestShow_32 : decode cX9_bestShow 32 = .ok (.aload_n 0, 1) := by decide +kernel
theorem dX9_bestShow_33 : decode cX9_bestShow 33 = .ok (.getfield 57, 3) := by decide +kernel
theorem dX9_bestShow_36 : decode cX9_bestShow 36 = .ok (.aload_n 0, 1) := by decide +kernel
theorem dX9_bestShow_37 : decode cX9_bestShow 37 = .ok (.getfield 46, 3) := by decide +kernel
theorem dX9_bestShow_40 : decode cX9_bestShow 40 = .ok (.iconst 0, 1) := by decide +kernel
theorem dX9_bestShow_41 : decode cX9_bestShow 41 = .ok (.invokevirtual 247, 3) := by decide +kernel
theorem dX9_bestShow_44 : decode cX9_bestShow 44 = .ok (.aload_n 0, 1) := by decide +kernel
theorem dX9_bestShow_45 : decode cX9_bestShow 45 = .ok (.getfield 57, 3) := by decide +kernel
theorem dX9_bestShow_48 : decode cX9_bestShow 48 = .ok (.getfield 164, 3) := by decide +kernel
theorem dX9_bestShow_51 : decode cX9_bestShow 51 = .ok (.lload_n 2, 1) := by decide +kernel
theorem dX9_bestShow_52 : decode cX9_bestShow 52 = .ok (.lcmp, 1) := by decide +kernel
theorem dX9_bestShow_53 : decode cX9_bestShow 53 = .ok (.ifCond .le 14, 3) := by decide +kernel
theorem dX9_bestShow_56 : decode cX9_bestShow 56 = .ok (.aload_n 0, 1) := by decide +kernel
theorem dX9_bestShow_57 : decode cX9_bestShow 57 = .ok (.getfield 57, 3) := by decide +kernel
theorem dX9_bestShow_60 : decode cX9_bestShow 60 = .ok (.getfield 164, 3) := by decide +kernel
theorem dX9_bestShow_63 : decode cX9_bestShow 63 = .ok (.lstore_n 2, 1) := by decide +kernel
theorem dX9_bestShow_64 : decode cX9_bestShow 64 = .ok (.iload 4, 2) := by decide +kernel
theorem dX9_bestShow_66 : decode cX9_bestShow 66 = .ok (.istore_n 1, 1) := by decide +kernel
theorem dX9_bestShow_67 : decode cX9_bestShow 67 = .ok (.iinc 4 1, 3) := by decide +kernel
theorem dX9_bestShow_70 : decode cX9_bestShow 70 = .ok (.goto (-61), 3) := by decide +kernel
theorem dX9_bestShow_73 : decode cX9_bestShow 73 = .ok (.iload_n 1, 1) := by decide +kernel
theorem dX9_bestShow_74 : decode cX9_bestShow 74 = .ok (.ireturn, 1) := by decide +kernel
theorem dX9_rich_0 : decode cX9_rich 0 = .ok (.iload_n 1, 1) := by decide +kernel
theorem dX9_rich_1 : decode cX9_rich 1 = .ok (.iconst 0, 1) := by decide +kernel
theorem dX9_rich_2 : decode cX9_rich 2 = .ok (.bipush 99, 2) := by decide +kernel
theorem dX9_rich_4 : decode cX9_rich 4 = .ok (.invokestatic 103, 3) := by decide +kernel
theorem dX9_rich_7 : decode cX9_rich 7 = .ok (.ifCond .eq 18, 3) := by decide +kernel
theorem dX9_rich_10 : decode cX9_rich 10 = .ok (.iload_n 2, 1) := by decide +kernel
theorem dX9_rich_11 : decode cX9_rich 11 = .ok (.iconst 0, 1) := by decide +kernel
theorem dX9_rich_12 : decode cX9_rich 12 = .ok (.aload_n 0, 1) := by decide +kernel
theorem dX9_rich_13 : decode cX9_rich 13 = .ok (.getfield 26, 3) := by decide +kernel
theorem dX9_rich_16 : decode cX9_rich 16 = .ok (.getfield 95, 3) := by decide +kernel
theorem dX9_rich_19 : decode cX9_rich 19 = .ok (.invokestatic 103, 3) := by decide +kernel
theorem dX9_rich_22 : decode cX9_rich 22 = .ok (.ifCond .ne 7, 3) := by decide +kernel
theorem dX9_rich_25 : decode cX9_rich 25 = .ok (.ldc2_w 158, 3) := by decide +kernel
theorem dX9_rich_28 : decode cX9_rich 28 = .ok (.lreturn, 1) := by decide +kernel
theorem dX9_rich_29 : decode cX9_rich 29 = .ok (.aload_n 0, 1) := by decide +kernel
theorem dX9_rich_30 : decode cX9_rich 30 = .ok (.iload_n 1, 1) := by decide +kernel
theorem dX9_rich_31 : decode cX9_rich 31 = .ok (.aload_n 0, 1) := by decide +kernel
theorem dX9_rich_32 : decode cX9_rich 32 = .ok (.getfield 36, 3) := by decide +kernel
theorem dX9_rich_35 : decode cX9_rich 35 = .ok (.iload_n 2, 1) := by decide +kernel
theorem dX9_rich_36 : decode cX9_rich 36 = .ok (.invokevirtual 259, 3) := by decide +kernel
theorem dX9_rich_39 : decode cX9_rich 39 = .ok (.invokevirtual 262, 3) := by decide +kernel
theorem dX9_rich_42 : decode cX9_rich 42 = .ok (.lreturn, 1) := by decide +kernel
theorem dX9_richDay_0 : decode cX9_richDay 0 = .ok (.iload_n 1, 1) := by decide +kernel
theorem dX9_richDay_1 : decode cX9_richDay 1 = .ok (.iconst 0, 1) := by decide +kernel
theorem dX9_richDay_2 : decode cX9_richDay 2 = .ok (.bipush 99, 2) := by decide +kernel
theorem dX9_richDay_4 : decode cX9_richDay 4 = .ok (.invokestatic 103, 3) := by decide +kernel
theorem dX9_richDay_7 : decode cX9_richDay 7 = .ok (.ifCond .ne 5, 3) := by decide +kernel
theorem dX9_richDay_10 : decode cX9_richDay 10 = .ok (.iconst (-1), 1) := by decide +kernel
theorem dX9_richDay_11 : decode cX9_richDay 11 = .ok (.ireturn, 1) := by decide +kernel
theorem dX9_richDay_12 : decode cX9_richDay 12 = .ok (.iconst 0, 1) := by decide +kernel
theorem dX9_richDay_13 : decode cX9_richDay 13 = .ok (.istore_n 2, 1) := by decide +kernel
theorem dX9_richDay_14 : decode cX9_richDay 14 = .ok (.ldc2_w 158, 3) := by decide +kernel
theorem dX9_richDay_17 : decode cX9_richDay 17 = .ok (.lstore_n 3, 1) := by decide +kernel
theorem dX9_richDay_18 : decode cX9_richDay 18 = .ok (.iconst (-1), 1) := by decide +kernel
theorem dX9_richDay_19 : decode cX9_richDay 19 = .ok (.istore 5, 2) := by decide +kernel
theorem dX9_richDay_21 : decode cX9_richDay 21 = .ok (.iconst 0, 1) := by decide +kernel
theorem dX9_richDay_22 : decode cX9_richDay 22 = .ok (.istore 6, 2) := by decide +kernel
theorem dX9_richDay_24 : decode cX9_richDay 24 = .ok (.iload 6, 2) := by decide +kernel
theorem dX9_richDay_26 : decode cX9_richDay 26 = .ok (.aload_n 0, 1) := by decide +kernel
theorem dX9_richDay_27 : decode cX9_richDay 27 = .ok (.getfield 26, 3) := by decide +kernel
theorem dX9_richDay_30 : decode cX9_richDay 30 = .ok (.getfield 95, 3) := by decide +kernel
theorem dX9_richDay_33 : decode cX9_richDay 33 = .ok (.if_icmp .gt 56, 3) := by decide +kernel
theorem dX9_richDay_36 : decode cX9_richDay 36 = .ok (.aload_n 0, 1) := by decide +kernel
theorem dX9_richDay_37 : decode cX9_richDay 37 = .ok (.getfield 36, 3) := by decide +kernel
theorem dX9_richDay_40 : decode cX9_richDay 40 = .ok (.iload 6, 2) := by decide +kernel
theorem dX9_richDay_42 : decode cX9_richDay 42 = .ok (.invokevirtual 259, 3) := by decide +kernel
theorem dX9_richDay_45 : decode cX9_richDay 45 = .ok (.istore 7, 2) := by decide +kernel
theorem dX9_richDay_47 : decode cX9_richDay 47 = .ok (.iload 7, 2) := by decide +kernel
theorem dX9_richDay_49 : decode cX9_richDay 49 = .ok (.iload 5, 2) := by decide +kernel
theorem dX9_richDay_51 : decode cX9_richDay 51 = .ok (.if_icmp .ne 6, 3) := by decide +kernel
theorem dX9_richDay_54 : decode cX9_richDay 54 = .ok (.goto 29, 3) := by decide +kernel
theorem dX9_richDay_57 : decode cX9_richDay 57 = .ok (.iload 7, 2) := by decide +kernel
theorem dX9_richDay_59 : decode cX9_richDay 59 = .ok (.istore 5, 2) := by decide +kernel
theorem dX9_richDay_61 : decode cX9_richDay 61 = .ok (.aload_n 0, 1) := by decide +kernel
theorem dX9_richDay_62 : decode cX9_richDay 62 = .ok (.iload_n 1, 1) := by decide +kernel
theorem dX9_richDay_63 : decode cX9_richDay 63 = .ok (.iload 7, 2) := by decide +kernel
theorem dX9_richDay_65 : decode cX9_richDay 65 = .ok (.invokevirtual 262, 3) := by decide +kernel
theorem dX9_richDay_68 : decode cX9_richDay 68 = .ok (.lstore 8, 2) := by decide +kernel
theorem dX9_richDay_70 : decode cX9_richDay 70 = .ok (.lload 8, 2) := by decide +kernel
theorem dX9_richDay_72 : decode cX9_richDay 72 = .ok (.lload_n 3, 1) := by decide +kernel
theorem dX9_richDay_73 : decode cX9_richDay 73 = .ok (.lcmp, 1) := by decide +kernel
theorem dX9_richDay_74 : decode cX9_richDay 74 = .ok (.ifCond .le 9, 3) := by decide +kernel
theorem dX9_richDay_77 : decode cX9_richDay 77 = .ok (.lload 8, 2) := by decide +kernel
theorem dX9_richDay_79 : decode cX9_richDay 79 = .ok (.lstore_n 3, 1) := by decide +kernel
theorem dX9_richDay_80 : decode cX9_richDay 80 = .ok (.iload 6, 2) := by decide +kernel
theorem dX9_richDay_82 : decode cX9_richDay 82 = .ok (.istore_n 2, 1) := by decide +kernel
theorem dX9_richDay_83 : decode cX9_richDay 83 = .ok (.iinc 6 1, 3) := by decide +kernel
theorem dX9_richDay_86 : decode cX9_richDay 86 = .ok (.goto (-62), 3) := by decide +kernel
theorem dX9_richDay_89 : decode cX9_richDay 89 = .ok (.iload_n 2, 1) := by decide +kernel
theorem dX9_richDay_90 : decode cX9_richDay 90 = .ok (.ireturn, 1) := by decide +kernel
theorem dX9_two_0 : decode cX9_two 0 = .ok (.iload_n 1, 1) := by decide +kernel
theorem dX9_two_1 : decode cX9_two 1 = .ok (.iconst 0, 1) := by decide +kernel
theorem dX9_two_2 : decode cX9_two 2 = .ok (.iconst 2, 1) := by decide +kernel
theorem dX9_two_3 : decode cX9_two 3 = .ok (.invokestatic 103, 3) := by decide +kernel
theorem dX9_two_6 : decode cX9_two 6 = .ok (.ifCond .ne 7, 3) := by decide +kernel
theorem dX9_two_9 : decode cX9_two 9 = .ok (.ldc2_w 158, 3) := by decide +kernel
theorem dX9_two_12 : decode cX9_two 12 = .ok (.lreturn, 1) := by decide +kernel
theorem dX9_two_13 : decode cX9_two 13 = .ok (.aload_n 0, 1) := by decide +kernel
theorem dX9_two_14 : decode cX9_two 14 = .ok (.getfield 26, 3) := by decide +kernel
theorem dX9_two_17 : decode cX9_two 17 = .ok (.getfield 266, 3) := by decide +kernel
theorem dX9_two_20 : decode cX9_two 20 = .ok (.ifCond .ne 7, 3) := by decide +kernel
theorem dX9_two_23 : decode cX9_two 23 = .ok (.ldc2_w 269, 3) := by decide +kernel
theorem dX9_two_26 : decode cX9_two 26 = .ok (.lreturn, 1) := by decide +kernel
theorem dX9_two_27 : decode cX9_two 27 = .ok (.aload_n 0, 1) := by decide +kernel
theorem dX9_two_28 : decode cX9_two 28 = .ok (.invokevirtual 160, 3) := by decide +kernel
theorem dX9_two_31 : decode cX9_two 31 = .ok (.astore_n 2, 1) := by decide +kernel
theorem dX9_two_32 : decode cX9_two 32 = .ok (.iload_n 1, 1) := by decide +kernel
theorem dX9_two_33 : decode cX9_two 33 = .ok (.ifCond .ne 8, 3) := by decide +kernel
theorem dX9_two_36 : decode cX9_two 36 = .ok (.aload_n 2, 1) := by decide +kernel
theorem dX9_two_37 : decode cX9_two 37 = .ok (.getfield 164, 3) := by decide +kernel
theorem dX9_two_40 : decode cX9_two 40 = .ok (.lreturn, 1) := by decide +kernel
theorem dX9_two_41 : decode cX9_two 41 = .ok (.iload_n 1, 1) := by decide +kernel
theorem dX9_two_42 : decode cX9_two 42 = .ok (.iconst 1, 1) := by decide +kernel
theorem dX9_two_43 : decode cX9_two 43 = .ok (.if_icmp .ne 10, 3) := by decide +kernel
theorem dX9_two_46 : decode cX9_two 46 = .ok (.aload_n 2, 1) := by decide +kernel
theorem dX9_two_47 : decode cX9_two 47 = .ok (.getfield 271, 3) := by decide +kernel
theorem dX9_two_50 : decode cX9_two 50 = .ok (.goto 7, 3) := by decide +kernel
theorem dX9_two_53 : decode cX9_two 53 = .ok (.aload_n 2, 1) := by decide +kernel
theorem dX9_two_54 : decode cX9_two 54 = .ok (.getfield 274, 3) := by decide +kernel
theorem dX9_two_57 : decode cX9_two 57 = .ok (.lreturn, 1) := by decide +kernel
theorem dX9_evening_0 : decode cX9_evening 0 = .ok (.iload_n 1, 1) := by decide +kernel
theorem dX9_evening_1 : decode cX9_evening 1 = .ok (.iconst 0, 1) := by decide +kernel
theorem dX9_evening_2 : decode cX9_evening 2 = .ok (.sipush 9999, 3) := by decide +kernel
theorem dX9_evening_5 : decode cX9_evening 5 = .ok (.invokestatic 103, 3) := by decide +kernel
theorem dX9_evening_8 : decode cX9_evening 8 = .ok (.ifCond .eq 20, 3) := by decide +kernel
theorem dX9_evening_11 : decode cX9_evening 11 = .ok (.aload_n 0, 1) := by decide +kernel
theorem dX9_evening_12 : decode cX9_evening 12 = .ok (.iload_n 2, 1) := by decide +kernel
theorem dX9_evening_13 : decode cX9_evening 13 = .ok (.invokevirtual 141, 3) := by decide +kernel
theorem dX9_evening_16 : decode cX9_evening 16 = .ok (.ifCond .eq 12, 3) := by decide +kernel
theorem dX9_evening_19 : decode cX9_evening 19 = .ok (.iload_n 3, 1) := by decide +kernel
theorem dX9_evening_20 : decode cX9_evening 20 = .ok (.iconst 0, 1) := by decide +kernel
theorem dX9_evening_21 : decode cX9_evening 21 = .ok (.iconst 1, 1) := by decide +kernel
theorem dX9_evening_22 : decode cX9_evening 22 = .ok (.invokestatic 103, 3) := by decide +kernel
theorem dX9_evening_25 : decode cX9_evening 25 = .ok (.ifCond .ne 7, 3) := by decide +kernel
theorem dX9_evening_28 : decode cX9_evening 28 = .ok (.sipush (-1001), 3) := by decide +kernel
theorem dX9_evening_31 : decode cX9_evening 31 = .ok (.ireturn, 1) := by decide +kernel
theorem dX9_evening_32 : decode cX9_evening 32 = .ok (.aload_n 0, 1) := by decide +kernel
theorem dX9_evening_33 : decode cX9_evening 33 = .ok (.getfield 36, 3) := by decide +kernel
theorem dX9_evening_36 : decode cX9_evening 36 = .ok (.iload_n 2, 1) := by decide +kernel
theorem dX9_evening_37 : decode cX9_evening 37 = .ok (.invokevirtual 145, 3) := by decide +kernel
theorem dX9_evening_40 : decode cX9_evening 40 = .ok (.istore 4, 2) := by decide +kernel
theorem dX9_evening_42 : decode cX9_evening 42 = .ok (.iload 4, 2) := by decide +kernel
theorem dX9_evening_44 : decode cX9_evening 44 = .ok (.bipush (-4), 2) := by decide +kernel
theorem dX9_evening_46 : decode cX9_evening 46 = .ok (.if_icmp .ne 7, 3) := by decide +kernel
theorem dX9_evening_49 : decode cX9_evening 49 = .ok (.sipush (-1004), 3) := by decide +kernel
theorem dX9_evening_52 : decode cX9_evening 52 = .ok (.ireturn, 1) := by decide +kernel
theorem dX9_evening_53 : decode cX9_evening 53 = .ok (.aload_n 0, 1) := by decide +kernel
theorem dX9_evening_54 : decode cX9_evening 54 = .ok (.iload_n 1, 1) := by decide +kernel
theorem dX9_evening_55 : decode cX9_evening 55 = .ok (.invokevirtual 277, 3) := by decide +kernel
theorem dX9_evening_58 : decode cX9_evening 58 = .ok (.iload_n 3, 1) := by decide +kernel
theorem dX9_evening_59 : decode cX9_evening 59 = .ok (.ifCond .ne 16, 3) := by decide +kernel
theorem dX9_evening_62 : decode cX9_evening 62 = .ok (.aload_n 0, 1) := by decide +kernel
theorem dX9_evening_63 : decode cX9_evening 63 = .ok (.getfield 46, 3) := by decide +kernel
theorem dX9_evening_66 : decode cX9_evening 66 = .ok (.getfield 281, 3) := by decide +kernel
theorem dX9_evening_69 : decode cX9_evening 69 = .ok (.iload 4, 2) := by decide +kernel
theorem dX9_evening_71 : decode cX9_evening 71 = .ok (.iaload, 1) := by decide +kernel
theorem dX9_evening_72 : decode cX9_evening 72 = .ok (.goto 19, 3) := by decide +kernel
theorem dX9_evening_75 : decode cX9_evening 75 = .ok (.aload_n 0, 1) := by decide +kernel
theorem dX9_evening_76 : decode cX9_evening 76 = .ok (.getfield 46, 3) := by decide +kernel
theorem dX9_evening_79 : decode cX9_evening 79 = .ok (.iload 4, 2) := by decide +kernel
theorem dX9_evening_81 : decode cX9_evening 81 = .ok (.aload_n 0, 1) := by decide +kernel
theorem dX9_evening_82 : decode cX9_evening 82 = .ok (.iload_n 1, 1) := by decide +kernel
theorem dX9_evening_83 : decode cX9_evening 83 = .ok (.iload 4, 2) := by decide +kernel
theorem dX9_evening_85 : decode cX9_evening 85 = .ok (.invokevirtual 284, 3) := by decide +kernel
theorem dX9_evening_88 : decode cX9_evening 88 = .ok (.invokevirtual 288, 3) := by decide +kernel
theorem dX9_evening_91 : decode cX9_evening 91 = .ok (.ireturn, 1) := by decide +kernel
theorem dX9_whole_0 : decode cX9_whole 0 = .ok (.iload_n 1, 1) := by decide +kernel
theorem dX9_whole_1 : decode cX9_whole 1 = .ok (.iconst 0, 1) := by decide +kernel
theorem dX9_whole_2 : decode cX9_whole 2 = .ok (.sipush 9999, 3) := by decide +kernel
theorem dX9_whole_5 : decode cX9_whole 5 = .ok (.invokestatic 103, 3) := by decide +kernel
theorem dX9_whole_8 : decode cX9_whole 8 = .ok (.ifCond .eq 12, 3) := by decide +kernel
theorem dX9_whole_11 : decode cX9_whole 11 = .ok (.iload_n 2, 1) := by decide +kernel
theorem dX9_whole_12 : decode cX9_whole 12 = .ok (.iconst 0, 1) := by decide +kernel
theorem dX9_whole_13 : decode cX9_whole 13 = .ok (.iconst 1, 1) := by decide +kernel
theorem dX9_whole_14 : decode cX9_whole 14 = .ok (.invokestatic 103, 3) := by decide +kernel
theorem dX9_whole_17 : decode cX9_whole 17 = .ok (.ifCond .ne 5, 3) := by decide +kernel
theorem dX9_whole_20 : decode cX9_whole 20 = .ok (.iconst (-1), 1) := by decide +kernel
theorem dX9_whole_21 : decode cX9_whole 21 = .ok (.ireturn, 1) := by decide +kernel
theorem dX9_whole_22 : decode cX9_whole 22 = .ok (.aload_n 0, 1) := by decide +kernel
theorem dX9_whole_23 : decode cX9_whole 23 = .ok (.iload_n 1, 1) := by decide +kernel
theorem dX9_whole_24 : decode cX9_whole 24 = .ok (.invokevirtual 277, 3) := by decide +kernel
theorem dX9_whole_27 : decode cX9_whole 27 = .ok (.iload_n 2, 1) := by decide +kernel
theorem dX9_whole_28 : decode cX9_whole 28 = .ok (.ifCond .ne 19, 3) := by decide +kernel
theorem dX9_whole_31 : decode cX9_whole 31 = .ok (.aload_n 0, 1) := by decide +kernel
theorem dX9_whole_32 : decode cX9_whole 32 = .ok (.getfield 46, 3) := by decide +kernel
theorem dX9_whole_35 : decode cX9_whole 35 = .ok (.getfield 291, 3) := by decide +kernel
theorem dX9_whole_38 : decode cX9_whole 38 = .ok (.aload_n 0, 1) := by decide +kernel
theorem dX9_whole_39 : decode cX9_whole 39 = .ok (.getfield 36, 3) := by decide +kernel
theorem dX9_whole_42 : decode cX9_whole 42 = .ok (.getfield 198, 3) := by decide +kernel
theorem dX9_whole_45 : decode cX9_whole 45 = .ok (.iaload, 1) := by decide +kernel
theorem dX9_whole_46 : decode cX9_whole 46 = .ok (.ireturn, 1) := by decide +kernel
theorem dX9_whole_47 : decode cX9_whole 47 = .ok (.aload_n 0, 1) := by decide +kernel
theorem dX9_whole_48 : decode cX9_whole 48 = .ok (.getfield 46, 3) := by decide +kernel
theorem dX9_whole_51 : decode cX9_whole 51 = .ok (.invokevirtual 294, 3) := by decide +kernel
theorem dX9_whole_54 : decode cX9_whole 54 = .ok (.ifCond .eq 7, 3) := by decide +kernel
theorem dX9_whole_57 : decode cX9_whole 57 = .ok (.iconst 1, 1) := by decide +kernel
theorem dX9_whole_58 : decode cX9_whole 58 = .ok (.goto 4, 3) := by decide +kernel
theorem dX9_whole_61 : decode cX9_whole 61 = .ok (.iconst 0, 1) := by decide +kernel
theorem dX9_whole_62 : decode cX9_whole 62 = .ok (.ireturn, 1) := by decide +kernel
theorem dX9_keep_0 : decode cX9_keep 0 = .ok (.aload_n 0, 1) := by decide +kernel
theorem dX9_keep_1 : decode cX9_keep 1 = .ok (.getfield 76, 3) := by decide +kernel
theorem dX9_keep_4 : decode cX9_keep 4 = .ok (.aload_n 0, 1) := by decide +kernel
theorem dX9_keep_5 : decode cX9_keep 5 = .ok (.getfield 69, 3) := by decide +kernel
theorem dX9_keep_8 : decode cX9_keep 8 = .ok (.aload_n 0, 1) := by decide +kernel
theorem dX9_keep_9 : decode cX9_keep 9 = .ok (.getfield 125, 3) := by decide +kernel
theorem dX9_keep_12 : decode cX9_keep 12 = .ok (.invokevirtual 298, 3) := by decide +kernel
theorem dX9_keep_15 : decode cX9_keep 15 = .ok (.ifCond .eq 13, 3) := by decide +kernel
theorem dX9_keep_18 : decode cX9_keep 18 = .ok (.aload_n 0, 1) := by decide +kernel
theorem dX9_keep_19 : decode cX9_keep 19 = .ok (.getfield 76, 3) := by decide +kernel
theorem dX9_keep_22 : decode cX9_keep 22 = .ok (.getfield 128, 3) := by decide +kernel
theorem dX9_keep_25 : decode cX9_keep 25 = .ok (.goto 5, 3) := by decide +kernel
theorem dX9_keep_28 : decode cX9_keep 28 = .ok (.bipush (-3), 2) := by decide +kernel
theorem dX9_keep_30 : decode cX9_keep 30 = .ok (.ireturn, 1) := by decide +kernel
theorem dX9_back_0 : decode cX9_back 0 = .ok (.aload_n 0, 1) := by decide +kernel
theorem dX9_back_1 : decode cX9_back 1 = .ok (.getfield 76, 3) := by decide +kernel
theorem dX9_back_4 : decode cX9_back 4 = .ok (.getfield 128, 3) := by decide +kernel
theorem dX9_back_7 : decode cX9_back 7 = .ok (.iconst 1, 1) := by decide +kernel
theorem dX9_back_8 : decode cX9_back 8 = .ok (.if_icmp .ge 6, 3) := by decide +kernel
theorem dX9_back_11 : decode cX9_back 11 = .ok (.bipush (-2), 2) := by decide +kernel
theorem dX9_back_13 : decode cX9_back 13 = .ok (.ireturn, 1) := by decide +kernel
theorem dX9_back_14 : decode cX9_back 14 = .ok (.aload_n 0, 1) := by decide +kernel
theorem dX9_back_15 : decode cX9_back 15 = .ok (.aload_n 0, 1) := by decide +kernel
theorem dX9_back_16 : decode cX9_back 16 = .ok (.getfield 76, 3) := by decide +kernel
theorem dX9_back_19 : decode cX9_back 19 = .ok (.aload_n 0, 1) := by decide +kernel
theorem dX9_back_20 : decode cX9_back 20 = .ok (.getfield 69, 3) := by decide +kernel
theorem dX9_back_23 : decode cX9_back 23 = .ok (.invokevirtual 301, 3) := by decide +kernel
theorem dX9_back_26 : decode cX9_back 26 = .ok (.putfield 125, 3) := by decide +kernel
theorem dX9_back_29 : decode cX9_back 29 = .ok (.aload_n 0, 1) := by decide +kernel
theorem dX9_back_30 : decode cX9_back 30 = .ok (.invokevirtual 135, 3) := by decide +kernel
theorem dX9_back_33 : decode cX9_back 33 = .ok (.aload_n 0, 1) := by decide +kernel
theorem dX9_back_34 : decode cX9_back 34 = .ok (.getfield 76, 3) := by decide +kernel
theorem dX9_back_37 : decode cX9_back 37 = .ok (.getfield 128, 3) := by decide +kernel
theorem dX9_back_40 : decode cX9_back 40 = .ok (.ireturn, 1) := by decide +kernel
theorem dX9_count_0 : decode cX9_count 0 = .ok (.iload_n 1, 1) := by decide +kernel
theorem dX9_count_1 : decode cX9_count 1 = .ok (.tableswitch 105 0 6 #[43, 54, 62, 73, 81, 89, 97], 43) := by decide +kernel
theorem dX9_count_44 : decode cX9_count 44 = .ok (.aload_n 0, 1) := by decide +kernel
theorem dX9_count_45 : decode cX9_count 45 = .ok (.getfield 26, 3) := by decide +kernel
theorem dX9_count_48 : decode cX9_count 48 = .ok (.getfield 83, 3) := by decide +kernel
theorem dX9_count_51 : decode cX9_count 51 = .ok (.getfield 138, 3) := by decide +kernel
theorem dX9_count_54 : decode cX9_count 54 = .ok (.ireturn, 1) := by decide +kernel
theorem dX9_count_55 : decode cX9_count 55 = .ok (.aload_n 0, 1) := by decide +kernel
theorem dX9_count_56 : decode cX9_count 56 = .ok (.getfield 36, 3) := by decide +kernel
theorem dX9_count_59 : decode cX9_count 59 = .ok (.getfield 198, 3) := by decide +kernel
theorem dX9_count_62 : decode cX9_count 62 = .ok (.ireturn, 1) := by decide +kernel
theorem dX9_count_63 : decode cX9_count 63 = .ok (.aload_n 0, 1) := by decide +kernel
theorem dX9_count_64 : decode cX9_count 64 = .ok (.getfield 26, 3) := by decide +kernel
theorem dX9_count_67 : decode cX9_count 67 = .ok (.getfield 83, 3) := by decide +kernel
theorem dX9_count_70 : decode cX9_count 70 = .ok (.getfield 117, 3) := by decide +kernel
theorem dX9_count_73 : decode cX9_count 73 = .ok (.ireturn, 1) := by decide +kernel
theorem dX9_count_74 : decode cX9_count 74 = .ok (.aload_n 0, 1) := by decide +kernel
theorem dX9_count_75 : decode cX9_count 75 = .ok (.getfield 10, 3) := by decide +kernel
theorem dX9_count_78 : decode cX9_count 78 = .ok (.getfield 110, 3) := by decide +kernel
theorem dX9_count_81 : decode cX9_count 81 = .ok (.ireturn, 1) := by decide +kernel
theorem dX9_count_82 : decode cX9_count 82 = .ok (.aload_n 0, 1) := by decide +kernel
theorem dX9_count_83 : decode cX9_count 83 = .ok (.getfield 76, 3) := by decide +kernel
theorem dX9_count_86 : decode cX9_count 86 = .ok (.getfield 128, 3) := by decide +kernel
theorem dX9_count_89 : decode cX9_count 89 = .ok (.ireturn, 1) := by decide +kernel
theorem dX9_count_90 : decode cX9_count 90 = .ok (.aload_n 0, 1) := by decide +kernel
theorem dX9_count_91 : decode cX9_count 91 = .ok (.getfield 26, 3) := by decide +kernel
theorem dX9_count_94 : decode cX9_count 94 = .ok (.getfield 209, 3) := by decide +kernel
theorem dX9_count_97 : decode cX9_count 97 = .ok (.ireturn, 1) := by decide +kernel
theorem dX9_count_98 : decode cX9_count 98 = .ok (.aload_n 0, 1) := by decide +kernel
theorem dX9_count_99 : decode cX9_count 99 = .ok (.getfield 26, 3) := by decide +kernel
theorem dX9_count_102 : decode cX9_count 102 = .ok (.getfield 95, 3) := by decide +kernel
theorem dX9_count_105 : decode cX9_count 105 = .ok (.ireturn, 1) := by decide +kernel
theorem dX9_count_106 : decode cX9_count 106 = .ok (.iconst (-1), 1) := by decide +kernel
theorem dX9_count_107 : decode cX9_count 107 = .ok (.ireturn, 1) := by decide +kernel
theorem dX9_isWithin_0 : decode cX9_isWithin 0 = .ok (.iload_n 0, 1) := by decide +kernel
theorem dX9_isWithin_1 : decode cX9_isWithin 1 = .ok (.iload_n 1, 1) := by decide +kernel
theorem dX9_isWithin_2 : decode cX9_isWithin 2 = .ok (.if_icmp .lt 12, 3) := by decide +kernel
theorem dX9_isWithin_5 : decode cX9_isWithin 5 = .ok (.iload_n 0, 1) := by decide +kernel
theorem dX9_isWithin_6 : decode cX9_isWithin 6 = .ok (.iload_n 2, 1) := by decide +kernel
theorem dX9_isWithin_7 : decode cX9_isWithin 7 = .ok (.if_icmp .gt 7, 3) := by decide +kernel
theorem dX9_isWithin_10 : decode cX9_isWithin 10 = .ok (.iconst 1, 1) := by decide +kernel
theorem dX9_isWithin_11 : decode cX9_isWithin 11 = .ok (.goto 4, 3) := by decide +kernel
theorem dX9_isWithin_14 : decode cX9_isWithin 14 = .ok (.iconst 0, 1) := by decide +kernel
theorem dX9_isWithin_15 : decode cX9_isWithin 15 = .ok (.ireturn, 1) := by decide +kernel
theorem dX9_isGiver_0 : decode cX9_isGiver 0 = .ok (.iload_n 1, 1) := by decide +kernel
theorem dX9_isGiver_1 : decode cX9_isGiver 1 = .ok (.ifCond .lt 21, 3) := by decide +kernel
theorem dX9_isGiver_4 : decode cX9_isGiver 4 = .ok (.iload_n 1, 1) := by decide +kernel
theorem dX9_isGiver_5 : decode cX9_isGiver 5 = .ok (.aload_n 0, 1) := by decide +kernel
theorem dX9_isGiver_6 : decode cX9_isGiver 6 = .ok (.getfield 26, 3) := by decide +kernel
theorem dX9_isGiver_9 : decode cX9_isGiver 9 = .ok (.getfield 83, 3) := by decide +kernel
theorem dX9_isGiver_12 : decode cX9_isGiver 12 = .ok (.getfield 138, 3) := by decide +kernel
theorem dX9_isGiver_15 : decode cX9_isGiver 15 = .ok (.if_icmp .ge 7, 3) := by decide +kernel
theorem dX9_isGiver_18 : decode cX9_isGiver 18 = .ok (.iconst 1, 1) := by decide +kernel
theorem dX9_isGiver_19 : decode cX9_isGiver 19 = .ok (.goto 4, 3) := by decide +kernel
theorem dX9_isGiver_22 : decode cX9_isGiver 22 = .ok (.iconst 0, 1) := by decide +kernel
theorem dX9_isGiver_23 : decode cX9_isGiver 23 = .ok (.ireturn, 1) := by decide +kernel
theorem dX9_greatestPart_0 : decode cX9_greatestPart 0 = .ok (.iconst 0, 1) := by decide +kernel
theorem dX9_greatestPart_1 : decode cX9_greatestPart 1 = .ok (.istore 4, 2) := by decide +kernel
theorem dX9_greatestPart_3 : decode cX9_greatestPart 3 = .ok (.iload 4, 2) := by decide +kernel
theorem dX9_greatestPart_5 : decode cX9_greatestPart 5 = .ok (.bipush 100, 2) := by decide +kernel
theorem dX9_greatestPart_7 : decode cX9_greatestPart 7 = .ok (.if_icmp .ge 25, 3) := by decide +kernel
theorem dX9_greatestPart_10 : decode cX9_greatestPart 10 = .ok (.lload_n 2, 1) := by decide +kernel
theorem dX9_greatestPart_11 : decode cX9_greatestPart 11 = .ok (.lconst 0, 1) := by decide +kernel
theorem dX9_greatestPart_12 : decode cX9_greatestPart 12 = .ok (.lcmp, 1) := by decide +kernel
theorem dX9_greatestPart_13 : decode cX9_greatestPart 13 = .ok (.ifCond .eq 19, 3) := by decide +kernel
theorem dX9_greatestPart_16 : decode cX9_greatestPart 16 = .ok (.lload_n 0, 1) := by decide +kernel
theorem dX9_greatestPart_17 : decode cX9_greatestPart 17 = .ok (.lload_n 2, 1) := by decide +kernel
theorem dX9_greatestPart_18 : decode cX9_greatestPart 18 = .ok (.lrem, 1) := by decide +kernel
theorem dX9_greatestPart_19 : decode cX9_greatestPart 19 = .ok (.lstore 5, 2) := by decide +kernel
theorem dX9_greatestPart_21 : decode cX9_greatestPart 21 = .ok (.lload_n 2, 1) := by decide +kernel
theorem dX9_greatestPart_22 : decode cX9_greatestPart 22 = .ok (.lstore_n 0, 1) := by decide +kernel
theorem dX9_greatestPart_23 : decode cX9_greatestPart 23 = .ok (.lload 5, 2) := by decide +kernel
theorem dX9_greatestPart_25 : decode cX9_greatestPart 25 = .ok (.lstore_n 2, 1) := by decide +kernel
theorem dX9_greatestPart_26 : decode cX9_greatestPart 26 = .ok (.iinc 4 1, 3) := by decide +kernel
theorem dX9_greatestPart_29 : decode cX9_greatestPart 29 = .ok (.goto (-26), 3) := by decide +kernel
theorem dX9_greatestPart_32 : decode cX9_greatestPart 32 = .ok (.lload_n 0, 1) := by decide +kernel
theorem dX9_greatestPart_33 : decode cX9_greatestPart 33 = .ok (.lconst 0, 1) := by decide +kernel
theorem dX9_greatestPart_34 : decode cX9_greatestPart 34 = .ok (.lcmp, 1) := by decide +kernel
theorem dX9_greatestPart_35 : decode cX9_greatestPart 35 = .ok (.ifCond .ne 7, 3) := by decide +kernel
theorem dX9_greatestPart_38 : decode cX9_greatestPart 38 = .ok (.lconst 1, 1) := by decide +kernel
theorem dX9_greatestPart_39 : decode cX9_greatestPart 39 = .ok (.goto 4, 3) := by decide +kernel
theorem dX9_greatestPart_42 : decode cX9_greatestPart 42 = .ok (.lload_n 0, 1) := by decide +kernel
theorem dX9_greatestPart_43 : decode cX9_greatestPart 43 = .ok (.lreturn, 1) := by decide +kernel
theorem dX9_forgetWays_0 : decode cX9_forgetWays 0 = .ok (.aload_n 0, 1) := by decide +kernel
theorem dX9_forgetWays_1 : decode cX9_forgetWays 1 = .ok (.iconst 0, 1) := by decide +kernel
theorem dX9_forgetWays_2 : decode cX9_forgetWays 2 = .ok (.putfield 305, 3) := by decide +kernel
theorem dX9_forgetWays_5 : decode cX9_forgetWays 5 = .ok (.aload_n 0, 1) := by decide +kernel
theorem dX9_forgetWays_6 : decode cX9_forgetWays 6 = .ok (.iconst 0, 1) := by decide +kernel
theorem dX9_forgetWays_7 : decode cX9_forgetWays 7 = .ok (.putfield 231, 3) := by decide +kernel
theorem dX9_forgetWays_10 : decode cX9_forgetWays 10 = .ok (.return_, 1) := by decide +kernel
theorem dX9_setGame_0 : decode cX9_setGame 0 = .ok (.aload_n 0, 1) := by decide +kernel
theorem dX9_setGame_1 : decode cX9_setGame 1 = .ok (.getfield 46, 3) := by decide +kernel
theorem dX9_setGame_4 : decode cX9_setGame 4 = .ok (.aload_n 0, 1) := by decide +kernel
theorem dX9_setGame_5 : decode cX9_setGame 5 = .ok (.getfield 26, 3) := by decide +kernel
theorem dX9_setGame_8 : decode cX9_setGame 8 = .ok (.aload_n 0, 1) := by decide +kernel
theorem dX9_setGame_9 : decode cX9_setGame 9 = .ok (.getfield 36, 3) := by decide +kernel
theorem dX9_setGame_12 : decode cX9_setGame 12 = .ok (.aload_n 0, 1) := by decide +kernel
theorem dX9_setGame_13 : decode cX9_setGame 13 = .ok (.getfield 125, 3) := by decide +kernel
theorem dX9_setGame_16 : decode cX9_setGame 16 = .ok (.invokevirtual 243, 3) := by decide +kernel
theorem dX9_setGame_19 : decode cX9_setGame 19 = .ok (.return_, 1) := by decide +kernel
theorem dX9_waysAsTheyStand_0 : decode cX9_waysAsTheyStand 0 = .ok (.aload_n 0, 1) := by decide +kernel
theorem dX9_waysAsTheyStand_1 : decode cX9_waysAsTheyStand 1 = .ok (.getfield 305, 3) := by decide +kernel
theorem dX9_waysAsTheyStand_4 : decode cX9_waysAsTheyStand 4 = .ok (.ifCond .ne 24, 3) := by decide +kernel
theorem dX9_waysAsTheyStand_7 : decode cX9_waysAsTheyStand 7 = .ok (.aload_n 0, 1) := by decide +kernel
theorem dX9_waysAsTheyStand_8 : decode cX9_waysAsTheyStand 8 = .ok (.invokevirtual 195, 3) := by decide +kernel
theorem dX9_waysAsTheyStand_11 : decode cX9_waysAsTheyStand 11 = .ok (.aload_n 0, 1) := by decide +kernel
theorem dX9_waysAsTheyStand_12 : decode cX9_waysAsTheyStand 12 = .ok (.getfield 53, 3) := by decide +kernel
theorem dX9_waysAsTheyStand_15 : decode cX9_waysAsTheyStand 15 = .ok (.aload_n 0, 1) := by decide +kernel
theorem dX9_waysAsTheyStand_16 : decode cX9_waysAsTheyStand 16 = .ok (.getfield 46, 3) := by decide +kernel
theorem dX9_waysAsTheyStand_19 : decode cX9_waysAsTheyStand 19 = .ok (.iconst 1, 1) := by decide +kernel
theorem dX9_waysAsTheyStand_20 : decode cX9_waysAsTheyStand 20 = .ok (.invokevirtual 247, 3) := by decide +kernel
theorem dX9_waysAsTheyStand_23 : decode cX9_waysAsTheyStand 23 = .ok (.aload_n 0, 1) := by decide +kernel
theorem dX9_waysAsTheyStand_24 : decode cX9_waysAsTheyStand 24 = .ok (.iconst 1, 1) := by decide +kernel
theorem dX9_waysAsTheyStand_25 : decode cX9_waysAsTheyStand 25 = .ok (.putfield 305, 3) := by decide +kernel
theorem dX9_waysAsTheyStand_28 : decode cX9_waysAsTheyStand 28 = .ok (.aload_n 0, 1) := by decide +kernel
theorem dX9_waysAsTheyStand_29 : decode cX9_waysAsTheyStand 29 = .ok (.getfield 53, 3) := by decide +kernel
theorem dX9_waysAsTheyStand_32 : decode cX9_waysAsTheyStand 32 = .ok (.areturn, 1) := by decide +kernel
theorem dX9_findBestBar_0 : decode cX9_findBestBar 0 = .ok (.iconst 1, 1) := by decide +kernel
theorem dX9_findBestBar_1 : decode cX9_findBestBar 1 = .ok (.istore_n 1, 1) := by decide +kernel
theorem dX9_findBestBar_2 : decode cX9_findBestBar 2 = .ok (.iload_n 1, 1) := by decide +kernel
theorem dX9_findBestBar_3 : decode cX9_findBestBar 3 = .ok (.bipush 60, 2) := by decide +kernel
theorem dX9_findBestBar_5 : decode cX9_findBestBar 5 = .ok (.if_icmp .gt 73, 3) := by decide +kernel
theorem dX9_findBestBar_8 : decode cX9_findBestBar 8 = .ok (.aload_n 0, 1) := by decide +kernel
theorem dX9_findBestBar_9 : decode cX9_findBestBar 9 = .ok (.invokevirtual 195, 3) := by decide +kernel
theorem dX9_findBestBar_12 : decode cX9_findBestBar 12 = .ok (.aload_n 0, 1) := by decide +kernel
theorem dX9_findBestBar_13 : decode cX9_findBestBar 13 = .ok (.getfield 46, 3) := by decide +kernel
theorem dX9_findBestBar_16 : decode cX9_findBestBar 16 = .ok (.iload_n 1, 1) := by decide +kernel
theorem dX9_findBestBar_17 : decode cX9_findBestBar 17 = .ok (.putfield 308, 3) := by decide +kernel
theorem dX9_findBestBar_20 : decode cX9_findBestBar 20 = .ok (.aload_n 0, 1) := by decide +kernel
theorem dX9_findBestBar_21 : decode cX9_findBestBar 21 = .ok (.getfield 57, 3) := by decide +kernel
theorem dX9_findBestBar_24 : decode cX9_findBestBar 24 = .ok (.aload_n 0, 1) := by decide +kernel
theorem dX9_findBestBar_25 : decode cX9_findBestBar 25 = .ok (.getfield 46, 3) := by decide +kernel
theorem dX9_findBestBar_28 : decode cX9_findBestBar 28 = .ok (.iconst 0, 1) := by decide +kernel
theorem dX9_findBestBar_29 : decode cX9_findBestBar 29 = .ok (.invokevirtual 247, 3) := by decide +kernel
theorem dX9_findBestBar_32 : decode cX9_findBestBar 32 = .ok (.aload_n 0, 1) := by decide +kernel
theorem dX9_findBestBar_33 : decode cX9_findBestBar 33 = .ok (.getfield 57, 3) := by decide +kernel
theorem dX9_findBestBar_36 : decode cX9_findBestBar 36 = .ok (.getfield 189, 3) := by decide +kernel
theorem dX9_findBestBar_39 : decode cX9_findBestBar 39 = .ok (.aload_n 0, 1) := by decide +kernel
theorem dX9_findBestBar_40 : decode cX9_findBestBar 40 = .ok (.getfield 57, 3) := by decide +kernel
theorem dX9_findBestBar_43 : decode cX9_findBestBar 43 = .ok (.getfield 192, 3) := by decide +kernel
theorem dX9_findBestBar_46 : decode cX9_findBestBar 46 = .ok (.ladd, 1) := by decide +kernel
theorem dX9_findBestBar_47 : decode cX9_findBestBar 47 = .ok (.lstore_n 2, 1) := by decide +kernel
theorem dX9_findBestBar_48 : decode cX9_findBestBar 48 = .ok (.iload_n 1, 1) := by decide +kernel
theorem dX9_findBestBar_49 : decode cX9_findBestBar 49 = .ok (.iconst 1, 1) := by decide +kernel
theorem dX9_findBestBar_50 : decode cX9_findBestBar 50 = .ok (.if_icmp .eq 12, 3) := by decide +kernel
theorem dX9_findBestBar_53 : decode cX9_findBestBar 53 = .ok (.lload_n 2, 1) := by decide +kernel
theorem dX9_findBestBar_54 : decode cX9_findBestBar 54 = .ok (.aload_n 0, 1) := by decide +kernel
theorem dX9_findBestBar_55 : decode cX9_findBestBar 55 = .ok (.getfield 240, 3) := by decide +kernel
theorem dX9_findBestBar_58 : decode cX9_findBestBar 58 = .ok (.lcmp, 1) := by decide +kernel
theorem dX9_findBestBar_59 : decode cX9_findBestBar 59 = .ok (.ifCond .ge 13, 3) := by decide +kernel
theorem dX9_findBestBar_62 : decode cX9_findBestBar 62 = .ok (.aload_n 0, 1) := by decide +kernel
theorem dX9_findBestBar_63 : decode cX9_findBestBar 63 = .ok (.iload_n 1, 1) := by decide +kernel
theorem dX9_findBestBar_64 : decode cX9_findBestBar 64 = .ok (.putfield 237, 3) := by decide +kernel
theorem dX9_findBestBar_67 : decode cX9_findBestBar 67 = .ok (.aload_n 0, 1) := by decide +kernel
theorem dX9_findBestBar_68 : decode cX9_findBestBar 68 = .ok (.lload_n 2, 1) := by decide +kernel
theorem dX9_findBestBar_69 : decode cX9_findBestBar 69 = .ok (.putfield 240, 3) := by decide +kernel
theorem dX9_findBestBar_72 : decode cX9_findBestBar 72 = .ok (.iinc 1 1, 3) := by decide +kernel
theorem dX9_findBestBar_75 : decode cX9_findBestBar 75 = .ok (.goto (-73), 3) := by decide +kernel
theorem dX9_findBestBar_78 : decode cX9_findBestBar 78 = .ok (.return_, 1) := by decide +kernel
theorem dX9_richWays_0 : decode cX9_richWays 0 = .ok (.aload_n 0, 1) := by decide +kernel
theorem dX9_richWays_1 : decode cX9_richWays 1 = .ok (.invokevirtual 195, 3) := by decide +kernel
theorem dX9_richWays_4 : decode cX9_richWays 4 = .ok (.aload_n 0, 1) := by decide +kernel
theorem dX9_richWays_5 : decode cX9_richWays 5 = .ok (.getfield 46, 3) := by decide +kernel
theorem dX9_richWays_8 : decode cX9_richWays 8 = .ok (.iload_n 1, 1) := by decide +kernel
theorem dX9_richWays_9 : decode cX9_richWays 9 = .ok (.putfield 309, 3) := by decide +kernel
theorem dX9_richWays_12 : decode cX9_richWays 12 = .ok (.aload_n 0, 1) := by decide +kernel
theorem dX9_richWays_13 : decode cX9_richWays 13 = .ok (.getfield 46, 3) := by decide +kernel
theorem dX9_richWays_16 : decode cX9_richWays 16 = .ok (.iload_n 2, 1) := by decide +kernel
theorem dX9_richWays_17 : decode cX9_richWays 17 = .ok (.iconst 1, 1) := by decide +kernel
theorem dX9_richWays_18 : decode cX9_richWays 18 = .ok (.isub, 1) := by decide +kernel
theorem dX9_richWays_19 : decode cX9_richWays 19 = .ok (.putfield 312, 3) := by decide +kernel
theorem dX9_richWays_22 : decode cX9_richWays 22 = .ok (.aload_n 0, 1) := by decide +kernel
theorem dX9_richWays_23 : decode cX9_richWays 23 = .ok (.getfield 57, 3) := by decide +kernel
theorem dX9_richWays_26 : decode cX9_richWays 26 = .ok (.aload_n 0, 1) := by decide +kernel
theorem dX9_richWays_27 : decode cX9_richWays 27 = .ok (.getfield 46, 3) := by decide +kernel
theorem dX9_richWays_30 : decode cX9_richWays 30 = .ok (.iconst 0, 1) := by decide +kernel
theorem dX9_richWays_31 : decode cX9_richWays 31 = .ok (.invokevirtual 247, 3) := by decide +kernel
theorem dX9_richWays_34 : decode cX9_richWays 34 = .ok (.aload_n 0, 1) := by decide +kernel
theorem dX9_richWays_35 : decode cX9_richWays 35 = .ok (.getfield 57, 3) := by decide +kernel
theorem dX9_richWays_38 : decode cX9_richWays 38 = .ok (.getfield 164, 3) := by decide +kernel
theorem dX9_richWays_41 : decode cX9_richWays 41 = .ok (.lreturn, 1) := by decide +kernel
theorem dX9_playEvening_0 : decode cX9_playEvening 0 = .ok (.aload_n 0, 1) := by decide +kernel
theorem dX9_playEvening_1 : decode cX9_playEvening 1 = .ok (.invokevirtual 195, 3) := by decide +kernel
theorem dX9_playEvening_4 : decode cX9_playEvening 4 = .ok (.iconst 0, 1) := by decide +kernel
theorem dX9_playEvening_5 : decode cX9_playEvening 5 = .ok (.istore_n 2, 1) := by decide +kernel
theorem dX9_playEvening_6 : decode cX9_playEvening 6 = .ok (.iload_n 2, 1) := by decide +kernel
theorem dX9_playEvening_7 : decode cX9_playEvening 7 = .ok (.aload_n 0, 1) := by decide +kernel
theorem dX9_playEvening_8 : decode cX9_playEvening 8 = .ok (.getfield 36, 3) := by decide +kernel
theorem dX9_playEvening_11 : decode cX9_playEvening 11 = .ok (.getfield 198, 3) := by decide +kernel
theorem dX9_playEvening_14 : decode cX9_playEvening 14 = .ok (.if_icmp .ge 23, 3) := by decide +kernel
theorem dX9_playEvening_17 : decode cX9_playEvening 17 = .ok (.aload_n 0, 1) := by decide +kernel
theorem dX9_playEvening_18 : decode cX9_playEvening 18 = .ok (.getfield 46, 3) := by decide +kernel
theorem dX9_playEvening_21 : decode cX9_playEvening 21 = .ok (.iload_n 2, 1) := by decide +kernel
theorem dX9_playEvening_22 : decode cX9_playEvening 22 = .ok (.aload_n 0, 1) := by decide +kernel
theorem dX9_playEvening_23 : decode cX9_playEvening 23 = .ok (.iload_n 1, 1) := by decide +kernel
theorem dX9_playEvening_24 : decode cX9_playEvening 24 = .ok (.iload_n 2, 1) := by decide +kernel
theorem dX9_playEvening_25 : decode cX9_playEvening 25 = .ok (.invokevirtual 284, 3) := by decide +kernel
theorem dX9_playEvening_28 : decode cX9_playEvening 28 = .ok (.invokevirtual 315, 3) := by decide +kernel
theorem dX9_playEvening_31 : decode cX9_playEvening 31 = .ok (.iinc 2 1, 3) := by decide +kernel
theorem dX9_playEvening_34 : decode cX9_playEvening 34 = .ok (.goto (-28), 3) := by decide +kernel
theorem dX9_playEvening_37 : decode cX9_playEvening 37 = .ok (.return_, 1) := by decide +kernel
theorem dX9_drawnWorth_0 : decode cX9_drawnWorth 0 = .ok (.ldc2_w 319, 3) := by decide +kernel
theorem dX9_drawnWorth_3 : decode cX9_drawnWorth 3 = .ok (.iload_n 1, 1) := by decide +kernel
theorem dX9_drawnWorth_4 : decode cX9_drawnWorth 4 = .ok (.i2l, 1) := by decide +kernel
theorem dX9_drawnWorth_5 : decode cX9_drawnWorth 5 = .ok (.lmul, 1) := by decide +kernel
theorem dX9_drawnWorth_6 : decode cX9_drawnWorth 6 = .ok (.ldc2_w 321, 3) := by decide +kernel
theorem dX9_drawnWorth_9 : decode cX9_drawnWorth 9 = .ok (.aload_n 0, 1) := by decide +kernel
theorem dX9_drawnWorth_10 : decode cX9_drawnWorth 10 = .ok (.getfield 36, 3) := by decide +kernel
theorem dX9_drawnWorth_13 : decode cX9_drawnWorth 13 = .ok (.getfield 199, 3) := by decide +kernel
theorem dX9_drawnWorth_16 : decode cX9_drawnWorth 16 = .ok (.iload_n 2, 1) := by decide +kernel
theorem dX9_drawnWorth_17 : decode cX9_drawnWorth 17 = .ok (.iaload, 1) := by decide +kernel
theorem dX9_drawnWorth_18 : decode cX9_drawnWorth 18 = .ok (.i2l, 1) := by decide +kernel
theorem dX9_drawnWorth_19 : decode cX9_drawnWorth 19 = .ok (.lmul, 1) := by decide +kernel
theorem dX9_drawnWorth_20 : decode cX9_drawnWorth 20 = .ok (.ladd, 1) := by decide +kernel
theorem dX9_drawnWorth_21 : decode cX9_drawnWorth 21 = .ok (.lconst 1, 1) := by decide +kernel
theorem dX9_drawnWorth_22 : decode cX9_drawnWorth 22 = .ok (.ladd, 1) := by decide +kernel
theorem dX9_drawnWorth_23 : decode cX9_drawnWorth 23 = .ok (.lstore_n 3, 1) := by decide +kernel
theorem dX9_drawnWorth_24 : decode cX9_drawnWorth 24 = .ok (.aload_n 0, 1) := by decide +kernel
theorem dX9_drawnWorth_25 : decode cX9_drawnWorth 25 = .ok (.getfield 36, 3) := by decide +kernel
theorem dX9_drawnWorth_28 : decode cX9_drawnWorth 28 = .ok (.iload_n 2, 1) := by decide +kernel
theorem dX9_drawnWorth_29 : decode cX9_drawnWorth 29 = .ok (.lload_n 3, 1) := by decide +kernel
theorem dX9_drawnWorth_30 : decode cX9_drawnWorth 30 = .ok (.lload_n 3, 1) := by decide +kernel
theorem dX9_drawnWorth_31 : decode cX9_drawnWorth 31 = .ok (.lmul, 1) := by decide +kernel
theorem dX9_drawnWorth_32 : decode cX9_drawnWorth 32 = .ok (.ldc2_w 323, 3) := by decide +kernel
theorem dX9_drawnWorth_35 : decode cX9_drawnWorth 35 = .ok (.lrem, 1) := by decide +kernel
theorem dX9_drawnWorth_36 : decode cX9_drawnWorth 36 = .ok (.ldc2_w 257, 3) := by decide +kernel
theorem dX9_drawnWorth_39 : decode cX9_drawnWorth 39 = .ok (.lrem, 1) := by decide +kernel
theorem dX9_drawnWorth_40 : decode cX9_drawnWorth 40 = .ok (.l2i, 1) := by decide +kernel
theorem dX9_drawnWorth_41 : decode cX9_drawnWorth 41 = .ok (.invokevirtual 325, 3) := by decide +kernel
theorem dX9_drawnWorth_44 : decode cX9_drawnWorth 44 = .ok (.ireturn, 1) := by decide +kernel
theorem dL_cell_0 : decode cL_cell 0 = .ok (.iload_n 1, 1) := by decide +kernel
theorem dL_cell_1 : decode cL_cell 1 = .ok (.aload_n 0, 1) := by decide +kernel
theorem dL_cell_2 : decode cL_cell 2 = .ok (.arraylength, 1) := by decide +kernel
theorem dL_cell_3 : decode cL_cell 3 = .ok (.if_icmp .ge 9, 3) := by decide +kernel
theorem dL_cell_6 : decode cL_cell 6 = .ok (.aload_n 0, 1) := by decide +kernel
theorem dL_cell_7 : decode cL_cell 7 = .ok (.iload_n 1, 1) := by decide +kernel
theorem dL_cell_8 : decode cL_cell 8 = .ok (.iaload, 1) := by decide +kernel
theorem dL_cell_9 : decode cL_cell 9 = .ok (.goto 9, 3) := by decide +kernel
theorem dL_cell_12 : decode cL_cell 12 = .ok (.ldc 7, 2) := by decide +kernel
theorem dL_cell_14 : decode cL_cell 14 = .ok (.iload_n 1, 1) := by decide +kernel
theorem dL_cell_15 : decode cL_cell 15 = .ok (.iconst 1, 1) := by decide +kernel
theorem dL_cell_16 : decode cL_cell 16 = .ok (.iadd, 1) := by decide +kernel
theorem dL_cell_17 : decode cL_cell 17 = .ok (.imul, 1) := by decide +kernel
theorem dL_cell_18 : decode cL_cell 18 = .ok (.ireturn, 1) := by decide +kernel
theorem dL_some_0 : decode cL_some 0 = .ok (.iload_n 0, 1) := by decide +kernel
theorem dL_some_1 : decode cL_some 1 = .ok (.ldc 8, 2) := by decide +kernel
theorem dL_some_3 : decode cL_some 3 = .ok (.iand, 1) := by decide +kernel
theorem dL_some_4 : decode cL_some 4 = .ok (.iload_n 1, 1) := by decide +kernel
theorem dL_some_5 : decode cL_some 5 = .ok (.irem, 1) := by decide +kernel
theorem dL_some_6 : decode cL_some 6 = .ok (.ireturn, 1) := by decide +kernel
theorem dL_number_0 : decode cL_number 0 = .ok (.iconst 1, 1) := by decide +kernel
theorem dL_number_1 : decode cL_number 1 = .ok (.istore_n 3, 1) := by decide +kernel
theorem dL_number_2 : decode cL_number 2 = .ok (.bipush 100, 2) := by decide +kernel
theorem dL_number_4 : decode cL_number 4 = .ok (.istore 4, 2) := by decide +kernel
theorem dL_number_6 : decode cL_number 6 = .ok (.iload 4, 2) := by decide +kernel
theorem dL_number_8 : decode cL_number 8 = .ok (.ifCond .le 54, 3) := by decide +kernel
theorem dL_number_11 : decode cL_number 11 = .ok (.iload_n 3, 1) := by decide +kernel
theorem dL_number_12 : decode cL_number 12 = .ok (.ifCond .eq 38, 3) := by decide +kernel
theorem dL_number_15 : decode cL_number 15 = .ok (.iload_n 1, 1) := by decide +kernel
theorem dL_number_16 : decode cL_number 16 = .ok (.iload 4, 2) := by decide +kernel
theorem dL_number_18 : decode cL_number 18 = .ok (.if_icmp .ge 9, 3) := by decide +kernel
theorem dL_number_21 : decode cL_number 21 = .ok (.iload 4, 2) := by decide +kernel
theorem dL_number_23 : decode cL_number 23 = .ok (.iconst 1, 1) := by decide +kernel
theorem dL_number_24 : decode cL_number 24 = .ok (.if_icmp .gt 22, 3) := by decide +kernel
theorem dL_number_27 : decode cL_number 27 = .ok (.aload_n 0, 1) := by decide +kernel
theorem dL_number_28 : decode cL_number 28 = .ok (.iconst 1, 1) := by decide +kernel
theorem dL_number_29 : decode cL_number 29 = .ok (.bipush 48, 2) := by decide +kernel
theorem dL_number_31 : decode cL_number 31 = .ok (.iload_n 1, 1) := by decide +kernel
theorem dL_number_32 : decode cL_number 32 = .ok (.iload 4, 2) := by decide +kernel
theorem dL_number_34 : decode cL_number 34 = .ok (.idiv, 1) := by decide +kernel
theorem dL_number_35 : decode cL_number 35 = .ok (.bipush 10, 2) := by decide +kernel
theorem dL_number_37 : decode cL_number 37 = .ok (.irem, 1) := by decide +kernel
theorem dL_number_38 : decode cL_number 38 = .ok (.iadd, 1) := by decide +kernel
theorem dL_number_39 : decode cL_number 39 = .ok (.i2l, 1) := by decide +kernel
theorem dL_number_40 : decode cL_number 40 = .ok (.invokevirtual 9, 3) := by decide +kernel
theorem dL_number_43 : decode cL_number 43 = .ok (.ifCond .le 7, 3) := by decide +kernel
theorem dL_number_46 : decode cL_number 46 = .ok (.iconst 1, 1) := by decide +kernel
theorem dL_number_47 : decode cL_number 47 = .ok (.goto 4, 3) := by decide +kernel
theorem dL_number_50 : decode cL_number 50 = .ok (.iconst 0, 1) := by decide +kernel
theorem dL_number_51 : decode cL_number 51 = .ok (.istore_n 3, 1) := by decide +kernel
theorem dL_number_52 : decode cL_number 52 = .ok (.iload 4, 2) := by decide +kernel
theorem dL_number_54 : decode cL_number 54 = .ok (.bipush 10, 2) := by decide +kernel
theorem dL_number_56 : decode cL_number 56 = .ok (.idiv, 1) := by decide +kernel
theorem dL_number_57 : decode cL_number 57 = .ok (.istore 4, 2) := by decide +kernel
theorem dL_number_59 : decode cL_number 59 = .ok (.goto (-53), 3) := by decide +kernel
theorem dL_number_62 : decode cL_number 62 = .ok (.iload_n 3, 1) := by decide +kernel
theorem dL_number_63 : decode cL_number 63 = .ok (.ifCond .eq 17, 3) := by decide +kernel
theorem dL_number_66 : decode cL_number 66 = .ok (.aload_n 0, 1) := by decide +kernel
theorem dL_number_67 : decode cL_number 67 = .ok (.iconst 1, 1) := by decide +kernel
theorem dL_number_68 : decode cL_number 68 = .ok (.iload_n 2, 1) := by decide +kernel
theorem dL_number_69 : decode cL_number 69 = .ok (.i2l, 1) := by decide +kernel
theorem dL_number_70 : decode cL_number 70 = .ok (.invokevirtual 9, 3) := by decide +kernel
theorem dL_number_73 : decode cL_number 73 = .ok (.ifCond .le 7, 3) := by decide +kernel
theorem dL_number_76 : decode cL_number 76 = .ok (.iconst 1, 1) := by decide +kernel
theorem dL_number_77 : decode cL_number 77 = .ok (.goto 4, 3) := by decide +kernel
theorem dL_number_80 : decode cL_number 80 = .ok (.iconst 0, 1) := by decide +kernel
theorem dL_number_81 : decode cL_number 81 = .ok (.ireturn, 1) := by decide +kernel
theorem dL_item_0 : decode cL_item 0 = .ok (.aload_n 0, 1) := by decide +kernel
theorem dL_item_1 : decode cL_item 1 = .ok (.iconst 1, 1) := by decide +kernel
theorem dL_item_2 : decode cL_item 2 = .ok (.iload_n 1, 1) := by decide +kernel
theorem dL_item_3 : decode cL_item 3 = .ok (.i2l, 1) := by decide +kernel
theorem dL_item_4 : decode cL_item 4 = .ok (.invokevirtual 9, 3) := by decide +kernel
theorem dL_item_7 : decode cL_item 7 = .ok (.ifCond .le 7, 3) := by decide +kernel
theorem dL_item_10 : decode cL_item 10 = .ok (.iconst 1, 1) := by decide +kernel
theorem dL_item_11 : decode cL_item 11 = .ok (.goto 4, 3) := by decide +kernel
theorem dL_item_14 : decode cL_item 14 = .ok (.iconst 0, 1) := by decide +kernel
theorem dL_item_15 : decode cL_item 15 = .ok (.istore 8, 2) := by decide +kernel
theorem dL_item_17 : decode cL_item 17 = .ok (.iconst 0, 1) := by decide +kernel
theorem dL_item_18 : decode cL_item 18 = .ok (.istore 9, 2) := by decide +kernel
theorem dL_item_20 : decode cL_item 20 = .ok (.iload 9, 2) := by decide +kernel
theorem dL_item_22 : decode cL_item 22 = .ok (.iload_n 2, 1) := by decide +kernel
theorem dL_item_23 : decode cL_item 23 = .ok (.if_icmp .ge 87, 3) := by decide +kernel
theorem dL_item_26 : decode cL_item 26 = .ok (.iload 8, 2) := by decide +kernel
theorem dL_item_28 : decode cL_item 28 = .ok (.ifCond .eq 73, 3) := by decide +kernel
theorem dL_item_31 : decode cL_item 31 = .ok (.aload_n 0, 1) := by decide +kernel
theorem dL_item_32 : decode cL_item 32 = .ok (.iload 9, 2) := by decide +kernel
theorem dL_item_34 : decode cL_item 34 = .ok (.ifCond .ne 7, 3) := by decide +kernel
theorem dL_item_37 : decode cL_item 37 = .ok (.iload_n 3, 1) := by decide +kernel
theorem dL_item_38 : decode cL_item 38 = .ok (.goto 38, 3) := by decide +kernel
theorem dL_item_41 : decode cL_item 41 = .ok (.iload 9, 2) := by decide +kernel
theorem dL_item_43 : decode cL_item 43 = .ok (.iconst 1, 1) := by decide +kernel
theorem dL_item_44 : decode cL_item 44 = .ok (.if_icmp .ne 8, 3) := by decide +kernel
theorem dL_item_47 : decode cL_item 47 = .ok (.iload 4, 2) := by decide +kernel
theorem dL_item_49 : decode cL_item 49 = .ok (.goto 27, 3) := by decide +kernel
theorem dL_item_52 : decode cL_item 52 = .ok (.iload 9, 2) := by decide +kernel
theorem dL_item_54 : decode cL_item 54 = .ok (.iconst 2, 1) := by decide +kernel
theorem dL_item_55 : decode cL_item 55 = .ok (.if_icmp .ne 8, 3) := by decide +kernel
theorem dL_item_58 : decode cL_item 58 = .ok (.iload 5, 2) := by decide +kernel
theorem dL_item_60 : decode cL_item 60 = .ok (.goto 16, 3) := by decide +kernel
theorem dL_item_63 : decode cL_item 63 = .ok (.iload 9, 2) := by decide +kernel
theorem dL_item_65 : decode cL_item 65 = .ok (.iconst 3, 1) := by decide +kernel
theorem dL_item_66 : decode cL_item 66 = .ok (.if_icmp .ne 8, 3) := by decide +kernel
theorem dL_item_69 : decode cL_item 69 = .ok (.iload 6, 2) := by decide +kernel
theorem dL_item_71 : decode cL_item 71 = .ok (.goto 5, 3) := by decide +kernel
theorem dL_item_74 : decode cL_item 74 = .ok (.iload 7, 2) := by decide +kernel
theorem dL_item_76 : decode cL_item 76 = .ok (.iload 9, 2) := by decide +kernel
theorem dL_item_78 : decode cL_item 78 = .ok (.iload_n 2, 1) := by decide +kernel
theorem dL_item_79 : decode cL_item 79 = .ok (.iconst 1, 1) := by decide +kernel
theorem dL_item_80 : decode cL_item 80 = .ok (.isub, 1) := by decide +kernel
theorem dL_item_81 : decode cL_item 81 = .ok (.if_icmp .ge 8, 3) := by decide +kernel
theorem dL_item_84 : decode cL_item 84 = .ok (.bipush 44, 2) := by decide +kernel
theorem dL_item_86 : decode cL_item 86 = .ok (.goto 5, 3) := by decide +kernel
theorem dL_item_89 : decode cL_item 89 = .ok (.bipush 59, 2) := by decide +kernel
theorem dL_item_91 : decode cL_item 91 = .ok (.invokestatic 15, 3) := by decide +kernel
theorem dL_item_94 : decode cL_item 94 = .ok (.ifCond .eq 7, 3) := by decide +kernel
theorem dL_item_97 : decode cL_item 97 = .ok (.iconst 1, 1) := by decide +kernel
theorem dL_item_98 : decode cL_item 98 = .ok (.goto 4, 3) := by decide +kernel
theorem dL_item_101 : decode cL_item 101 = .ok (.iconst 0, 1) := by decide +kernel
theorem dL_item_102 : decode cL_item 102 = .ok (.istore 8, 2) := by decide +kernel
theorem dL_item_104 : decode cL_item 104 = .ok (.iinc 9 1, 3) := by decide +kernel
theorem dL_item_107 : decode cL_item 107 = .ok (.goto (-87), 3) := by decide +kernel
theorem dL_item_110 : decode cL_item 110 = .ok (.iload 8, 2) := by decide +kernel
theorem dL_item_112 : decode cL_item 112 = .ok (.ireturn, 1) := by decide +kernel
theorem dL_board_0 : decode cL_board 0 = .ok (.aload_n 1, 1) := by decide +kernel
theorem dL_board_1 : decode cL_board 1 = .ok (.iload_n 2, 1) := by decide +kernel
theorem dL_board_2 : decode cL_board 2 = .ok (.invokestatic 21, 3) := by decide +kernel
theorem dL_board_5 : decode cL_board 5 = .ok (.istore 5, 2) := by decide +kernel
theorem dL_board_7 : decode cL_board 7 = .ok (.aload_n 1, 1) := by decide +kernel
theorem dL_board_8 : decode cL_board 8 = .ok (.iload_n 2, 1) := by decide +kernel
theorem dL_board_9 : decode cL_board 9 = .ok (.iconst 1, 1) := by decide +kernel
theorem dL_board_10 : decode cL_board 10 = .ok (.iadd, 1) := by decide +kernel
theorem dL_board_11 : decode cL_board 11 = .ok (.invokestatic 21, 3) := by decide +kernel
theorem dL_board_14 : decode cL_board 14 = .ok (.istore 6, 2) := by decide +kernel
theorem dL_board_16 : decode cL_board 16 = .ok (.aload_n 3, 1) := by decide +kernel
theorem dL_board_17 : decode cL_board 17 = .ok (.iconst 1, 1) := by decide +kernel
theorem dL_board_18 : decode cL_board 18 = .ok (.iconst 1, 1) := by decide +kernel
theorem dL_board_19 : decode cL_board 19 = .ok (.iload 5, 2) := by decide +kernel
theorem dL_board_21 : decode cL_board 21 = .ok (.iload 5, 2) := by decide +kernel
theorem dL_board_23 : decode cL_board 23 = .ok (.ldc 25, 2) := by decide +kernel
theorem dL_board_25 : decode cL_board 25 = .ok (.iand, 1) := by decide +kernel
theorem dL_board_26 : decode cL_board 26 = .ok (.ifCond .ne 8, 3) := by decide +kernel
theorem dL_board_29 : decode cL_board 29 = .ok (.bipush 30, 2) := by decide +kernel
theorem dL_board_31 : decode cL_board 31 = .ok (.goto 5, 3) := by decide +kernel
theorem dL_board_34 : decode cL_board 34 = .ok (.bipush 60, 2) := by decide +kernel
theorem dL_board_36 : decode cL_board 36 = .ok (.invokestatic 26, 3) := by decide +kernel
theorem dL_board_39 : decode cL_board 39 = .ok (.iadd, 1) := by decide +kernel
theorem dL_board_40 : decode cL_board 40 = .ok (.iastore, 1) := by decide +kernel
theorem dL_board_41 : decode cL_board 41 = .ok (.aload_n 3, 1) := by decide +kernel
theorem dL_board_42 : decode cL_board 42 = .ok (.iconst 2, 1) := by decide +kernel
theorem dL_board_43 : decode cL_board 43 = .ok (.iload 5, 2) := by decide +kernel
theorem dL_board_45 : decode cL_board 45 = .ok (.bipush 7, 2) := by decide +kernel
theorem dL_board_47 : decode cL_board 47 = .ok (.ishr, 1) := by decide +kernel
theorem dL_board_48 : decode cL_board 48 = .ok (.iconst 3, 1) := by decide +kernel
theorem dL_board_49 : decode cL_board 49 = .ok (.iand, 1) := by decide +kernel
theorem dL_board_50 : decode cL_board 50 = .ok (.ifCond .ne 15, 3) := by decide +kernel
theorem dL_board_53 : decode cL_board 53 = .ok (.iload 5, 2) := by decide +kernel
theorem dL_board_55 : decode cL_board 55 = .ok (.bipush 9, 2) := by decide +kernel
theorem dL_board_57 : decode cL_board 57 = .ok (.ishr, 1) := by decide +kernel
theorem dL_board_58 : decode cL_board 58 = .ok (.iconst 5, 1) := by decide +kernel
theorem dL_board_59 : decode cL_board 59 = .ok (.invokestatic 26, 3) := by decide +kernel
theorem dL_board_62 : decode cL_board 62 = .ok (.goto 4, 3) := by decide +kernel
theorem dL_board_65 : decode cL_board 65 = .ok (.iconst 0, 1) := by decide +kernel
theorem dL_board_66 : decode cL_board 66 = .ok (.iastore, 1) := by decide +kernel
theorem dL_board_67 : decode cL_board 67 = .ok (.aload_n 3, 1) := by decide +kernel
theorem dL_board_68 : decode cL_board 68 = .ok (.iconst 3, 1) := by decide +kernel
theorem dL_board_69 : decode cL_board 69 = .ok (.iload 5, 2) := by decide +kernel
theorem dL_board_71 : decode cL_board 71 = .ok (.bipush 12, 2) := by decide +kernel
theorem dL_board_73 : decode cL_board 73 = .ok (.ishr, 1) := by decide +kernel
theorem dL_board_74 : decode cL_board 74 = .ok (.bipush 13, 2) := by decide +kernel
theorem dL_board_76 : decode cL_board 76 = .ok (.invokestatic 26, 3) := by decide +kernel
theorem dL_board_79 : decode cL_board 79 = .ok (.iastore, 1) := by decide +kernel
theorem dL_board_80 : decode cL_board 80 = .ok (.aload_n 3, 1) := by decide +kernel
theorem dL_board_81 : decode cL_board 81 = .ok (.iconst 4, 1) := by decide +kernel
theorem dL_board_82 : decode cL_board 82 = .ok (.iload 5, 2) := by decide +kernel
theorem dL_board_84 : decode cL_board 84 = .ok (.bipush 16, 2) := by decide +kernel
theorem dL_board_86 : decode cL_board 86 = .ok (.ishr, 1) := by decide +kernel
theorem dL_board_87 : decode cL_board 87 = .ok (.bipush 60, 2) := by decide +kernel
theorem dL_board_89 : decode cL_board 89 = .ok (.invokestatic 26, 3) := by decide +kernel
theorem dL_board_92 : decode cL_board 92 = .ok (.iastore, 1) := by decide +kernel
theorem dL_board_93 : decode cL_board 93 = .ok (.aload_n 3, 1) := by decide +kernel
theorem dL_board_94 : decode cL_board 94 = .ok (.iconst 5, 1) := by decide +kernel
theorem dL_board_95 : decode cL_board 95 = .ok (.iload 6, 2) := by decide +kernel
theorem dL_board_97 : decode cL_board 97 = .ok (.iconst 3, 1) := by decide +kernel
theorem dL_board_98 : decode cL_board 98 = .ok (.iand, 1) := by decide +kernel
theorem dL_board_99 : decode cL_board 99 = .ok (.ifCond .ne 15, 3) := by decide +kernel
theorem dL_board_102 : decode cL_board 102 = .ok (.iload 6, 2) := by decide +kernel
theorem dL_board_104 : decode cL_board 104 = .ok (.iconst 2, 1) := by decide +kernel
theorem dL_board_105 : decode cL_board 105 = .ok (.ishr, 1) := by decide +kernel
theorem dL_board_106 : decode cL_board 106 = .ok (.bipush 10, 2) := by decide +kernel
theorem dL_board_108 : decode cL_board 108 = .ok (.invokestatic 26, 3) := by decide +kernel
theorem dL_board_111 : decode cL_board 111 = .ok (.goto 4, 3) := by decide +kernel
theorem dL_board_114 : decode cL_board 114 = .ok (.iconst 0, 1) := by decide +kernel
theorem dL_board_115 : decode cL_board 115 = .ok (.iastore, 1) := by decide +kernel
theorem dL_board_116 : decode cL_board 116 = .ok (.aload_n 3, 1) := by decide +kernel
theorem dL_board_117 : decode cL_board 117 = .ok (.bipush 6, 2) := by decide +kernel
theorem dL_board_119 : decode cL_board 119 = .ok (.iload 6, 2) := by decide +kernel
theorem dL_board_121 : decode cL_board 121 = .ok (.bipush 6, 2) := by decide +kernel
theorem dL_board_123 : decode cL_board 123 = .ok (.ishr, 1) := by decide +kernel
theorem dL_board_124 : decode cL_board 124 = .ok (.iconst 1, 1) := by decide +kernel
theorem dL_board_125 : decode cL_board 125 = .ok (.iand, 1) := by decide +kernel
theorem dL_board_126 : decode cL_board 126 = .ok (.ifCond .ne 16, 3) := by decide +kernel
theorem dL_board_129 : decode cL_board 129 = .ok (.iload 6, 2) := by decide +kernel
theorem dL_board_131 : decode cL_board 131 = .ok (.bipush 7, 2) := by decide +kernel
theorem dL_board_133 : decode cL_board 133 = .ok (.ishr, 1) := by decide +kernel
theorem dL_board_134 : decode cL_board 134 = .ok (.bipush 10, 2) := by decide +kernel
theorem dL_board_136 : decode cL_board 136 = .ok (.invokestatic 26, 3) := by decide +kernel
theorem dL_board_139 : decode cL_board 139 = .ok (.goto 4, 3) := by decide +kernel
theorem dL_board_142 : decode cL_board 142 = .ok (.iconst 0, 1) := by decide +kernel
theorem dL_board_143 : decode cL_board 143 = .ok (.iastore, 1) := by decide +kernel
theorem dL_board_144 : decode cL_board 144 = .ok (.aload_n 3, 1) := by decide +kernel
theorem dL_board_145 : decode cL_board 145 = .ok (.bipush 7, 2) := by decide +kernel
theorem dL_board_147 : decode cL_board 147 = .ok (.iload 6, 2) := by decide +kernel
theorem dL_board_149 : decode cL_board 149 = .ok (.bipush 11, 2) := by decide +kernel
theorem dL_board_151 : decode cL_board 151 = .ok (.ishr, 1) := by decide +kernel
theorem dL_board_152 : decode cL_board 152 = .ok (.bipush 10, 2) := by decide +kernel
theorem dL_board_154 : decode cL_board 154 = .ok (.invokestatic 26, 3) := by decide +kernel
theorem dL_board_157 : decode cL_board 157 = .ok (.iastore, 1) := by decide +kernel
theorem dL_board_158 : decode cL_board 158 = .ok (.aload_n 3, 1) := by decide +kernel
theorem dL_board_159 : decode cL_board 159 = .ok (.bipush 8, 2) := by decide +kernel
theorem dL_board_161 : decode cL_board 161 = .ok (.iload 6, 2) := by decide +kernel
theorem dL_board_163 : decode cL_board 163 = .ok (.bipush 15, 2) := by decide +kernel
theorem dL_board_165 : decode cL_board 165 = .ok (.ishr, 1) := by decide +kernel
theorem dL_board_166 : decode cL_board 166 = .ok (.iconst 1, 1) := by decide +kernel
theorem dL_board_167 : decode cL_board 167 = .ok (.iand, 1) := by decide +kernel
theorem dL_board_168 : decode cL_board 168 = .ok (.iastore, 1) := by decide +kernel
theorem dL_board_169 : decode cL_board 169 = .ok (.aload_n 3, 1) := by decide +kernel
theorem dL_board_170 : decode cL_board 170 = .ok (.bipush 9, 2) := by decide +kernel
theorem dL_board_172 : decode cL_board 172 = .ok (.iload 6, 2) := by decide +kernel
theorem dL_board_174 : decode cL_board 174 = .ok (.bipush 16, 2) := by decide +kernel
theorem dL_board_176 : decode cL_board 176 = .ok (.ishr, 1) := by decide +kernel
theorem dL_board_177 : decode cL_board 177 = .ok (.iconst 1, 1) := by decide +kernel
theorem dL_board_178 : decode cL_board 178 = .ok (.iand, 1) := by decide +kernel
theorem dL_board_179 : decode cL_board 179 = .ok (.ifCond .ne 7, 3) := by decide +kernel
theorem dL_board_182 : decode cL_board 182 = .ok (.iconst 0, 1) := by decide +kernel
theorem dL_board_183 : decode cL_board 183 = .ok (.goto 15, 3) := by decide +kernel
theorem dL_board_186 : decode cL_board 186 = .ok (.iconst 1, 1) := by decide +kernel
theorem dL_board_187 : decode cL_board 187 = .ok (.iload 6, 2) := by decide +kernel
theorem dL_board_189 : decode cL_board 189 = .ok (.bipush 17, 2) := by decide +kernel
theorem dL_board_191 : decode cL_board 191 = .ok (.ishr, 1) := by decide +kernel
theorem dL_board_192 : decode cL_board 192 = .ok (.bipush 30, 2) := by decide +kernel
theorem dL_board_194 : decode cL_board 194 = .ok (.invokestatic 26, 3) := by decide +kernel
theorem dL_board_197 : decode cL_board 197 = .ok (.iadd, 1) := by decide +kernel
theorem dL_board_198 : decode cL_board 198 = .ok (.iastore, 1) := by decide +kernel
theorem dL_board_199 : decode cL_board 199 = .ok (.aload_n 3, 1) := by decide +kernel
theorem dL_board_200 : decode cL_board 200 = .ok (.bipush 10, 2) := by decide +kernel
theorem dL_board_202 : decode cL_board 202 = .ok (.aload_n 3, 1) := by decide +kernel
theorem dL_board_203 : decode cL_board 203 = .ok (.bipush 9, 2) := by decide +kernel
theorem dL_board_205 : decode cL_board 205 = .ok (.iaload, 1) := by decide +kernel
theorem dL_board_206 : decode cL_board 206 = .ok (.ifCond .ne 7, 3) := by decide +kernel
theorem dL_board_209 : decode cL_board 209 = .ok (.iconst 0, 1) := by decide +kernel
theorem dL_board_210 : decode cL_board 210 = .ok (.goto 13, 3) := by decide +kernel
theorem dL_board_213 : decode cL_board 213 = .ok (.iload 6, 2) := by decide +kernel
theorem dL_board_215 : decode cL_board 215 = .ok (.bipush 22, 2) := by decide +kernel
theorem dL_board_217 : decode cL_board 217 = .ok (.ishr, 1) := by decide +kernel
theorem dL_board_218 : decode cL_board 218 = .ok (.bipush 100, 2) := by decide +kernel
theorem dL_board_220 : decode cL_board 220 = .ok (.invokestatic 26, 3) := by decide +kernel
theorem dL_board_223 : decode cL_board 223 = .ok (.iastore, 1) := by decide +kernel
theorem dL_board_224 : decode cL_board 224 = .ok (.aload_n 0, 1) := by decide +kernel
theorem dL_board_225 : decode cL_board 225 = .ok (.invokevirtual 30, 3) := by decide +kernel
theorem dL_board_228 : decode cL_board 228 = .ok (.ifCond .lt 144, 3) := by decide +kernel
theorem dL_board_231 : decode cL_board 231 = .ok (.aload_n 0, 1) := by decide +kernel
theorem dL_board_232 : decode cL_board 232 = .ok (.bipush 98, 2) := by decide +kernel
theorem dL_board_234 : decode cL_board 234 = .ok (.iconst 2, 1) := by decide +kernel
theorem dL_board_235 : decode cL_board 235 = .ok (.aload_n 3, 1) := by decide +kernel
theorem dL_board_236 : decode cL_board 236 = .ok (.iconst 1, 1) := by decide +kernel
theorem dL_board_237 : decode cL_board 237 = .ok (.iaload, 1) := by decide +kernel
theorem dL_board_238 : decode cL_board 238 = .ok (.aload_n 3, 1) := by decide +kernel
theorem dL_board_239 : decode cL_board 239 = .ok (.iconst 2, 1) := by decide +kernel
theorem dL_board_240 : decode cL_board 240 = .ok (.iaload, 1) := by decide +kernel
theorem dL_board_241 : decode cL_board 241 = .ok (.iconst 0, 1) := by decide +kernel
theorem dL_board_242 : decode cL_board 242 = .ok (.iconst 0, 1) := by decide +kernel
theorem dL_board_243 : decode cL_board 243 = .ok (.iconst 0, 1) := by decide +kernel
theorem dL_board_244 : decode cL_board 244 = .ok (.invokestatic 34, 3) := by decide +kernel
theorem dL_board_247 : decode cL_board 247 = .ok (.ifCond .eq 125, 3) := by decide +kernel
theorem dL_board_250 : decode cL_board 250 = .ok (.aload_n 0, 1) := by decide +kernel
theorem dL_board_251 : decode cL_board 251 = .ok (.bipush 100, 2) := by decide +kernel
theorem dL_board_253 : decode cL_board 253 = .ok (.iconst 1, 1) := by decide +kernel
theorem dL_board_254 : decode cL_board 254 = .ok (.aload_n 3, 1) := by decide +kernel
theorem dL_board_255 : decode cL_board 255 = .ok (.iconst 3, 1) := by decide +kernel
theorem dL_board_256 : decode cL_board 256 = .ok (.iaload, 1) := by decide +kernel
theorem dL_board_257 : decode cL_board 257 = .ok (.iconst 0, 1) := by decide +kernel
theorem dL_board_258 : decode cL_board 258 = .ok (.iconst 0, 1) := by decide +kernel
theorem dL_board_259 : decode cL_board 259 = .ok (.iconst 0, 1) := by decide +kernel
theorem dL_board_260 : decode cL_board 260 = .ok (.iconst 0, 1) := by decide +kernel
theorem dL_board_261 : decode cL_board 261 = .ok (.invokestatic 34, 3) := by decide +kernel
theorem dL_board_264 : decode cL_board 264 = .ok (.ifCond .eq 108, 3) := by decide +kernel
theorem dL_board_267 : decode cL_board 267 = .ok (.aload_n 0, 1) := by decide +kernel
theorem dL_board_268 : decode cL_board 268 = .ok (.bipush 99, 2) := by decide +kernel
theorem dL_board_270 : decode cL_board 270 = .ok (.iconst 1, 1) := by decide +kernel
theorem dL_board_271 : decode cL_board 271 = .ok (.aload_n 3, 1) := by decide +kernel
theorem dL_board_272 : decode cL_board 272 = .ok (.iconst 4, 1) := by decide +kernel
theorem dL_board_273 : decode cL_board 273 = .ok (.iaload, 1) := by decide +kernel
theorem dL_board_274 : decode cL_board 274 = .ok (.iconst 0, 1) := by decide +kernel
theorem dL_board_275 : decode cL_board 275 = .ok (.iconst 0, 1) := by decide +kernel
theorem dL_board_276 : decode cL_board 276 = .ok (.iconst 0, 1) := by decide +kernel
theorem dL_board_277 : decode cL_board 277 = .ok (.iconst 0, 1) := by decide +kernel
theorem dL_board_278 : decode cL_board 278 = .ok (.invokestatic 34, 3) := by decide +kernel
theorem dL_board_281 : decode cL_board 281 = .ok (.ifCond .eq 91, 3) := by decide +kernel
theorem dL_board_284 : decode cL_board 284 = .ok (.aload_n 0, 1) := by decide +kernel
theorem dL_board_285 : decode cL_board 285 = .ok (.bipush 112, 2) := by decide +kernel
theorem dL_board_287 : decode cL_board 287 = .ok (.iconst 1, 1) := by decide +kernel
theorem dL_board_288 : decode cL_board 288 = .ok (.aload_n 3, 1) := by decide +kernel
theorem dL_board_289 : decode cL_board 289 = .ok (.iconst 5, 1) := by decide +kernel
theorem dL_board_290 : decode cL_board 290 = .ok (.iaload, 1) := by decide +kernel
theorem dL_board_291 : decode cL_board 291 = .ok (.iconst 0, 1) := by decide +kernel
theorem dL_board_292 : decode cL_board 292 = .ok (.iconst 0, 1) := by decide +kernel
theorem dL_board_293 : decode cL_board 293 = .ok (.iconst 0, 1) := by decide +kernel
theorem dL_board_294 : decode cL_board 294 = .ok (.iconst 0, 1) := by decide +kernel
theorem dL_board_295 : decode cL_board 295 = .ok (.invokestatic 34, 3) := by decide +kernel
theorem dL_board_298 : decode cL_board 298 = .ok (.ifCond .eq 74, 3) := by decide +kernel
theorem dL_board_301 : decode cL_board 301 = .ok (.aload_n 0, 1) := by decide +kernel
theorem dL_board_302 : decode cL_board 302 = .ok (.bipush 101, 2) := by decide +kernel
theorem dL_board_304 : decode cL_board 304 = .ok (.iconst 2, 1) := by decide +kernel
theorem dL_board_305 : decode cL_board 305 = .ok (.aload_n 3, 1) := by decide +kernel
theorem dL_board_306 : decode cL_board 306 = .ok (.bipush 6, 2) := by decide +kernel
theorem dL_board_308 : decode cL_board 308 = .ok (.iaload, 1) := by decide +kernel
theorem dL_board_309 : decode cL_board 309 = .ok (.aload_n 3, 1) := by decide +kernel
theorem dL_board_310 : decode cL_board 310 = .ok (.bipush 7, 2) := by decide +kernel
theorem dL_board_312 : decode cL_board 312 = .ok (.iaload, 1) := by decide +kernel
theorem dL_board_313 : decode cL_board 313 = .ok (.iconst 0, 1) := by decide +kernel
theorem dL_board_314 : decode cL_board 314 = .ok (.iconst 0, 1) := by decide +kernel
theorem dL_board_315 : decode cL_board 315 = .ok (.iconst 0, 1) := by decide +kernel
theorem dL_board_316 : decode cL_board 316 = .ok (.invokestatic 34, 3) := by decide +kernel
theorem dL_board_319 : decode cL_board 319 = .ok (.ifCond .eq 53, 3) := by decide +kernel
theorem dL_board_322 : decode cL_board 322 = .ok (.aload_n 0, 1) := by decide +kernel
theorem dL_board_323 : decode cL_board 323 = .ok (.bipush 111, 2) := by decide +kernel
theorem dL_board_325 : decode cL_board 325 = .ok (.iconst 1, 1) := by decide +kernel
theorem dL_board_326 : decode cL_board 326 = .ok (.aload_n 3, 1) := by decide +kernel
theorem dL_board_327 : decode cL_board 327 = .ok (.bipush 8, 2) := by decide +kernel
theorem dL_board_329 : decode cL_board 329 = .ok (.iaload, 1) := by decide +kernel
theorem dL_board_330 : decode cL_board 330 = .ok (.iconst 0, 1) := by decide +kernel
theorem dL_board_331 : decode cL_board 331 = .ok (.iconst 0, 1) := by decide +kernel
theorem dL_board_332 : decode cL_board 332 = .ok (.iconst 0, 1) := by decide +kernel
theorem dL_board_333 : decode cL_board 333 = .ok (.iconst 0, 1) := by decide +kernel
theorem dL_board_334 : decode cL_board 334 = .ok (.invokestatic 34, 3) := by decide +kernel
theorem dL_board_337 : decode cL_board 337 = .ok (.ifCond .eq 35, 3) := by decide +kernel
theorem dL_board_340 : decode cL_board 340 = .ok (.aload_n 3, 1) := by decide +kernel
theorem dL_board_341 : decode cL_board 341 = .ok (.bipush 9, 2) := by decide +kernel
theorem dL_board_343 : decode cL_board 343 = .ok (.iaload, 1) := by decide +kernel
theorem dL_board_344 : decode cL_board 344 = .ok (.ifCond .eq 24, 3) := by decide +kernel
theorem dL_board_347 : decode cL_board 347 = .ok (.aload_n 0, 1) := by decide +kernel
theorem dL_board_348 : decode cL_board 348 = .ok (.bipush 115, 2) := by decide +kernel
theorem dL_board_350 : decode cL_board 350 = .ok (.iconst 2, 1) := by decide +kernel
theorem dL_board_351 : decode cL_board 351 = .ok (.aload_n 3, 1) := by decide +kernel
theorem dL_board_352 : decode cL_board 352 = .ok (.bipush 9, 2) := by decide +kernel
theorem dL_board_354 : decode cL_board 354 = .ok (.iaload, 1) := by decide +kernel
theorem dL_board_355 : decode cL_board 355 = .ok (.aload_n 3, 1) := by decide +kernel
theorem dL_board_356 : decode cL_board 356 = .ok (.bipush 10, 2) := by decide +kernel
theorem dL_board_358 : decode cL_board 358 = .ok (.iaload, 1) := by decide +kernel
theorem dL_board_359 : decode cL_board 359 = .ok (.iconst 0, 1) := by decide +kernel
theorem dL_board_360 : decode cL_board 360 = .ok (.iconst 0, 1) := by decide +kernel
theorem dL_board_361 : decode cL_board 361 = .ok (.iconst 0, 1) := by decide +kernel
theorem dL_board_362 : decode cL_board 362 = .ok (.invokestatic 34, 3) := by decide +kernel
theorem dL_board_365 : decode cL_board 365 = .ok (.ifCond .eq 7, 3) := by decide +kernel
theorem dL_board_368 : decode cL_board 368 = .ok (.iconst 1, 1) := by decide +kernel
theorem dL_board_369 : decode cL_board 369 = .ok (.goto 4, 3) := by decide +kernel
theorem dL_board_372 : decode cL_board 372 = .ok (.iconst 0, 1) := by decide +kernel
theorem dL_board_373 : decode cL_board 373 = .ok (.istore 7, 2) := by decide +kernel
theorem dL_board_375 : decode cL_board 375 = .ok (.iconst 1, 1) := by decide +kernel
theorem dL_board_376 : decode cL_board 376 = .ok (.iload 5, 2) := by decide +kernel
theorem dL_board_378 : decode cL_board 378 = .ok (.bipush 22, 2) := by decide +kernel
theorem dL_board_380 : decode cL_board 380 = .ok (.ishr, 1) := by decide +kernel
theorem dL_board_381 : decode cL_board 381 = .ok (.iconst 3, 1) := by decide +kernel
theorem dL_board_382 : decode cL_board 382 = .ok (.invokestatic 26, 3) := by decide +kernel
theorem dL_board_385 : decode cL_board 385 = .ok (.iadd, 1) := by decide +kernel
theorem dL_board_386 : decode cL_board 386 = .ok (.istore 8, 2) := by decide +kernel
theorem dL_board_388 : decode cL_board 388 = .ok (.aload_n 3, 1) := by decide +kernel
theorem dL_board_389 : decode cL_board 389 = .ok (.iconst 0, 1) := by decide +kernel
theorem dL_board_390 : decode cL_board 390 = .ok (.iconst 0, 1) := by decide +kernel
theorem dL_board_391 : decode cL_board 391 = .ok (.iastore, 1) := by decide +kernel
theorem dL_board_392 : decode cL_board 392 = .ok (.iconst 0, 1) := by decide +kernel
theorem dL_board_393 : decode cL_board 393 = .ok (.istore 9, 2) := by decide +kernel
theorem dL_board_395 : decode cL_board 395 = .ok (.iload 9, 2) := by decide +kernel
theorem dL_board_397 : decode cL_board 397 = .ok (.iload 8, 2) := by decide +kernel
theorem dL_board_399 : decode cL_board 399 = .ok (.if_icmp .ge 424, 3) := by decide +kernel
theorem dL_board_402 : decode cL_board 402 = .ok (.aload_n 1, 1) := by decide +kernel
theorem dL_board_403 : decode cL_board 403 = .ok (.iload_n 2, 1) := by decide +kernel
theorem dL_board_404 : decode cL_board 404 = .ok (.iconst 2, 1) := by decide +kernel
theorem dL_board_405 : decode cL_board 405 = .ok (.iadd, 1) := by decide +kernel
theorem dL_board_406 : decode cL_board 406 = .ok (.iconst 2, 1) := by decide +kernel
theorem dL_board_407 : decode cL_board 407 = .ok (.iload 9, 2) := by decide +kernel
theorem dL_board_409 : decode cL_board 409 = .ok (.imul, 1) := by decide +kernel
theorem dL_board_410 : decode cL_board 410 = .ok (.iadd, 1) := by decide +kernel
theorem dL_board_411 : decode cL_board 411 = .ok (.invokestatic 21, 3) := by decide +kernel
theorem dL_board_414 : decode cL_board 414 = .ok (.istore 10, 2) := by decide +kernel
theorem dL_board_416 : decode cL_board 416 = .ok (.aload_n 1, 1) := by decide +kernel
theorem dL_board_417 : decode cL_board 417 = .ok (.iload_n 2, 1) := by decide +kernel
theorem dL_board_418 : decode cL_board 418 = .ok (.iconst 3, 1) := by decide +kernel
theorem dL_board_419 : decode cL_board 419 = .ok (.iadd, 1) := by decide +kernel
theorem dL_board_420 : decode cL_board 420 = .ok (.iconst 2, 1) := by decide +kernel
theorem dL_board_421 : decode cL_board 421 = .ok (.iload 9, 2) := by decide +kernel
theorem dL_board_423 : decode cL_board 423 = .ok (.imul, 1) := by decide +kernel
theorem dL_board_424 : decode cL_board 424 = .ok (.iadd, 1) := by decide +kernel
theorem dL_board_425 : decode cL_board 425 = .ok (.invokestatic 21, 3) := by decide +kernel
theorem dL_board_428 : decode cL_board 428 = .ok (.istore 11, 2) := by decide +kernel
theorem dL_board_430 : decode cL_board 430 = .ok (.iconst 1, 1) := by decide +kernel
theorem dL_board_431 : decode cL_board 431 = .ok (.iload 10, 2) := by decide +kernel
theorem dL_board_433 : decode cL_board 433 = .ok (.iconst 2, 1) := by decide +kernel
theorem dL_board_434 : decode cL_board 434 = .ok (.invokestatic 26, 3) := by decide +kernel
theorem dL_board_437 : decode cL_board 437 = .ok (.iadd, 1) := by decide +kernel
theorem dL_board_438 : decode cL_board 438 = .ok (.istore 12, 2) := by decide +kernel
theorem dL_board_440 : decode cL_board 440 = .ok (.iload 10, 2) := by decide +kernel
theorem dL_board_442 : decode cL_board 442 = .ok (.iconst 1, 1) := by decide +kernel
theorem dL_board_443 : decode cL_board 443 = .ok (.ishr, 1) := by decide +kernel
theorem dL_board_444 : decode cL_board 444 = .ok (.bipush 6, 2) := by decide +kernel
theorem dL_board_446 : decode cL_board 446 = .ok (.invokestatic 26, 3) := by decide +kernel
theorem dL_board_449 : decode cL_board 449 = .ok (.istore 13, 2) := by decide +kernel
theorem dL_board_451 : decode cL_board 451 = .ok (.iload 10, 2) := by decide +kernel
theorem dL_board_453 : decode cL_board 453 = .ok (.iconst 4, 1) := by decide +kernel
theorem dL_board_454 : decode cL_board 454 = .ok (.ishr, 1) := by decide +kernel
theorem dL_board_455 : decode cL_board 455 = .ok (.bipush 31, 2) := by decide +kernel
theorem dL_board_457 : decode cL_board 457 = .ok (.invokestatic 26, 3) := by decide +kernel
theorem dL_board_460 : decode cL_board 460 = .ok (.istore 14, 2) := by decide +kernel
theorem dL_board_462 : decode cL_board 462 = .ok (.iload 10, 2) := by decide +kernel
theorem dL_board_464 : decode cL_board 464 = .ok (.bipush 9, 2) := by decide +kernel
theorem dL_board_466 : decode cL_board 466 = .ok (.ishr, 1) := by decide +kernel
theorem dL_board_467 : decode cL_board 467 = .ok (.bipush 12, 2) := by decide +kernel
theorem dL_board_469 : decode cL_board 469 = .ok (.invokestatic 26, 3) := by decide +kernel
theorem dL_board_472 : decode cL_board 472 = .ok (.istore 15, 2) := by decide +kernel
theorem dL_board_474 : decode cL_board 474 = .ok (.iload 10, 2) := by decide +kernel
theorem dL_board_476 : decode cL_board 476 = .ok (.bipush 13, 2) := by decide +kernel
theorem dL_board_478 : decode cL_board 478 = .ok (.ishr, 1) := by decide +kernel
theorem dL_board_479 : decode cL_board 479 = .ok (.iconst 5, 1) := by decide +kernel
theorem dL_board_480 : decode cL_board 480 = .ok (.invokestatic 26, 3) := by decide +kernel
theorem dL_board_483 : decode cL_board 483 = .ok (.istore 16, 2) := by decide +kernel
theorem dL_board_485 : decode cL_board 485 = .ok (.iload 10, 2) := by decide +kernel
theorem dL_board_487 : decode cL_board 487 = .ok (.bipush 16, 2) := by decide +kernel
theorem dL_board_489 : decode cL_board 489 = .ok (.ishr, 1) := by decide +kernel
theorem dL_board_490 : decode cL_board 490 = .ok (.bipush 30, 2) := by decide +kernel
theorem dL_board_492 : decode cL_board 492 = .ok (.invokestatic 26, 3) := by decide +kernel
theorem dL_board_495 : decode cL_board 495 = .ok (.istore 17, 2) := by decide +kernel
theorem dL_board_497 : decode cL_board 497 = .ok (.iload 7, 2) := by decide +kernel
theorem dL_board_499 : decode cL_board 499 = .ok (.ifCond .eq 44, 3) := by decide +kernel
theorem dL_board_502 : decode cL_board 502 = .ok (.aload_n 0, 1) := by decide +kernel
theorem dL_board_503 : decode cL_board 503 = .ok (.bipush 103, 2) := by decide +kernel
theorem dL_board_505 : decode cL_board 505 = .ok (.iconst 5, 1) := by decide +kernel
theorem dL_board_506 : decode cL_board 506 = .ok (.iload 12, 2) := by decide +kernel
theorem dL_board_508 : decode cL_board 508 = .ok (.iload 13, 2) := by decide +kernel
theorem dL_board_510 : decode cL_board 510 = .ok (.iload 14, 2) := by decide +kernel
theorem dL_board_512 : decode cL_board 512 = .ok (.iload 15, 2) := by decide +kernel
theorem dL_board_514 : decode cL_board 514 = .ok (.iload 16, 2) := by decide +kernel
theorem dL_board_516 : decode cL_board 516 = .ok (.invokestatic 34, 3) := by decide +kernel
theorem dL_board_519 : decode cL_board 519 = .ok (.ifCond .eq 24, 3) := by decide +kernel
theorem dL_board_522 : decode cL_board 522 = .ok (.aload_n 0, 1) := by decide +kernel
theorem dL_board_523 : decode cL_board 523 = .ok (.bipush 116, 2) := by decide +kernel
theorem dL_board_525 : decode cL_board 525 = .ok (.iconst 2, 1) := by decide +kernel
theorem dL_board_526 : decode cL_board 526 = .ok (.iload 9, 2) := by decide +kernel
theorem dL_board_528 : decode cL_board 528 = .ok (.iload 17, 2) := by decide +kernel
theorem dL_board_530 : decode cL_board 530 = .ok (.iconst 0, 1) := by decide +kernel
theorem dL_board_531 : decode cL_board 531 = .ok (.iconst 0, 1) := by decide +kernel
theorem dL_board_532 : decode cL_board 532 = .ok (.iconst 0, 1) := by decide +kernel
theorem dL_board_533 : decode cL_board 533 = .ok (.invokestatic 34, 3) := by decide +kernel
theorem dL_board_536 : decode cL_board 536 = .ok (.ifCond .eq 7, 3) := by decide +kernel
theorem dL_board_539 : decode cL_board 539 = .ok (.iconst 1, 1) := by decide +kernel
theorem dL_board_540 : decode cL_board 540 = .ok (.goto 4, 3) := by decide +kernel
theorem dL_board_543 : decode cL_board 543 = .ok (.iconst 0, 1) := by decide +kernel
theorem dL_board_544 : decode cL_board 544 = .ok (.istore 7, 2) := by decide +kernel
theorem dL_board_546 : decode cL_board 546 = .ok (.iconst 0, 1) := by decide +kernel
theorem dL_board_547 : decode cL_board 547 = .ok (.istore 18, 2) := by decide +kernel
theorem dL_board_549 : decode cL_board 549 = .ok (.iload 18, 2) := by decide +kernel
theorem dL_board_551 : decode cL_board 551 = .ok (.iload 12, 2) := by decide +kernel
theorem dL_board_553 : decode cL_board 553 = .ok (.if_icmp .ge 72, 3) := by decide +kernel
theorem dL_board_556 : decode cL_board 556 = .ok (.aload_n 3, 1) := by decide +kernel
theorem dL_board_557 : decode cL_board 557 = .ok (.bipush 11, 2) := by decide +kernel
theorem dL_board_559 : decode cL_board 559 = .ok (.aload_n 3, 1) := by decide +kernel
theorem dL_board_560 : decode cL_board 560 = .ok (.iconst 0, 1) := by decide +kernel
theorem dL_board_561 : decode cL_board 561 = .ok (.iaload, 1) := by decide +kernel
theorem dL_board_562 : decode cL_board 562 = .ok (.iadd, 1) := by decide +kernel
theorem dL_board_563 : decode cL_board 563 = .ok (.iload 9, 2) := by decide +kernel
theorem dL_board_565 : decode cL_board 565 = .ok (.iastore, 1) := by decide +kernel
theorem dL_board_566 : decode cL_board 566 = .ok (.aload_n 3, 1) := by decide +kernel
theorem dL_board_567 : decode cL_board 567 = .ok (.bipush 17, 2) := by decide +kernel
theorem dL_board_569 : decode cL_board 569 = .ok (.aload_n 3, 1) := by decide +kernel
theorem dL_board_570 : decode cL_board 570 = .ok (.iconst 0, 1) := by decide +kernel
theorem dL_board_571 : decode cL_board 571 = .ok (.iaload, 1) := by decide +kernel
theorem dL_board_572 : decode cL_board 572 = .ok (.iadd, 1) := by decide +kernel
theorem dL_board_573 : decode cL_board 573 = .ok (.iload 13, 2) := by decide +kernel
theorem dL_board_575 : decode cL_board 575 = .ok (.iastore, 1) := by decide +kernel
theorem dL_board_576 : decode cL_board 576 = .ok (.aload_n 3, 1) := by decide +kernel
theorem dL_board_577 : decode cL_board 577 = .ok (.bipush 23, 2) := by decide +kernel
theorem dL_board_579 : decode cL_board 579 = .ok (.aload_n 3, 1) := by decide +kernel
theorem dL_board_580 : decode cL_board 580 = .ok (.iconst 0, 1) := by decide +kernel
theorem dL_board_581 : decode cL_board 581 = .ok (.iaload, 1) := by decide +kernel
theorem dL_board_582 : decode cL_board 582 = .ok (.iadd, 1) := by decide +kernel
theorem dL_board_583 : decode cL_board 583 = .ok (.iload 14, 2) := by decide +kernel
theorem dL_board_585 : decode cL_board 585 = .ok (.iastore, 1) := by decide +kernel
theorem dL_board_586 : decode cL_board 586 = .ok (.aload_n 3, 1) := by decide +kernel
theorem dL_board_587 : decode cL_board 587 = .ok (.bipush 29, 2) := by decide +kernel
theorem dL_board_589 : decode cL_board 589 = .ok (.aload_n 3, 1) := by decide +kernel
theorem dL_board_590 : decode cL_board 590 = .ok (.iconst 0, 1) := by decide +kernel
theorem dL_board_591 : decode cL_board 591 = .ok (.iaload, 1) := by decide +kernel
theorem dL_board_592 : decode cL_board 592 = .ok (.iadd, 1) := by decide +kernel
theorem dL_board_593 : decode cL_board 593 = .ok (.iload 15, 2) := by decide +kernel
theorem dL_board_595 : decode cL_board 595 = .ok (.iload 18, 2) := by decide +kernel
theorem dL_board_597 : decode cL_board 597 = .ok (.iload 16, 2) := by decide +kernel
theorem dL_board_599 : decode cL_board 599 = .ok (.imul, 1) := by decide +kernel
theorem dL_board_600 : decode cL_board 600 = .ok (.iadd, 1) := by decide +kernel
theorem dL_board_601 : decode cL_board 601 = .ok (.iastore, 1) := by decide +kernel
theorem dL_board_602 : decode cL_board 602 = .ok (.aload_n 3, 1) := by decide +kernel
theorem dL_board_603 : decode cL_board 603 = .ok (.bipush 35, 2) := by decide +kernel
theorem dL_board_605 : decode cL_board 605 = .ok (.aload_n 3, 1) := by decide +kernel
theorem dL_board_606 : decode cL_board 606 = .ok (.iconst 0, 1) := by decide +kernel
theorem dL_board_607 : decode cL_board 607 = .ok (.iaload, 1) := by decide +kernel
theorem dL_board_608 : decode cL_board 608 = .ok (.iadd, 1) := by decide +kernel
theorem dL_board_609 : decode cL_board 609 = .ok (.iload 17, 2) := by decide +kernel
theorem dL_board_611 : decode cL_board 611 = .ok (.iastore, 1) := by decide +kernel
theorem dL_board_612 : decode cL_board 612 = .ok (.aload_n 3, 1) := by decide +kernel
theorem dL_board_613 : decode cL_board 613 = .ok (.iconst 0, 1) := by decide +kernel
theorem dL_board_614 : decode cL_board 614 = .ok (.dup2, 1) := by decide +kernel
theorem dL_board_615 : decode cL_board 615 = .ok (.iaload, 1) := by decide +kernel
theorem dL_board_616 : decode cL_board 616 = .ok (.iconst 1, 1) := by decide +kernel
theorem dL_board_617 : decode cL_board 617 = .ok (.iadd, 1) := by decide +kernel
theorem dL_board_618 : decode cL_board 618 = .ok (.iastore, 1) := by decide +kernel
theorem dL_board_619 : decode cL_board 619 = .ok (.iinc 18 1, 3) := by decide +kernel
theorem dL_board_622 : decode cL_board 622 = .ok (.goto (-73), 3) := by decide +kernel
theorem dL_board_625 : decode cL_board 625 = .ok (.aload 4, 2) := by decide +kernel
theorem dL_board_627 : decode cL_board 627 = .ok (.bipush 7, 2) := by decide +kernel
theorem dL_board_629 : decode cL_board 629 = .ok (.iload 9, 2) := by decide +kernel
theorem dL_board_631 : decode cL_board 631 = .ok (.imul, 1) := by decide +kernel
theorem dL_board_632 : decode cL_board 632 = .ok (.iconst 1, 1) := by decide +kernel
theorem dL_board_633 : decode cL_board 633 = .ok (.iload 11, 2) := by decide +kernel
theorem dL_board_635 : decode cL_board 635 = .ok (.iconst 3, 1) := by decide +kernel
theorem dL_board_636 : decode cL_board 636 = .ok (.invokestatic 26, 3) := by decide +kernel
theorem dL_board_639 : decode cL_board 639 = .ok (.iadd, 1) := by decide +kernel
theorem dL_board_640 : decode cL_board 640 = .ok (.iastore, 1) := by decide +kernel
theorem dL_board_641 : decode cL_board 641 = .ok (.bipush 10, 2) := by decide +kernel
theorem dL_board_643 : decode cL_board 643 = .ok (.istore 18, 2) := by decide +kernel
theorem dL_board_645 : decode cL_board 645 = .ok (.iconst 0, 1) := by decide +kernel
theorem dL_board_646 : decode cL_board 646 = .ok (.istore 19, 2) := by decide +kernel
theorem dL_board_648 : decode cL_board 648 = .ok (.iload 19, 2) := by decide +kernel
theorem dL_board_650 : decode cL_board 650 = .ok (.aload 4, 2) := by decide +kernel
theorem dL_board_652 : decode cL_board 652 = .ok (.bipush 7, 2) := by decide +kernel
theorem dL_board_654 : decode cL_board 654 = .ok (.iload 9, 2) := by decide +kernel
theorem dL_board_656 : decode cL_board 656 = .ok (.imul, 1) := by decide +kernel
theorem dL_board_657 : decode cL_board 657 = .ok (.iaload, 1) := by decide +kernel
theorem dL_board_658 : decode cL_board 658 = .ok (.if_icmp .ge 159, 3) := by decide +kernel
theorem dL_board_661 : decode cL_board 661 = .ok (.iload 19, 2) := by decide +kernel
theorem dL_board_663 : decode cL_board 663 = .ok (.aload 4, 2) := by decide +kernel
theorem dL_board_665 : decode cL_board 665 = .ok (.bipush 7, 2) := by decide +kernel
theorem dL_board_667 : decode cL_board 667 = .ok (.iload 9, 2) := by decide +kernel
theorem dL_board_669 : decode cL_board 669 = .ok (.imul, 1) := by decide +kernel
theorem dL_board_670 : decode cL_board 670 = .ok (.iaload, 1) := by decide +kernel
theorem dL_board_671 : decode cL_board 671 = .ok (.iconst 1, 1) := by decide +kernel
theorem dL_board_672 : decode cL_board 672 = .ok (.isub, 1) := by decide +kernel
theorem dL_board_673 : decode cL_board 673 = .ok (.if_icmp .ne 8, 3) := by decide +kernel
theorem dL_board_676 : decode cL_board 676 = .ok (.iload 18, 2) := by decide +kernel
theorem dL_board_678 : decode cL_board 678 = .ok (.goto 33, 3) := by decide +kernel
theorem dL_board_681 : decode cL_board 681 = .ok (.iconst 1, 1) := by decide +kernel
theorem dL_board_682 : decode cL_board 682 = .ok (.iload 11, 2) := by decide +kernel
theorem dL_board_684 : decode cL_board 684 = .ok (.iconst 2, 1) := by decide +kernel
theorem dL_board_685 : decode cL_board 685 = .ok (.iconst 3, 1) := by decide +kernel
theorem dL_board_686 : decode cL_board 686 = .ok (.iload 19, 2) := by decide +kernel
theorem dL_board_688 : decode cL_board 688 = .ok (.imul, 1) := by decide +kernel
theorem dL_board_689 : decode cL_board 689 = .ok (.iadd, 1) := by decide +kernel
theorem dL_board_690 : decode cL_board 690 = .ok (.ishr, 1) := by decide +kernel
theorem dL_board_691 : decode cL_board 691 = .ok (.iload 18, 2) := by decide +kernel
theorem dL_board_693 : decode cL_board 693 = .ok (.aload 4, 2) := by decide +kernel
theorem dL_board_695 : decode cL_board 695 = .ok (.bipush 7, 2) := by decide +kernel
theorem dL_board_697 : decode cL_board 697 = .ok (.iload 9, 2) := by decide +kernel
theorem dL_board_699 : decode cL_board 699 = .ok (.imul, 1) := by decide +kernel
theorem dL_board_700 : decode cL_board 700 = .ok (.iaload, 1) := by decide +kernel
theorem dL_board_701 : decode cL_board 701 = .ok (.isub, 1) := by decide +kernel
theorem dL_board_702 : decode cL_board 702 = .ok (.iload 19, 2) := by decide +kernel
theorem dL_board_704 : decode cL_board 704 = .ok (.iadd, 1) := by decide +kernel
theorem dL_board_705 : decode cL_board 705 = .ok (.iconst 1, 1) := by decide +kernel
theorem dL_board_706 : decode cL_board 706 = .ok (.iadd, 1) := by decide +kernel
theorem dL_board_707 : decode cL_board 707 = .ok (.invokestatic 26, 3) := by decide +kernel
theorem dL_board_710 : decode cL_board 710 = .ok (.iadd, 1) := by decide +kernel
theorem dL_board_711 : decode cL_board 711 = .ok (.istore 20, 2) := by decide +kernel
theorem dL_board_713 : decode cL_board 713 = .ok (.iload 18, 2) := by decide +kernel
theorem dL_board_715 : decode cL_board 715 = .ok (.iload 20, 2) := by decide +kernel
theorem dL_board_717 : decode cL_board 717 = .ok (.isub, 1) := by decide +kernel
theorem dL_board_718 : decode cL_board 718 = .ok (.istore 18, 2) := by decide +kernel
theorem dL_board_720 : decode cL_board 720 = .ok (.aload 4, 2) := by decide +kernel
theorem dL_board_722 : decode cL_board 722 = .ok (.bipush 7, 2) := by decide +kernel
theorem dL_board_724 : decode cL_board 724 = .ok (.iload 9, 2) := by decide +kernel
theorem dL_board_726 : decode cL_board 726 = .ok (.imul, 1) := by decide +kernel
theorem dL_board_727 : decode cL_board 727 = .ok (.iconst 1, 1) := by decide +kernel
theorem dL_board_728 : decode cL_board 728 = .ok (.iadd, 1) := by decide +kernel
theorem dL_board_729 : decode cL_board 729 = .ok (.iconst 2, 1) := by decide +kernel
theorem dL_board_730 : decode cL_board 730 = .ok (.iload 19, 2) := by decide +kernel
theorem dL_board_732 : decode cL_board 732 = .ok (.imul, 1) := by decide +kernel
theorem dL_board_733 : decode cL_board 733 = .ok (.iadd, 1) := by decide +kernel
theorem dL_board_734 : decode cL_board 734 = .ok (.iload 11, 2) := by decide +kernel
theorem dL_board_736 : decode cL_board 736 = .ok (.bipush 10, 2) := by decide +kernel
theorem dL_board_738 : decode cL_board 738 = .ok (.bipush 6, 2) := by decide +kernel
theorem dL_board_740 : decode cL_board 740 = .ok (.iload 19, 2) := by decide +kernel
theorem dL_board_742 : decode cL_board 742 = .ok (.imul, 1) := by decide +kernel
theorem dL_board_743 : decode cL_board 743 = .ok (.iadd, 1) := by decide +kernel
theorem dL_board_744 : decode cL_board 744 = .ok (.ishr, 1) := by decide +kernel
theorem dL_board_745 : decode cL_board 745 = .ok (.bipush 31, 2) := by decide +kernel
theorem dL_board_747 : decode cL_board 747 = .ok (.invokestatic 26, 3) := by decide +kernel
theorem dL_board_750 : decode cL_board 750 = .ok (.iastore, 1) := by decide +kernel
theorem dL_board_751 : decode cL_board 751 = .ok (.aload 4, 2) := by decide +kernel
theorem dL_board_753 : decode cL_board 753 = .ok (.bipush 7, 2) := by decide +kernel
theorem dL_board_755 : decode cL_board 755 = .ok (.iload 9, 2) := by decide +kernel
theorem dL_board_757 : decode cL_board 757 = .ok (.imul, 1) := by decide +kernel
theorem dL_board_758 : decode cL_board 758 = .ok (.iconst 2, 1) := by decide +kernel
theorem dL_board_759 : decode cL_board 759 = .ok (.iadd, 1) := by decide +kernel
theorem dL_board_760 : decode cL_board 760 = .ok (.iconst 2, 1) := by decide +kernel
theorem dL_board_761 : decode cL_board 761 = .ok (.iload 19, 2) := by decide +kernel
theorem dL_board_763 : decode cL_board 763 = .ok (.imul, 1) := by decide +kernel
theorem dL_board_764 : decode cL_board 764 = .ok (.iadd, 1) := by decide +kernel
theorem dL_board_765 : decode cL_board 765 = .ok (.iload 20, 2) := by decide +kernel
theorem dL_board_767 : decode cL_board 767 = .ok (.iastore, 1) := by decide +kernel
theorem dL_board_768 : decode cL_board 768 = .ok (.iload 7, 2) := by decide +kernel
theorem dL_board_770 : decode cL_board 770 = .ok (.ifCond .eq 38, 3) := by decide +kernel
theorem dL_board_773 : decode cL_board 773 = .ok (.aload_n 0, 1) := by decide +kernel
theorem dL_board_774 : decode cL_board 774 = .ok (.bipush 119, 2) := by decide +kernel
theorem dL_board_776 : decode cL_board 776 = .ok (.iconst 3, 1) := by decide +kernel
theorem dL_board_777 : decode cL_board 777 = .ok (.iload 9, 2) := by decide +kernel
theorem dL_board_779 : decode cL_board 779 = .ok (.aload 4, 2) := by decide +kernel
theorem dL_board_781 : decode cL_board 781 = .ok (.bipush 7, 2) := by decide +kernel
theorem dL_board_783 : decode cL_board 783 = .ok (.iload 9, 2) := by decide +kernel
theorem dL_board_785 : decode cL_board 785 = .ok (.imul, 1) := by decide +kernel
theorem dL_board_786 : decode cL_board 786 = .ok (.iconst 1, 1) := by decide +kernel
theorem dL_board_787 : decode cL_board 787 = .ok (.iadd, 1) := by decide +kernel
theorem dL_board_788 : decode cL_board 788 = .ok (.iconst 2, 1) := by decide +kernel
theorem dL_board_789 : decode cL_board 789 = .ok (.iload 19, 2) := by decide +kernel
theorem dL_board_791 : decode cL_board 791 = .ok (.imul, 1) := by decide +kernel
theorem dL_board_792 : decode cL_board 792 = .ok (.iadd, 1) := by decide +kernel
theorem dL_board_793 : decode cL_board 793 = .ok (.iaload, 1) := by decide +kernel
theorem dL_board_794 : decode cL_board 794 = .ok (.iload 20, 2) := by decide +kernel
theorem dL_board_796 : decode cL_board 796 = .ok (.iconst 0, 1) := by decide +kernel
theorem dL_board_797 : decode cL_board 797 = .ok (.iconst 0, 1) := by decide +kernel
theorem dL_board_798 : decode cL_board 798 = .ok (.invokestatic 34, 3) := by decide +kernel
theorem dL_board_801 : decode cL_board 801 = .ok (.ifCond .eq 7, 3) := by decide +kernel
theorem dL_board_804 : decode cL_board 804 = .ok (.iconst 1, 1) := by decide +kernel
theorem dL_board_805 : decode cL_board 805 = .ok (.goto 4, 3) := by decide +kernel
theorem dL_board_808 : decode cL_board 808 = .ok (.iconst 0, 1) := by decide +kernel
theorem dL_board_809 : decode cL_board 809 = .ok (.istore 7, 2) := by decide +kernel
theorem dL_board_811 : decode cL_board 811 = .ok (.iinc 19 1, 3) := by decide +kernel
theorem dL_board_814 : decode cL_board 814 = .ok (.goto (-166), 3) := by decide +kernel
theorem dL_board_817 : decode cL_board 817 = .ok (.iinc 9 1, 3) := by decide +kernel
theorem dL_board_820 : decode cL_board 820 = .ok (.goto (-425), 3) := by decide +kernel
theorem dL_board_823 : decode cL_board 823 = .ok (.iload 7, 2) := by decide +kernel
theorem dL_board_825 : decode cL_board 825 = .ok (.ifCond .eq 26, 3) := by decide +kernel
theorem dL_board_828 : decode cL_board 828 = .ok (.aload_n 0, 1) := by decide +kernel
theorem dL_board_829 : decode cL_board 829 = .ok (.invokevirtual 38, 3) := by decide +kernel
theorem dL_board_832 : decode cL_board 832 = .ok (.bipush (-4), 2) := by decide +kernel
theorem dL_board_834 : decode cL_board 834 = .ok (.if_icmp .ne 17, 3) := by decide +kernel
theorem dL_board_837 : decode cL_board 837 = .ok (.aload_n 0, 1) := by decide +kernel
theorem dL_board_838 : decode cL_board 838 = .ok (.invokevirtual 41, 3) := by decide +kernel
theorem dL_board_841 : decode cL_board 841 = .ok (.aload_n 3, 1) := by decide +kernel
theorem dL_board_842 : decode cL_board 842 = .ok (.iconst 0, 1) := by decide +kernel
theorem dL_board_843 : decode cL_board 843 = .ok (.iaload, 1) := by decide +kernel
theorem dL_board_844 : decode cL_board 844 = .ok (.if_icmp .ne 7, 3) := by decide +kernel
theorem dL_board_847 : decode cL_board 847 = .ok (.iconst 1, 1) := by decide +kernel
theorem dL_board_848 : decode cL_board 848 = .ok (.goto 4, 3) := by decide +kernel
theorem dL_board_851 : decode cL_board 851 = .ok (.iconst 0, 1) := by decide +kernel
theorem dL_board_852 : decode cL_board 852 = .ok (.ireturn, 1) := by decide +kernel
theorem dL_act_0 : decode cL_act 0 = .ok (.iload_n 2, 1) := by decide +kernel
theorem dL_act_1 : decode cL_act 1 = .ok (.iload_n 3, 1) := by decide +kernel
theorem dL_act_2 : decode cL_act 2 = .ok (.invokestatic 26, 3) := by decide +kernel
theorem dL_act_5 : decode cL_act 5 = .ok (.istore 5, 2) := by decide +kernel
theorem dL_act_7 : decode cL_act 7 = .ok (.iload_n 1, 1) := by decide +kernel
theorem dL_act_8 : decode cL_act 8 = .ok (.bipush 15, 2) := by decide +kernel
theorem dL_act_10 : decode cL_act 10 = .ok (.iand, 1) := by decide +kernel
theorem dL_act_11 : decode cL_act 11 = .ok (.tableswitch 333 0 14 #[73, 84, 94, 106, 114, 114, 130, 149, 163, 184, 207, 234, 283, 293, 315], 73) := by decide +kernel
theorem dL_act_84 : decode cL_act 84 = .ok (.aload_n 0, 1) := by decide +kernel
theorem dL_act_85 : decode cL_act 85 = .ok (.iload_n 2, 1) := by decide +kernel
theorem dL_act_86 : decode cL_act 86 = .ok (.iconst 3, 1) := by decide +kernel
theorem dL_act_87 : decode cL_act 87 = .ok (.invokestatic 26, 3) := by decide +kernel
theorem dL_act_90 : decode cL_act 90 = .ok (.invokevirtual 68, 3) := by decide +kernel
theorem dL_act_93 : decode cL_act 93 = .ok (.i2l, 1) := by decide +kernel
theorem dL_act_94 : decode cL_act 94 = .ok (.lreturn, 1) := by decide +kernel
theorem dL_act_95 : decode cL_act 95 = .ok (.aload_n 0, 1) := by decide +kernel
theorem dL_act_96 : decode cL_act 96 = .ok (.iload_n 2, 1) := by decide +kernel
theorem dL_act_97 : decode cL_act 97 = .ok (.iconst 3, 1) := by decide +kernel
theorem dL_act_98 : decode cL_act 98 = .ok (.invokestatic 26, 3) := by decide +kernel
theorem dL_act_101 : decode cL_act 101 = .ok (.invokevirtual 72, 3) := by decide +kernel
theorem dL_act_104 : decode cL_act 104 = .ok (.lreturn, 1) := by decide +kernel
theorem dL_act_105 : decode cL_act 105 = .ok (.aload_n 0, 1) := by decide +kernel
theorem dL_act_106 : decode cL_act 106 = .ok (.iload 5, 2) := by decide +kernel
theorem dL_act_108 : decode cL_act 108 = .ok (.iload_n 1, 1) := by decide +kernel
theorem dL_act_109 : decode cL_act 109 = .ok (.iconst 4, 1) := by decide +kernel
theorem dL_act_110 : decode cL_act 110 = .ok (.ishr, 1) := by decide +kernel
theorem dL_act_111 : decode cL_act 111 = .ok (.iconst 1, 1) := by decide +kernel
theorem dL_act_112 : decode cL_act 112 = .ok (.iand, 1) := by decide +kernel
theorem dL_act_113 : decode cL_act 113 = .ok (.invokevirtual 76, 3) := by decide +kernel
theorem dL_act_116 : decode cL_act 116 = .ok (.lreturn, 1) := by decide +kernel
theorem dL_act_117 : decode cL_act 117 = .ok (.aload_n 0, 1) := by decide +kernel
theorem dL_act_118 : decode cL_act 118 = .ok (.iload_n 2, 1) := by decide +kernel
theorem dL_act_119 : decode cL_act 119 = .ok (.iconst 1, 1) := by decide +kernel
theorem dL_act_120 : decode cL_act 120 = .ok (.iand, 1) := by decide +kernel
theorem dL_act_121 : decode cL_act 121 = .ok (.invokevirtual 80, 3) := by decide +kernel
theorem dL_act_124 : decode cL_act 124 = .ok (.lreturn, 1) := by decide +kernel
theorem dL_act_125 : decode cL_act 125 = .ok (.aload_n 0, 1) := by decide +kernel
theorem dL_act_126 : decode cL_act 126 = .ok (.iload 5, 2) := by decide +kernel
theorem dL_act_128 : decode cL_act 128 = .ok (.iload_n 1, 1) := by decide +kernel
theorem dL_act_129 : decode cL_act 129 = .ok (.iconst 4, 1) := by decide +kernel
theorem dL_act_130 : decode cL_act 130 = .ok (.ishr, 1) := by decide +kernel
theorem dL_act_131 : decode cL_act 131 = .ok (.bipush 31, 2) := by decide +kernel
theorem dL_act_133 : decode cL_act 133 = .ok (.invokestatic 26, 3) := by decide +kernel
theorem dL_act_136 : decode cL_act 136 = .ok (.invokevirtual 83, 3) := by decide +kernel
theorem dL_act_139 : decode cL_act 139 = .ok (.i2l, 1) := by decide +kernel
theorem dL_act_140 : decode cL_act 140 = .ok (.lreturn, 1) := by decide +kernel
theorem dL_act_141 : decode cL_act 141 = .ok (.aload_n 0, 1) := by decide +kernel
theorem dL_act_142 : decode cL_act 142 = .ok (.invokevirtual 86, 3) := by decide +kernel
theorem dL_act_145 : decode cL_act 145 = .ok (.i2l, 1) := by decide +kernel
theorem dL_act_146 : decode cL_act 146 = .ok (.ldc2_w 89, 3) := by decide +kernel
theorem dL_act_149 : decode cL_act 149 = .ok (.lmul, 1) := by decide +kernel
theorem dL_act_150 : decode cL_act 150 = .ok (.aload_n 0, 1) := by decide +kernel
theorem dL_act_151 : decode cL_act 151 = .ok (.iload_n 2, 1) := by decide +kernel
theorem dL_act_152 : decode cL_act 152 = .ok (.iconst 1, 1) := by decide +kernel
theorem dL_act_153 : decode cL_act 153 = .ok (.iand, 1) := by decide +kernel
theorem dL_act_154 : decode cL_act 154 = .ok (.invokevirtual 91, 3) := by decide +kernel
theorem dL_act_157 : decode cL_act 157 = .ok (.i2l, 1) := by decide +kernel
theorem dL_act_158 : decode cL_act 158 = .ok (.ladd, 1) := by decide +kernel
theorem dL_act_159 : decode cL_act 159 = .ok (.lreturn, 1) := by decide +kernel
theorem dL_act_160 : decode cL_act 160 = .ok (.aload_n 0, 1) := by decide +kernel
theorem dL_act_161 : decode cL_act 161 = .ok (.iload_n 2, 1) := by decide +kernel
theorem dL_act_162 : decode cL_act 162 = .ok (.iload_n 3, 1) := by decide +kernel
theorem dL_act_163 : decode cL_act 163 = .ok (.iconst 1, 1) := by decide +kernel
theorem dL_act_164 : decode cL_act 164 = .ok (.iadd, 1) := by decide +kernel
theorem dL_act_165 : decode cL_act 165 = .ok (.invokestatic 26, 3) := by decide +kernel
theorem dL_act_168 : decode cL_act 168 = .ok (.iconst 1, 1) := by decide +kernel
theorem dL_act_169 : decode cL_act 169 = .ok (.isub, 1) := by decide +kernel
theorem dL_act_170 : decode cL_act 170 = .ok (.invokevirtual 94, 3) := by decide +kernel
theorem dL_act_173 : decode cL_act 173 = .ok (.lreturn, 1) := by decide +kernel
theorem dL_act_174 : decode cL_act 174 = .ok (.iload_n 1, 1) := by decide +kernel
theorem dL_act_175 : decode cL_act 175 = .ok (.bipush 48, 2) := by decide +kernel
theorem dL_act_177 : decode cL_act 177 = .ok (.iand, 1) := by decide +kernel
theorem dL_act_178 : decode cL_act 178 = .ok (.ifCond .ne 10, 3) := by decide +kernel
theorem dL_act_181 : decode cL_act 181 = .ok (.aload_n 0, 1) := by decide +kernel
theorem dL_act_182 : decode cL_act 182 = .ok (.invokevirtual 97, 3) := by decide +kernel
theorem dL_act_185 : decode cL_act 185 = .ok (.goto 9, 3) := by decide +kernel
theorem dL_act_188 : decode cL_act 188 = .ok (.aload_n 0, 1) := by decide +kernel
theorem dL_act_189 : decode cL_act 189 = .ok (.iconst 1, 1) := by decide +kernel
theorem dL_act_190 : decode cL_act 190 = .ok (.invokevirtual 91, 3) := by decide +kernel
theorem dL_act_193 : decode cL_act 193 = .ok (.i2l, 1) := by decide +kernel
theorem dL_act_194 : decode cL_act 194 = .ok (.lreturn, 1) := by decide +kernel
theorem dL_act_195 : decode cL_act 195 = .ok (.iload_n 1, 1) := by decide +kernel
theorem dL_act_196 : decode cL_act 196 = .ok (.bipush 48, 2) := by decide +kernel
theorem dL_act_198 : decode cL_act 198 = .ok (.iand, 1) := by decide +kernel
theorem dL_act_199 : decode cL_act 199 = .ok (.ifCond .ne 13, 3) := by decide +kernel
theorem dL_act_202 : decode cL_act 202 = .ok (.aload_n 0, 1) := by decide +kernel
theorem dL_act_203 : decode cL_act 203 = .ok (.iload_n 2, 1) := by decide +kernel
theorem dL_act_204 : decode cL_act 204 = .ok (.iconst 1, 1) := by decide +kernel
theorem dL_act_205 : decode cL_act 205 = .ok (.iand, 1) := by decide +kernel
theorem dL_act_206 : decode cL_act 206 = .ok (.invokevirtual 101, 3) := by decide +kernel
theorem dL_act_209 : decode cL_act 209 = .ok (.goto 8, 3) := by decide +kernel
theorem dL_act_212 : decode cL_act 212 = .ok (.aload_n 0, 1) := by decide +kernel
theorem dL_act_213 : decode cL_act 213 = .ok (.invokevirtual 104, 3) := by decide +kernel
theorem dL_act_216 : decode cL_act 216 = .ok (.i2l, 1) := by decide +kernel
theorem dL_act_217 : decode cL_act 217 = .ok (.lreturn, 1) := by decide +kernel
theorem dL_act_218 : decode cL_act 218 = .ok (.iload_n 1, 1) := by decide +kernel
theorem dL_act_219 : decode cL_act 219 = .ok (.bipush 48, 2) := by decide +kernel
theorem dL_act_221 : decode cL_act 221 = .ok (.iand, 1) := by decide +kernel
theorem dL_act_222 : decode cL_act 222 = .ok (.ifCond .ne 11, 3) := by decide +kernel
theorem dL_act_225 : decode cL_act 225 = .ok (.aload_n 0, 1) := by decide +kernel
theorem dL_act_226 : decode cL_act 226 = .ok (.invokevirtual 107, 3) := by decide +kernel
theorem dL_act_229 : decode cL_act 229 = .ok (.i2l, 1) := by decide +kernel
theorem dL_act_230 : decode cL_act 230 = .ok (.goto 14, 3) := by decide +kernel
theorem dL_act_233 : decode cL_act 233 = .ok (.aload_n 0, 1) := by decide +kernel
theorem dL_act_234 : decode cL_act 234 = .ok (.iload_n 2, 1) := by decide +kernel
theorem dL_act_235 : decode cL_act 235 = .ok (.bipush 11, 2) := by decide +kernel
theorem dL_act_237 : decode cL_act 237 = .ok (.invokestatic 26, 3) := by decide +kernel
theorem dL_act_240 : decode cL_act 240 = .ok (.invokevirtual 110, 3) := by decide +kernel
theorem dL_act_243 : decode cL_act 243 = .ok (.i2l, 1) := by decide +kernel
theorem dL_act_244 : decode cL_act 244 = .ok (.lreturn, 1) := by decide +kernel
theorem dL_act_245 : decode cL_act 245 = .ok (.aload_n 0, 1) := by decide +kernel
theorem dL_act_246 : decode cL_act 246 = .ok (.iload_n 1, 1) := by decide +kernel
theorem dL_act_247 : decode cL_act 247 = .ok (.iconst 4, 1) := by decide +kernel
theorem dL_act_248 : decode cL_act 248 = .ok (.ishr, 1) := by decide +kernel
theorem dL_act_249 : decode cL_act 249 = .ok (.bipush 100, 2) := by decide +kernel
theorem dL_act_251 : decode cL_act 251 = .ok (.invokestatic 26, 3) := by decide +kernel
theorem dL_act_254 : decode cL_act 254 = .ok (.iload_n 2, 1) := by decide +kernel
theorem dL_act_255 : decode cL_act 255 = .ok (.iload 4, 2) := by decide +kernel
theorem dL_act_257 : decode cL_act 257 = .ok (.iconst 1, 1) := by decide +kernel
theorem dL_act_258 : decode cL_act 258 = .ok (.iadd, 1) := by decide +kernel
theorem dL_act_259 : decode cL_act 259 = .ok (.invokestatic 26, 3) := by decide +kernel
theorem dL_act_262 : decode cL_act 262 = .ok (.invokevirtual 113, 3) := by decide +kernel
theorem dL_act_265 : decode cL_act 265 = .ok (.ldc2_w 116, 3) := by decide +kernel
theorem dL_act_268 : decode cL_act 268 = .ok (.lmul, 1) := by decide +kernel
theorem dL_act_269 : decode cL_act 269 = .ok (.iload_n 1, 1) := by decide +kernel
theorem dL_act_270 : decode cL_act 270 = .ok (.sipush 2048, 3) := by decide +kernel
theorem dL_act_273 : decode cL_act 273 = .ok (.iand, 1) := by decide +kernel
theorem dL_act_274 : decode cL_act 274 = .ok (.ifCond .ne 16, 3) := by decide +kernel
theorem dL_act_277 : decode cL_act 277 = .ok (.aload_n 0, 1) := by decide +kernel
theorem dL_act_278 : decode cL_act 278 = .ok (.iload_n 2, 1) := by decide +kernel
theorem dL_act_279 : decode cL_act 279 = .ok (.bipush 100, 2) := by decide +kernel
theorem dL_act_281 : decode cL_act 281 = .ok (.invokestatic 26, 3) := by decide +kernel
theorem dL_act_284 : decode cL_act 284 = .ok (.invokevirtual 118, 3) := by decide +kernel
theorem dL_act_287 : decode cL_act 287 = .ok (.goto 4, 3) := by decide +kernel
theorem dL_act_290 : decode cL_act 290 = .ok (.iconst 0, 1) := by decide +kernel
theorem dL_act_291 : decode cL_act 291 = .ok (.i2l, 1) := by decide +kernel
theorem dL_act_292 : decode cL_act 292 = .ok (.ladd, 1) := by decide +kernel
theorem dL_act_293 : decode cL_act 293 = .ok (.lreturn, 1) := by decide +kernel
theorem dL_act_294 : decode cL_act 294 = .ok (.aload_n 0, 1) := by decide +kernel
theorem dL_act_295 : decode cL_act 295 = .ok (.iload_n 2, 1) := by decide +kernel
theorem dL_act_296 : decode cL_act 296 = .ok (.iconst 3, 1) := by decide +kernel
theorem dL_act_297 : decode cL_act 297 = .ok (.invokestatic 26, 3) := by decide +kernel
theorem dL_act_300 : decode cL_act 300 = .ok (.invokevirtual 121, 3) := by decide +kernel
theorem dL_act_303 : decode cL_act 303 = .ok (.lreturn, 1) := by decide +kernel
theorem dL_act_304 : decode cL_act 304 = .ok (.aload_n 0, 1) := by decide +kernel
theorem dL_act_305 : decode cL_act 305 = .ok (.iload_n 1, 1) := by decide +kernel
theorem dL_act_306 : decode cL_act 306 = .ok (.iconst 4, 1) := by decide +kernel
theorem dL_act_307 : decode cL_act 307 = .ok (.ishr, 1) := by decide +kernel
theorem dL_act_308 : decode cL_act 308 = .ok (.sipush 10000, 3) := by decide +kernel
theorem dL_act_311 : decode cL_act 311 = .ok (.invokestatic 26, 3) := by decide +kernel
theorem dL_act_314 : decode cL_act 314 = .ok (.iload 5, 2) := by decide +kernel
theorem dL_act_316 : decode cL_act 316 = .ok (.iload_n 2, 1) := by decide +kernel
theorem dL_act_317 : decode cL_act 317 = .ok (.iconst 4, 1) := by decide +kernel
theorem dL_act_318 : decode cL_act 318 = .ok (.ishr, 1) := by decide +kernel
theorem dL_act_319 : decode cL_act 319 = .ok (.iconst 1, 1) := by decide +kernel
theorem dL_act_320 : decode cL_act 320 = .ok (.iand, 1) := by decide +kernel
theorem dL_act_321 : decode cL_act 321 = .ok (.invokevirtual 124, 3) := by decide +kernel
theorem dL_act_324 : decode cL_act 324 = .ok (.i2l, 1) := by decide +kernel
theorem dL_act_325 : decode cL_act 325 = .ok (.lreturn, 1) := by decide +kernel
theorem dL_act_326 : decode cL_act 326 = .ok (.aload_n 0, 1) := by decide +kernel
theorem dL_act_327 : decode cL_act 327 = .ok (.iload_n 1, 1) := by decide +kernel
theorem dL_act_328 : decode cL_act 328 = .ok (.iconst 4, 1) := by decide +kernel
theorem dL_act_329 : decode cL_act 329 = .ok (.ishr, 1) := by decide +kernel
theorem dL_act_330 : decode cL_act 330 = .ok (.sipush 10000, 3) := by decide +kernel
theorem dL_act_333 : decode cL_act 333 = .ok (.invokestatic 26, 3) := by decide +kernel
theorem dL_act_336 : decode cL_act 336 = .ok (.iload_n 2, 1) := by decide +kernel
theorem dL_act_337 : decode cL_act 337 = .ok (.iconst 1, 1) := by decide +kernel
theorem dL_act_338 : decode cL_act 338 = .ok (.iand, 1) := by decide +kernel
theorem dL_act_339 : decode cL_act 339 = .ok (.invokevirtual 127, 3) := by decide +kernel
theorem dL_act_342 : decode cL_act 342 = .ok (.i2l, 1) := by decide +kernel
theorem dL_act_343 : decode cL_act 343 = .ok (.lreturn, 1) := by decide +kernel
theorem dL_act_344 : decode cL_act 344 = .ok (.iload_n 1, 1) := by decide +kernel
theorem dL_act_345 : decode cL_act 345 = .ok (.bipush 16, 2) := by decide +kernel
theorem dL_act_347 : decode cL_act 347 = .ok (.iand, 1) := by decide +kernel
theorem dL_act_348 : decode cL_act 348 = .ok (.ifCond .eq 11, 3) := by decide +kernel
theorem dL_act_351 : decode cL_act 351 = .ok (.aload_n 0, 1) := by decide +kernel
theorem dL_act_352 : decode cL_act 352 = .ok (.invokevirtual 130, 3) := by decide +kernel
theorem dL_act_355 : decode cL_act 355 = .ok (.i2l, 1) := by decide +kernel
theorem dL_act_356 : decode cL_act 356 = .ok (.goto 8, 3) := by decide +kernel
theorem dL_act_359 : decode cL_act 359 = .ok (.aload_n 0, 1) := by decide +kernel
theorem dL_act_360 : decode cL_act 360 = .ok (.invokevirtual 133, 3) := by decide +kernel
theorem dL_act_363 : decode cL_act 363 = .ok (.i2l, 1) := by decide +kernel
theorem dL_act_364 : decode cL_act 364 = .ok (.lreturn, 1) := by decide +kernel
theorem dL_law_0 : decode cL_law 0 = .ok (.new 10, 3) := by decide +kernel
theorem dL_law_3 : decode cL_law 3 = .ok (.dup, 1) := by decide +kernel
theorem dL_law_4 : decode cL_law 4 = .ok (.invokespecial 136, 3) := by decide +kernel
theorem dL_law_7 : decode cL_law 7 = .ok (.astore_n 1, 1) := by decide +kernel
theorem dL_law_8 : decode cL_law 8 = .ok (.new 10, 3) := by decide +kernel
theorem dL_law_11 : decode cL_law 11 = .ok (.dup, 1) := by decide +kernel
theorem dL_law_12 : decode cL_law 12 = .ok (.invokespecial 136, 3) := by decide +kernel
theorem dL_law_15 : decode cL_law 15 = .ok (.astore_n 2, 1) := by decide +kernel
theorem dL_law_16 : decode cL_law 16 = .ok (.bipush 41, 2) := by decide +kernel
theorem dL_law_18 : decode cL_law 18 = .ok (.newarray .int, 2) := by decide +kernel
theorem dL_law_20 : decode cL_law 20 = .ok (.astore_n 3, 1) := by decide +kernel
theorem dL_law_21 : decode cL_law 21 = .ok (.bipush 21, 2) := by decide +kernel
theorem dL_law_23 : decode cL_law 23 = .ok (.newarray .int, 2) := by decide +kernel
theorem dL_law_25 : decode cL_law 25 = .ok (.astore 4, 2) := by decide +kernel
theorem dL_law_27 : decode cL_law 27 = .ok (.aload_n 1, 1) := by decide +kernel
theorem dL_law_28 : decode cL_law 28 = .ok (.aload_n 0, 1) := by decide +kernel
theorem dL_law_29 : decode cL_law 29 = .ok (.iconst 0, 1) := by decide +kernel
theorem dL_law_30 : decode cL_law 30 = .ok (.aload_n 3, 1) := by decide +kernel
theorem dL_law_31 : decode cL_law 31 = .ok (.aload 4, 2) := by decide +kernel
theorem dL_law_33 : decode cL_law 33 = .ok (.invokestatic 137, 3) := by decide +kernel
theorem dL_law_36 : decode cL_law 36 = .ok (.ifCond .ne 5, 3) := by decide +kernel
theorem dL_law_39 : decode cL_law 39 = .ok (.iconst 0, 1) := by decide +kernel
theorem dL_law_40 : decode cL_law 40 = .ok (.ireturn, 1) := by decide +kernel
theorem dL_law_41 : decode cL_law 41 = .ok (.iconst 0, 1) := by decide +kernel
theorem dL_law_42 : decode cL_law 42 = .ok (.istore 5, 2) := by decide +kernel
theorem dL_law_44 : decode cL_law 44 = .ok (.iload 5, 2) := by decide +kernel
theorem dL_law_46 : decode cL_law 46 = .ok (.bipush 41, 2) := by decide +kernel
theorem dL_law_48 : decode cL_law 48 = .ok (.if_icmp .ge 14, 3) := by decide +kernel
theorem dL_law_51 : decode cL_law 51 = .ok (.aload_n 3, 1) := by decide +kernel
theorem dL_law_52 : decode cL_law 52 = .ok (.iload 5, 2) := by decide +kernel
theorem dL_law_54 : decode cL_law 54 = .ok (.iconst 0, 1) := by decide +kernel
theorem dL_law_55 : decode cL_law 55 = .ok (.iastore, 1) := by decide +kernel
theorem dL_law_56 : decode cL_law 56 = .ok (.iinc 5 1, 3) := by decide +kernel
theorem dL_law_59 : decode cL_law 59 = .ok (.goto (-15), 3) := by decide +kernel
theorem dL_law_62 : decode cL_law 62 = .ok (.aload_n 2, 1) := by decide +kernel
theorem dL_law_63 : decode cL_law 63 = .ok (.aload_n 0, 1) := by decide +kernel
theorem dL_law_64 : decode cL_law 64 = .ok (.iconst 0, 1) := by decide +kernel
theorem dL_law_65 : decode cL_law 65 = .ok (.aload_n 3, 1) := by decide +kernel
theorem dL_law_66 : decode cL_law 66 = .ok (.aload 4, 2) := by decide +kernel
theorem dL_law_68 : decode cL_law 68 = .ok (.invokestatic 137, 3) := by decide +kernel
theorem dL_law_71 : decode cL_law 71 = .ok (.ifCond .ne 5, 3) := by decide +kernel
theorem dL_law_74 : decode cL_law 74 = .ok (.iconst 0, 1) := by decide +kernel
theorem dL_law_75 : decode cL_law 75 = .ok (.ireturn, 1) := by decide +kernel
theorem dL_law_76 : decode cL_law 76 = .ok (.iconst 0, 1) := by decide +kernel
theorem dL_law_77 : decode cL_law 77 = .ok (.istore 5, 2) := by decide +kernel
theorem dL_law_79 : decode cL_law 79 = .ok (.iload 5, 2) := by decide +kernel
theorem dL_law_81 : decode cL_law 81 = .ok (.bipush 40, 2) := by decide +kernel
theorem dL_law_83 : decode cL_law 83 = .ok (.if_icmp .ge 437, 3) := by decide +kernel
theorem dL_law_86 : decode cL_law 86 = .ok (.aload_n 0, 1) := by decide +kernel
theorem dL_law_87 : decode cL_law 87 = .ok (.bipush 8, 2) := by decide +kernel
theorem dL_law_89 : decode cL_law 89 = .ok (.iconst 2, 1) := by decide +kernel
theorem dL_law_90 : decode cL_law 90 = .ok (.iload 5, 2) := by decide +kernel
theorem dL_law_92 : decode cL_law 92 = .ok (.imul, 1) := by decide +kernel
theorem dL_law_93 : decode cL_law 93 = .ok (.iadd, 1) := by decide +kernel
theorem dL_law_94 : decode cL_law 94 = .ok (.invokestatic 21, 3) := by decide +kernel
theorem dL_law_97 : decode cL_law 97 = .ok (.istore 6, 2) := by decide +kernel
theorem dL_law_99 : decode cL_law 99 = .ok (.aload_n 0, 1) := by decide +kernel
theorem dL_law_100 : decode cL_law 100 = .ok (.bipush 9, 2) := by decide +kernel
theorem dL_law_102 : decode cL_law 102 = .ok (.iconst 2, 1) := by decide +kernel
theorem dL_law_103 : decode cL_law 103 = .ok (.iload 5, 2) := by decide +kernel
theorem dL_law_105 : decode cL_law 105 = .ok (.imul, 1) := by decide +kernel
theorem dL_law_106 : decode cL_law 106 = .ok (.iadd, 1) := by decide +kernel
theorem dL_law_107 : decode cL_law 107 = .ok (.invokestatic 21, 3) := by decide +kernel
theorem dL_law_110 : decode cL_law 110 = .ok (.istore 7, 2) := by decide +kernel
theorem dL_law_112 : decode cL_law 112 = .ok (.aload_n 2, 1) := by decide +kernel
theorem dL_law_113 : decode cL_law 113 = .ok (.bipush 9, 2) := by decide +kernel
theorem dL_law_115 : decode cL_law 115 = .ok (.lconst 0, 1) := by decide +kernel
theorem dL_law_116 : decode cL_law 116 = .ok (.invokevirtual 9, 3) := by decide +kernel
theorem dL_law_119 : decode cL_law 119 = .ok (.iconst (-1), 1) := by decide +kernel
theorem dL_law_120 : decode cL_law 120 = .ok (.if_icmp .ne 190, 3) := by decide +kernel
theorem dL_law_123 : decode cL_law 123 = .ok (.aload_n 2, 1) := by decide +kernel
theorem dL_law_124 : decode cL_law 124 = .ok (.bipush 8, 2) := by decide +kernel
theorem dL_law_126 : decode cL_law 126 = .ok (.iconst 0, 1) := by decide +kernel
theorem dL_law_127 : decode cL_law 127 = .ok (.invokevirtual 141, 3) := by decide +kernel
theorem dL_law_130 : decode cL_law 130 = .ok (.iconst (-1), 1) := by decide +kernel
theorem dL_law_131 : decode cL_law 131 = .ok (.if_icmp .ne 179, 3) := by decide +kernel
theorem dL_law_134 : decode cL_law 134 = .ok (.aload_n 2, 1) := by decide +kernel
theorem dL_law_135 : decode cL_law 135 = .ok (.iconst 3, 1) := by decide +kernel
theorem dL_law_136 : decode cL_law 136 = .ok (.invokevirtual 68, 3) := by decide +kernel
theorem dL_law_139 : decode cL_law 139 = .ok (.iconst (-1), 1) := by decide +kernel
theorem dL_law_140 : decode cL_law 140 = .ok (.if_icmp .ne 170, 3) := by decide +kernel
theorem dL_law_143 : decode cL_law 143 = .ok (.aload_n 2, 1) := by decide +kernel
theorem dL_law_144 : decode cL_law 144 = .ok (.iconst 3, 1) := by decide +kernel
theorem dL_law_145 : decode cL_law 145 = .ok (.invokevirtual 72, 3) := by decide +kernel
theorem dL_law_148 : decode cL_law 148 = .ok (.ldc2_w 56, 3) := by decide +kernel
theorem dL_law_151 : decode cL_law 151 = .ok (.lcmp, 1) := by decide +kernel
theorem dL_law_152 : decode cL_law 152 = .ok (.ifCond .ne 158, 3) := by decide +kernel
theorem dL_law_155 : decode cL_law 155 = .ok (.aload_n 2, 1) := by decide +kernel
theorem dL_law_156 : decode cL_law 156 = .ok (.bipush 8, 2) := by decide +kernel
theorem dL_law_158 : decode cL_law 158 = .ok (.iconst 0, 1) := by decide +kernel
theorem dL_law_159 : decode cL_law 159 = .ok (.invokevirtual 76, 3) := by decide +kernel
theorem dL_law_162 : decode cL_law 162 = .ok (.ldc2_w 144, 3) := by decide +kernel
theorem dL_law_165 : decode cL_law 165 = .ok (.lcmp, 1) := by decide +kernel
theorem dL_law_166 : decode cL_law 166 = .ok (.ifCond .ge 144, 3) := by decide +kernel
theorem dL_law_169 : decode cL_law 169 = .ok (.aload_n 2, 1) := by decide +kernel
theorem dL_law_170 : decode cL_law 170 = .ok (.iconst 2, 1) := by decide +kernel
theorem dL_law_171 : decode cL_law 171 = .ok (.invokevirtual 80, 3) := by decide +kernel
theorem dL_law_174 : decode cL_law 174 = .ok (.ldc2_w 56, 3) := by decide +kernel
theorem dL_law_177 : decode cL_law 177 = .ok (.lcmp, 1) := by decide +kernel
theorem dL_law_178 : decode cL_law 178 = .ok (.ifCond .ne 132, 3) := by decide +kernel
theorem dL_law_181 : decode cL_law 181 = .ok (.aload_n 2, 1) := by decide +kernel
theorem dL_law_182 : decode cL_law 182 = .ok (.iconst 0, 1) := by decide +kernel
theorem dL_law_183 : decode cL_law 183 = .ok (.bipush 31, 2) := by decide +kernel
theorem dL_law_185 : decode cL_law 185 = .ok (.invokevirtual 83, 3) := by decide +kernel
theorem dL_law_188 : decode cL_law 188 = .ok (.iconst (-1), 1) := by decide +kernel
theorem dL_law_189 : decode cL_law 189 = .ok (.if_icmp .ne 121, 3) := by decide +kernel
theorem dL_law_192 : decode cL_law 192 = .ok (.aload_n 2, 1) := by decide +kernel
theorem dL_law_193 : decode cL_law 193 = .ok (.iconst 2, 1) := by decide +kernel
theorem dL_law_194 : decode cL_law 194 = .ok (.invokevirtual 91, 3) := by decide +kernel
theorem dL_law_197 : decode cL_law 197 = .ok (.iconst (-1), 1) := by decide +kernel
theorem dL_law_198 : decode cL_law 198 = .ok (.if_icmp .ne 112, 3) := by decide +kernel
theorem dL_law_201 : decode cL_law 201 = .ok (.aload_n 2, 1) := by decide +kernel
theorem dL_law_202 : decode cL_law 202 = .ok (.bipush 8, 2) := by decide +kernel
theorem dL_law_204 : decode cL_law 204 = .ok (.invokevirtual 94, 3) := by decide +kernel
theorem dL_law_207 : decode cL_law 207 = .ok (.ldc2_w 56, 3) := by decide +kernel
theorem dL_law_210 : decode cL_law 210 = .ok (.lcmp, 1) := by decide +kernel
theorem dL_law_211 : decode cL_law 211 = .ok (.ifCond .ne 99, 3) := by decide +kernel
theorem dL_law_214 : decode cL_law 214 = .ok (.aload_n 2, 1) := by decide +kernel
theorem dL_law_215 : decode cL_law 215 = .ok (.iconst 2, 1) := by decide +kernel
theorem dL_law_216 : decode cL_law 216 = .ok (.invokevirtual 101, 3) := by decide +kernel
theorem dL_law_219 : decode cL_law 219 = .ok (.ldc2_w 56, 3) := by decide +kernel
theorem dL_law_222 : decode cL_law 222 = .ok (.lcmp, 1) := by decide +kernel
theorem dL_law_223 : decode cL_law 223 = .ok (.ifCond .ne 87, 3) := by decide +kernel
theorem dL_law_226 : decode cL_law 226 = .ok (.aload_n 2, 1) := by decide +kernel
theorem dL_law_227 : decode cL_law 227 = .ok (.bipush 11, 2) := by decide +kernel
theorem dL_law_229 : decode cL_law 229 = .ok (.invokevirtual 110, 3) := by decide +kernel
theorem dL_law_232 : decode cL_law 232 = .ok (.iconst (-1), 1) := by decide +kernel
theorem dL_law_233 : decode cL_law 233 = .ok (.if_icmp .ne 77, 3) := by decide +kernel
theorem dL_law_236 : decode cL_law 236 = .ok (.aload_n 2, 1) := by decide +kernel
theorem dL_law_237 : decode cL_law 237 = .ok (.bipush 100, 2) := by decide +kernel
theorem dL_law_239 : decode cL_law 239 = .ok (.iconst 0, 1) := by decide +kernel
theorem dL_law_240 : decode cL_law 240 = .ok (.invokevirtual 113, 3) := by decide +kernel
theorem dL_law_243 : decode cL_law 243 = .ok (.ldc2_w 56, 3) := by decide +kernel
theorem dL_law_246 : decode cL_law 246 = .ok (.lcmp, 1) := by decide +kernel
theorem dL_law_247 : decode cL_law 247 = .ok (.ifCond .ne 63, 3) := by decide +kernel
theorem dL_law_250 : decode cL_law 250 = .ok (.aload_n 2, 1) := by decide +kernel
theorem dL_law_251 : decode cL_law 251 = .ok (.bipush 100, 2) := by decide +kernel
theorem dL_law_253 : decode cL_law 253 = .ok (.invokevirtual 118, 3) := by decide +kernel
theorem dL_law_256 : decode cL_law 256 = .ok (.iconst (-1), 1) := by decide +kernel
theorem dL_law_257 : decode cL_law 257 = .ok (.if_icmp .ne 53, 3) := by decide +kernel
theorem dL_law_260 : decode cL_law 260 = .ok (.aload_n 2, 1) := by decide +kernel
theorem dL_law_261 : decode cL_law 261 = .ok (.iconst 3, 1) := by decide +kernel
theorem dL_law_262 : decode cL_law 262 = .ok (.invokevirtual 121, 3) := by decide +kernel
theorem dL_law_265 : decode cL_law 265 = .ok (.ldc2_w 56, 3) := by decide +kernel
theorem dL_law_268 : decode cL_law 268 = .ok (.lcmp, 1) := by decide +kernel
theorem dL_law_269 : decode cL_law 269 = .ok (.ifCond .ne 41, 3) := by decide +kernel
theorem dL_law_272 : decode cL_law 272 = .ok (.aload_n 2, 1) := by decide +kernel
theorem dL_law_273 : decode cL_law 273 = .ok (.iconst 0, 1) := by decide +kernel
theorem dL_law_274 : decode cL_law 274 = .ok (.bipush 8, 2) := by decide +kernel
theorem dL_law_276 : decode cL_law 276 = .ok (.iconst 0, 1) := by decide +kernel
theorem dL_law_277 : decode cL_law 277 = .ok (.invokevirtual 124, 3) := by decide +kernel
theorem dL_law_280 : decode cL_law 280 = .ok (.sipush (-1001), 3) := by decide +kernel
theorem dL_law_283 : decode cL_law 283 = .ok (.if_icmp .ne 27, 3) := by decide +kernel
theorem dL_law_286 : decode cL_law 286 = .ok (.aload_n 2, 1) := by decide +kernel
theorem dL_law_287 : decode cL_law 287 = .ok (.iconst 0, 1) := by decide +kernel
theorem dL_law_288 : decode cL_law 288 = .ok (.iconst 2, 1) := by decide +kernel
theorem dL_law_289 : decode cL_law 289 = .ok (.invokevirtual 127, 3) := by decide +kernel
theorem dL_law_292 : decode cL_law 292 = .ok (.iconst (-1), 1) := by decide +kernel
theorem dL_law_293 : decode cL_law 293 = .ok (.if_icmp .ne 17, 3) := by decide +kernel
theorem dL_law_296 : decode cL_law 296 = .ok (.aload_n 2, 1) := by decide +kernel
theorem dL_law_297 : decode cL_law 297 = .ok (.bipush 7, 2) := by decide +kernel
theorem dL_law_299 : decode cL_law 299 = .ok (.invokevirtual 146, 3) := by decide +kernel
theorem dL_law_302 : decode cL_law 302 = .ok (.iconst (-1), 1) := by decide +kernel
theorem dL_law_303 : decode cL_law 303 = .ok (.if_icmp .ne 7, 3) := by decide +kernel
theorem dL_law_306 : decode cL_law 306 = .ok (.iconst 1, 1) := by decide +kernel
theorem dL_law_307 : decode cL_law 307 = .ok (.goto 4, 3) := by decide +kernel
theorem dL_law_310 : decode cL_law 310 = .ok (.iconst 0, 1) := by decide +kernel
theorem dL_law_311 : decode cL_law 311 = .ok (.istore 8, 2) := by decide +kernel
theorem dL_law_313 : decode cL_law 313 = .ok (.iload 8, 2) := by decide +kernel
theorem dL_law_315 : decode cL_law 315 = .ok (.ifCond .eq 35, 3) := by decide +kernel
theorem dL_law_318 : decode cL_law 318 = .ok (.aload_n 1, 1) := by decide +kernel
theorem dL_law_319 : decode cL_law 319 = .ok (.iload 6, 2) := by decide +kernel
theorem dL_law_321 : decode cL_law 321 = .ok (.iload 7, 2) := by decide +kernel
theorem dL_law_323 : decode cL_law 323 = .ok (.aload_n 3, 1) := by decide +kernel
theorem dL_law_324 : decode cL_law 324 = .ok (.iconst 0, 1) := by decide +kernel
theorem dL_law_325 : decode cL_law 325 = .ok (.iaload, 1) := by decide +kernel
theorem dL_law_326 : decode cL_law 326 = .ok (.aload_n 3, 1) := by decide +kernel
theorem dL_law_327 : decode cL_law 327 = .ok (.iconst 3, 1) := by decide +kernel
theorem dL_law_328 : decode cL_law 328 = .ok (.iaload, 1) := by decide +kernel
theorem dL_law_329 : decode cL_law 329 = .ok (.invokestatic 149, 3) := by decide +kernel
theorem dL_law_332 : decode cL_law 332 = .ok (.aload_n 2, 1) := by decide +kernel
theorem dL_law_333 : decode cL_law 333 = .ok (.iload 6, 2) := by decide +kernel
theorem dL_law_335 : decode cL_law 335 = .ok (.iload 7, 2) := by decide +kernel
theorem dL_law_337 : decode cL_law 337 = .ok (.aload_n 3, 1) := by decide +kernel
theorem dL_law_338 : decode cL_law 338 = .ok (.iconst 0, 1) := by decide +kernel
theorem dL_law_339 : decode cL_law 339 = .ok (.iaload, 1) := by decide +kernel
theorem dL_law_340 : decode cL_law 340 = .ok (.aload_n 3, 1) := by decide +kernel
theorem dL_law_341 : decode cL_law 341 = .ok (.iconst 3, 1) := by decide +kernel
theorem dL_law_342 : decode cL_law 342 = .ok (.iaload, 1) := by decide +kernel
theorem dL_law_343 : decode cL_law 343 = .ok (.invokestatic 149, 3) := by decide +kernel
theorem dL_law_346 : decode cL_law 346 = .ok (.lcmp, 1) := by decide +kernel
theorem dL_law_347 : decode cL_law 347 = .ok (.ifCond .eq 5, 3) := by decide +kernel
theorem dL_law_350 : decode cL_law 350 = .ok (.iconst 0, 1) := by decide +kernel
theorem dL_law_351 : decode cL_law 351 = .ok (.ireturn, 1) := by decide +kernel
theorem dL_law_352 : decode cL_law 352 = .ok (.aload_n 1, 1) := by decide +kernel
theorem dL_law_353 : decode cL_law 353 = .ok (.invokevirtual 86, 3) := by decide +kernel
theorem dL_law_356 : decode cL_law 356 = .ok (.aload_n 2, 1) := by decide +kernel
theorem dL_law_357 : decode cL_law 357 = .ok (.invokevirtual 86, 3) := by decide +kernel
theorem dL_law_360 : decode cL_law 360 = .ok (.if_icmp .ne 51, 3) := by decide +kernel
theorem dL_law_363 : decode cL_law 363 = .ok (.aload_n 1, 1) := by decide +kernel
theorem dL_law_364 : decode cL_law 364 = .ok (.iconst 0, 1) := by decide +kernel
theorem dL_law_365 : decode cL_law 365 = .ok (.invokevirtual 72, 3) := by decide +kernel
theorem dL_law_368 : decode cL_law 368 = .ok (.aload_n 2, 1) := by decide +kernel
theorem dL_law_369 : decode cL_law 369 = .ok (.iconst 0, 1) := by decide +kernel
theorem dL_law_370 : decode cL_law 370 = .ok (.invokevirtual 72, 3) := by decide +kernel
theorem dL_law_373 : decode cL_law 373 = .ok (.lcmp, 1) := by decide +kernel
theorem dL_law_374 : decode cL_law 374 = .ok (.ifCond .ne 37, 3) := by decide +kernel
theorem dL_law_377 : decode cL_law 377 = .ok (.aload_n 1, 1) := by decide +kernel
theorem dL_law_378 : decode cL_law 378 = .ok (.iconst 0, 1) := by decide +kernel
theorem dL_law_379 : decode cL_law 379 = .ok (.invokevirtual 91, 3) := by decide +kernel
theorem dL_law_382 : decode cL_law 382 = .ok (.aload_n 2, 1) := by decide +kernel
theorem dL_law_383 : decode cL_law 383 = .ok (.iconst 0, 1) := by decide +kernel
theorem dL_law_384 : decode cL_law 384 = .ok (.invokevirtual 91, 3) := by decide +kernel
theorem dL_law_387 : decode cL_law 387 = .ok (.if_icmp .ne 24, 3) := by decide +kernel
theorem dL_law_390 : decode cL_law 390 = .ok (.aload_n 1, 1) := by decide +kernel
theorem dL_law_391 : decode cL_law 391 = .ok (.iload 5, 2) := by decide +kernel
theorem dL_law_393 : decode cL_law 393 = .ok (.iconst 0, 1) := by decide +kernel
theorem dL_law_394 : decode cL_law 394 = .ok (.invokevirtual 127, 3) := by decide +kernel
theorem dL_law_397 : decode cL_law 397 = .ok (.aload_n 2, 1) := by decide +kernel
theorem dL_law_398 : decode cL_law 398 = .ok (.iload 5, 2) := by decide +kernel
theorem dL_law_400 : decode cL_law 400 = .ok (.iconst 0, 1) := by decide +kernel
theorem dL_law_401 : decode cL_law 401 = .ok (.invokevirtual 127, 3) := by decide +kernel
theorem dL_law_404 : decode cL_law 404 = .ok (.if_icmp .ne 7, 3) := by decide +kernel
theorem dL_law_407 : decode cL_law 407 = .ok (.iconst 1, 1) := by decide +kernel
theorem dL_law_408 : decode cL_law 408 = .ok (.goto 4, 3) := by decide +kernel
theorem dL_law_411 : decode cL_law 411 = .ok (.iconst 0, 1) := by decide +kernel
theorem dL_law_412 : decode cL_law 412 = .ok (.istore 9, 2) := by decide +kernel
theorem dL_law_414 : decode cL_law 414 = .ok (.iconst 0, 1) := by decide +kernel
theorem dL_law_415 : decode cL_law 415 = .ok (.istore 10, 2) := by decide +kernel
theorem dL_law_417 : decode cL_law 417 = .ok (.iload 10, 2) := by decide +kernel
theorem dL_law_419 : decode cL_law 419 = .ok (.bipush 7, 2) := by decide +kernel
theorem dL_law_421 : decode cL_law 421 = .ok (.if_icmp .ge 45, 3) := by decide +kernel
theorem dL_law_424 : decode cL_law 424 = .ok (.iload 9, 2) := by decide +kernel
theorem dL_law_426 : decode cL_law 426 = .ok (.ifCond .eq 31, 3) := by decide +kernel
theorem dL_law_429 : decode cL_law 429 = .ok (.aload_n 1, 1) := by decide +kernel
theorem dL_law_430 : decode cL_law 430 = .ok (.iload 10, 2) := by decide +kernel
theorem dL_law_432 : decode cL_law 432 = .ok (.invokevirtual 146, 3) := by decide +kernel
theorem dL_law_435 : decode cL_law 435 = .ok (.aload_n 2, 1) := by decide +kernel
theorem dL_law_436 : decode cL_law 436 = .ok (.iload 10, 2) := by decide +kernel
theorem dL_law_438 : decode cL_law 438 = .ok (.invokevirtual 146, 3) := by decide +kernel
theorem dL_law_441 : decode cL_law 441 = .ok (.if_icmp .ne 16, 3) := by decide +kernel
theorem dL_law_444 : decode cL_law 444 = .ok (.aload_n 1, 1) := by decide +kernel
theorem dL_law_445 : decode cL_law 445 = .ok (.iload 10, 2) := by decide +kernel
theorem dL_law_447 : decode cL_law 447 = .ok (.invokevirtual 146, 3) := by decide +kernel
theorem dL_law_450 : decode cL_law 450 = .ok (.ifCond .lt 7, 3) := by decide +kernel
theorem dL_law_453 : decode cL_law 453 = .ok (.iconst 1, 1) := by decide +kernel
theorem dL_law_454 : decode cL_law 454 = .ok (.goto 4, 3) := by decide +kernel
theorem dL_law_457 : decode cL_law 457 = .ok (.iconst 0, 1) := by decide +kernel
theorem dL_law_458 : decode cL_law 458 = .ok (.istore 9, 2) := by decide +kernel
theorem dL_law_460 : decode cL_law 460 = .ok (.iinc 10 1, 3) := by decide +kernel
theorem dL_law_463 : decode cL_law 463 = .ok (.goto (-46), 3) := by decide +kernel
theorem dL_law_466 : decode cL_law 466 = .ok (.iload 9, 2) := by decide +kernel
theorem dL_law_468 : decode cL_law 468 = .ok (.ifCond .eq 44, 3) := by decide +kernel
theorem dL_law_471 : decode cL_law 471 = .ok (.aload_n 1, 1) := by decide +kernel
theorem dL_law_472 : decode cL_law 472 = .ok (.iconst 0, 1) := by decide +kernel
theorem dL_law_473 : decode cL_law 473 = .ok (.invokevirtual 146, 3) := by decide +kernel
theorem dL_law_476 : decode cL_law 476 = .ok (.aload_n 3, 1) := by decide +kernel
theorem dL_law_477 : decode cL_law 477 = .ok (.iconst 0, 1) := by decide +kernel
theorem dL_law_478 : decode cL_law 478 = .ok (.iaload, 1) := by decide +kernel
theorem dL_law_479 : decode cL_law 479 = .ok (.if_icmp .ne 33, 3) := by decide +kernel
theorem dL_law_482 : decode cL_law 482 = .ok (.aload_n 1, 1) := by decide +kernel
theorem dL_law_483 : decode cL_law 483 = .ok (.iconst 1, 1) := by decide +kernel
theorem dL_law_484 : decode cL_law 484 = .ok (.invokevirtual 146, 3) := by decide +kernel
theorem dL_law_487 : decode cL_law 487 = .ok (.aload_n 3, 1) := by decide +kernel
theorem dL_law_488 : decode cL_law 488 = .ok (.iconst 0, 1) := by decide +kernel
theorem dL_law_489 : decode cL_law 489 = .ok (.iaload, 1) := by decide +kernel
theorem dL_law_490 : decode cL_law 490 = .ok (.if_icmp .gt 22, 3) := by decide +kernel
theorem dL_law_493 : decode cL_law 493 = .ok (.aload_n 1, 1) := by decide +kernel
theorem dL_law_494 : decode cL_law 494 = .ok (.iconst 4, 1) := by decide +kernel
theorem dL_law_495 : decode cL_law 495 = .ok (.invokevirtual 146, 3) := by decide +kernel
theorem dL_law_498 : decode cL_law 498 = .ok (.iconst 2, 1) := by decide +kernel
theorem dL_law_499 : decode cL_law 499 = .ok (.if_icmp .gt 13, 3) := by decide +kernel
theorem dL_law_502 : decode cL_law 502 = .ok (.aload_n 1, 1) := by decide +kernel
theorem dL_law_503 : decode cL_law 503 = .ok (.iconst 0, 1) := by decide +kernel
theorem dL_law_504 : decode cL_law 504 = .ok (.invokevirtual 72, 3) := by decide +kernel
theorem dL_law_507 : decode cL_law 507 = .ok (.lconst 0, 1) := by decide +kernel
theorem dL_law_508 : decode cL_law 508 = .ok (.lcmp, 1) := by decide +kernel
theorem dL_law_509 : decode cL_law 509 = .ok (.ifCond .ge 5, 3) := by decide +kernel
theorem dL_law_512 : decode cL_law 512 = .ok (.iconst 0, 1) := by decide +kernel
theorem dL_law_513 : decode cL_law 513 = .ok (.ireturn, 1) := by decide +kernel
theorem dL_law_514 : decode cL_law 514 = .ok (.iinc 5 1, 3) := by decide +kernel
theorem dL_law_517 : decode cL_law 517 = .ok (.goto (-438), 3) := by decide +kernel
theorem dL_law_520 : decode cL_law 520 = .ok (.iconst 1, 1) := by decide +kernel
theorem dL_law_521 : decode cL_law 521 = .ok (.ireturn, 1) := by decide +kernel
