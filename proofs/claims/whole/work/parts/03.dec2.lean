theorem dX9_init_0 : decode cX9_init 0 = .ok (.aload_n 0, 1) := by decide +kernel
theorem dX9_init_1 : decode cX9_init 1 = .ok (.invokespecial 1, 3) := by decide +kernel
theorem dX9_init_4 : decode cX9_init 4 = .ok (.aload_n 0, 1) := by decide +kernel
theorem dX9_init_5 : decode cX9_init 5 = .ok (.new 7, 3) := by decide +kernel
theorem dX9_init_8 : decode cX9_init 8 = .ok (.dup, 1) := by decide +kernel
theorem dX9_init_9 : decode cX9_init 9 = .ok (.invokespecial 9, 3) := by decide +kernel
theorem dX9_init_12 : decode cX9_init 12 = .ok (.putfield 10, 3) := by decide +kernel
theorem dX9_init_15 : decode cX9_init 15 = .ok (.aload_n 0, 1) := by decide +kernel
theorem dX9_init_16 : decode cX9_init 16 = .ok (.new 16, 3) := by decide +kernel
theorem dX9_init_19 : decode cX9_init 19 = .ok (.dup, 1) := by decide +kernel
theorem dX9_init_20 : decode cX9_init 20 = .ok (.invokespecial 18, 3) := by decide +kernel
theorem dX9_init_23 : decode cX9_init 23 = .ok (.putfield 19, 3) := by decide +kernel
theorem dX9_init_26 : decode cX9_init 26 = .ok (.aload_n 0, 1) := by decide +kernel
theorem dX9_init_27 : decode cX9_init 27 = .ok (.new 23, 3) := by decide +kernel
theorem dX9_init_30 : decode cX9_init 30 = .ok (.dup, 1) := by decide +kernel
theorem dX9_init_31 : decode cX9_init 31 = .ok (.invokespecial 25, 3) := by decide +kernel
theorem dX9_init_34 : decode cX9_init 34 = .ok (.putfield 26, 3) := by decide +kernel
theorem dX9_init_37 : decode cX9_init 37 = .ok (.aload_n 0, 1) := by decide +kernel
theorem dX9_init_38 : decode cX9_init 38 = .ok (.new 23, 3) := by decide +kernel
theorem dX9_init_41 : decode cX9_init 41 = .ok (.dup, 1) := by decide +kernel
theorem dX9_init_42 : decode cX9_init 42 = .ok (.invokespecial 25, 3) := by decide +kernel
theorem dX9_init_45 : decode cX9_init 45 = .ok (.putfield 30, 3) := by decide +kernel
theorem dX9_init_48 : decode cX9_init 48 = .ok (.aload_n 0, 1) := by decide +kernel
theorem dX9_init_49 : decode cX9_init 49 = .ok (.new 33, 3) := by decide +kernel
theorem dX9_init_52 : decode cX9_init 52 = .ok (.dup, 1) := by decide +kernel
theorem dX9_init_53 : decode cX9_init 53 = .ok (.invokespecial 35, 3) := by decide +kernel
theorem dX9_init_56 : decode cX9_init 56 = .ok (.putfield 36, 3) := by decide +kernel
theorem dX9_init_59 : decode cX9_init 59 = .ok (.aload_n 0, 1) := by decide +kernel
theorem dX9_init_60 : decode cX9_init 60 = .ok (.new 33, 3) := by decide +kernel
theorem dX9_init_63 : decode cX9_init 63 = .ok (.dup, 1) := by decide +kernel
theorem dX9_init_64 : decode cX9_init 64 = .ok (.invokespecial 35, 3) := by decide +kernel
theorem dX9_init_67 : decode cX9_init 67 = .ok (.putfield 40, 3) := by decide +kernel
theorem dX9_init_70 : decode cX9_init 70 = .ok (.aload_n 0, 1) := by decide +kernel
theorem dX9_init_71 : decode cX9_init 71 = .ok (.new 43, 3) := by decide +kernel
theorem dX9_init_74 : decode cX9_init 74 = .ok (.dup, 1) := by decide +kernel
theorem dX9_init_75 : decode cX9_init 75 = .ok (.invokespecial 45, 3) := by decide +kernel
theorem dX9_init_78 : decode cX9_init 78 = .ok (.putfield 46, 3) := by decide +kernel
theorem dX9_init_81 : decode cX9_init 81 = .ok (.aload_n 0, 1) := by decide +kernel
theorem dX9_init_82 : decode cX9_init 82 = .ok (.new 50, 3) := by decide +kernel
theorem dX9_init_85 : decode cX9_init 85 = .ok (.dup, 1) := by decide +kernel
theorem dX9_init_86 : decode cX9_init 86 = .ok (.invokespecial 52, 3) := by decide +kernel
theorem dX9_init_89 : decode cX9_init 89 = .ok (.putfield 53, 3) := by decide +kernel
theorem dX9_init_92 : decode cX9_init 92 = .ok (.aload_n 0, 1) := by decide +kernel
theorem dX9_init_93 : decode cX9_init 93 = .ok (.new 50, 3) := by decide +kernel
theorem dX9_init_96 : decode cX9_init 96 = .ok (.dup, 1) := by decide +kernel
theorem dX9_init_97 : decode cX9_init 97 = .ok (.invokespecial 52, 3) := by decide +kernel
theorem dX9_init_100 : decode cX9_init 100 = .ok (.putfield 57, 3) := by decide +kernel
theorem dX9_init_103 : decode cX9_init 103 = .ok (.aload_n 0, 1) := by decide +kernel
theorem dX9_init_104 : decode cX9_init 104 = .ok (.new 60, 3) := by decide +kernel
theorem dX9_init_107 : decode cX9_init 107 = .ok (.dup, 1) := by decide +kernel
theorem dX9_init_108 : decode cX9_init 108 = .ok (.invokespecial 62, 3) := by decide +kernel
theorem dX9_init_111 : decode cX9_init 111 = .ok (.putfield 63, 3) := by decide +kernel
theorem dX9_init_114 : decode cX9_init 114 = .ok (.aload_n 0, 1) := by decide +kernel
theorem dX9_init_115 : decode cX9_init 115 = .ok (.bipush 8, 2) := by decide +kernel
theorem dX9_init_117 : decode cX9_init 117 = .ok (.newarray .int, 2) := by decide +kernel
theorem dX9_init_119 : decode cX9_init 119 = .ok (.putfield 69, 3) := by decide +kernel
theorem dX9_init_122 : decode cX9_init 122 = .ok (.aload_n 0, 1) := by decide +kernel
theorem dX9_init_123 : decode cX9_init 123 = .ok (.new 73, 3) := by decide +kernel
theorem dX9_init_126 : decode cX9_init 126 = .ok (.dup, 1) := by decide +kernel
theorem dX9_init_127 : decode cX9_init 127 = .ok (.invokespecial 75, 3) := by decide +kernel
theorem dX9_init_130 : decode cX9_init 130 = .ok (.putfield 76, 3) := by decide +kernel
theorem dX9_init_133 : decode cX9_init 133 = .ok (.aload_n 0, 1) := by decide +kernel
theorem dX9_init_134 : decode cX9_init 134 = .ok (.getfield 26, 3) := by decide +kernel
theorem dX9_init_137 : decode cX9_init 137 = .ok (.invokevirtual 80, 3) := by decide +kernel
theorem dX9_init_140 : decode cX9_init 140 = .ok (.aload_n 0, 1) := by decide +kernel
theorem dX9_init_141 : decode cX9_init 141 = .ok (.getfield 26, 3) := by decide +kernel
theorem dX9_init_144 : decode cX9_init 144 = .ok (.getfield 83, 3) := by decide +kernel
theorem dX9_init_147 : decode cX9_init 147 = .ok (.iconst 1, 1) := by decide +kernel
theorem dX9_init_148 : decode cX9_init 148 = .ok (.iconst 1, 1) := by decide +kernel
theorem dX9_init_149 : decode cX9_init 149 = .ok (.bipush 20, 2) := by decide +kernel
theorem dX9_init_151 : decode cX9_init 151 = .ok (.iconst 0, 1) := by decide +kernel
theorem dX9_init_152 : decode cX9_init 152 = .ok (.iconst 0, 1) := by decide +kernel
theorem dX9_init_153 : decode cX9_init 153 = .ok (.invokevirtual 87, 3) := by decide +kernel
theorem dX9_init_156 : decode cX9_init 156 = .ok (.pop, 1) := by decide +kernel
theorem dX9_init_157 : decode cX9_init 157 = .ok (.aload_n 0, 1) := by decide +kernel
theorem dX9_init_158 : decode cX9_init 158 = .ok (.getfield 26, 3) := by decide +kernel
theorem dX9_init_161 : decode cX9_init 161 = .ok (.getfield 83, 3) := by decide +kernel
theorem dX9_init_164 : decode cX9_init 164 = .ok (.iconst 0, 1) := by decide +kernel
theorem dX9_init_165 : decode cX9_init 165 = .ok (.bipush 20, 2) := by decide +kernel
theorem dX9_init_167 : decode cX9_init 167 = .ok (.bipush 10, 2) := by decide +kernel
theorem dX9_init_169 : decode cX9_init 169 = .ok (.invokevirtual 91, 3) := by decide +kernel
theorem dX9_init_172 : decode cX9_init 172 = .ok (.pop, 1) := by decide +kernel
theorem dX9_init_173 : decode cX9_init 173 = .ok (.aload_n 0, 1) := by decide +kernel
theorem dX9_init_174 : decode cX9_init 174 = .ok (.getfield 36, 3) := by decide +kernel
theorem dX9_init_177 : decode cX9_init 177 = .ok (.aload_n 0, 1) := by decide +kernel
theorem dX9_init_178 : decode cX9_init 178 = .ok (.getfield 26, 3) := by decide +kernel
theorem dX9_init_181 : decode cX9_init 181 = .ok (.aload_n 0, 1) := by decide +kernel
theorem dX9_init_182 : decode cX9_init 182 = .ok (.getfield 26, 3) := by decide +kernel
theorem dX9_init_185 : decode cX9_init 185 = .ok (.getfield 95, 3) := by decide +kernel
theorem dX9_init_188 : decode cX9_init 188 = .ok (.invokevirtual 99, 3) := by decide +kernel
theorem dX9_init_191 : decode cX9_init 191 = .ok (.pop, 1) := by decide +kernel
theorem dX9_init_192 : decode cX9_init 192 = .ok (.return_, 1) := by decide +kernel
theorem dX9_write_0 : decode cX9_write 0 = .ok (.iload_n 1, 1) := by decide +kernel
theorem dX9_write_1 : decode cX9_write 1 = .ok (.iconst 1, 1) := by decide +kernel
theorem dX9_write_2 : decode cX9_write 2 = .ok (.bipush 8, 2) := by decide +kernel
theorem dX9_write_4 : decode cX9_write 4 = .ok (.invokestatic 103, 3) := by decide +kernel
theorem dX9_write_7 : decode cX9_write 7 = .ok (.ifCond .ne 5, 3) := by decide +kernel
theorem dX9_write_10 : decode cX9_write 10 = .ok (.iconst (-1), 1) := by decide +kernel
theorem dX9_write_11 : decode cX9_write 11 = .ok (.ireturn, 1) := by decide +kernel
theorem dX9_write_12 : decode cX9_write 12 = .ok (.aload_n 0, 1) := by decide +kernel
theorem dX9_write_13 : decode cX9_write 13 = .ok (.getfield 10, 3) := by decide +kernel
theorem dX9_write_16 : decode cX9_write 16 = .ok (.iload_n 1, 1) := by decide +kernel
theorem dX9_write_17 : decode cX9_write 17 = .ok (.lload_n 2, 1) := by decide +kernel
theorem dX9_write_18 : decode cX9_write 18 = .ok (.invokevirtual 106, 3) := by decide +kernel
theorem dX9_write_21 : decode cX9_write 21 = .ok (.ifCond .eq 13, 3) := by decide +kernel
theorem dX9_write_24 : decode cX9_write 24 = .ok (.aload_n 0, 1) := by decide +kernel
theorem dX9_write_25 : decode cX9_write 25 = .ok (.getfield 10, 3) := by decide +kernel
theorem dX9_write_28 : decode cX9_write 28 = .ok (.getfield 110, 3) := by decide +kernel
theorem dX9_write_31 : decode cX9_write 31 = .ok (.goto 5, 3) := by decide +kernel
theorem dX9_write_34 : decode cX9_write 34 = .ok (.bipush (-3), 2) := by decide +kernel
theorem dX9_write_36 : decode cX9_write 36 = .ok (.ireturn, 1) := by decide +kernel
theorem dX9_wipe_0 : decode cX9_wipe 0 = .ok (.aload_n 0, 1) := by decide +kernel
theorem dX9_wipe_1 : decode cX9_wipe 1 = .ok (.getfield 10, 3) := by decide +kernel
theorem dX9_wipe_4 : decode cX9_wipe 4 = .ok (.getfield 110, 3) := by decide +kernel
theorem dX9_wipe_7 : decode cX9_wipe 7 = .ok (.istore_n 1, 1) := by decide +kernel
theorem dX9_wipe_8 : decode cX9_wipe 8 = .ok (.aload_n 0, 1) := by decide +kernel
theorem dX9_wipe_9 : decode cX9_wipe 9 = .ok (.getfield 10, 3) := by decide +kernel
theorem dX9_wipe_12 : decode cX9_wipe 12 = .ok (.iconst 0, 1) := by decide +kernel
theorem dX9_wipe_13 : decode cX9_wipe 13 = .ok (.putfield 110, 3) := by decide +kernel
theorem dX9_wipe_16 : decode cX9_wipe 16 = .ok (.iload_n 1, 1) := by decide +kernel
theorem dX9_wipe_17 : decode cX9_wipe 17 = .ok (.ireturn, 1) := by decide +kernel
theorem dX9_fault_0 : decode cX9_fault 0 = .ok (.aload_n 0, 1) := by decide +kernel
theorem dX9_fault_1 : decode cX9_fault 1 = .ok (.getfield 19, 3) := by decide +kernel
theorem dX9_fault_4 : decode cX9_fault 4 = .ok (.aload_n 0, 1) := by decide +kernel
theorem dX9_fault_5 : decode cX9_fault 5 = .ok (.getfield 10, 3) := by decide +kernel
theorem dX9_fault_8 : decode cX9_fault 8 = .ok (.aload_n 0, 1) := by decide +kernel
theorem dX9_fault_9 : decode cX9_fault 9 = .ok (.getfield 30, 3) := by decide +kernel
theorem dX9_fault_12 : decode cX9_fault 12 = .ok (.invokevirtual 113, 3) := by decide +kernel
theorem dX9_fault_15 : decode cX9_fault 15 = .ok (.ireturn, 1) := by decide +kernel
theorem dX9_lay_0 : decode cX9_lay 0 = .ok (.aload_n 0, 1) := by decide +kernel
theorem dX9_lay_1 : decode cX9_lay 1 = .ok (.getfield 19, 3) := by decide +kernel
theorem dX9_lay_4 : decode cX9_lay 4 = .ok (.aload_n 0, 1) := by decide +kernel
theorem dX9_lay_5 : decode cX9_lay 5 = .ok (.getfield 10, 3) := by decide +kernel
theorem dX9_lay_8 : decode cX9_lay 8 = .ok (.aload_n 0, 1) := by decide +kernel
theorem dX9_lay_9 : decode cX9_lay 9 = .ok (.getfield 30, 3) := by decide +kernel
theorem dX9_lay_12 : decode cX9_lay 12 = .ok (.invokevirtual 113, 3) := by decide +kernel
theorem dX9_lay_15 : decode cX9_lay 15 = .ok (.bipush (-4), 2) := by decide +kernel
theorem dX9_lay_17 : decode cX9_lay 17 = .ok (.if_icmp .ne 16, 3) := by decide +kernel
theorem dX9_lay_20 : decode cX9_lay 20 = .ok (.aload_n 0, 1) := by decide +kernel
theorem dX9_lay_21 : decode cX9_lay 21 = .ok (.getfield 30, 3) := by decide +kernel
theorem dX9_lay_24 : decode cX9_lay 24 = .ok (.getfield 83, 3) := by decide +kernel
theorem dX9_lay_27 : decode cX9_lay 27 = .ok (.getfield 117, 3) := by decide +kernel
theorem dX9_lay_30 : decode cX9_lay 30 = .ok (.ifCond .ne 6, 3) := by decide +kernel
theorem dX9_lay_33 : decode cX9_lay 33 = .ok (.bipush (-2), 2) := by decide +kernel
theorem dX9_lay_35 : decode cX9_lay 35 = .ok (.ireturn, 1) := by decide +kernel
theorem dX9_lay_36 : decode cX9_lay 36 = .ok (.aload_n 0, 1) := by decide +kernel
theorem dX9_lay_37 : decode cX9_lay 37 = .ok (.getfield 26, 3) := by decide +kernel
theorem dX9_lay_40 : decode cX9_lay 40 = .ok (.astore_n 1, 1) := by decide +kernel
theorem dX9_lay_41 : decode cX9_lay 41 = .ok (.aload_n 0, 1) := by decide +kernel
theorem dX9_lay_42 : decode cX9_lay 42 = .ok (.aload_n 0, 1) := by decide +kernel
theorem dX9_lay_43 : decode cX9_lay 43 = .ok (.getfield 30, 3) := by decide +kernel
theorem dX9_lay_46 : decode cX9_lay 46 = .ok (.putfield 26, 3) := by decide +kernel
theorem dX9_lay_49 : decode cX9_lay 49 = .ok (.aload_n 0, 1) := by decide +kernel
theorem dX9_lay_50 : decode cX9_lay 50 = .ok (.aload_n 1, 1) := by decide +kernel
theorem dX9_lay_51 : decode cX9_lay 51 = .ok (.putfield 30, 3) := by decide +kernel
theorem dX9_lay_54 : decode cX9_lay 54 = .ok (.aload_n 0, 1) := by decide +kernel
theorem dX9_lay_55 : decode cX9_lay 55 = .ok (.getfield 36, 3) := by decide +kernel
theorem dX9_lay_58 : decode cX9_lay 58 = .ok (.aload_n 0, 1) := by decide +kernel
theorem dX9_lay_59 : decode cX9_lay 59 = .ok (.getfield 26, 3) := by decide +kernel
theorem dX9_lay_62 : decode cX9_lay 62 = .ok (.aload_n 0, 1) := by decide +kernel
theorem dX9_lay_63 : decode cX9_lay 63 = .ok (.getfield 26, 3) := by decide +kernel
theorem dX9_lay_66 : decode cX9_lay 66 = .ok (.getfield 95, 3) := by decide +kernel
theorem dX9_lay_69 : decode cX9_lay 69 = .ok (.invokevirtual 99, 3) := by decide +kernel
theorem dX9_lay_72 : decode cX9_lay 72 = .ok (.pop, 1) := by decide +kernel
theorem dX9_lay_73 : decode cX9_lay 73 = .ok (.aload_n 0, 1) := by decide +kernel
theorem dX9_lay_74 : decode cX9_lay 74 = .ok (.getfield 69, 3) := by decide +kernel
theorem dX9_lay_77 : decode cX9_lay 77 = .ok (.iconst 0, 1) := by decide +kernel
theorem dX9_lay_78 : decode cX9_lay 78 = .ok (.invokestatic 119, 3) := by decide +kernel
theorem dX9_lay_81 : decode cX9_lay 81 = .ok (.aload_n 0, 1) := by decide +kernel
theorem dX9_lay_82 : decode cX9_lay 82 = .ok (.iconst 0, 1) := by decide +kernel
theorem dX9_lay_83 : decode cX9_lay 83 = .ok (.putfield 125, 3) := by decide +kernel
theorem dX9_lay_86 : decode cX9_lay 86 = .ok (.aload_n 0, 1) := by decide +kernel
theorem dX9_lay_87 : decode cX9_lay 87 = .ok (.getfield 76, 3) := by decide +kernel
theorem dX9_lay_90 : decode cX9_lay 90 = .ok (.iconst 0, 1) := by decide +kernel
theorem dX9_lay_91 : decode cX9_lay 91 = .ok (.putfield 128, 3) := by decide +kernel
theorem dX9_lay_94 : decode cX9_lay 94 = .ok (.aload_n 0, 1) := by decide +kernel
theorem dX9_lay_95 : decode cX9_lay 95 = .ok (.iconst 0, 1) := by decide +kernel
theorem dX9_lay_96 : decode cX9_lay 96 = .ok (.putfield 131, 3) := by decide +kernel
theorem dX9_lay_99 : decode cX9_lay 99 = .ok (.aload_n 0, 1) := by decide +kernel
theorem dX9_lay_100 : decode cX9_lay 100 = .ok (.invokevirtual 135, 3) := by decide +kernel
theorem dX9_lay_103 : decode cX9_lay 103 = .ok (.aload_n 0, 1) := by decide +kernel
theorem dX9_lay_104 : decode cX9_lay 104 = .ok (.getfield 26, 3) := by decide +kernel
theorem dX9_lay_107 : decode cX9_lay 107 = .ok (.getfield 83, 3) := by decide +kernel
theorem dX9_lay_110 : decode cX9_lay 110 = .ok (.getfield 138, 3) := by decide +kernel
theorem dX9_lay_113 : decode cX9_lay 113 = .ok (.ireturn, 1) := by decide +kernel
theorem dX9_giver_0 : decode cX9_giver 0 = .ok (.aload_n 0, 1) := by decide +kernel
theorem dX9_giver_1 : decode cX9_giver 1 = .ok (.iload_n 1, 1) := by decide +kernel
theorem dX9_giver_2 : decode cX9_giver 2 = .ok (.invokevirtual 141, 3) := by decide +kernel
theorem dX9_giver_5 : decode cX9_giver 5 = .ok (.ifCond .eq 12, 3) := by decide +kernel
theorem dX9_giver_8 : decode cX9_giver 8 = .ok (.iload_n 2, 1) := by decide +kernel
theorem dX9_giver_9 : decode cX9_giver 9 = .ok (.iconst 0, 1) := by decide +kernel
theorem dX9_giver_10 : decode cX9_giver 10 = .ok (.iconst 3, 1) := by decide +kernel
theorem dX9_giver_11 : decode cX9_giver 11 = .ok (.invokestatic 103, 3) := by decide +kernel
theorem dX9_giver_14 : decode cX9_giver 14 = .ok (.ifCond .ne 5, 3) := by decide +kernel
theorem dX9_giver_17 : decode cX9_giver 17 = .ok (.iconst (-1), 1) := by decide +kernel
theorem dX9_giver_18 : decode cX9_giver 18 = .ok (.ireturn, 1) := by decide +kernel
theorem dX9_giver_19 : decode cX9_giver 19 = .ok (.aload_n 0, 1) := by decide +kernel
theorem dX9_giver_20 : decode cX9_giver 20 = .ok (.getfield 36, 3) := by decide +kernel
theorem dX9_giver_23 : decode cX9_giver 23 = .ok (.iload_n 1, 1) := by decide +kernel
theorem dX9_giver_24 : decode cX9_giver 24 = .ok (.invokevirtual 145, 3) := by decide +kernel
theorem dX9_giver_27 : decode cX9_giver 27 = .ok (.istore_n 3, 1) := by decide +kernel
theorem dX9_giver_28 : decode cX9_giver 28 = .ok (.iload_n 2, 1) := by decide +kernel
theorem dX9_giver_29 : decode cX9_giver 29 = .ok (.tableswitch 83 0 2 #[27, 39, 62], 27) := by decide +kernel
theorem dX9_giver_56 : decode cX9_giver 56 = .ok (.aload_n 0, 1) := by decide +kernel
theorem dX9_giver_57 : decode cX9_giver 57 = .ok (.getfield 26, 3) := by decide +kernel
theorem dX9_giver_60 : decode cX9_giver 60 = .ok (.getfield 83, 3) := by decide +kernel
theorem dX9_giver_63 : decode cX9_giver 63 = .ok (.iload_n 1, 1) := by decide +kernel
theorem dX9_giver_64 : decode cX9_giver 64 = .ok (.invokevirtual 149, 3) := by decide +kernel
theorem dX9_giver_67 : decode cX9_giver 67 = .ok (.ireturn, 1) := by decide +kernel
theorem dX9_giver_68 : decode cX9_giver 68 = .ok (.aload_n 0, 1) := by decide +kernel
theorem dX9_giver_69 : decode cX9_giver 69 = .ok (.getfield 26, 3) := by decide +kernel
theorem dX9_giver_72 : decode cX9_giver 72 = .ok (.getfield 83, 3) := by decide +kernel
theorem dX9_giver_75 : decode cX9_giver 75 = .ok (.getfield 152, 3) := by decide +kernel
theorem dX9_giver_78 : decode cX9_giver 78 = .ok (.aload_n 0, 1) := by decide +kernel
theorem dX9_giver_79 : decode cX9_giver 79 = .ok (.getfield 26, 3) := by decide +kernel
theorem dX9_giver_82 : decode cX9_giver 82 = .ok (.getfield 83, 3) := by decide +kernel
theorem dX9_giver_85 : decode cX9_giver 85 = .ok (.iload_n 1, 1) := by decide +kernel
theorem dX9_giver_86 : decode cX9_giver 86 = .ok (.invokevirtual 149, 3) := by decide +kernel
theorem dX9_giver_89 : decode cX9_giver 89 = .ok (.iaload, 1) := by decide +kernel
theorem dX9_giver_90 : decode cX9_giver 90 = .ok (.ireturn, 1) := by decide +kernel
theorem dX9_giver_91 : decode cX9_giver 91 = .ok (.iload_n 3, 1) := by decide +kernel
theorem dX9_giver_92 : decode cX9_giver 92 = .ok (.bipush (-4), 2) := by decide +kernel
theorem dX9_giver_94 : decode cX9_giver 94 = .ok (.if_icmp .ne 8, 3) := by decide +kernel
theorem dX9_giver_97 : decode cX9_giver 97 = .ok (.bipush (-4), 2) := by decide +kernel
theorem dX9_giver_99 : decode cX9_giver 99 = .ok (.goto 12, 3) := by decide +kernel
theorem dX9_giver_102 : decode cX9_giver 102 = .ok (.aload_n 0, 1) := by decide +kernel
theorem dX9_giver_103 : decode cX9_giver 103 = .ok (.getfield 36, 3) := by decide +kernel
theorem dX9_giver_106 : decode cX9_giver 106 = .ok (.getfield 155, 3) := by decide +kernel
theorem dX9_giver_109 : decode cX9_giver 109 = .ok (.iload_n 3, 1) := by decide +kernel
theorem dX9_giver_110 : decode cX9_giver 110 = .ok (.iaload, 1) := by decide +kernel
theorem dX9_giver_111 : decode cX9_giver 111 = .ok (.ireturn, 1) := by decide +kernel
theorem dX9_giver_112 : decode cX9_giver 112 = .ok (.iload_n 3, 1) := by decide +kernel
theorem dX9_giver_113 : decode cX9_giver 113 = .ok (.ireturn, 1) := by decide +kernel
theorem dX9_show_0 : decode cX9_show 0 = .ok (.iload_n 1, 1) := by decide +kernel
theorem dX9_show_1 : decode cX9_show 1 = .ok (.iconst 0, 1) := by decide +kernel
theorem dX9_show_2 : decode cX9_show 2 = .ok (.iconst 2, 1) := by decide +kernel
theorem dX9_show_3 : decode cX9_show 3 = .ok (.invokestatic 103, 3) := by decide +kernel
theorem dX9_show_6 : decode cX9_show 6 = .ok (.ifCond .ne 5, 3) := by decide +kernel
theorem dX9_show_9 : decode cX9_show 9 = .ok (.iconst (-1), 1) := by decide +kernel
theorem dX9_show_10 : decode cX9_show 10 = .ok (.ireturn, 1) := by decide +kernel
theorem dX9_show_11 : decode cX9_show 11 = .ok (.aload_n 0, 1) := by decide +kernel
theorem dX9_show_12 : decode cX9_show 12 = .ok (.getfield 125, 3) := by decide +kernel
theorem dX9_show_15 : decode cX9_show 15 = .ok (.istore_n 2, 1) := by decide +kernel
theorem dX9_show_16 : decode cX9_show 16 = .ok (.aload_n 0, 1) := by decide +kernel
theorem dX9_show_17 : decode cX9_show 17 = .ok (.iload_n 1, 1) := by decide +kernel
theorem dX9_show_18 : decode cX9_show 18 = .ok (.putfield 125, 3) := by decide +kernel
theorem dX9_show_21 : decode cX9_show 21 = .ok (.aload_n 0, 1) := by decide +kernel
theorem dX9_show_22 : decode cX9_show 22 = .ok (.invokevirtual 135, 3) := by decide +kernel
theorem dX9_show_25 : decode cX9_show 25 = .ok (.iload_n 2, 1) := by decide +kernel
theorem dX9_show_26 : decode cX9_show 26 = .ok (.ireturn, 1) := by decide +kernel
theorem dX9_odds_0 : decode cX9_odds 0 = .ok (.iload_n 1, 1) := by decide +kernel
theorem dX9_odds_1 : decode cX9_odds 1 = .ok (.iconst 0, 1) := by decide +kernel
theorem dX9_odds_2 : decode cX9_odds 2 = .ok (.iconst 2, 1) := by decide +kernel
theorem dX9_odds_3 : decode cX9_odds 3 = .ok (.invokestatic 103, 3) := by decide +kernel
theorem dX9_odds_6 : decode cX9_odds 6 = .ok (.ifCond .ne 7, 3) := by decide +kernel
theorem dX9_odds_9 : decode cX9_odds 9 = .ok (.ldc2_w 158, 3) := by decide +kernel
theorem dX9_odds_12 : decode cX9_odds 12 = .ok (.lreturn, 1) := by decide +kernel
theorem dX9_odds_13 : decode cX9_odds 13 = .ok (.aload_n 0, 1) := by decide +kernel
theorem dX9_odds_14 : decode cX9_odds 14 = .ok (.invokevirtual 160, 3) := by decide +kernel
theorem dX9_odds_17 : decode cX9_odds 17 = .ok (.getfield 164, 3) := by decide +kernel
theorem dX9_odds_20 : decode cX9_odds 20 = .ok (.lstore_n 2, 1) := by decide +kernel
theorem dX9_odds_21 : decode cX9_odds 21 = .ok (.iload_n 1, 1) := by decide +kernel
theorem dX9_odds_22 : decode cX9_odds 22 = .ok (.ifCond .ne 5, 3) := by decide +kernel
theorem dX9_odds_25 : decode cX9_odds 25 = .ok (.lload_n 2, 1) := by decide +kernel
theorem dX9_odds_26 : decode cX9_odds 26 = .ok (.lreturn, 1) := by decide +kernel
theorem dX9_odds_27 : decode cX9_odds 27 = .ok (.aload_n 0, 1) := by decide +kernel
theorem dX9_odds_28 : decode cX9_odds 28 = .ok (.getfield 36, 3) := by decide +kernel
theorem dX9_odds_31 : decode cX9_odds 31 = .ok (.invokevirtual 168, 3) := by decide +kernel
theorem dX9_odds_34 : decode cX9_odds 34 = .ok (.lstore 4, 2) := by decide +kernel
theorem dX9_odds_36 : decode cX9_odds 36 = .ok (.lload_n 2, 1) := by decide +kernel
theorem dX9_odds_37 : decode cX9_odds 37 = .ok (.lload 4, 2) := by decide +kernel
theorem dX9_odds_39 : decode cX9_odds 39 = .ok (.invokestatic 172, 3) := by decide +kernel
theorem dX9_odds_42 : decode cX9_odds 42 = .ok (.lstore 6, 2) := by decide +kernel
theorem dX9_odds_44 : decode cX9_odds 44 = .ok (.iload_n 1, 1) := by decide +kernel
theorem dX9_odds_45 : decode cX9_odds 45 = .ok (.iconst 1, 1) := by decide +kernel
theorem dX9_odds_46 : decode cX9_odds 46 = .ok (.if_icmp .ne 7, 3) := by decide +kernel
theorem dX9_odds_49 : decode cX9_odds 49 = .ok (.lload_n 2, 1) := by decide +kernel
theorem dX9_odds_50 : decode cX9_odds 50 = .ok (.goto 5, 3) := by decide +kernel
theorem dX9_odds_53 : decode cX9_odds 53 = .ok (.lload 4, 2) := by decide +kernel
theorem dX9_odds_55 : decode cX9_odds 55 = .ok (.lload 6, 2) := by decide +kernel
theorem dX9_odds_57 : decode cX9_odds 57 = .ok (.ldiv, 1) := by decide +kernel
theorem dX9_odds_58 : decode cX9_odds 58 = .ok (.lreturn, 1) := by decide +kernel
theorem dX9_mean_0 : decode cX9_mean 0 = .ok (.aload_n 0, 1) := by decide +kernel
theorem dX9_mean_1 : decode cX9_mean 1 = .ok (.iload_n 1, 1) := by decide +kernel
theorem dX9_mean_2 : decode cX9_mean 2 = .ok (.invokevirtual 141, 3) := by decide +kernel
theorem dX9_mean_5 : decode cX9_mean 5 = .ok (.ifCond .eq 12, 3) := by decide +kernel
theorem dX9_mean_8 : decode cX9_mean 8 = .ok (.iload_n 2, 1) := by decide +kernel
theorem dX9_mean_9 : decode cX9_mean 9 = .ok (.iconst 0, 1) := by decide +kernel
theorem dX9_mean_10 : decode cX9_mean 10 = .ok (.iconst 1, 1) := by decide +kernel
theorem dX9_mean_11 : decode cX9_mean 11 = .ok (.invokestatic 103, 3) := by decide +kernel
theorem dX9_mean_14 : decode cX9_mean 14 = .ok (.ifCond .ne 7, 3) := by decide +kernel
theorem dX9_mean_17 : decode cX9_mean 17 = .ok (.ldc2_w 178, 3) := by decide +kernel
theorem dX9_mean_20 : decode cX9_mean 20 = .ok (.lreturn, 1) := by decide +kernel
theorem dX9_mean_21 : decode cX9_mean 21 = .ok (.aload_n 0, 1) := by decide +kernel
theorem dX9_mean_22 : decode cX9_mean 22 = .ok (.getfield 36, 3) := by decide +kernel
theorem dX9_mean_25 : decode cX9_mean 25 = .ok (.iload_n 1, 1) := by decide +kernel
theorem dX9_mean_26 : decode cX9_mean 26 = .ok (.invokevirtual 145, 3) := by decide +kernel
theorem dX9_mean_29 : decode cX9_mean 29 = .ok (.istore_n 3, 1) := by decide +kernel
theorem dX9_mean_30 : decode cX9_mean 30 = .ok (.iload_n 3, 1) := by decide +kernel
theorem dX9_mean_31 : decode cX9_mean 31 = .ok (.bipush (-4), 2) := by decide +kernel
theorem dX9_mean_33 : decode cX9_mean 33 = .ok (.if_icmp .ne 7, 3) := by decide +kernel
theorem dX9_mean_36 : decode cX9_mean 36 = .ok (.ldc2_w 180, 3) := by decide +kernel
theorem dX9_mean_39 : decode cX9_mean 39 = .ok (.lreturn, 1) := by decide +kernel
theorem dX9_mean_40 : decode cX9_mean 40 = .ok (.aload_n 0, 1) := by decide +kernel
theorem dX9_mean_41 : decode cX9_mean 41 = .ok (.invokevirtual 160, 3) := by decide +kernel
theorem dX9_mean_44 : decode cX9_mean 44 = .ok (.astore 4, 2) := by decide +kernel
theorem dX9_mean_46 : decode cX9_mean 46 = .ok (.iload_n 2, 1) := by decide +kernel
theorem dX9_mean_47 : decode cX9_mean 47 = .ok (.ifCond .ne 13, 3) := by decide +kernel
theorem dX9_mean_50 : decode cX9_mean 50 = .ok (.aload 4, 2) := by decide +kernel
theorem dX9_mean_52 : decode cX9_mean 52 = .ok (.getfield 182, 3) := by decide +kernel
theorem dX9_mean_55 : decode cX9_mean 55 = .ok (.iload_n 3, 1) := by decide +kernel
theorem dX9_mean_56 : decode cX9_mean 56 = .ok (.laload, 1) := by decide +kernel
theorem dX9_mean_57 : decode cX9_mean 57 = .ok (.goto 10, 3) := by decide +kernel
theorem dX9_mean_60 : decode cX9_mean 60 = .ok (.aload 4, 2) := by decide +kernel
theorem dX9_mean_62 : decode cX9_mean 62 = .ok (.getfield 186, 3) := by decide +kernel
theorem dX9_mean_65 : decode cX9_mean 65 = .ok (.iload_n 3, 1) := by decide +kernel
theorem dX9_mean_66 : decode cX9_mean 66 = .ok (.laload, 1) := by decide +kernel
theorem dX9_mean_67 : decode cX9_mean 67 = .ok (.lreturn, 1) := by decide +kernel
theorem dX9_wrong_0 : decode cX9_wrong 0 = .ok (.iload_n 1, 1) := by decide +kernel
theorem dX9_wrong_1 : decode cX9_wrong 1 = .ok (.iconst 0, 1) := by decide +kernel
theorem dX9_wrong_2 : decode cX9_wrong 2 = .ok (.iconst 1, 1) := by decide +kernel
theorem dX9_wrong_3 : decode cX9_wrong 3 = .ok (.invokestatic 103, 3) := by decide +kernel
theorem dX9_wrong_6 : decode cX9_wrong 6 = .ok (.ifCond .ne 7, 3) := by decide +kernel
theorem dX9_wrong_9 : decode cX9_wrong 9 = .ok (.ldc2_w 158, 3) := by decide +kernel
theorem dX9_wrong_12 : decode cX9_wrong 12 = .ok (.lreturn, 1) := by decide +kernel
theorem dX9_wrong_13 : decode cX9_wrong 13 = .ok (.aload_n 0, 1) := by decide +kernel
theorem dX9_wrong_14 : decode cX9_wrong 14 = .ok (.invokevirtual 160, 3) := by decide +kernel
theorem dX9_wrong_17 : decode cX9_wrong 17 = .ok (.astore_n 2, 1) := by decide +kernel
theorem dX9_wrong_18 : decode cX9_wrong 18 = .ok (.iload_n 1, 1) := by decide +kernel
theorem dX9_wrong_19 : decode cX9_wrong 19 = .ok (.ifCond .ne 10, 3) := by decide +kernel
theorem dX9_wrong_22 : decode cX9_wrong 22 = .ok (.aload_n 2, 1) := by decide +kernel
theorem dX9_wrong_23 : decode cX9_wrong 23 = .ok (.getfield 189, 3) := by decide +kernel
theorem dX9_wrong_26 : decode cX9_wrong 26 = .ok (.goto 7, 3) := by decide +kernel
theorem dX9_wrong_29 : decode cX9_wrong 29 = .ok (.aload_n 2, 1) := by decide +kernel
theorem dX9_wrong_30 : decode cX9_wrong 30 = .ok (.getfield 192, 3) := by decide +kernel
theorem dX9_wrong_33 : decode cX9_wrong 33 = .ok (.lreturn, 1) := by decide +kernel
theorem dX9_row_0 : decode cX9_row 0 = .ok (.aload_n 0, 1) := by decide +kernel
theorem dX9_row_1 : decode cX9_row 1 = .ok (.iload_n 1, 1) := by decide +kernel
theorem dX9_row_2 : decode cX9_row 2 = .ok (.invokevirtual 141, 3) := by decide +kernel
theorem dX9_row_5 : decode cX9_row 5 = .ok (.ifCond .eq 13, 3) := by decide +kernel
theorem dX9_row_8 : decode cX9_row 8 = .ok (.iload_n 2, 1) := by decide +kernel
theorem dX9_row_9 : decode cX9_row 9 = .ok (.iconst 0, 1) := by decide +kernel
theorem dX9_row_10 : decode cX9_row 10 = .ok (.bipush 30, 2) := by decide +kernel
theorem dX9_row_12 : decode cX9_row 12 = .ok (.invokestatic 103, 3) := by decide +kernel
theorem dX9_row_15 : decode cX9_row 15 = .ok (.ifCond .ne 5, 3) := by decide +kernel
theorem dX9_row_18 : decode cX9_row 18 = .ok (.iconst (-1), 1) := by decide +kernel
theorem dX9_row_19 : decode cX9_row 19 = .ok (.ireturn, 1) := by decide +kernel
theorem dX9_row_20 : decode cX9_row 20 = .ok (.aload_n 0, 1) := by decide +kernel
theorem dX9_row_21 : decode cX9_row 21 = .ok (.getfield 69, 3) := by decide +kernel
theorem dX9_row_24 : decode cX9_row 24 = .ok (.iload_n 1, 1) := by decide +kernel
theorem dX9_row_25 : decode cX9_row 25 = .ok (.iaload, 1) := by decide +kernel
theorem dX9_row_26 : decode cX9_row 26 = .ok (.istore_n 3, 1) := by decide +kernel
theorem dX9_row_27 : decode cX9_row 27 = .ok (.aload_n 0, 1) := by decide +kernel
theorem dX9_row_28 : decode cX9_row 28 = .ok (.getfield 69, 3) := by decide +kernel
theorem dX9_row_31 : decode cX9_row 31 = .ok (.iload_n 1, 1) := by decide +kernel
theorem dX9_row_32 : decode cX9_row 32 = .ok (.iload_n 2, 1) := by decide +kernel
theorem dX9_row_33 : decode cX9_row 33 = .ok (.iastore, 1) := by decide +kernel
theorem dX9_row_34 : decode cX9_row 34 = .ok (.iload_n 3, 1) := by decide +kernel
theorem dX9_row_35 : decode cX9_row 35 = .ok (.ireturn, 1) := by decide +kernel
theorem dX9_judge_0 : decode cX9_judge 0 = .ok (.aload_n 0, 1) := by decide +kernel
theorem dX9_judge_1 : decode cX9_judge 1 = .ok (.invokevirtual 195, 3) := by decide +kernel
theorem dX9_judge_4 : decode cX9_judge 4 = .ok (.iconst 0, 1) := by decide +kernel
theorem dX9_judge_5 : decode cX9_judge 5 = .ok (.istore_n 1, 1) := by decide +kernel
theorem dX9_judge_6 : decode cX9_judge 6 = .ok (.iconst 0, 1) := by decide +kernel
theorem dX9_judge_7 : decode cX9_judge 7 = .ok (.istore_n 2, 1) := by decide +kernel
theorem dX9_judge_8 : decode cX9_judge 8 = .ok (.iload_n 2, 1) := by decide +kernel
theorem dX9_judge_9 : decode cX9_judge 9 = .ok (.aload_n 0, 1) := by decide +kernel
theorem dX9_judge_10 : decode cX9_judge 10 = .ok (.getfield 36, 3) := by decide +kernel
theorem dX9_judge_13 : decode cX9_judge 13 = .ok (.getfield 198, 3) := by decide +kernel
theorem dX9_judge_16 : decode cX9_judge 16 = .ok (.if_icmp .ge 57, 3) := by decide +kernel
theorem dX9_judge_19 : decode cX9_judge 19 = .ok (.aload_n 0, 1) := by decide +kernel
theorem dX9_judge_20 : decode cX9_judge 20 = .ok (.getfield 36, 3) := by decide +kernel
theorem dX9_judge_23 : decode cX9_judge 23 = .ok (.getfield 199, 3) := by decide +kernel
theorem dX9_judge_26 : decode cX9_judge 26 = .ok (.iload_n 2, 1) := by decide +kernel
theorem dX9_judge_27 : decode cX9_judge 27 = .ok (.iaload, 1) := by decide +kernel
theorem dX9_judge_28 : decode cX9_judge 28 = .ok (.istore_n 3, 1) := by decide +kernel
theorem dX9_judge_29 : decode cX9_judge 29 = .ok (.aload_n 0, 1) := by decide +kernel
theorem dX9_judge_30 : decode cX9_judge 30 = .ok (.getfield 46, 3) := by decide +kernel
theorem dX9_judge_33 : decode cX9_judge 33 = .ok (.iload_n 2, 1) := by decide +kernel
theorem dX9_judge_34 : decode cX9_judge 34 = .ok (.aload_n 0, 1) := by decide +kernel
theorem dX9_judge_35 : decode cX9_judge 35 = .ok (.getfield 36, 3) := by decide +kernel
theorem dX9_judge_38 : decode cX9_judge 38 = .ok (.getfield 202, 3) := by decide +kernel
theorem dX9_judge_41 : decode cX9_judge 41 = .ok (.iload_n 2, 1) := by decide +kernel
theorem dX9_judge_42 : decode cX9_judge 42 = .ok (.iaload, 1) := by decide +kernel
theorem dX9_judge_43 : decode cX9_judge 43 = .ok (.iload_n 1, 1) := by decide +kernel
theorem dX9_judge_44 : decode cX9_judge 44 = .ok (.invokevirtual 205, 3) := by decide +kernel
theorem dX9_judge_47 : decode cX9_judge 47 = .ok (.aload_n 0, 1) := by decide +kernel
theorem dX9_judge_48 : decode cX9_judge 48 = .ok (.getfield 69, 3) := by decide +kernel
theorem dX9_judge_51 : decode cX9_judge 51 = .ok (.iload_n 3, 1) := by decide +kernel
theorem dX9_judge_52 : decode cX9_judge 52 = .ok (.iaload, 1) := by decide +kernel
theorem dX9_judge_53 : decode cX9_judge 53 = .ok (.if_icmp .eq 5, 3) := by decide +kernel
theorem dX9_judge_56 : decode cX9_judge 56 = .ok (.iload_n 3, 1) := by decide +kernel
theorem dX9_judge_57 : decode cX9_judge 57 = .ok (.ireturn, 1) := by decide +kernel
theorem dX9_judge_58 : decode cX9_judge 58 = .ok (.iload_n 1, 1) := by decide +kernel
theorem dX9_judge_59 : decode cX9_judge 59 = .ok (.aload_n 0, 1) := by decide +kernel
theorem dX9_judge_60 : decode cX9_judge 60 = .ok (.getfield 69, 3) := by decide +kernel
theorem dX9_judge_63 : decode cX9_judge 63 = .ok (.iload_n 3, 1) := by decide +kernel
theorem dX9_judge_64 : decode cX9_judge 64 = .ok (.iaload, 1) := by decide +kernel
theorem dX9_judge_65 : decode cX9_judge 65 = .ok (.iadd, 1) := by decide +kernel
theorem dX9_judge_66 : decode cX9_judge 66 = .ok (.istore_n 1, 1) := by decide +kernel
theorem dX9_judge_67 : decode cX9_judge 67 = .ok (.iinc 2 1, 3) := by decide +kernel
theorem dX9_judge_70 : decode cX9_judge 70 = .ok (.goto (-62), 3) := by decide +kernel
theorem dX9_judge_73 : decode cX9_judge 73 = .ok (.bipush (-4), 2) := by decide +kernel
theorem dX9_judge_75 : decode cX9_judge 75 = .ok (.ireturn, 1) := by decide +kernel
theorem dX9_made_0 : decode cX9_made 0 = .ok (.iload_n 1, 1) := by decide +kernel
theorem dX9_made_1 : decode cX9_made 1 = .ok (.iconst 0, 1) := by decide +kernel
theorem dX9_made_2 : decode cX9_made 2 = .ok (.iconst 1, 1) := by decide +kernel
theorem dX9_made_3 : decode cX9_made 3 = .ok (.invokestatic 103, 3) := by decide +kernel
theorem dX9_made_6 : decode cX9_made 6 = .ok (.ifCond .ne 5, 3) := by decide +kernel
theorem dX9_made_9 : decode cX9_made 9 = .ok (.iconst (-1), 1) := by decide +kernel
theorem dX9_made_10 : decode cX9_made 10 = .ok (.ireturn, 1) := by decide +kernel
theorem dX9_made_11 : decode cX9_made 11 = .ok (.iconst 0, 1) := by decide +kernel
theorem dX9_made_12 : decode cX9_made 12 = .ok (.istore_n 2, 1) := by decide +kernel
theorem dX9_made_13 : decode cX9_made 13 = .ok (.iconst 0, 1) := by decide +kernel
theorem dX9_made_14 : decode cX9_made 14 = .ok (.istore_n 3, 1) := by decide +kernel
theorem dX9_made_15 : decode cX9_made 15 = .ok (.iconst 0, 1) := by decide +kernel
theorem dX9_made_16 : decode cX9_made 16 = .ok (.istore 4, 2) := by decide +kernel
theorem dX9_made_18 : decode cX9_made 18 = .ok (.iload 4, 2) := by decide +kernel
theorem dX9_made_20 : decode cX9_made 20 = .ok (.aload_n 0, 1) := by decide +kernel
theorem dX9_made_21 : decode cX9_made 21 = .ok (.getfield 36, 3) := by decide +kernel
theorem dX9_made_24 : decode cX9_made 24 = .ok (.getfield 198, 3) := by decide +kernel
theorem dX9_made_27 : decode cX9_made 27 = .ok (.if_icmp .ge 39, 3) := by decide +kernel
theorem dX9_made_30 : decode cX9_made 30 = .ok (.aload_n 0, 1) := by decide +kernel
theorem dX9_made_31 : decode cX9_made 31 = .ok (.getfield 69, 3) := by decide +kernel
theorem dX9_made_34 : decode cX9_made 34 = .ok (.aload_n 0, 1) := by decide +kernel
theorem dX9_made_35 : decode cX9_made 35 = .ok (.getfield 36, 3) := by decide +kernel
theorem dX9_made_38 : decode cX9_made 38 = .ok (.getfield 199, 3) := by decide +kernel
theorem dX9_made_41 : decode cX9_made 41 = .ok (.iload 4, 2) := by decide +kernel
theorem dX9_made_43 : decode cX9_made 43 = .ok (.iaload, 1) := by decide +kernel
theorem dX9_made_44 : decode cX9_made 44 = .ok (.iaload, 1) := by decide +kernel
theorem dX9_made_45 : decode cX9_made 45 = .ok (.istore 5, 2) := by decide +kernel
theorem dX9_made_47 : decode cX9_made 47 = .ok (.iload_n 2, 1) := by decide +kernel
theorem dX9_made_48 : decode cX9_made 48 = .ok (.iload 5, 2) := by decide +kernel
theorem dX9_made_50 : decode cX9_made 50 = .ok (.iadd, 1) := by decide +kernel
theorem dX9_made_51 : decode cX9_made 51 = .ok (.istore_n 2, 1) := by decide +kernel
theorem dX9_made_52 : decode cX9_made 52 = .ok (.iload 5, 2) := by decide +kernel
theorem dX9_made_54 : decode cX9_made 54 = .ok (.ifCond .le 6, 3) := by decide +kernel
theorem dX9_made_57 : decode cX9_made 57 = .ok (.iinc 3 1, 3) := by decide +kernel
theorem dX9_made_60 : decode cX9_made 60 = .ok (.iinc 4 1, 3) := by decide +kernel
theorem dX9_made_63 : decode cX9_made 63 = .ok (.goto (-45), 3) := by decide +kernel
theorem dX9_made_66 : decode cX9_made 66 = .ok (.iload_n 1, 1) := by decide +kernel
theorem dX9_made_67 : decode cX9_made 67 = .ok (.ifCond .ne 5, 3) := by decide +kernel
theorem dX9_made_70 : decode cX9_made 70 = .ok (.iload_n 2, 1) := by decide +kernel
theorem dX9_made_71 : decode cX9_made 71 = .ok (.ireturn, 1) := by decide +kernel
theorem dX9_made_72 : decode cX9_made 72 = .ok (.iload_n 2, 1) := by decide +kernel
theorem dX9_made_73 : decode cX9_made 73 = .ok (.aload_n 0, 1) := by decide +kernel
theorem dX9_made_74 : decode cX9_made 74 = .ok (.getfield 26, 3) := by decide +kernel
theorem dX9_made_77 : decode cX9_made 77 = .ok (.getfield 209, 3) := by decide +kernel
theorem dX9_made_80 : decode cX9_made 80 = .ok (.if_icmp .lt 18, 3) := by decide +kernel
theorem dX9_made_83 : decode cX9_made 83 = .ok (.iload_n 3, 1) := by decide +kernel
theorem dX9_made_84 : decode cX9_made 84 = .ok (.aload_n 0, 1) := by decide +kernel
theorem dX9_made_85 : decode cX9_made 85 = .ok (.getfield 26, 3) := by decide +kernel
theorem dX9_made_88 : decode cX9_made 88 = .ok (.getfield 212, 3) := by decide +kernel
theorem dX9_made_91 : decode cX9_made 91 = .ok (.if_icmp .lt 7, 3) := by decide +kernel
theorem dX9_made_94 : decode cX9_made 94 = .ok (.iconst 1, 1) := by decide +kernel
theorem dX9_made_95 : decode cX9_made 95 = .ok (.goto 4, 3) := by decide +kernel
theorem dX9_made_98 : decode cX9_made 98 = .ok (.iconst 0, 1) := by decide +kernel
theorem dX9_made_99 : decode cX9_made 99 = .ok (.ireturn, 1) := by decide +kernel
theorem dX9_just_0 : decode cX9_just 0 = .ok (.iload_n 1, 1) := by decide +kernel
theorem dX9_just_1 : decode cX9_just 1 = .ok (.iconst (-1), 1) := by decide +kernel
theorem dX9_just_2 : decode cX9_just 2 = .ok (.if_icmp .eq 28, 3) := by decide +kernel
theorem dX9_just_5 : decode cX9_just 5 = .ok (.aload_n 0, 1) := by decide +kernel
theorem dX9_just_6 : decode cX9_just 6 = .ok (.iload_n 1, 1) := by decide +kernel
theorem dX9_just_7 : decode cX9_just 7 = .ok (.invokevirtual 141, 3) := by decide +kernel
theorem dX9_just_10 : decode cX9_just 10 = .ok (.ifCond .eq 16, 3) := by decide +kernel
theorem dX9_just_13 : decode cX9_just 13 = .ok (.aload_n 0, 1) := by decide +kernel
theorem dX9_just_14 : decode cX9_just 14 = .ok (.getfield 36, 3) := by decide +kernel
theorem dX9_just_17 : decode cX9_just 17 = .ok (.iload_n 1, 1) := by decide +kernel
theorem dX9_just_18 : decode cX9_just 18 = .ok (.invokevirtual 145, 3) := by decide +kernel
theorem dX9_just_21 : decode cX9_just 21 = .ok (.bipush (-4), 2) := by decide +kernel
theorem dX9_just_23 : decode cX9_just 23 = .ok (.if_icmp .ne 7, 3) := by decide +kernel
theorem dX9_just_26 : decode cX9_just 26 = .ok (.ldc2_w 158, 3) := by decide +kernel
theorem dX9_just_29 : decode cX9_just 29 = .ok (.lreturn, 1) := by decide +kernel
theorem dX9_just_30 : decode cX9_just 30 = .ok (.aload_n 0, 1) := by decide +kernel
theorem dX9_just_31 : decode cX9_just 31 = .ok (.getfield 63, 3) := by decide +kernel
theorem dX9_just_34 : decode cX9_just 34 = .ok (.aload_n 0, 1) := by decide +kernel
theorem dX9_just_35 : decode cX9_just 35 = .ok (.getfield 26, 3) := by decide +kernel
theorem dX9_just_38 : decode cX9_just 38 = .ok (.aload_n 0, 1) := by decide +kernel
theorem dX9_just_39 : decode cX9_just 39 = .ok (.getfield 36, 3) := by decide +kernel
theorem dX9_just_42 : decode cX9_just 42 = .ok (.invokevirtual 215, 3) := by decide +kernel
theorem dX9_just_45 : decode cX9_just 45 = .ok (.aload_n 0, 1) := by decide +kernel
theorem dX9_just_46 : decode cX9_just 46 = .ok (.getfield 63, 3) := by decide +kernel
theorem dX9_just_49 : decode cX9_just 49 = .ok (.invokevirtual 219, 3) := by decide +kernel
theorem dX9_just_52 : decode cX9_just 52 = .ok (.lstore_n 2, 1) := by decide +kernel
theorem dX9_just_53 : decode cX9_just 53 = .ok (.iload_n 1, 1) := by decide +kernel
theorem dX9_just_54 : decode cX9_just 54 = .ok (.iconst (-1), 1) := by decide +kernel
theorem dX9_just_55 : decode cX9_just 55 = .ok (.if_icmp .ne 5, 3) := by decide +kernel
theorem dX9_just_58 : decode cX9_just 58 = .ok (.lload_n 2, 1) := by decide +kernel
theorem dX9_just_59 : decode cX9_just 59 = .ok (.lreturn, 1) := by decide +kernel
theorem dX9_just_60 : decode cX9_just 60 = .ok (.lload_n 2, 1) := by decide +kernel
theorem dX9_just_61 : decode cX9_just 61 = .ok (.lconst 0, 1) := by decide +kernel
theorem dX9_just_62 : decode cX9_just 62 = .ok (.lcmp, 1) := by decide +kernel
theorem dX9_just_63 : decode cX9_just 63 = .ok (.ifCond .ne 9, 3) := by decide +kernel
theorem dX9_just_66 : decode cX9_just 66 = .ok (.ldc2_w 180, 3) := by decide +kernel
theorem dX9_just_69 : decode cX9_just 69 = .ok (.goto 12, 3) := by decide +kernel
theorem dX9_just_72 : decode cX9_just 72 = .ok (.aload_n 0, 1) := by decide +kernel
theorem dX9_just_73 : decode cX9_just 73 = .ok (.getfield 63, 3) := by decide +kernel
theorem dX9_just_76 : decode cX9_just 76 = .ok (.iload_n 1, 1) := by decide +kernel
theorem dX9_just_77 : decode cX9_just 77 = .ok (.invokevirtual 222, 3) := by decide +kernel
theorem dX9_just_80 : decode cX9_just 80 = .ok (.i2l, 1) := by decide +kernel
theorem dX9_just_81 : decode cX9_just 81 = .ok (.lreturn, 1) := by decide +kernel
theorem dX9_fails_0 : decode cX9_fails 0 = .ok (.aload_n 0, 1) := by decide +kernel
theorem dX9_fails_1 : decode cX9_fails 1 = .ok (.getfield 131, 3) := by decide +kernel
theorem dX9_fails_4 : decode cX9_fails 4 = .ok (.ifCond .ne 34, 3) := by decide +kernel
theorem dX9_fails_7 : decode cX9_fails 7 = .ok (.aload_n 0, 1) := by decide +kernel
theorem dX9_fails_8 : decode cX9_fails 8 = .ok (.getfield 63, 3) := by decide +kernel
theorem dX9_fails_11 : decode cX9_fails 11 = .ok (.aload_n 0, 1) := by decide +kernel
theorem dX9_fails_12 : decode cX9_fails 12 = .ok (.getfield 26, 3) := by decide +kernel
theorem dX9_fails_15 : decode cX9_fails 15 = .ok (.aload_n 0, 1) := by decide +kernel
theorem dX9_fails_16 : decode cX9_fails 16 = .ok (.getfield 36, 3) := by decide +kernel
theorem dX9_fails_19 : decode cX9_fails 19 = .ok (.invokevirtual 215, 3) := by decide +kernel
theorem dX9_fails_22 : decode cX9_fails 22 = .ok (.aload_n 0, 1) := by decide +kernel
theorem dX9_fails_23 : decode cX9_fails 23 = .ok (.aload_n 0, 1) := by decide +kernel
theorem dX9_fails_24 : decode cX9_fails 24 = .ok (.getfield 63, 3) := by decide +kernel
theorem dX9_fails_27 : decode cX9_fails 27 = .ok (.invokevirtual 225, 3) := by decide +kernel
theorem dX9_fails_30 : decode cX9_fails 30 = .ok (.putfield 228, 3) := by decide +kernel
theorem dX9_fails_33 : decode cX9_fails 33 = .ok (.aload_n 0, 1) := by decide +kernel
theorem dX9_fails_34 : decode cX9_fails 34 = .ok (.iconst 1, 1) := by decide +kernel
theorem dX9_fails_35 : decode cX9_fails 35 = .ok (.putfield 131, 3) := by decide +kernel
theorem dX9_fails_38 : decode cX9_fails 38 = .ok (.aload_n 0, 1) := by decide +kernel
theorem dX9_fails_39 : decode cX9_fails 39 = .ok (.getfield 228, 3) := by decide +kernel
theorem dX9_fails_42 : decode cX9_fails 42 = .ok (.lreturn, 1) := by decide +kernel
theorem dX9_bestBar_0 : decode cX9_bestBar 0 = .ok (.iload_n 1, 1) := by decide +kernel
theorem dX9_bestBar_1 : decode cX9_bestBar 1 = .ok (.iconst 0, 1) := by decide +kernel
theorem dX9_bestBar_2 : decode cX9_bestBar 2 = .ok (.iconst 1, 1) := by decide +kernel
theorem dX9_bestBar_3 : decode cX9_bestBar 3 = .ok (.invokestatic 103, 3) := by decide +kernel
theorem dX9_bestBar_6 : decode cX9_bestBar 6 = .ok (.ifCond .ne 7, 3) := by decide +kernel
theorem dX9_bestBar_9 : decode cX9_bestBar 9 = .ok (.ldc2_w 158, 3) := by decide +kernel
theorem dX9_bestBar_12 : decode cX9_bestBar 12 = .ok (.lreturn, 1) := by decide +kernel
theorem dX9_bestBar_13 : decode cX9_bestBar 13 = .ok (.aload_n 0, 1) := by decide +kernel
theorem dX9_bestBar_14 : decode cX9_bestBar 14 = .ok (.getfield 231, 3) := by decide +kernel
theorem dX9_bestBar_17 : decode cX9_bestBar 17 = .ok (.ifCond .ne 12, 3) := by decide +kernel
theorem dX9_bestBar_20 : decode cX9_bestBar 20 = .ok (.aload_n 0, 1) := by decide +kernel
theorem dX9_bestBar_21 : decode cX9_bestBar 21 = .ok (.invokevirtual 234, 3) := by decide +kernel
theorem dX9_bestBar_24 : decode cX9_bestBar 24 = .ok (.aload_n 0, 1) := by decide +kernel
theorem dX9_bestBar_25 : decode cX9_bestBar 25 = .ok (.iconst 1, 1) := by decide +kernel
theorem dX9_bestBar_26 : decode cX9_bestBar 26 = .ok (.putfield 231, 3) := by decide +kernel
theorem dX9_bestBar_29 : decode cX9_bestBar 29 = .ok (.iload_n 1, 1) := by decide +kernel
theorem dX9_bestBar_30 : decode cX9_bestBar 30 = .ok (.ifCond .ne 11, 3) := by decide +kernel
theorem dX9_bestBar_33 : decode cX9_bestBar 33 = .ok (.aload_n 0, 1) := by decide +kernel
theorem dX9_bestBar_34 : decode cX9_bestBar 34 = .ok (.getfield 237, 3) := by decide +kernel
theorem dX9_bestBar_37 : decode cX9_bestBar 37 = .ok (.i2l, 1) := by decide +kernel
theorem dX9_bestBar_38 : decode cX9_bestBar 38 = .ok (.goto 7, 3) := by decide +kernel
theorem dX9_bestBar_41 : decode cX9_bestBar 41 = .ok (.aload_n 0, 1) := by decide +kernel
theorem dX9_bestBar_42 : decode cX9_bestBar 42 = .ok (.getfield 240, 3) := by decide +kernel
theorem dX9_bestBar_45 : decode cX9_bestBar 45 = .ok (.lreturn, 1) := by decide +kernel
theorem dX9_bestDay_0 : decode cX9_bestDay 0 = .ok (.iconst 0, 1) := by decide +kernel
theorem dX9_bestDay_1 : decode cX9_bestDay 1 = .ok (.istore_n 1, 1) := by decide +kernel
theorem dX9_bestDay_2 : decode cX9_bestDay 2 = .ok (.ldc2_w 158, 3) := by decide +kernel
theorem dX9_bestDay_5 : decode cX9_bestDay 5 = .ok (.lstore_n 2, 1) := by decide +kernel
theorem dX9_bestDay_6 : decode cX9_bestDay 6 = .ok (.iconst 0, 1) := by decide +kernel
theorem dX9_bestDay_7 : decode cX9_bestDay 7 = .ok (.istore 4, 2) := by decide +kernel
theorem dX9_bestDay_9 : decode cX9_bestDay 9 = .ok (.iload 4, 2) := by decide +kernel
theorem dX9_bestDay_11 : decode cX9_bestDay 11 = .ok (.bipush 30, 2) := by decide +kernel
theorem dX9_bestDay_13 : decode cX9_bestDay 13 = .ok (.if_icmp .gt 98, 3) := by decide +kernel
theorem dX9_bestDay_16 : decode cX9_bestDay 16 = .ok (.aload_n 0, 1) := by decide +kernel
theorem dX9_bestDay_17 : decode cX9_bestDay 17 = .ok (.getfield 40, 3) := by decide +kernel
theorem dX9_bestDay_20 : decode cX9_bestDay 20 = .ok (.aload_n 0, 1) := by decide +kernel
theorem dX9_bestDay_21 : decode cX9_bestDay 21 = .ok (.getfield 26, 3) := by decide +kernel
theorem dX9_bestDay_24 : decode cX9_bestDay 24 = .ok (.iload 4, 2) := by decide +kernel
theorem dX9_bestDay_26 : decode cX9_bestDay 26 = .ok (.invokevirtual 99, 3) := by decide +kernel
theorem dX9_bestDay_29 : decode cX9_bestDay 29 = .ok (.istore 5, 2) := by decide +kernel
theorem dX9_bestDay_31 : decode cX9_bestDay 31 = .ok (.iload 4, 2) := by decide +kernel
theorem dX9_bestDay_33 : decode cX9_bestDay 33 = .ok (.ifCond .le 11, 3) := by decide +kernel
theorem dX9_bestDay_36 : decode cX9_bestDay 36 = .ok (.iload 5, 2) := by decide +kernel
theorem dX9_bestDay_38 : decode cX9_bestDay 38 = .ok (.ifCond .ne 6, 3) := by decide +kernel
theorem dX9_bestDay_41 : decode cX9_bestDay 41 = .ok (.goto 64, 3) := by decide +kernel
theorem dX9_bestDay_44 : decode cX9_bestDay 44 = .ok (.aload_n 0, 1) := by decide +kernel
theorem dX9_bestDay_45 : decode cX9_bestDay 45 = .ok (.getfield 46, 3) := by decide +kernel
theorem dX9_bestDay_48 : decode cX9_bestDay 48 = .ok (.aload_n 0, 1) := by decide +kernel
theorem dX9_bestDay_49 : decode cX9_bestDay 49 = .ok (.getfield 26, 3) := by decide +kernel
theorem dX9_bestDay_52 : decode cX9_bestDay 52 = .ok (.aload_n 0, 1) := by decide +kernel
theorem dX9_bestDay_53 : decode cX9_bestDay 53 = .ok (.getfield 40, 3) := by decide +kernel
theorem dX9_bestDay_56 : decode cX9_bestDay 56 = .ok (.aload_n 0, 1) := by decide +kernel
theorem dX9_bestDay_57 : decode cX9_bestDay 57 = .ok (.getfield 125, 3) := by decide +kernel
theorem dX9_bestDay_60 : decode cX9_bestDay 60 = .ok (.invokevirtual 243, 3) := by decide +kernel
theorem dX9_bestDay_63 : decode cX9_bestDay 63 = .ok (.aload_n 0, 1) := by decide +kernel
theorem dX9_bestDay_64 : decode cX9_bestDay 64 = .ok (.getfield 57, 3) := by decide +kernel
theorem dX9_bestDay_67 : decode cX9_bestDay 67 = .ok (.aload_n 0, 1) := by decide +kernel
theorem dX9_bestDay_68 : decode cX9_bestDay 68 = .ok (.getfield 46, 3) := by decide +kernel
theorem dX9_bestDay_71 : decode cX9_bestDay 71 = .ok (.iconst 0, 1) := by decide +kernel
theorem dX9_bestDay_72 : decode cX9_bestDay 72 = .ok (.invokevirtual 247, 3) := by decide +kernel
theorem dX9_bestDay_75 : decode cX9_bestDay 75 = .ok (.aload_n 0, 1) := by decide +kernel
theorem dX9_bestDay_76 : decode cX9_bestDay 76 = .ok (.getfield 57, 3) := by decide +kernel
theorem dX9_bestDay_79 : decode cX9_bestDay 79 = .ok (.getfield 164, 3) := by decide +kernel
theorem dX9_bestDay_82 : decode cX9_bestDay 82 = .ok (.aload_n 0, 1) := by decide +kernel
theorem dX9_bestDay_83 : decode cX9_bestDay 83 = .ok (.getfield 40, 3) := by decide +kernel
theorem dX9_bestDay_86 : decode cX9_bestDay 86 = .ok (.invokevirtual 251, 3) := by decide +kernel
theorem dX9_bestDay_89 : decode cX9_bestDay 89 = .ok (.lmul, 1) := by decide +kernel
theorem dX9_bestDay_90 : decode cX9_bestDay 90 = .ok (.lstore 6, 2) := by decide +kernel
theorem dX9_bestDay_92 : decode cX9_bestDay 92 = .ok (.lload 6, 2) := by decide +kernel
theorem dX9_bestDay_94 : decode cX9_bestDay 94 = .ok (.lload_n 2, 1) := by decide +kernel
theorem dX9_bestDay_95 : decode cX9_bestDay 95 = .ok (.lcmp, 1) := by decide +kernel
theorem dX9_bestDay_96 : decode cX9_bestDay 96 = .ok (.ifCond .le 9, 3) := by decide +kernel
theorem dX9_bestDay_99 : decode cX9_bestDay 99 = .ok (.lload 6, 2) := by decide +kernel
theorem dX9_bestDay_101 : decode cX9_bestDay 101 = .ok (.lstore_n 2, 1) := by decide +kernel
theorem dX9_bestDay_102 : decode cX9_bestDay 102 = .ok (.iload 4, 2) := by decide +kernel
theorem dX9_bestDay_104 : decode cX9_bestDay 104 = .ok (.istore_n 1, 1) := by decide +kernel
theorem dX9_bestDay_105 : decode cX9_bestDay 105 = .ok (.iinc 4 1, 3) := by decide +kernel
theorem dX9_bestDay_108 : decode cX9_bestDay 108 = .ok (.goto (-99), 3) := by decide +kernel
theorem dX9_bestDay_111 : decode cX9_bestDay 111 = .ok (.iload_n 1, 1) := by decide +kernel
theorem dX9_bestDay_112 : decode cX9_bestDay 112 = .ok (.ireturn, 1) := by decide +kernel
theorem dX9_extra_0 : decode cX9_extra 0 = .ok (.iload_n 1, 1) := by decide +kernel
theorem dX9_extra_1 : decode cX9_extra 1 = .ok (.iconst 0, 1) := by decide +kernel
theorem dX9_extra_2 : decode cX9_extra 2 = .ok (.bipush 10, 2) := by decide +kernel
theorem dX9_extra_4 : decode cX9_extra 4 = .ok (.invokestatic 103, 3) := by decide +kernel
theorem dX9_extra_7 : decode cX9_extra 7 = .ok (.ifCond .ne 5, 3) := by decide +kernel
theorem dX9_extra_10 : decode cX9_extra 10 = .ok (.iconst (-1), 1) := by decide +kernel
theorem dX9_extra_11 : decode cX9_extra 11 = .ok (.ireturn, 1) := by decide +kernel
theorem dX9_extra_12 : decode cX9_extra 12 = .ok (.iconst 0, 1) := by decide +kernel
theorem dX9_extra_13 : decode cX9_extra 13 = .ok (.istore_n 2, 1) := by decide +kernel
theorem dX9_extra_14 : decode cX9_extra 14 = .ok (.iload_n 2, 1) := by decide +kernel
theorem dX9_extra_15 : decode cX9_extra 15 = .ok (.bipush 9, 2) := by decide +kernel
theorem dX9_extra_17 : decode cX9_extra 17 = .ok (.if_icmp .gt 60, 3) := by decide +kernel
theorem dX9_extra_20 : decode cX9_extra 20 = .ok (.aload_n 0, 1) := by decide +kernel
theorem dX9_extra_21 : decode cX9_extra 21 = .ok (.invokevirtual 195, 3) := by decide +kernel
theorem dX9_extra_24 : decode cX9_extra 24 = .ok (.aload_n 0, 1) := by decide +kernel
theorem dX9_extra_25 : decode cX9_extra 25 = .ok (.getfield 46, 3) := by decide +kernel
theorem dX9_extra_28 : decode cX9_extra 28 = .ok (.iload_n 2, 1) := by decide +kernel
theorem dX9_extra_29 : decode cX9_extra 29 = .ok (.putfield 254, 3) := by decide +kernel
theorem dX9_extra_32 : decode cX9_extra 32 = .ok (.aload_n 0, 1) := by decide +kernel
theorem dX9_extra_33 : decode cX9_extra 33 = .ok (.getfield 57, 3) := by decide +kernel
theorem dX9_extra_36 : decode cX9_extra 36 = .ok (.aload_n 0, 1) := by decide +kernel
theorem dX9_extra_37 : decode cX9_extra 37 = .ok (.getfield 46, 3) := by decide +kernel
theorem dX9_extra_40 : decode cX9_extra 40 = .ok (.iconst 0, 1) := by decide +kernel
theorem dX9_extra_41 : decode cX9_extra 41 = .ok (.invokevirtual 247, 3) := by decide +kernel
theorem dX9_extra_44 : decode cX9_extra 44 = .ok (.aload_n 0, 1) := by decide +kernel
theorem dX9_extra_45 : decode cX9_extra 45 = .ok (.getfield 57, 3) := by decide +kernel
theorem dX9_extra_48 : decode cX9_extra 48 = .ok (.getfield 164, 3) := by decide +kernel
theorem dX9_extra_51 : decode cX9_extra 51 = .ok (.ldc2_w 257, 3) := by decide +kernel
theorem dX9_extra_54 : decode cX9_extra 54 = .ok (.lmul, 1) := by decide +kernel
theorem dX9_extra_55 : decode cX9_extra 55 = .ok (.iload_n 1, 1) := by decide +kernel
theorem dX9_extra_56 : decode cX9_extra 56 = .ok (.i2l, 1) := by decide +kernel
theorem dX9_extra_57 : decode cX9_extra 57 = .ok (.aload_n 0, 1) := by decide +kernel
theorem dX9_extra_58 : decode cX9_extra 58 = .ok (.getfield 36, 3) := by decide +kernel
theorem dX9_extra_61 : decode cX9_extra 61 = .ok (.invokevirtual 168, 3) := by decide +kernel
theorem dX9_extra_64 : decode cX9_extra 64 = .ok (.lmul, 1) := by decide +kernel
theorem dX9_extra_65 : decode cX9_extra 65 = .ok (.lcmp, 1) := by decide +kernel
theorem dX9_extra_66 : decode cX9_extra 66 = .ok (.ifCond .lt 5, 3) := by decide +kernel
theorem dX9_extra_69 : decode cX9_extra 69 = .ok (.iload_n 2, 1) := by decide +kernel
theorem dX9_extra_70 : decode cX9_extra 70 = .ok (.ireturn, 1) := by decide +kernel
theorem dX9_extra_71 : decode cX9_extra 71 = .ok (.iinc 2 1, 3) := by decide +kernel
theorem dX9_extra_74 : decode cX9_extra 74 = .ok (.goto (-60), 3) := by decide +kernel
theorem dX9_extra_77 : decode cX9_extra 77 = .ok (.bipush (-4), 2) := by decide +kernel
theorem dX9_extra_79 : decode cX9_extra 79 = .ok (.ireturn, 1) := by decide +kernel
theorem dX9_bestShow_0 : decode cX9_bestShow 0 = .ok (.iconst 0, 1) := by decide +kernel
theorem dX9_bestShow_1 : decode cX9_bestShow 1 = .ok (.istore_n 1, 1) := by decide +kernel
theorem dX9_bestShow_2 : decode cX9_bestShow 2 = .ok (.ldc2_w 158, 3) := by decide +kernel
theorem dX9_bestShow_5 : decode cX9_bestShow 5 = .ok (.lstore_n 2, 1) := by decide +kernel
theorem dX9_bestShow_6 : decode cX9_bestShow 6 = .ok (.iconst 0, 1) := by decide +kernel
theorem dX9_bestShow_7 : decode cX9_bestShow 7 = .ok (.istore 4, 2) := by decide +kernel
theorem dX9_bestShow_9 : decode cX9_bestShow 9 = .ok (.iload 4, 2) := by decide +kernel
theorem dX9_bestShow_11 : decode cX9_bestShow 11 = .ok (.iconst 2, 1) := by decide +kernel
theorem dX9_bestShow_12 : decode cX9_bestShow 12 = .ok (.if_icmp .gt 61, 3) := by decide +kernel
theorem dX9_bestShow_15 : decode cX9_bestShow 15 = .ok (.aload_n 0, 1) := by decide +kernel
theorem dX9_bestShow_16 : decode cX9_bestShow 16 = .ok (.getfield 46, 3) := by decide +kernel
theorem dX9_bestShow_19 : decode cX9_bestShow 19 = .ok (.aload_n 0, 1) := by decide +kernel
theorem dX9_bestShow_20 : decode cX9_bestShow 20 = .ok (.getfield 26, 3) := by decide +kernel
theorem dX9_bestShow_23 : decode cX9_bestShow 23 = .ok (.aload_n 0, 1) := by decide +kernel
theorem dX9_bestShow_24 : decode cX9_bestShow 24 = .ok (.getfield 36, 3) := by decide +kernel
theorem dX9_bestShow_27 : decode cX9_bestShow 27 = .ok (.iload 4, 2) := by decide +kernel
theorem dX9_bestShow_29 : decode cX9_bestShow 29 = .ok (.invokevirtual 243, 3) := by decide +kernel
theorem dX9_bestShow_32 : decode cX9_bestShow 32 = .ok (.aload_n 0, 1) := by decide +kernel
theorem dX9_bestShow_33 : decode cX9_bestShow 33 = .ok (.getfield 57, 3) := by decide +kernel
theorem dX9_bestShow_36 : decode cX9_bestShow 36 = .ok (.aload_n 0, 1) := by decide +kernel
theorem dX9_bestShow_37 : decode cX9_bestShow 37 = .ok (.getfield 46, 3) := by decide +kernel
theorem dX9_bestShow_40 : decode cX9_bestShow 40 = .ok (.iconst 0, 1) := by decide +kernel
theorem dX9_bestShow_41 : decode cX9_bestShow 41 = .ok (.invokevirtual 247, 3) := by decide +kernel
theorem dX9_bestShow_44 : decode cX9_bestShow 44 = .ok (.aload_n 0, 1) := by decide +kernel
theorem dX9_bestShow_45 : decode cX9_bestShow 45 = .ok (.getfield 57, 3) := by decide +kernel
theorem dX9_bestShow_48 : decode cX9_bestShow 48 = .ok (.getfield 164, 3) := by decide +kernel
theorem dX9_bestShow_51 : decode cX9_bestShow 51 = .ok (.lload_n 2, 1) := by decide +kernel
theorem dX9_bestShow_52 : decode cX9_bestShow 52 = .ok (.lcmp, 1) := by decide +kernel
theorem dX9_bestShow_53 : decode cX9_bestShow 53 = .ok (.ifCond .le 14, 3) := by decide +kernel
theorem dX9_bestShow_56 : decode cX9_bestShow 56 = .ok (.aload_n 0, 1) := by decide +kernel
theorem dX9_bestShow_57 : decode cX9_bestShow 57 = .ok (.getfield 57, 3) := by decide +kernel
theorem dX9_bestShow_60 : decode cX9_bestShow 60 = .ok (.getfield 164, 3) := by decide +kernel
theorem dX9_bestShow_63 : decode cX9_bestShow 63 = .ok (.lstore_n 2, 1) := by decide +kernel
theorem dX9_bestShow_64 : decode cX9_bestShow 64 = .ok (.iload 4, 2) := by decide +kernel
theorem dX9_bestShow_66 : decode cX9_bestShow 66 = .ok (.istore_n 1, 1) := by decide +kernel
theorem dX9_bestShow_67 : decode cX9_bestShow 67 = .ok (.iinc 4 1, 3) := by decide +kernel
theorem dX9_bestShow_70 : decode cX9_bestShow 70 = .ok (.goto (-61), 3) := by decide +kernel
theorem dX9_bestShow_73 : decode cX9_bestShow 73 = .ok (.iload_n 1, 1) := by decide +kernel
theorem dX9_bestShow_74 : decode cX9_bestShow 74 = .ok (.ireturn, 1) := by decide +kernel
theorem dX9_rich_0 : decode cX9_rich 0 = .ok (.iload_n 1, 1) := by decide +kernel
theorem dX9_rich_1 : decode cX9_rich 1 = .ok (.iconst 0, 1) := by decide +kernel
theorem dX9_rich_2 : decode cX9_rich 2 = .ok (.bipush 99, 2) := by decide +kernel
theorem dX9_rich_4 : decode cX9_rich 4 = .ok (.invokestatic 103, 3) := by decide +kernel
theorem dX9_rich_7 : decode cX9_rich 7 = .ok (.ifCond .eq 18, 3) := by decide +kernel
theorem dX9_rich_10 : decode cX9_rich 10 = .ok (.iload_n 2, 1) := by decide +kernel
theorem dX9_rich_11 : decode cX9_rich 11 = .ok (.iconst 0, 1) := by decide +kernel
theorem dX9_rich_12 : decode cX9_rich 12 = .ok (.aload_n 0, 1) := by decide +kernel
theorem dX9_rich_13 : decode cX9_rich 13 = .ok (.getfield 26, 3) := by decide +kernel
theorem dX9_rich_16 : decode cX9_rich 16 = .ok (.getfield 95, 3) := by decide +kernel
theorem dX9_rich_19 : decode cX9_rich 19 = .ok (.invokestatic 103, 3) := by decide +kernel
theorem dX9_rich_22 : decode cX9_rich 22 = .ok (.ifCond .ne 7, 3) := by decide +kernel
theorem dX9_rich_25 : decode cX9_rich 25 = .ok (.ldc2_w 158, 3) := by decide +kernel
theorem dX9_rich_28 : decode cX9_rich 28 = .ok (.lreturn, 1) := by decide +kernel
theorem dX9_rich_29 : decode cX9_rich 29 = .ok (.aload_n 0, 1) := by decide +kernel
theorem dX9_rich_30 : decode cX9_rich 30 = .ok (.iload_n 1, 1) := by decide +kernel
theorem dX9_rich_31 : decode cX9_rich 31 = .ok (.aload_n 0, 1) := by decide +kernel
theorem dX9_rich_32 : decode cX9_rich 32 = .ok (.getfield 36, 3) := by decide +kernel
theorem dX9_rich_35 : decode cX9_rich 35 = .ok (.iload_n 2, 1) := by decide +kernel
theorem dX9_rich_36 : decode cX9_rich 36 = .ok (.invokevirtual 259, 3) := by decide +kernel
theorem dX9_rich_39 : decode cX9_rich 39 = .ok (.invokevirtual 262, 3) := by decide +kernel
theorem dX9_rich_42 : decode cX9_rich 42 = .ok (.lreturn, 1) := by decide +kernel
theorem dX9_richDay_0 : decode cX9_richDay 0 = .ok (.iload_n 1, 1) := by decide +kernel
theorem dX9_richDay_1 : decode cX9_richDay 1 = .ok (.iconst 0, 1) := by decide +kernel
theorem dX9_richDay_2 : decode cX9_richDay 2 = .ok (.bipush 99, 2) := by decide +kernel
theorem dX9_richDay_4 : decode cX9_richDay 4 = .ok (.invokestatic 103, 3) := by decide +kernel
theorem dX9_richDay_7 : decode cX9_richDay 7 = .ok (.ifCond .ne 5, 3) := by decide +kernel
theorem dX9_richDay_10 : decode cX9_richDay 10 = .ok (.iconst (-1), 1) := by decide +kernel
theorem dX9_richDay_11 : decode cX9_richDay 11 = .ok (.ireturn, 1) := by decide +kernel
theorem dX9_richDay_12 : decode cX9_richDay 12 = .ok (.iconst 0, 1) := by decide +kernel
theorem dX9_richDay_13 : decode cX9_richDay 13 = .ok (.istore_n 2, 1) := by decide +kernel
theorem dX9_richDay_14 : decode cX9_richDay 14 = .ok (.ldc2_w 158, 3) := by decide +kernel
theorem dX9_richDay_17 : decode cX9_richDay 17 = .ok (.lstore_n 3, 1) := by decide +kernel
theorem dX9_richDay_18 : decode cX9_richDay 18 = .ok (.iconst (-1), 1) := by decide +kernel
theorem dX9_richDay_19 : decode cX9_richDay 19 = .ok (.istore 5, 2) := by decide +kernel
theorem dX9_richDay_21 : decode cX9_richDay 21 = .ok (.iconst 0, 1) := by decide +kernel
theorem dX9_richDay_22 : decode cX9_richDay 22 = .ok (.istore 6, 2) := by decide +kernel
theorem dX9_richDay_24 : decode cX9_richDay 24 = .ok (.iload 6, 2) := by decide +kernel
theorem dX9_richDay_26 : decode cX9_richDay 26 = .ok (.aload_n 0, 1) := by decide +kernel
theorem dX9_richDay_27 : decode cX9_richDay 27 = .ok (.getfield 26, 3) := by decide +kernel
theorem dX9_richDay_30 : decode cX9_richDay 30 = .ok (.getfield 95, 3) := by decide +kernel
theorem dX9_richDay_33 : decode cX9_richDay 33 = .ok (.if_icmp .gt 56, 3) := by decide +kernel
theorem dX9_richDay_36 : decode cX9_richDay 36 = .ok (.aload_n 0, 1) := by decide +kernel
theorem dX9_richDay_37 : decode cX9_richDay 37 = .ok (.getfield 36, 3) := by decide +kernel
theorem dX9_richDay_40 : decode cX9_richDay 40 = .ok (.iload 6, 2) := by decide +kernel
theorem dX9_richDay_42 : decode cX9_richDay 42 = .ok (.invokevirtual 259, 3) := by decide +kernel
theorem dX9_richDay_45 : decode cX9_richDay 45 = .ok (.istore 7, 2) := by decide +kernel
theorem dX9_richDay_47 : decode cX9_richDay 47 = .ok (.iload 7, 2) := by decide +kernel
theorem dX9_richDay_49 : decode cX9_richDay 49 = .ok (.iload 5, 2) := by decide +kernel
theorem dX9_richDay_51 : decode cX9_richDay 51 = .ok (.if_icmp .ne 6, 3) := by decide +kernel
theorem dX9_richDay_54 : decode cX9_richDay 54 = .ok (.goto 29, 3) := by decide +kernel
theorem dX9_richDay_57 : decode cX9_richDay 57 = .ok (.iload 7, 2) := by decide +kernel
theorem dX9_richDay_59 : decode cX9_richDay 59 = .ok (.istore 5, 2) := by decide +kernel
theorem dX9_richDay_61 : decode cX9_richDay 61 = .ok (.aload_n 0, 1) := by decide +kernel
theorem dX9_richDay_62 : decode cX9_richDay 62 = .ok (.iload_n 1, 1) := by decide +kernel
theorem dX9_richDay_63 : decode cX9_richDay 63 = .ok (.iload 7, 2) := by decide +kernel
theorem dX9_richDay_65 : decode cX9_richDay 65 = .ok (.invokevirtual 262, 3) := by decide +kernel
theorem dX9_richDay_68 : decode cX9_richDay 68 = .ok (.lstore 8, 2) := by decide +kernel
theorem dX9_richDay_70 : decode cX9_richDay 70 = .ok (.lload 8, 2) := by decide +kernel
theorem dX9_richDay_72 : decode cX9_richDay 72 = .ok (.lload_n 3, 1) := by decide +kernel
theorem dX9_richDay_73 : decode cX9_richDay 73 = .ok (.lcmp, 1) := by decide +kernel
theorem dX9_richDay_74 : decode cX9_richDay 74 = .ok (.ifCond .le 9, 3) := by decide +kernel
theorem dX9_richDay_77 : decode cX9_richDay 77 = .ok (.lload 8, 2) := by decide +kernel
theorem dX9_richDay_79 : decode cX9_richDay 79 = .ok (.lstore_n 3, 1) := by decide +kernel
theorem dX9_richDay_80 : decode cX9_richDay 80 = .ok (.iload 6, 2) := by decide +kernel
theorem dX9_richDay_82 : decode cX9_richDay 82 = .ok (.istore_n 2, 1) := by decide +kernel
theorem dX9_richDay_83 : decode cX9_richDay 83 = .ok (.iinc 6 1, 3) := by decide +kernel
theorem dX9_richDay_86 : decode cX9_richDay 86 = .ok (.goto (-62), 3) := by decide +kernel
theorem dX9_richDay_89 : decode cX9_richDay 89 = .ok (.iload_n 2, 1) := by decide +kernel
theorem dX9_richDay_90 : decode cX9_richDay 90 = .ok (.ireturn, 1) := by decide +kernel
theorem dX9_two_0 : decode cX9_two 0 = .ok (.iload_n 1, 1) := by decide +kernel
theorem dX9_two_1 : decode cX9_two 1 = .ok (.iconst 0, 1) := by decide +kernel
theorem dX9_two_2 : decode cX9_two 2 = .ok (.iconst 2, 1) := by decide +kernel
theorem dX9_two_3 : decode cX9_two 3 = .ok (.invokestatic 103, 3) := by decide +kernel
theorem dX9_two_6 : decode cX9_two 6 = .ok (.ifCond .ne 7, 3) := by decide +kernel
theorem dX9_two_9 : decode cX9_two 9 = .ok (.ldc2_w 158, 3) := by decide +kernel
theorem dX9_two_12 : decode cX9_two 12 = .ok (.lreturn, 1) := by decide +kernel
theorem dX9_two_13 : decode cX9_two 13 = .ok (.aload_n 0, 1) := by decide +kernel
theorem dX9_two_14 : decode cX9_two 14 = .ok (.getfield 26, 3) := by decide +kernel
theorem dX9_two_17 : decode cX9_two 17 = .ok (.getfield 266, 3) := by decide +kernel
theorem dX9_two_20 : decode cX9_two 20 = .ok (.ifCond .ne 7, 3) := by decide +kernel
theorem dX9_two_23 : decode cX9_two 23 = .ok (.ldc2_w 269, 3) := by decide +kernel
theorem dX9_two_26 : decode cX9_two 26 = .ok (.lreturn, 1) := by decide +kernel
theorem dX9_two_27 : decode cX9_two 27 = .ok (.aload_n 0, 1) := by decide +kernel
theorem dX9_two_28 : decode cX9_two 28 = .ok (.invokevirtual 160, 3) := by decide +kernel
theorem dX9_two_31 : decode cX9_two 31 = .ok (.astore_n 2, 1) := by decide +kernel
theorem dX9_two_32 : decode cX9_two 32 = .ok (.iload_n 1, 1) := by decide +kernel
theorem dX9_two_33 : decode cX9_two 33 = .ok (.ifCond .ne 8, 3) := by decide +kernel
theorem dX9_two_36 : decode cX9_two 36 = .ok (.aload_n 2, 1) := by decide +kernel
theorem dX9_two_37 : decode cX9_two 37 = .ok (.getfield 164, 3) := by decide +kernel
theorem dX9_two_40 : decode cX9_two 40 = .ok (.lreturn, 1) := by decide +kernel
theorem dX9_two_41 : decode cX9_two 41 = .ok (.iload_n 1, 1) := by decide +kernel
theorem dX9_two_42 : decode cX9_two 42 = .ok (.iconst 1, 1) := by decide +kernel
theorem dX9_two_43 : decode cX9_two 43 = .ok (.if_icmp .ne 10, 3) := by decide +kernel
theorem dX9_two_46 : decode cX9_two 46 = .ok (.aload_n 2, 1) := by decide +kernel
theorem dX9_two_47 : decode cX9_two 47 = .ok (.getfield 271, 3) := by decide +kernel
theorem dX9_two_50 : decode cX9_two 50 = .ok (.goto 7, 3) := by decide +kernel
theorem dX9_two_53 : decode cX9_two 53 = .ok (.aload_n 2, 1) := by decide +kernel
theorem dX9_two_54 : decode cX9_two 54 = .ok (.getfield 274, 3) := by decide +kernel
theorem dX9_two_57 : decode cX9_two 57 = .ok (.lreturn, 1) := by decide +kernel
theorem dX9_evening_0 : decode cX9_evening 0 = .ok (.iload_n 1, 1) := by decide +kernel
theorem dX9_evening_1 : decode cX9_evening 1 = .ok (.iconst 0, 1) := by decide +kernel
theorem dX9_evening_2 : decode cX9_evening 2 = .ok (.sipush 9999, 3) := by decide +kernel
theorem dX9_evening_5 : decode cX9_evening 5 = .ok (.invokestatic 103, 3) := by decide +kernel
theorem dX9_evening_8 : decode cX9_evening 8 = .ok (.ifCond .eq 20, 3) := by decide +kernel
theorem dX9_evening_11 : decode cX9_evening 11 = .ok (.aload_n 0, 1) := by decide +kernel
theorem dX9_evening_12 : decode cX9_evening 12 = .ok (.iload_n 2, 1) := by decide +kernel
theorem dX9_evening_13 : decode cX9_evening 13 = .ok (.invokevirtual 141, 3) := by decide +kernel
theorem dX9_evening_16 : decode cX9_evening 16 = .ok (.ifCond .eq 12, 3) := by decide +kernel
theorem dX9_evening_19 : decode cX9_evening 19 = .ok (.iload_n 3, 1) := by decide +kernel
theorem dX9_evening_20 : decode cX9_evening 20 = .ok (.iconst 0, 1) := by decide +kernel
theorem dX9_evening_21 : decode cX9_evening 21 = .ok (.iconst 1, 1) := by decide +kernel
theorem dX9_evening_22 : decode cX9_evening 22 = .ok (.invokestatic 103, 3) := by decide +kernel
theorem dX9_evening_25 : decode cX9_evening 25 = .ok (.ifCond .ne 7, 3) := by decide +kernel
theorem dX9_evening_28 : decode cX9_evening 28 = .ok (.sipush (-1001), 3) := by decide +kernel
theorem dX9_evening_31 : decode cX9_evening 31 = .ok (.ireturn, 1) := by decide +kernel
theorem dX9_evening_32 : decode cX9_evening 32 = .ok (.aload_n 0, 1) := by decide +kernel
theorem dX9_evening_33 : decode cX9_evening 33 = .ok (.getfield 36, 3) := by decide +kernel
theorem dX9_evening_36 : decode cX9_evening 36 = .ok (.iload_n 2, 1) := by decide +kernel
theorem dX9_evening_37 : decode cX9_evening 37 = .ok (.invokevirtual 145, 3) := by decide +kernel
theorem dX9_evening_40 : decode cX9_evening 40 = .ok (.istore 4, 2) := by decide +kernel
theorem dX9_evening_42 : decode cX9_evening 42 = .ok (.iload 4, 2) := by decide +kernel
theorem dX9_evening_44 : decode cX9_evening 44 = .ok (.bipush (-4), 2) := by decide +kernel
theorem dX9_evening_46 : decode cX9_evening 46 = .ok (.if_icmp .ne 7, 3) := by decide +kernel
theorem dX9_evening_49 : decode cX9_evening 49 = .ok (.sipush (-1004), 3) := by decide +kernel
theorem dX9_evening_52 : decode cX9_evening 52 = .ok (.ireturn, 1) := by decide +kernel
theorem dX9_evening_53 : decode cX9_evening 53 = .ok (.aload_n 0, 1) := by decide +kernel
theorem dX9_evening_54 : decode cX9_evening 54 = .ok (.iload_n 1, 1) := by decide +kernel
theorem dX9_evening_55 : decode cX9_evening 55 = .ok (.invokevirtual 277, 3) := by decide +kernel
theorem dX9_evening_58 : decode cX9_evening 58 = .ok (.iload_n 3, 1) := by decide +kernel
theorem dX9_evening_59 : decode cX9_evening 59 = .ok (.ifCond .ne 16, 3) := by decide +kernel
theorem dX9_evening_62 : decode cX9_evening 62 = .ok (.aload_n 0, 1) := by decide +kernel
theorem dX9_evening_63 : decode cX9_evening 63 = .ok (.getfield 46, 3) := by decide +kernel
theorem dX9_evening_66 : decode cX9_evening 66 = .ok (.getfield 281, 3) := by decide +kernel
theorem dX9_evening_69 : decode cX9_evening 69 = .ok (.iload 4, 2) := by decide +kernel
theorem dX9_evening_71 : decode cX9_evening 71 = .ok (.iaload, 1) := by decide +kernel
theorem dX9_evening_72 : decode cX9_evening 72 = .ok (.goto 19, 3) := by decide +kernel
theorem dX9_evening_75 : decode cX9_evening 75 = .ok (.aload_n 0, 1) := by decide +kernel
theorem dX9_evening_76 : decode cX9_evening 76 = .ok (.getfield 46, 3) := by decide +kernel
theorem dX9_evening_79 : decode cX9_evening 79 = .ok (.iload 4, 2) := by decide +kernel
theorem dX9_evening_81 : decode cX9_evening 81 = .ok (.aload_n 0, 1) := by decide +kernel
theorem dX9_evening_82 : decode cX9_evening 82 = .ok (.iload_n 1, 1) := by decide +kernel
theorem dX9_evening_83 : decode cX9_evening 83 = .ok (.iload 4, 2) := by decide +kernel
theorem dX9_evening_85 : decode cX9_evening 85 = .ok (.invokevirtual 284, 3) := by decide +kernel
theorem dX9_evening_88 : decode cX9_evening 88 = .ok (.invokevirtual 288, 3) := by decide +kernel
theorem dX9_evening_91 : decode cX9_evening 91 = .ok (.ireturn, 1) := by decide +kernel
theorem dX9_whole_0 : decode cX9_whole 0 = .ok (.iload_n 1, 1) := by decide +kernel
theorem dX9_whole_1 : decode cX9_whole 1 = .ok (.iconst 0, 1) := by decide +kernel
theorem dX9_whole_2 : decode cX9_whole 2 = .ok (.sipush 9999, 3) := by decide +kernel
theorem dX9_whole_5 : decode cX9_whole 5 = .ok (.invokestatic 103, 3) := by decide +kernel
theorem dX9_whole_8 : decode cX9_whole 8 = .ok (.ifCond .eq 12, 3) := by decide +kernel
theorem dX9_whole_11 : decode cX9_whole 11 = .ok (.iload_n 2, 1) := by decide +kernel
theorem dX9_whole_12 : decode cX9_whole 12 = .ok (.iconst 0, 1) := by decide +kernel
theorem dX9_whole_13 : decode cX9_whole 13 = .ok (.iconst 1, 1) := by decide +kernel
theorem dX9_whole_14 : decode cX9_whole 14 = .ok (.invokestatic 103, 3) := by decide +kernel
theorem dX9_whole_17 : decode cX9_whole 17 = .ok (.ifCond .ne 5, 3) := by decide +kernel
theorem dX9_whole_20 : decode cX9_whole 20 = .ok (.iconst (-1), 1) := by decide +kernel
theorem dX9_whole_21 : decode cX9_whole 21 = .ok (.ireturn, 1) := by decide +kernel
theorem dX9_whole_22 : decode cX9_whole 22 = .ok (.aload_n 0, 1) := by decide +kernel
theorem dX9_whole_23 : decode cX9_whole 23 = .ok (.iload_n 1, 1) := by decide +kernel
theorem dX9_whole_24 : decode cX9_whole 24 = .ok (.invokevirtual 277, 3) := by decide +kernel
theorem dX9_whole_27 : decode cX9_whole 27 = .ok (.iload_n 2, 1) := by decide +kernel
theorem dX9_whole_28 : decode cX9_whole 28 = .ok (.ifCond .ne 19, 3) := by decide +kernel
theorem dX9_whole_31 : decode cX9_whole 31 = .ok (.aload_n 0, 1) := by decide +kernel
theorem dX9_whole_32 : decode cX9_whole 32 = .ok (.getfield 46, 3) := by decide +kernel
theorem dX9_whole_35 : decode cX9_whole 35 = .ok (.getfield 291, 3) := by decide +kernel
theorem dX9_whole_38 : decode cX9_whole 38 = .ok (.aload_n 0, 1) := by decide +kernel
theorem dX9_whole_39 : decode cX9_whole 39 = .ok (.getfield 36, 3) := by decide +kernel
theorem dX9_whole_42 : decode cX9_whole 42 = .ok (.getfield 198, 3) := by decide +kernel
theorem dX9_whole_45 : decode cX9_whole 45 = .ok (.iaload, 1) := by decide +kernel
theorem dX9_whole_46 : decode cX9_whole 46 = .ok (.ireturn, 1) := by decide +kernel
theorem dX9_whole_47 : decode cX9_whole 47 = .ok (.aload_n 0, 1) := by decide +kernel
theorem dX9_whole_48 : decode cX9_whole 48 = .ok (.getfield 46, 3) := by decide +kernel
theorem dX9_whole_51 : decode cX9_whole 51 = .ok (.invokevirtual 294, 3) := by decide +kernel
theorem dX9_whole_54 : decode cX9_whole 54 = .ok (.ifCond .eq 7, 3) := by decide +kernel
theorem dX9_whole_57 : decode cX9_whole 57 = .ok (.iconst 1, 1) := by decide +kernel
theorem dX9_whole_58 : decode cX9_whole 58 = .ok (.goto 4, 3) := by decide +kernel
theorem dX9_whole_61 : decode cX9_whole 61 = .ok (.iconst 0, 1) := by decide +kernel
theorem dX9_whole_62 : decode cX9_whole 62 = .ok (.ireturn, 1) := by decide +kernel
theorem dX9_keep_0 : decode cX9_keep 0 = .ok (.aload_n 0, 1) := by decide +kernel
theorem dX9_keep_1 : decode cX9_keep 1 = .ok (.getfield 76, 3) := by decide +kernel
theorem dX9_keep_4 : decode cX9_keep 4 = .ok (.aload_n 0, 1) := by decide +kernel
theorem dX9_keep_5 : decode cX9_keep 5 = .ok (.getfield 69, 3) := by decide +kernel
theorem dX9_keep_8 : decode cX9_keep 8 = .ok (.aload_n 0, 1) := by decide +kernel
theorem dX9_keep_9 : decode cX9_keep 9 = .ok (.getfield 125, 3) := by decide +kernel
theorem dX9_keep_12 : decode cX9_keep 12 = .ok (.invokevirtual 298, 3) := by decide +kernel
theorem dX9_keep_15 : decode cX9_keep 15 = .ok (.ifCond .eq 13, 3) := by decide +kernel
theorem dX9_keep_18 : decode cX9_keep 18 = .ok (.aload_n 0, 1) := by decide +kernel
theorem dX9_keep_19 : decode cX9_keep 19 = .ok (.getfield 76, 3) := by decide +kernel
theorem dX9_keep_22 : decode cX9_keep 22 = .ok (.getfield 128, 3) := by decide +kernel
theorem dX9_keep_25 : decode cX9_keep 25 = .ok (.goto 5, 3) := by decide +kernel
theorem dX9_keep_28 : decode cX9_keep 28 = .ok (.bipush (-3), 2) := by decide +kernel
theorem dX9_keep_30 : decode cX9_keep 30 = .ok (.ireturn, 1) := by decide +kernel
theorem dX9_back_0 : decode cX9_back 0 = .ok (.aload_n 0, 1) := by decide +kernel
theorem dX9_back_1 : decode cX9_back 1 = .ok (.getfield 76, 3) := by decide +kernel
theorem dX9_back_4 : decode cX9_back 4 = .ok (.getfield 128, 3) := by decide +kernel
theorem dX9_back_7 : decode cX9_back 7 = .ok (.iconst 1, 1) := by decide +kernel
theorem dX9_back_8 : decode cX9_back 8 = .ok (.if_icmp .ge 6, 3) := by decide +kernel
theorem dX9_back_11 : decode cX9_back 11 = .ok (.bipush (-2), 2) := by decide +kernel
theorem dX9_back_13 : decode cX9_back 13 = .ok (.ireturn, 1) := by decide +kernel
theorem dX9_back_14 : decode cX9_back 14 = .ok (.aload_n 0, 1) := by decide +kernel
theorem dX9_back_15 : decode cX9_back 15 = .ok (.aload_n 0, 1) := by decide +kernel
theorem dX9_back_16 : decode cX9_back 16 = .ok (.getfield 76, 3) := by decide +kernel
theorem dX9_back_19 : decode cX9_back 19 = .ok (.aload_n 0, 1) := by decide +kernel
theorem dX9_back_20 : decode cX9_back 20 = .ok (.getfield 69, 3) := by decide +kernel
theorem dX9_back_23 : decode cX9_back 23 = .ok (.invokevirtual 301, 3) := by decide +kernel
theorem dX9_back_26 : decode cX9_back 26 = .ok (.putfield 125, 3) := by decide +kernel
theorem dX9_back_29 : decode cX9_back 29 = .ok (.aload_n 0, 1) := by decide +kernel
theorem dX9_back_30 : decode cX9_back 30 = .ok (.invokevirtual 135, 3) := by decide +kernel
theorem dX9_back_33 : decode cX9_back 33 = .ok (.aload_n 0, 1) := by decide +kernel
theorem dX9_back_34 : decode cX9_back 34 = .ok (.getfield 76, 3) := by decide +kernel
theorem dX9_back_37 : decode cX9_back 37 = .ok (.getfield 128, 3) := by decide +kernel
theorem dX9_back_40 : decode cX9_back 40 = .ok (.ireturn, 1) := by decide +kernel
theorem dX9_count_0 : decode cX9_count 0 = .ok (.iload_n 1, 1) := by decide +kernel
theorem dX9_count_1 : decode cX9_count 1 = .ok (.tableswitch 105 0 6 #[43, 54, 62, 73, 81, 89, 97], 43) := by decide +kernel
theorem dX9_count_44 : decode cX9_count 44 = .ok (.aload_n 0, 1) := by decide +kernel
theorem dX9_count_45 : decode cX9_count 45 = .ok (.getfield 26, 3) := by decide +kernel
theorem dX9_count_48 : decode cX9_count 48 = .ok (.getfield 83, 3) := by decide +kernel
theorem dX9_count_51 : decode cX9_count 51 = .ok (.getfield 138, 3) := by decide +kernel
theorem dX9_count_54 : decode cX9_count 54 = .ok (.ireturn, 1) := by decide +kernel
theorem dX9_count_55 : decode cX9_count 55 = .ok (.aload_n 0, 1) := by decide +kernel
theorem dX9_count_56 : decode cX9_count 56 = .ok (.getfield 36, 3) := by decide +kernel
theorem dX9_count_59 : decode cX9_count 59 = .ok (.getfield 198, 3) := by decide +kernel
theorem dX9_count_62 : decode cX9_count 62 = .ok (.ireturn, 1) := by decide +kernel
theorem dX9_count_63 : decode cX9_count 63 = .ok (.aload_n 0, 1) := by decide +kernel
theorem dX9_count_64 : decode cX9_count 64 = .ok (.getfield 26, 3) := by decide +kernel
theorem dX9_count_67 : decode cX9_count 67 = .ok (.getfield 83, 3) := by decide +kernel
theorem dX9_count_70 : decode cX9_count 70 = .ok (.getfield 117, 3) := by decide +kernel
theorem dX9_count_73 : decode cX9_count 73 = .ok (.ireturn, 1) := by decide +kernel
theorem dX9_count_74 : decode cX9_count 74 = .ok (.aload_n 0, 1) := by decide +kernel
theorem dX9_count_75 : decode cX9_count 75 = .ok (.getfield 10, 3) := by decide +kernel
theorem dX9_count_78 : decode cX9_count 78 = .ok (.getfield 110, 3) := by decide +kernel
theorem dX9_count_81 : decode cX9_count 81 = .ok (.ireturn, 1) := by decide +kernel
theorem dX9_count_82 : decode cX9_count 82 = .ok (.aload_n 0, 1) := by decide +kernel
theorem dX9_count_83 : decode cX9_count 83 = .ok (.getfield 76, 3) := by decide +kernel
theorem dX9_count_86 : decode cX9_count 86 = .ok (.getfield 128, 3) := by decide +kernel
theorem dX9_count_89 : decode cX9_count 89 = .ok (.ireturn, 1) := by decide +kernel
theorem dX9_count_90 : decode cX9_count 90 = .ok (.aload_n 0, 1) := by decide +kernel
theorem dX9_count_91 : decode cX9_count 91 = .ok (.getfield 26, 3) := by decide +kernel
theorem dX9_count_94 : decode cX9_count 94 = .ok (.getfield 209, 3) := by decide +kernel
theorem dX9_count_97 : decode cX9_count 97 = .ok (.ireturn, 1) := by decide +kernel
theorem dX9_count_98 : decode cX9_count 98 = .ok (.aload_n 0, 1) := by decide +kernel
theorem dX9_count_99 : decode cX9_count 99 = .ok (.getfield 26, 3) := by decide +kernel
theorem dX9_count_102 : decode cX9_count 102 = .ok (.getfield 95, 3) := by decide +kernel
theorem dX9_count_105 : decode cX9_count 105 = .ok (.ireturn, 1) := by decide +kernel
theorem dX9_count_106 : decode cX9_count 106 = .ok (.iconst (-1), 1) := by decide +kernel
theorem dX9_count_107 : decode cX9_count 107 = .ok (.ireturn, 1) := by decide +kernel
theorem dX9_isWithin_0 : decode cX9_isWithin 0 = .ok (.iload_n 0, 1) := by decide +kernel
theorem dX9_isWithin_1 : decode cX9_isWithin 1 = .ok (.iload_n 1, 1) := by decide +kernel
theorem dX9_isWithin_2 : decode cX9_isWithin 2 = .ok (.if_icmp .lt 12, 3) := by decide +kernel
theorem dX9_isWithin_5 : decode cX9_isWithin 5 = .ok (.iload_n 0, 1) := by decide +kernel
theorem dX9_isWithin_6 : decode cX9_isWithin 6 = .ok (.iload_n 2, 1) := by decide +kernel
theorem dX9_isWithin_7 : decode cX9_isWithin 7 = .ok (.if_icmp .gt 7, 3) := by decide +kernel
theorem dX9_isWithin_10 : decode cX9_isWithin 10 = .ok (.iconst 1, 1) := by decide +kernel
theorem dX9_isWithin_11 : decode cX9_isWithin 11 = .ok (.goto 4, 3) := by decide +kernel
theorem dX9_isWithin_14 : decode cX9_isWithin 14 = .ok (.iconst 0, 1) := by decide +kernel
theorem dX9_isWithin_15 : decode cX9_isWithin 15 = .ok (.ireturn, 1) := by decide +kernel
theorem dX9_isGiver_0 : decode cX9_isGiver 0 = .ok (.iload_n 1, 1) := by decide +kernel
theorem dX9_isGiver_1 : decode cX9_isGiver 1 = .ok (.ifCond .lt 21, 3) := by decide +kernel
theorem dX9_isGiver_4 : decode cX9_isGiver 4 = .ok (.iload_n 1, 1) := by decide +kernel
theorem dX9_isGiver_5 : decode cX9_isGiver 5 = .ok (.aload_n 0, 1) := by decide +kernel
theorem dX9_isGiver_6 : decode cX9_isGiver 6 = .ok (.getfield 26, 3) := by decide +kernel
theorem dX9_isGiver_9 : decode cX9_isGiver 9 = .ok (.getfield 83, 3) := by decide +kernel
theorem dX9_isGiver_12 : decode cX9_isGiver 12 = .ok (.getfield 138, 3) := by decide +kernel
theorem dX9_isGiver_15 : decode cX9_isGiver 15 = .ok (.if_icmp .ge 7, 3) := by decide +kernel
theorem dX9_isGiver_18 : decode cX9_isGiver 18 = .ok (.iconst 1, 1) := by decide +kernel
theorem dX9_isGiver_19 : decode cX9_isGiver 19 = .ok (.goto 4, 3) := by decide +kernel
theorem dX9_isGiver_22 : decode cX9_isGiver 22 = .ok (.iconst 0, 1) := by decide +kernel
theorem dX9_isGiver_23 : decode cX9_isGiver 23 = .ok (.ireturn, 1) := by decide +kernel
theorem dX9_greatestPart_0 : decode cX9_greatestPart 0 = .ok (.iconst 0, 1) := by decide +kernel
theorem dX9_greatestPart_1 : decode cX9_greatestPart 1 = .ok (.istore 4, 2) := by decide +kernel
theorem dX9_greatestPart_3 : decode cX9_greatestPart 3 = .ok (.iload 4, 2) := by decide +kernel
theorem dX9_greatestPart_5 : decode cX9_greatestPart 5 = .ok (.bipush 100, 2) := by decide +kernel
theorem dX9_greatestPart_7 : decode cX9_greatestPart 7 = .ok (.if_icmp .ge 25, 3) := by decide +kernel
theorem dX9_greatestPart_10 : decode cX9_greatestPart 10 = .ok (.lload_n 2, 1) := by decide +kernel
theorem dX9_greatestPart_11 : decode cX9_greatestPart 11 = .ok (.lconst 0, 1) := by decide +kernel
theorem dX9_greatestPart_12 : decode cX9_greatestPart 12 = .ok (.lcmp, 1) := by decide +kernel
theorem dX9_greatestPart_13 : decode cX9_greatestPart 13 = .ok (.ifCond .eq 19, 3) := by decide +kernel
theorem dX9_greatestPart_16 : decode cX9_greatestPart 16 = .ok (.lload_n 0, 1) := by decide +kernel
theorem dX9_greatestPart_17 : decode cX9_greatestPart 17 = .ok (.lload_n 2, 1) := by decide +kernel
theorem dX9_greatestPart_18 : decode cX9_greatestPart 18 = .ok (.lrem, 1) := by decide +kernel
theorem dX9_greatestPart_19 : decode cX9_greatestPart 19 = .ok (.lstore 5, 2) := by decide +kernel
theorem dX9_greatestPart_21 : decode cX9_greatestPart 21 = .ok (.lload_n 2, 1) := by decide +kernel
theorem dX9_greatestPart_22 : decode cX9_greatestPart 22 = .ok (.lstore_n 0, 1) := by decide +kernel
theorem dX9_greatestPart_23 : decode cX9_greatestPart 23 = .ok (.lload 5, 2) := by decide +kernel
theorem dX9_greatestPart_25 : decode cX9_greatestPart 25 = .ok (.lstore_n 2, 1) := by decide +kernel
theorem dX9_greatestPart_26 : decode cX9_greatestPart 26 = .ok (.iinc 4 1, 3) := by decide +kernel
theorem dX9_greatestPart_29 : decode cX9_greatestPart 29 = .ok (.goto (-26), 3) := by decide +kernel
theorem dX9_greatestPart_32 : decode cX9_greatestPart 32 = .ok (.lload_n 0, 1) := by decide +kernel
theorem dX9_greatestPart_33 : decode cX9_greatestPart 33 = .ok (.lconst 0, 1) := by decide +kernel
theorem dX9_greatestPart_34 : decode cX9_greatestPart 34 = .ok (.lcmp, 1) := by decide +kernel
theorem dX9_greatestPart_35 : decode cX9_greatestPart 35 = .ok (.ifCond .ne 7, 3) := by decide +kernel
theorem dX9_greatestPart_38 : decode cX9_greatestPart 38 = .ok (.lconst 1, 1) := by decide +kernel
theorem dX9_greatestPart_39 : decode cX9_greatestPart 39 = .ok (.goto 4, 3) := by decide +kernel
theorem dX9_greatestPart_42 : decode cX9_greatestPart 42 = .ok (.lload_n 0, 1) := by decide +kernel
theorem dX9_greatestPart_43 : decode cX9_greatestPart 43 = .ok (.lreturn, 1) := by decide +kernel
theorem dX9_forgetWays_0 : decode cX9_forgetWays 0 = .ok (.aload_n 0, 1) := by decide +kernel
theorem dX9_forgetWays_1 : decode cX9_forgetWays 1 = .ok (.iconst 0, 1) := by decide +kernel
theorem dX9_forgetWays_2 : decode cX9_forgetWays 2 = .ok (.putfield 305, 3) := by decide +kernel
theorem dX9_forgetWays_5 : decode cX9_forgetWays 5 = .ok (.aload_n 0, 1) := by decide +kernel
theorem dX9_forgetWays_6 : decode cX9_forgetWays 6 = .ok (.iconst 0, 1) := by decide +kernel
theorem dX9_forgetWays_7 : decode cX9_forgetWays 7 = .ok (.putfield 231, 3) := by decide +kernel
theorem dX9_forgetWays_10 : decode cX9_forgetWays 10 = .ok (.return_, 1) := by decide +kernel
theorem dX9_setGame_0 : decode cX9_setGame 0 = .ok (.aload_n 0, 1) := by decide +kernel
theorem dX9_setGame_1 : decode cX9_setGame 1 = .ok (.getfield 46, 3) := by decide +kernel
theorem dX9_setGame_4 : decode cX9_setGame 4 = .ok (.aload_n 0, 1) := by decide +kernel
theorem dX9_setGame_5 : decode cX9_setGame 5 = .ok (.getfield 26, 3) := by decide +kernel
theorem dX9_setGame_8 : decode cX9_setGame 8 = .ok (.aload_n 0, 1) := by decide +kernel
theorem dX9_setGame_9 : decode cX9_setGame 9 = .ok (.getfield 36, 3) := by decide +kernel
theorem dX9_setGame_12 : decode cX9_setGame 12 = .ok (.aload_n 0, 1) := by decide +kernel
theorem dX9_setGame_13 : decode cX9_setGame 13 = .ok (.getfield 125, 3) := by decide +kernel
theorem dX9_setGame_16 : decode cX9_setGame 16 = .ok (.invokevirtual 243, 3) := by decide +kernel
theorem dX9_setGame_19 : decode cX9_setGame 19 = .ok (.return_, 1) := by decide +kernel
theorem dX9_waysAsTheyStand_0 : decode cX9_waysAsTheyStand 0 = .ok (.aload_n 0, 1) := by decide +kernel
theorem dX9_waysAsTheyStand_1 : decode cX9_waysAsTheyStand 1 = .ok (.getfield 305, 3) := by decide +kernel
theorem dX9_waysAsTheyStand_4 : decode cX9_waysAsTheyStand 4 = .ok (.ifCond .ne 24, 3) := by decide +kernel
theorem dX9_waysAsTheyStand_7 : decode cX9_waysAsTheyStand 7 = .ok (.aload_n 0, 1) := by decide +kernel
theorem dX9_waysAsTheyStand_8 : decode cX9_waysAsTheyStand 8 = .ok (.invokevirtual 195, 3) := by decide +kernel
theorem dX9_waysAsTheyStand_11 : decode cX9_waysAsTheyStand 11 = .ok (.aload_n 0, 1) := by decide +kernel
theorem dX9_waysAsTheyStand_12 : decode cX9_waysAsTheyStand 12 = .ok (.getfield 53, 3) := by decide +kernel
theorem dX9_waysAsTheyStand_15 : decode cX9_waysAsTheyStand 15 = .ok (.aload_n 0, 1) := by decide +kernel
theorem dX9_waysAsTheyStand_16 : decode cX9_waysAsTheyStand 16 = .ok (.getfield 46, 3) := by decide +kernel
theorem dX9_waysAsTheyStand_19 : decode cX9_waysAsTheyStand 19 = .ok (.iconst 1, 1) := by decide +kernel
theorem dX9_waysAsTheyStand_20 : decode cX9_waysAsTheyStand 20 = .ok (.invokevirtual 247, 3) := by decide +kernel
theorem dX9_waysAsTheyStand_23 : decode cX9_waysAsTheyStand 23 = .ok (.aload_n 0, 1) := by decide +kernel
theorem dX9_waysAsTheyStand_24 : decode cX9_waysAsTheyStand 24 = .ok (.iconst 1, 1) := by decide +kernel
theorem dX9_waysAsTheyStand_25 : decode cX9_waysAsTheyStand 25 = .ok (.putfield 305, 3) := by decide +kernel
theorem dX9_waysAsTheyStand_28 : decode cX9_waysAsTheyStand 28 = .ok (.aload_n 0, 1) := by decide +kernel
theorem dX9_waysAsTheyStand_29 : decode cX9_waysAsTheyStand 29 = .ok (.getfield 53, 3) := by decide +kernel
theorem dX9_waysAsTheyStand_32 : decode cX9_waysAsTheyStand 32 = .ok (.areturn, 1) := by decide +kernel
theorem dX9_findBestBar_0 : decode cX9_findBestBar 0 = .ok (.iconst 1, 1) := by decide +kernel
theorem dX9_findBestBar_1 : decode cX9_findBestBar 1 = .ok (.istore_n 1, 1) := by decide +kernel
theorem dX9_findBestBar_2 : decode cX9_findBestBar 2 = .ok (.iload_n 1, 1) := by decide +kernel
theorem dX9_findBestBar_3 : decode cX9_findBestBar 3 = .ok (.bipush 60, 2) := by decide +kernel
theorem dX9_findBestBar_5 : decode cX9_findBestBar 5 = .ok (.if_icmp .gt 73, 3) := by decide +kernel
theorem dX9_findBestBar_8 : decode cX9_findBestBar 8 = .ok (.aload_n 0, 1) := by decide +kernel
theorem dX9_findBestBar_9 : decode cX9_findBestBar 9 = .ok (.invokevirtual 195, 3) := by decide +kernel
theorem dX9_findBestBar_12 : decode cX9_findBestBar 12 = .ok (.aload_n 0, 1) := by decide +kernel
theorem dX9_findBestBar_13 : decode cX9_findBestBar 13 = .ok (.getfield 46, 3) := by decide +kernel
theorem dX9_findBestBar_16 : decode cX9_findBestBar 16 = .ok (.iload_n 1, 1) := by decide +kernel
theorem dX9_findBestBar_17 : decode cX9_findBestBar 17 = .ok (.putfield 308, 3) := by decide +kernel
theorem dX9_findBestBar_20 : decode cX9_findBestBar 20 = .ok (.aload_n 0, 1) := by decide +kernel
theorem dX9_findBestBar_21 : decode cX9_findBestBar 21 = .ok (.getfield 57, 3) := by decide +kernel
theorem dX9_findBestBar_24 : decode cX9_findBestBar 24 = .ok (.aload_n 0, 1) := by decide +kernel
theorem dX9_findBestBar_25 : decode cX9_findBestBar 25 = .ok (.getfield 46, 3) := by decide +kernel
theorem dX9_findBestBar_28 : decode cX9_findBestBar 28 = .ok (.iconst 0, 1) := by decide +kernel
theorem dX9_findBestBar_29 : decode cX9_findBestBar 29 = .ok (.invokevirtual 247, 3) := by decide +kernel
theorem dX9_findBestBar_32 : decode cX9_findBestBar 32 = .ok (.aload_n 0, 1) := by decide +kernel
theorem dX9_findBestBar_33 : decode cX9_findBestBar 33 = .ok (.getfield 57, 3) := by decide +kernel
theorem dX9_findBestBar_36 : decode cX9_findBestBar 36 = .ok (.getfield 189, 3) := by decide +kernel
theorem dX9_findBestBar_39 : decode cX9_findBestBar 39 = .ok (.aload_n 0, 1) := by decide +kernel
theorem dX9_findBestBar_40 : decode cX9_findBestBar 40 = .ok (.getfield 57, 3) := by decide +kernel
theorem dX9_findBestBar_43 : decode cX9_findBestBar 43 = .ok (.getfield 192, 3) := by decide +kernel
theorem dX9_findBestBar_46 : decode cX9_findBestBar 46 = .ok (.ladd, 1) := by decide +kernel
theorem dX9_findBestBar_47 : decode cX9_findBestBar 47 = .ok (.lstore_n 2, 1) := by decide +kernel
theorem dX9_findBestBar_48 : decode cX9_findBestBar 48 = .ok (.iload_n 1, 1) := by decide +kernel
theorem dX9_findBestBar_49 : decode cX9_findBestBar 49 = .ok (.iconst 1, 1) := by decide +kernel
theorem dX9_findBestBar_50 : decode cX9_findBestBar 50 = .ok (.if_icmp .eq 12, 3) := by decide +kernel
theorem dX9_findBestBar_53 : decode cX9_findBestBar 53 = .ok (.lload_n 2, 1) := by decide +kernel
theorem dX9_findBestBar_54 : decode cX9_findBestBar 54 = .ok (.aload_n 0, 1) := by decide +kernel
theorem dX9_findBestBar_55 : decode cX9_findBestBar 55 = .ok (.getfield 240, 3) := by decide +kernel
theorem dX9_findBestBar_58 : decode cX9_findBestBar 58 = .ok (.lcmp, 1) := by decide +kernel
theorem dX9_findBestBar_59 : decode cX9_findBestBar 59 = .ok (.ifCond .ge 13, 3) := by decide +kernel
theorem dX9_findBestBar_62 : decode cX9_findBestBar 62 = .ok (.aload_n 0, 1) := by decide +kernel
theorem dX9_findBestBar_63 : decode cX9_findBestBar 63 = .ok (.iload_n 1, 1) := by decide +kernel
theorem dX9_findBestBar_64 : decode cX9_findBestBar 64 = .ok (.putfield 237, 3) := by decide +kernel
theorem dX9_findBestBar_67 : decode cX9_findBestBar 67 = .ok (.aload_n 0, 1) := by decide +kernel
theorem dX9_findBestBar_68 : decode cX9_findBestBar 68 = .ok (.lload_n 2, 1) := by decide +kernel
theorem dX9_findBestBar_69 : decode cX9_findBestBar 69 = .ok (.putfield 240, 3) := by decide +kernel
theorem dX9_findBestBar_72 : decode cX9_findBestBar 72 = .ok (.iinc 1 1, 3) := by decide +kernel
theorem dX9_findBestBar_75 : decode cX9_findBestBar 75 = .ok (.goto (-73), 3) := by decide +kernel
theorem dX9_findBestBar_78 : decode cX9_findBestBar 78 = .ok (.return_, 1) := by decide +kernel
theorem dX9_richWays_0 : decode cX9_richWays 0 = .ok (.aload_n 0, 1) := by decide +kernel
theorem dX9_richWays_1 : decode cX9_richWays 1 = .ok (.invokevirtual 195, 3) := by decide +kernel
theorem dX9_richWays_4 : decode cX9_richWays 4 = .ok (.aload_n 0, 1) := by decide +kernel
theorem dX9_richWays_5 : decode cX9_richWays 5 = .ok (.getfield 46, 3) := by decide +kernel
theorem dX9_richWays_8 : decode cX9_richWays 8 = .ok (.iload_n 1, 1) := by decide +kernel
theorem dX9_richWays_9 : decode cX9_richWays 9 = .ok (.putfield 309, 3) := by decide +kernel
theorem dX9_richWays_12 : decode cX9_richWays 12 = .ok (.aload_n 0, 1) := by decide +kernel
theorem dX9_richWays_13 : decode cX9_richWays 13 = .ok (.getfield 46, 3) := by decide +kernel
theorem dX9_richWays_16 : decode cX9_richWays 16 = .ok (.iload_n 2, 1) := by decide +kernel
theorem dX9_richWays_17 : decode cX9_richWays 17 = .ok (.iconst 1, 1) := by decide +kernel
theorem dX9_richWays_18 : decode cX9_richWays 18 = .ok (.isub, 1) := by decide +kernel
theorem dX9_richWays_19 : decode cX9_richWays 19 = .ok (.putfield 312, 3) := by decide +kernel
theorem dX9_richWays_22 : decode cX9_richWays 22 = .ok (.aload_n 0, 1) := by decide +kernel
theorem dX9_richWays_23 : decode cX9_richWays 23 = .ok (.getfield 57, 3) := by decide +kernel
theorem dX9_richWays_26 : decode cX9_richWays 26 = .ok (.aload_n 0, 1) := by decide +kernel
theorem dX9_richWays_27 : decode cX9_richWays 27 = .ok (.getfield 46, 3) := by decide +kernel
theorem dX9_richWays_30 : decode cX9_richWays 30 = .ok (.iconst 0, 1) := by decide +kernel
theorem dX9_richWays_31 : decode cX9_richWays 31 = .ok (.invokevirtual 247, 3) := by decide +kernel
theorem dX9_richWays_34 : decode cX9_richWays 34 = .ok (.aload_n 0, 1) := by decide +kernel
theorem dX9_richWays_35 : decode cX9_richWays 35 = .ok (.getfield 57, 3) := by decide +kernel
theorem dX9_richWays_38 : decode cX9_richWays 38 = .ok (.getfield 164, 3) := by decide +kernel
theorem dX9_richWays_41 : decode cX9_richWays 41 = .ok (.lreturn, 1) := by decide +kernel
theorem dX9_playEvening_0 : decode cX9_playEvening 0 = .ok (.aload_n 0, 1) := by decide +kernel
theorem dX9_playEvening_1 : decode cX9_playEvening 1 = .ok (.invokevirtual 195, 3) := by decide +kernel
theorem dX9_playEvening_4 : decode cX9_playEvening 4 = .ok (.iconst 0, 1) := by decide +kernel
theorem dX9_playEvening_5 : decode cX9_playEvening 5 = .ok (.istore_n 2, 1) := by decide +kernel
theorem dX9_playEvening_6 : decode cX9_playEvening 6 = .ok (.iload_n 2, 1) := by decide +kernel
theorem dX9_playEvening_7 : decode cX9_playEvening 7 = .ok (.aload_n 0, 1) := by decide +kernel
theorem dX9_playEvening_8 : decode cX9_playEvening 8 = .ok (.getfield 36, 3) := by decide +kernel
theorem dX9_playEvening_11 : decode cX9_playEvening 11 = .ok (.getfield 198, 3) := by decide +kernel
theorem dX9_playEvening_14 : decode cX9_playEvening 14 = .ok (.if_icmp .ge 23, 3) := by decide +kernel
theorem dX9_playEvening_17 : decode cX9_playEvening 17 = .ok (.aload_n 0, 1) := by decide +kernel
theorem dX9_playEvening_18 : decode cX9_playEvening 18 = .ok (.getfield 46, 3) := by decide +kernel
theorem dX9_playEvening_21 : decode cX9_playEvening 21 = .ok (.iload_n 2, 1) := by decide +kernel
theorem dX9_playEvening_22 : decode cX9_playEvening 22 = .ok (.aload_n 0, 1) := by decide +kernel
theorem dX9_playEvening_23 : decode cX9_playEvening 23 = .ok (.iload_n 1, 1) := by decide +kernel
theorem dX9_playEvening_24 : decode cX9_playEvening 24 = .ok (.iload_n 2, 1) := by decide +kernel
theorem dX9_playEvening_25 : decode cX9_playEvening 25 = .ok (.invokevirtual 284, 3) := by decide +kernel
theorem dX9_playEvening_28 : decode cX9_playEvening 28 = .ok (.invokevirtual 315, 3) := by decide +kernel
theorem dX9_playEvening_31 : decode cX9_playEvening 31 = .ok (.iinc 2 1, 3) := by decide +kernel
theorem dX9_playEvening_34 : decode cX9_playEvening 34 = .ok (.goto (-28), 3) := by decide +kernel
theorem dX9_playEvening_37 : decode cX9_playEvening 37 = .ok (.return_, 1) := by decide +kernel
theorem dX9_drawnWorth_0 : decode cX9_drawnWorth 0 = .ok (.ldc2_w 319, 3) := by decide +kernel
theorem dX9_drawnWorth_3 : decode cX9_drawnWorth 3 = .ok (.iload_n 1, 1) := by decide +kernel
theorem dX9_drawnWorth_4 : decode cX9_drawnWorth 4 = .ok (.i2l, 1) := by decide +kernel
theorem dX9_drawnWorth_5 : decode cX9_drawnWorth 5 = .ok (.lmul, 1) := by decide +kernel
theorem dX9_drawnWorth_6 : decode cX9_drawnWorth 6 = .ok (.ldc2_w 321, 3) := by decide +kernel
theorem dX9_drawnWorth_9 : decode cX9_drawnWorth 9 = .ok (.aload_n 0, 1) := by decide +kernel
theorem dX9_drawnWorth_10 : decode cX9_drawnWorth 10 = .ok (.getfield 36, 3) := by decide +kernel
theorem dX9_drawnWorth_13 : decode cX9_drawnWorth 13 = .ok (.getfield 199, 3) := by decide +kernel
theorem dX9_drawnWorth_16 : decode cX9_drawnWorth 16 = .ok (.iload_n 2, 1) := by decide +kernel
theorem dX9_drawnWorth_17 : decode cX9_drawnWorth 17 = .ok (.iaload, 1) := by decide +kernel
theorem dX9_drawnWorth_18 : decode cX9_drawnWorth 18 = .ok (.i2l, 1) := by decide +kernel
theorem dX9_drawnWorth_19 : decode cX9_drawnWorth 19 = .ok (.lmul, 1) := by decide +kernel
theorem dX9_drawnWorth_20 : decode cX9_drawnWorth 20 = .ok (.ladd, 1) := by decide +kernel
theorem dX9_drawnWorth_21 : decode cX9_drawnWorth 21 = .ok (.lconst 1, 1) := by decide +kernel
theorem dX9_drawnWorth_22 : decode cX9_drawnWorth 22 = .ok (.ladd, 1) := by decide +kernel
theorem dX9_drawnWorth_23 : decode cX9_drawnWorth 23 = .ok (.lstore_n 3, 1) := by decide +kernel
theorem dX9_drawnWorth_24 : decode cX9_drawnWorth 24 = .ok (.aload_n 0, 1) := by decide +kernel
theorem dX9_drawnWorth_25 : decode cX9_drawnWorth 25 = .ok (.getfield 36, 3) := by decide +kernel
theorem dX9_drawnWorth_28 : decode cX9_drawnWorth 28 = .ok (.iload_n 2, 1) := by decide +kernel
theorem dX9_drawnWorth_29 : decode cX9_drawnWorth 29 = .ok (.lload_n 3, 1) := by decide +kernel
theorem dX9_drawnWorth_30 : decode cX9_drawnWorth 30 = .ok (.lload_n 3, 1) := by decide +kernel
theorem dX9_drawnWorth_31 : decode cX9_drawnWorth 31 = .ok (.lmul, 1) := by decide +kernel
theorem dX9_drawnWorth_32 : decode cX9_drawnWorth 32 = .ok (.ldc2_w 323, 3) := by decide +kernel
theorem dX9_drawnWorth_35 : decode cX9_drawnWorth 35 = .ok (.lrem, 1) := by decide +kernel
theorem dX9_drawnWorth_36 : decode cX9_drawnWorth 36 = .ok (.ldc2_w 257, 3) := by decide +kernel
theorem dX9_drawnWorth_39 : decode cX9_drawnWorth 39 = .ok (.lrem, 1) := by decide +kernel
theorem dX9_drawnWorth_40 : decode cX9_drawnWorth 40 = .ok (.l2i, 1) := by decide +kernel
theorem dX9_drawnWorth_41 : decode cX9_drawnWorth 41 = .ok (.invokevirtual 325, 3) := by decide +kernel
theorem dX9_drawnWorth_44 : decode cX9_drawnWorth 44 = .ok (.ireturn, 1) := by decide +kernel
theorem dL_law_0 : decode cL_law 0 = .ok (.new 7, 3) := by decide +kernel
theorem dL_law_3 : decode cL_law 3 = .ok (.dup, 1) := by decide +kernel
theorem dL_law_4 : decode cL_law 4 = .ok (.invokespecial 9, 3) := by decide +kernel
theorem dL_law_7 : decode cL_law 7 = .ok (.astore_n 1, 1) := by decide +kernel
theorem dL_law_8 : decode cL_law 8 = .ok (.new 10, 3) := by decide +kernel
theorem dL_law_11 : decode cL_law 11 = .ok (.dup, 1) := by decide +kernel
theorem dL_law_12 : decode cL_law 12 = .ok (.invokespecial 12, 3) := by decide +kernel
theorem dL_law_15 : decode cL_law 15 = .ok (.astore_n 2, 1) := by decide +kernel
theorem dL_law_16 : decode cL_law 16 = .ok (.iconst 0, 1) := by decide +kernel
theorem dL_law_17 : decode cL_law 17 = .ok (.istore_n 3, 1) := by decide +kernel
theorem dL_law_18 : decode cL_law 18 = .ok (.iload_n 3, 1) := by decide +kernel
theorem dL_law_19 : decode cL_law 19 = .ok (.aload_n 0, 1) := by decide +kernel
theorem dL_law_20 : decode cL_law 20 = .ok (.arraylength, 1) := by decide +kernel
theorem dL_law_21 : decode cL_law 21 = .ok (.iconst 4, 1) := by decide +kernel
theorem dL_law_22 : decode cL_law 22 = .ok (.isub, 1) := by decide +kernel
theorem dL_law_23 : decode cL_law 23 = .ok (.if_icmp .gt 761, 3) := by decide +kernel
theorem dL_law_26 : decode cL_law 26 = .ok (.aload_n 0, 1) := by decide +kernel
theorem dL_law_27 : decode cL_law 27 = .ok (.iload_n 3, 1) := by decide +kernel
theorem dL_law_28 : decode cL_law 28 = .ok (.iaload, 1) := by decide +kernel
theorem dL_law_29 : decode cL_law 29 = .ok (.bipush 31, 2) := by decide +kernel
theorem dL_law_31 : decode cL_law 31 = .ok (.iand, 1) := by decide +kernel
theorem dL_law_32 : decode cL_law 32 = .ok (.tableswitch 746 0 25 #[120, 183, 196, 209, 222, 255, 278, 302, 336, 360, 393, 406, 429, 453, 467, 491, 504, 527, 540, 574, 597, 621, 664, 697, 710, 723], 120) := by decide +kernel
theorem dL_law_152 : decode cL_law 152 = .ok (.aload_n 1, 1) := by decide +kernel
theorem dL_law_153 : decode cL_law 153 = .ok (.aload_n 0, 1) := by decide +kernel
theorem dL_law_154 : decode cL_law 154 = .ok (.iload_n 3, 1) := by decide +kernel
theorem dL_law_155 : decode cL_law 155 = .ok (.iconst 1, 1) := by decide +kernel
theorem dL_law_156 : decode cL_law 156 = .ok (.iadd, 1) := by decide +kernel
theorem dL_law_157 : decode cL_law 157 = .ok (.iaload, 1) := by decide +kernel
theorem dL_law_158 : decode cL_law 158 = .ok (.aload_n 0, 1) := by decide +kernel
theorem dL_law_159 : decode cL_law 159 = .ok (.iload_n 3, 1) := by decide +kernel
theorem dL_law_160 : decode cL_law 160 = .ok (.iconst 2, 1) := by decide +kernel
theorem dL_law_161 : decode cL_law 161 = .ok (.iadd, 1) := by decide +kernel
theorem dL_law_162 : decode cL_law 162 = .ok (.iaload, 1) := by decide +kernel
theorem dL_law_163 : decode cL_law 163 = .ok (.i2l, 1) := by decide +kernel
theorem dL_law_164 : decode cL_law 164 = .ok (.bipush 32, 2) := by decide +kernel
theorem dL_law_166 : decode cL_law 166 = .ok (.lshl, 1) := by decide +kernel
theorem dL_law_167 : decode cL_law 167 = .ok (.aload_n 0, 1) := by decide +kernel
theorem dL_law_168 : decode cL_law 168 = .ok (.iload_n 3, 1) := by decide +kernel
theorem dL_law_169 : decode cL_law 169 = .ok (.iconst 3, 1) := by decide +kernel
theorem dL_law_170 : decode cL_law 170 = .ok (.iadd, 1) := by decide +kernel
theorem dL_law_171 : decode cL_law 171 = .ok (.iaload, 1) := by decide +kernel
theorem dL_law_172 : decode cL_law 172 = .ok (.i2l, 1) := by decide +kernel
theorem dL_law_173 : decode cL_law 173 = .ok (.ldc2_w 13, 3) := by decide +kernel
theorem dL_law_176 : decode cL_law 176 = .ok (.land, 1) := by decide +kernel
theorem dL_law_177 : decode cL_law 177 = .ok (.lor, 1) := by decide +kernel
theorem dL_law_178 : decode cL_law 178 = .ok (.invokevirtual 15, 3) := by decide +kernel
theorem dL_law_181 : decode cL_law 181 = .ok (.aload_n 2, 1) := by decide +kernel
theorem dL_law_182 : decode cL_law 182 = .ok (.aload_n 0, 1) := by decide +kernel
theorem dL_law_183 : decode cL_law 183 = .ok (.iload_n 3, 1) := by decide +kernel
theorem dL_law_184 : decode cL_law 184 = .ok (.iconst 1, 1) := by decide +kernel
theorem dL_law_185 : decode cL_law 185 = .ok (.iadd, 1) := by decide +kernel
theorem dL_law_186 : decode cL_law 186 = .ok (.iaload, 1) := by decide +kernel
theorem dL_law_187 : decode cL_law 187 = .ok (.aload_n 0, 1) := by decide +kernel
theorem dL_law_188 : decode cL_law 188 = .ok (.iload_n 3, 1) := by decide +kernel
theorem dL_law_189 : decode cL_law 189 = .ok (.iconst 2, 1) := by decide +kernel
theorem dL_law_190 : decode cL_law 190 = .ok (.iadd, 1) := by decide +kernel
theorem dL_law_191 : decode cL_law 191 = .ok (.iaload, 1) := by decide +kernel
theorem dL_law_192 : decode cL_law 192 = .ok (.i2l, 1) := by decide +kernel
theorem dL_law_193 : decode cL_law 193 = .ok (.bipush 32, 2) := by decide +kernel
theorem dL_law_195 : decode cL_law 195 = .ok (.lshl, 1) := by decide +kernel
theorem dL_law_196 : decode cL_law 196 = .ok (.aload_n 0, 1) := by decide +kernel
theorem dL_law_197 : decode cL_law 197 = .ok (.iload_n 3, 1) := by decide +kernel
theorem dL_law_198 : decode cL_law 198 = .ok (.iconst 3, 1) := by decide +kernel
theorem dL_law_199 : decode cL_law 199 = .ok (.iadd, 1) := by decide +kernel
theorem dL_law_200 : decode cL_law 200 = .ok (.iaload, 1) := by decide +kernel
theorem dL_law_201 : decode cL_law 201 = .ok (.i2l, 1) := by decide +kernel
theorem dL_law_202 : decode cL_law 202 = .ok (.ldc2_w 13, 3) := by decide +kernel
theorem dL_law_205 : decode cL_law 205 = .ok (.land, 1) := by decide +kernel
theorem dL_law_206 : decode cL_law 206 = .ok (.lor, 1) := by decide +kernel
theorem dL_law_207 : decode cL_law 207 = .ok (.invokevirtual 19, 3) := by decide +kernel
theorem dL_law_210 : decode cL_law 210 = .ok (.if_icmp .eq 568, 3) := by decide +kernel
theorem dL_law_213 : decode cL_law 213 = .ok (.iconst 0, 1) := by decide +kernel
theorem dL_law_214 : decode cL_law 214 = .ok (.ireturn, 1) := by decide +kernel
theorem dL_law_215 : decode cL_law 215 = .ok (.aload_n 1, 1) := by decide +kernel
theorem dL_law_216 : decode cL_law 216 = .ok (.invokevirtual 20, 3) := by decide +kernel
theorem dL_law_219 : decode cL_law 219 = .ok (.aload_n 2, 1) := by decide +kernel
theorem dL_law_220 : decode cL_law 220 = .ok (.invokevirtual 24, 3) := by decide +kernel
theorem dL_law_223 : decode cL_law 223 = .ok (.if_icmp .eq 555, 3) := by decide +kernel
theorem dL_law_226 : decode cL_law 226 = .ok (.iconst 0, 1) := by decide +kernel
theorem dL_law_227 : decode cL_law 227 = .ok (.ireturn, 1) := by decide +kernel
theorem dL_law_228 : decode cL_law 228 = .ok (.aload_n 1, 1) := by decide +kernel
theorem dL_law_229 : decode cL_law 229 = .ok (.invokevirtual 25, 3) := by decide +kernel
theorem dL_law_232 : decode cL_law 232 = .ok (.aload_n 2, 1) := by decide +kernel
theorem dL_law_233 : decode cL_law 233 = .ok (.invokevirtual 28, 3) := by decide +kernel
theorem dL_law_236 : decode cL_law 236 = .ok (.if_icmp .eq 542, 3) := by decide +kernel
theorem dL_law_239 : decode cL_law 239 = .ok (.iconst 0, 1) := by decide +kernel
theorem dL_law_240 : decode cL_law 240 = .ok (.ireturn, 1) := by decide +kernel
theorem dL_law_241 : decode cL_law 241 = .ok (.aload_n 1, 1) := by decide +kernel
theorem dL_law_242 : decode cL_law 242 = .ok (.invokevirtual 29, 3) := by decide +kernel
theorem dL_law_245 : decode cL_law 245 = .ok (.aload_n 2, 1) := by decide +kernel
theorem dL_law_246 : decode cL_law 246 = .ok (.invokevirtual 32, 3) := by decide +kernel
theorem dL_law_249 : decode cL_law 249 = .ok (.if_icmp .eq 529, 3) := by decide +kernel
theorem dL_law_252 : decode cL_law 252 = .ok (.iconst 0, 1) := by decide +kernel
theorem dL_law_253 : decode cL_law 253 = .ok (.ireturn, 1) := by decide +kernel
theorem dL_law_254 : decode cL_law 254 = .ok (.aload_n 1, 1) := by decide +kernel
theorem dL_law_255 : decode cL_law 255 = .ok (.aload_n 0, 1) := by decide +kernel
theorem dL_law_256 : decode cL_law 256 = .ok (.iload_n 3, 1) := by decide +kernel
theorem dL_law_257 : decode cL_law 257 = .ok (.iconst 1, 1) := by decide +kernel
theorem dL_law_258 : decode cL_law 258 = .ok (.iadd, 1) := by decide +kernel
theorem dL_law_259 : decode cL_law 259 = .ok (.iaload, 1) := by decide +kernel
theorem dL_law_260 : decode cL_law 260 = .ok (.aload_n 0, 1) := by decide +kernel
theorem dL_law_261 : decode cL_law 261 = .ok (.iload_n 3, 1) := by decide +kernel
theorem dL_law_262 : decode cL_law 262 = .ok (.iconst 2, 1) := by decide +kernel
theorem dL_law_263 : decode cL_law 263 = .ok (.iadd, 1) := by decide +kernel
theorem dL_law_264 : decode cL_law 264 = .ok (.iaload, 1) := by decide +kernel
theorem dL_law_265 : decode cL_law 265 = .ok (.invokevirtual 33, 3) := by decide +kernel
theorem dL_law_268 : decode cL_law 268 = .ok (.aload_n 2, 1) := by decide +kernel
theorem dL_law_269 : decode cL_law 269 = .ok (.aload_n 0, 1) := by decide +kernel
theorem dL_law_270 : decode cL_law 270 = .ok (.iload_n 3, 1) := by decide +kernel
theorem dL_law_271 : decode cL_law 271 = .ok (.iconst 1, 1) := by decide +kernel
theorem dL_law_272 : decode cL_law 272 = .ok (.iadd, 1) := by decide +kernel
theorem dL_law_273 : decode cL_law 273 = .ok (.iaload, 1) := by decide +kernel
theorem dL_law_274 : decode cL_law 274 = .ok (.aload_n 0, 1) := by decide +kernel
theorem dL_law_275 : decode cL_law 275 = .ok (.iload_n 3, 1) := by decide +kernel
theorem dL_law_276 : decode cL_law 276 = .ok (.iconst 2, 1) := by decide +kernel
theorem dL_law_277 : decode cL_law 277 = .ok (.iadd, 1) := by decide +kernel
theorem dL_law_278 : decode cL_law 278 = .ok (.iaload, 1) := by decide +kernel
theorem dL_law_279 : decode cL_law 279 = .ok (.invokevirtual 37, 3) := by decide +kernel
theorem dL_law_282 : decode cL_law 282 = .ok (.if_icmp .eq 496, 3) := by decide +kernel
theorem dL_law_285 : decode cL_law 285 = .ok (.iconst 0, 1) := by decide +kernel
theorem dL_law_286 : decode cL_law 286 = .ok (.ireturn, 1) := by decide +kernel
theorem dL_law_287 : decode cL_law 287 = .ok (.aload_n 1, 1) := by decide +kernel
theorem dL_law_288 : decode cL_law 288 = .ok (.aload_n 0, 1) := by decide +kernel
theorem dL_law_289 : decode cL_law 289 = .ok (.iload_n 3, 1) := by decide +kernel
theorem dL_law_290 : decode cL_law 290 = .ok (.iconst 1, 1) := by decide +kernel
theorem dL_law_291 : decode cL_law 291 = .ok (.iadd, 1) := by decide +kernel
theorem dL_law_292 : decode cL_law 292 = .ok (.iaload, 1) := by decide +kernel
theorem dL_law_293 : decode cL_law 293 = .ok (.invokevirtual 38, 3) := by decide +kernel
theorem dL_law_296 : decode cL_law 296 = .ok (.aload_n 2, 1) := by decide +kernel
theorem dL_law_297 : decode cL_law 297 = .ok (.aload_n 0, 1) := by decide +kernel
theorem dL_law_298 : decode cL_law 298 = .ok (.iload_n 3, 1) := by decide +kernel
theorem dL_law_299 : decode cL_law 299 = .ok (.iconst 1, 1) := by decide +kernel
theorem dL_law_300 : decode cL_law 300 = .ok (.iadd, 1) := by decide +kernel
theorem dL_law_301 : decode cL_law 301 = .ok (.iaload, 1) := by decide +kernel
theorem dL_law_302 : decode cL_law 302 = .ok (.invokevirtual 42, 3) := by decide +kernel
theorem dL_law_305 : decode cL_law 305 = .ok (.if_icmp .eq 473, 3) := by decide +kernel
theorem dL_law_308 : decode cL_law 308 = .ok (.iconst 0, 1) := by decide +kernel
theorem dL_law_309 : decode cL_law 309 = .ok (.ireturn, 1) := by decide +kernel
theorem dL_law_310 : decode cL_law 310 = .ok (.aload_n 1, 1) := by decide +kernel
theorem dL_law_311 : decode cL_law 311 = .ok (.aload_n 0, 1) := by decide +kernel
theorem dL_law_312 : decode cL_law 312 = .ok (.iload_n 3, 1) := by decide +kernel
theorem dL_law_313 : decode cL_law 313 = .ok (.iconst 1, 1) := by decide +kernel
theorem dL_law_314 : decode cL_law 314 = .ok (.iadd, 1) := by decide +kernel
theorem dL_law_315 : decode cL_law 315 = .ok (.iaload, 1) := by decide +kernel
theorem dL_law_316 : decode cL_law 316 = .ok (.invokevirtual 43, 3) := by decide +kernel
theorem dL_law_319 : decode cL_law 319 = .ok (.aload_n 2, 1) := by decide +kernel
theorem dL_law_320 : decode cL_law 320 = .ok (.aload_n 0, 1) := by decide +kernel
theorem dL_law_321 : decode cL_law 321 = .ok (.iload_n 3, 1) := by decide +kernel
theorem dL_law_322 : decode cL_law 322 = .ok (.iconst 1, 1) := by decide +kernel
theorem dL_law_323 : decode cL_law 323 = .ok (.iadd, 1) := by decide +kernel
theorem dL_law_324 : decode cL_law 324 = .ok (.iaload, 1) := by decide +kernel
theorem dL_law_325 : decode cL_law 325 = .ok (.invokevirtual 47, 3) := by decide +kernel
theorem dL_law_328 : decode cL_law 328 = .ok (.lcmp, 1) := by decide +kernel
theorem dL_law_329 : decode cL_law 329 = .ok (.ifCond .eq 449, 3) := by decide +kernel
theorem dL_law_332 : decode cL_law 332 = .ok (.iconst 0, 1) := by decide +kernel
theorem dL_law_333 : decode cL_law 333 = .ok (.ireturn, 1) := by decide +kernel
theorem dL_law_334 : decode cL_law 334 = .ok (.aload_n 1, 1) := by decide +kernel
theorem dL_law_335 : decode cL_law 335 = .ok (.aload_n 0, 1) := by decide +kernel
theorem dL_law_336 : decode cL_law 336 = .ok (.iload_n 3, 1) := by decide +kernel
theorem dL_law_337 : decode cL_law 337 = .ok (.iconst 1, 1) := by decide +kernel
theorem dL_law_338 : decode cL_law 338 = .ok (.iadd, 1) := by decide +kernel
theorem dL_law_339 : decode cL_law 339 = .ok (.iaload, 1) := by decide +kernel
theorem dL_law_340 : decode cL_law 340 = .ok (.aload_n 0, 1) := by decide +kernel
theorem dL_law_341 : decode cL_law 341 = .ok (.iload_n 3, 1) := by decide +kernel
theorem dL_law_342 : decode cL_law 342 = .ok (.iconst 2, 1) := by decide +kernel
theorem dL_law_343 : decode cL_law 343 = .ok (.iadd, 1) := by decide +kernel
theorem dL_law_344 : decode cL_law 344 = .ok (.iaload, 1) := by decide +kernel
theorem dL_law_345 : decode cL_law 345 = .ok (.invokevirtual 48, 3) := by decide +kernel
theorem dL_law_348 : decode cL_law 348 = .ok (.aload_n 2, 1) := by decide +kernel
theorem dL_law_349 : decode cL_law 349 = .ok (.aload_n 0, 1) := by decide +kernel
theorem dL_law_350 : decode cL_law 350 = .ok (.iload_n 3, 1) := by decide +kernel
theorem dL_law_351 : decode cL_law 351 = .ok (.iconst 1, 1) := by decide +kernel
theorem dL_law_352 : decode cL_law 352 = .ok (.iadd, 1) := by decide +kernel
theorem dL_law_353 : decode cL_law 353 = .ok (.iaload, 1) := by decide +kernel
theorem dL_law_354 : decode cL_law 354 = .ok (.aload_n 0, 1) := by decide +kernel
theorem dL_law_355 : decode cL_law 355 = .ok (.iload_n 3, 1) := by decide +kernel
theorem dL_law_356 : decode cL_law 356 = .ok (.iconst 2, 1) := by decide +kernel
theorem dL_law_357 : decode cL_law 357 = .ok (.iadd, 1) := by decide +kernel
theorem dL_law_358 : decode cL_law 358 = .ok (.iaload, 1) := by decide +kernel
theorem dL_law_359 : decode cL_law 359 = .ok (.invokevirtual 52, 3) := by decide +kernel
theorem dL_law_362 : decode cL_law 362 = .ok (.lcmp, 1) := by decide +kernel
theorem dL_law_363 : decode cL_law 363 = .ok (.ifCond .eq 415, 3) := by decide +kernel
theorem dL_law_366 : decode cL_law 366 = .ok (.iconst 0, 1) := by decide +kernel
theorem dL_law_367 : decode cL_law 367 = .ok (.ireturn, 1) := by decide +kernel
theorem dL_law_368 : decode cL_law 368 = .ok (.aload_n 1, 1) := by decide +kernel
theorem dL_law_369 : decode cL_law 369 = .ok (.aload_n 0, 1) := by decide +kernel
theorem dL_law_370 : decode cL_law 370 = .ok (.iload_n 3, 1) := by decide +kernel
theorem dL_law_371 : decode cL_law 371 = .ok (.iconst 1, 1) := by decide +kernel
theorem dL_law_372 : decode cL_law 372 = .ok (.iadd, 1) := by decide +kernel
theorem dL_law_373 : decode cL_law 373 = .ok (.iaload, 1) := by decide +kernel
theorem dL_law_374 : decode cL_law 374 = .ok (.invokevirtual 53, 3) := by decide +kernel
theorem dL_law_377 : decode cL_law 377 = .ok (.aload_n 2, 1) := by decide +kernel
theorem dL_law_378 : decode cL_law 378 = .ok (.aload_n 0, 1) := by decide +kernel
theorem dL_law_379 : decode cL_law 379 = .ok (.iload_n 3, 1) := by decide +kernel
theorem dL_law_380 : decode cL_law 380 = .ok (.iconst 1, 1) := by decide +kernel
theorem dL_law_381 : decode cL_law 381 = .ok (.iadd, 1) := by decide +kernel
theorem dL_law_382 : decode cL_law 382 = .ok (.iaload, 1) := by decide +kernel
theorem dL_law_383 : decode cL_law 383 = .ok (.invokevirtual 56, 3) := by decide +kernel
theorem dL_law_386 : decode cL_law 386 = .ok (.lcmp, 1) := by decide +kernel
theorem dL_law_387 : decode cL_law 387 = .ok (.ifCond .eq 391, 3) := by decide +kernel
theorem dL_law_390 : decode cL_law 390 = .ok (.iconst 0, 1) := by decide +kernel
theorem dL_law_391 : decode cL_law 391 = .ok (.ireturn, 1) := by decide +kernel
theorem dL_law_392 : decode cL_law 392 = .ok (.aload_n 1, 1) := by decide +kernel
theorem dL_law_393 : decode cL_law 393 = .ok (.aload_n 0, 1) := by decide +kernel
theorem dL_law_394 : decode cL_law 394 = .ok (.iload_n 3, 1) := by decide +kernel
theorem dL_law_395 : decode cL_law 395 = .ok (.iconst 1, 1) := by decide +kernel
theorem dL_law_396 : decode cL_law 396 = .ok (.iadd, 1) := by decide +kernel
theorem dL_law_397 : decode cL_law 397 = .ok (.iaload, 1) := by decide +kernel
theorem dL_law_398 : decode cL_law 398 = .ok (.aload_n 0, 1) := by decide +kernel
theorem dL_law_399 : decode cL_law 399 = .ok (.iload_n 3, 1) := by decide +kernel
theorem dL_law_400 : decode cL_law 400 = .ok (.iconst 2, 1) := by decide +kernel
theorem dL_law_401 : decode cL_law 401 = .ok (.iadd, 1) := by decide +kernel
theorem dL_law_402 : decode cL_law 402 = .ok (.iaload, 1) := by decide +kernel
theorem dL_law_403 : decode cL_law 403 = .ok (.invokevirtual 57, 3) := by decide +kernel
theorem dL_law_406 : decode cL_law 406 = .ok (.aload_n 2, 1) := by decide +kernel
theorem dL_law_407 : decode cL_law 407 = .ok (.aload_n 0, 1) := by decide +kernel
theorem dL_law_408 : decode cL_law 408 = .ok (.iload_n 3, 1) := by decide +kernel
theorem dL_law_409 : decode cL_law 409 = .ok (.iconst 1, 1) := by decide +kernel
theorem dL_law_410 : decode cL_law 410 = .ok (.iadd, 1) := by decide +kernel
theorem dL_law_411 : decode cL_law 411 = .ok (.iaload, 1) := by decide +kernel
theorem dL_law_412 : decode cL_law 412 = .ok (.aload_n 0, 1) := by decide +kernel
theorem dL_law_413 : decode cL_law 413 = .ok (.iload_n 3, 1) := by decide +kernel
theorem dL_law_414 : decode cL_law 414 = .ok (.iconst 2, 1) := by decide +kernel
theorem dL_law_415 : decode cL_law 415 = .ok (.iadd, 1) := by decide +kernel
theorem dL_law_416 : decode cL_law 416 = .ok (.iaload, 1) := by decide +kernel
theorem dL_law_417 : decode cL_law 417 = .ok (.invokevirtual 60, 3) := by decide +kernel
theorem dL_law_420 : decode cL_law 420 = .ok (.if_icmp .eq 358, 3) := by decide +kernel
theorem dL_law_423 : decode cL_law 423 = .ok (.iconst 0, 1) := by decide +kernel
theorem dL_law_424 : decode cL_law 424 = .ok (.ireturn, 1) := by decide +kernel
theorem dL_law_425 : decode cL_law 425 = .ok (.aload_n 1, 1) := by decide +kernel
theorem dL_law_426 : decode cL_law 426 = .ok (.invokevirtual 61, 3) := by decide +kernel
theorem dL_law_429 : decode cL_law 429 = .ok (.aload_n 2, 1) := by decide +kernel
theorem dL_law_430 : decode cL_law 430 = .ok (.invokevirtual 64, 3) := by decide +kernel
theorem dL_law_433 : decode cL_law 433 = .ok (.if_icmp .eq 345, 3) := by decide +kernel
theorem dL_law_436 : decode cL_law 436 = .ok (.iconst 0, 1) := by decide +kernel
theorem dL_law_437 : decode cL_law 437 = .ok (.ireturn, 1) := by decide +kernel
theorem dL_law_438 : decode cL_law 438 = .ok (.aload_n 1, 1) := by decide +kernel
theorem dL_law_439 : decode cL_law 439 = .ok (.aload_n 0, 1) := by decide +kernel
theorem dL_law_440 : decode cL_law 440 = .ok (.iload_n 3, 1) := by decide +kernel
theorem dL_law_441 : decode cL_law 441 = .ok (.iconst 1, 1) := by decide +kernel
theorem dL_law_442 : decode cL_law 442 = .ok (.iadd, 1) := by decide +kernel
theorem dL_law_443 : decode cL_law 443 = .ok (.iaload, 1) := by decide +kernel
theorem dL_law_444 : decode cL_law 444 = .ok (.invokevirtual 65, 3) := by decide +kernel
theorem dL_law_447 : decode cL_law 447 = .ok (.aload_n 2, 1) := by decide +kernel
theorem dL_law_448 : decode cL_law 448 = .ok (.aload_n 0, 1) := by decide +kernel
theorem dL_law_449 : decode cL_law 449 = .ok (.iload_n 3, 1) := by decide +kernel
theorem dL_law_450 : decode cL_law 450 = .ok (.iconst 1, 1) := by decide +kernel
theorem dL_law_451 : decode cL_law 451 = .ok (.iadd, 1) := by decide +kernel
theorem dL_law_452 : decode cL_law 452 = .ok (.iaload, 1) := by decide +kernel
theorem dL_law_453 : decode cL_law 453 = .ok (.invokevirtual 68, 3) := by decide +kernel
theorem dL_law_456 : decode cL_law 456 = .ok (.if_icmp .eq 322, 3) := by decide +kernel
theorem dL_law_459 : decode cL_law 459 = .ok (.iconst 0, 1) := by decide +kernel
theorem dL_law_460 : decode cL_law 460 = .ok (.ireturn, 1) := by decide +kernel
theorem dL_law_461 : decode cL_law 461 = .ok (.aload_n 1, 1) := by decide +kernel
theorem dL_law_462 : decode cL_law 462 = .ok (.aload_n 0, 1) := by decide +kernel
theorem dL_law_463 : decode cL_law 463 = .ok (.iload_n 3, 1) := by decide +kernel
theorem dL_law_464 : decode cL_law 464 = .ok (.iconst 1, 1) := by decide +kernel
theorem dL_law_465 : decode cL_law 465 = .ok (.iadd, 1) := by decide +kernel
theorem dL_law_466 : decode cL_law 466 = .ok (.iaload, 1) := by decide +kernel
theorem dL_law_467 : decode cL_law 467 = .ok (.invokevirtual 69, 3) := by decide +kernel
theorem dL_law_470 : decode cL_law 470 = .ok (.aload_n 2, 1) := by decide +kernel
theorem dL_law_471 : decode cL_law 471 = .ok (.aload_n 0, 1) := by decide +kernel
theorem dL_law_472 : decode cL_law 472 = .ok (.iload_n 3, 1) := by decide +kernel
theorem dL_law_473 : decode cL_law 473 = .ok (.iconst 1, 1) := by decide +kernel
theorem dL_law_474 : decode cL_law 474 = .ok (.iadd, 1) := by decide +kernel
theorem dL_law_475 : decode cL_law 475 = .ok (.iaload, 1) := by decide +kernel
theorem dL_law_476 : decode cL_law 476 = .ok (.invokevirtual 72, 3) := by decide +kernel
theorem dL_law_479 : decode cL_law 479 = .ok (.lcmp, 1) := by decide +kernel
theorem dL_law_480 : decode cL_law 480 = .ok (.ifCond .eq 298, 3) := by decide +kernel
theorem dL_law_483 : decode cL_law 483 = .ok (.iconst 0, 1) := by decide +kernel
theorem dL_law_484 : decode cL_law 484 = .ok (.ireturn, 1) := by decide +kernel
theorem dL_law_485 : decode cL_law 485 = .ok (.aload_n 1, 1) := by decide +kernel
theorem dL_law_486 : decode cL_law 486 = .ok (.invokevirtual 73, 3) := by decide +kernel
theorem dL_law_489 : decode cL_law 489 = .ok (.aload_n 2, 1) := by decide +kernel
theorem dL_law_490 : decode cL_law 490 = .ok (.invokevirtual 77, 3) := by decide +kernel
theorem dL_law_493 : decode cL_law 493 = .ok (.lcmp, 1) := by decide +kernel
theorem dL_law_494 : decode cL_law 494 = .ok (.ifCond .eq 284, 3) := by decide +kernel
theorem dL_law_497 : decode cL_law 497 = .ok (.iconst 0, 1) := by decide +kernel
theorem dL_law_498 : decode cL_law 498 = .ok (.ireturn, 1) := by decide +kernel
theorem dL_law_499 : decode cL_law 499 = .ok (.aload_n 1, 1) := by decide +kernel
theorem dL_law_500 : decode cL_law 500 = .ok (.aload_n 0, 1) := by decide +kernel
theorem dL_law_501 : decode cL_law 501 = .ok (.iload_n 3, 1) := by decide +kernel
theorem dL_law_502 : decode cL_law 502 = .ok (.iconst 1, 1) := by decide +kernel
theorem dL_law_503 : decode cL_law 503 = .ok (.iadd, 1) := by decide +kernel
theorem dL_law_504 : decode cL_law 504 = .ok (.iaload, 1) := by decide +kernel
theorem dL_law_505 : decode cL_law 505 = .ok (.invokevirtual 78, 3) := by decide +kernel
theorem dL_law_508 : decode cL_law 508 = .ok (.aload_n 2, 1) := by decide +kernel
theorem dL_law_509 : decode cL_law 509 = .ok (.aload_n 0, 1) := by decide +kernel
theorem dL_law_510 : decode cL_law 510 = .ok (.iload_n 3, 1) := by decide +kernel
theorem dL_law_511 : decode cL_law 511 = .ok (.iconst 1, 1) := by decide +kernel
theorem dL_law_512 : decode cL_law 512 = .ok (.iadd, 1) := by decide +kernel
theorem dL_law_513 : decode cL_law 513 = .ok (.iaload, 1) := by decide +kernel
theorem dL_law_514 : decode cL_law 514 = .ok (.invokevirtual 81, 3) := by decide +kernel
theorem dL_law_517 : decode cL_law 517 = .ok (.lcmp, 1) := by decide +kernel
theorem dL_law_518 : decode cL_law 518 = .ok (.ifCond .eq 260, 3) := by decide +kernel
theorem dL_law_521 : decode cL_law 521 = .ok (.iconst 0, 1) := by decide +kernel
theorem dL_law_522 : decode cL_law 522 = .ok (.ireturn, 1) := by decide +kernel
theorem dL_law_523 : decode cL_law 523 = .ok (.aload_n 1, 1) := by decide +kernel
theorem dL_law_524 : decode cL_law 524 = .ok (.invokevirtual 82, 3) := by decide +kernel
theorem dL_law_527 : decode cL_law 527 = .ok (.aload_n 2, 1) := by decide +kernel
theorem dL_law_528 : decode cL_law 528 = .ok (.invokevirtual 85, 3) := by decide +kernel
theorem dL_law_531 : decode cL_law 531 = .ok (.if_icmp .eq 247, 3) := by decide +kernel
theorem dL_law_534 : decode cL_law 534 = .ok (.iconst 0, 1) := by decide +kernel
theorem dL_law_535 : decode cL_law 535 = .ok (.ireturn, 1) := by decide +kernel
theorem dL_law_536 : decode cL_law 536 = .ok (.aload_n 1, 1) := by decide +kernel
theorem dL_law_537 : decode cL_law 537 = .ok (.aload_n 0, 1) := by decide +kernel
theorem dL_law_538 : decode cL_law 538 = .ok (.iload_n 3, 1) := by decide +kernel
theorem dL_law_539 : decode cL_law 539 = .ok (.iconst 1, 1) := by decide +kernel
theorem dL_law_540 : decode cL_law 540 = .ok (.iadd, 1) := by decide +kernel
theorem dL_law_541 : decode cL_law 541 = .ok (.iaload, 1) := by decide +kernel
theorem dL_law_542 : decode cL_law 542 = .ok (.invokevirtual 86, 3) := by decide +kernel
theorem dL_law_545 : decode cL_law 545 = .ok (.aload_n 2, 1) := by decide +kernel
theorem dL_law_546 : decode cL_law 546 = .ok (.aload_n 0, 1) := by decide +kernel
theorem dL_law_547 : decode cL_law 547 = .ok (.iload_n 3, 1) := by decide +kernel
theorem dL_law_548 : decode cL_law 548 = .ok (.iconst 1, 1) := by decide +kernel
theorem dL_law_549 : decode cL_law 549 = .ok (.iadd, 1) := by decide +kernel
theorem dL_law_550 : decode cL_law 550 = .ok (.iaload, 1) := by decide +kernel
theorem dL_law_551 : decode cL_law 551 = .ok (.invokevirtual 89, 3) := by decide +kernel
theorem dL_law_554 : decode cL_law 554 = .ok (.if_icmp .eq 224, 3) := by decide +kernel
theorem dL_law_557 : decode cL_law 557 = .ok (.iconst 0, 1) := by decide +kernel
theorem dL_law_558 : decode cL_law 558 = .ok (.ireturn, 1) := by decide +kernel
theorem dL_law_559 : decode cL_law 559 = .ok (.aload_n 1, 1) := by decide +kernel
theorem dL_law_560 : decode cL_law 560 = .ok (.invokevirtual 90, 3) := by decide +kernel
theorem dL_law_563 : decode cL_law 563 = .ok (.aload_n 2, 1) := by decide +kernel
theorem dL_law_564 : decode cL_law 564 = .ok (.invokevirtual 93, 3) := by decide +kernel
theorem dL_law_567 : decode cL_law 567 = .ok (.if_icmp .eq 211, 3) := by decide +kernel
theorem dL_law_570 : decode cL_law 570 = .ok (.iconst 0, 1) := by decide +kernel
theorem dL_law_571 : decode cL_law 571 = .ok (.ireturn, 1) := by decide +kernel
theorem dL_law_572 : decode cL_law 572 = .ok (.aload_n 1, 1) := by decide +kernel
theorem dL_law_573 : decode cL_law 573 = .ok (.aload_n 0, 1) := by decide +kernel
theorem dL_law_574 : decode cL_law 574 = .ok (.iload_n 3, 1) := by decide +kernel
theorem dL_law_575 : decode cL_law 575 = .ok (.iconst 1, 1) := by decide +kernel
theorem dL_law_576 : decode cL_law 576 = .ok (.iadd, 1) := by decide +kernel
theorem dL_law_577 : decode cL_law 577 = .ok (.iaload, 1) := by decide +kernel
theorem dL_law_578 : decode cL_law 578 = .ok (.aload_n 0, 1) := by decide +kernel
theorem dL_law_579 : decode cL_law 579 = .ok (.iload_n 3, 1) := by decide +kernel
theorem dL_law_580 : decode cL_law 580 = .ok (.iconst 2, 1) := by decide +kernel
theorem dL_law_581 : decode cL_law 581 = .ok (.iadd, 1) := by decide +kernel
theorem dL_law_582 : decode cL_law 582 = .ok (.iaload, 1) := by decide +kernel
theorem dL_law_583 : decode cL_law 583 = .ok (.invokevirtual 94, 3) := by decide +kernel
theorem dL_law_586 : decode cL_law 586 = .ok (.aload_n 2, 1) := by decide +kernel
theorem dL_law_587 : decode cL_law 587 = .ok (.aload_n 0, 1) := by decide +kernel
theorem dL_law_588 : decode cL_law 588 = .ok (.iload_n 3, 1) := by decide +kernel
theorem dL_law_589 : decode cL_law 589 = .ok (.iconst 1, 1) := by decide +kernel
theorem dL_law_590 : decode cL_law 590 = .ok (.iadd, 1) := by decide +kernel
theorem dL_law_591 : decode cL_law 591 = .ok (.iaload, 1) := by decide +kernel
theorem dL_law_592 : decode cL_law 592 = .ok (.aload_n 0, 1) := by decide +kernel
theorem dL_law_593 : decode cL_law 593 = .ok (.iload_n 3, 1) := by decide +kernel
theorem dL_law_594 : decode cL_law 594 = .ok (.iconst 2, 1) := by decide +kernel
theorem dL_law_595 : decode cL_law 595 = .ok (.iadd, 1) := by decide +kernel
theorem dL_law_596 : decode cL_law 596 = .ok (.iaload, 1) := by decide +kernel
theorem dL_law_597 : decode cL_law 597 = .ok (.invokevirtual 97, 3) := by decide +kernel
theorem dL_law_600 : decode cL_law 600 = .ok (.lcmp, 1) := by decide +kernel
theorem dL_law_601 : decode cL_law 601 = .ok (.ifCond .eq 177, 3) := by decide +kernel
theorem dL_law_604 : decode cL_law 604 = .ok (.iconst 0, 1) := by decide +kernel
theorem dL_law_605 : decode cL_law 605 = .ok (.ireturn, 1) := by decide +kernel
theorem dL_law_606 : decode cL_law 606 = .ok (.aload_n 1, 1) := by decide +kernel
theorem dL_law_607 : decode cL_law 607 = .ok (.aload_n 0, 1) := by decide +kernel
theorem dL_law_608 : decode cL_law 608 = .ok (.iload_n 3, 1) := by decide +kernel
theorem dL_law_609 : decode cL_law 609 = .ok (.iconst 1, 1) := by decide +kernel
theorem dL_law_610 : decode cL_law 610 = .ok (.iadd, 1) := by decide +kernel
theorem dL_law_611 : decode cL_law 611 = .ok (.iaload, 1) := by decide +kernel
theorem dL_law_612 : decode cL_law 612 = .ok (.invokevirtual 98, 3) := by decide +kernel
theorem dL_law_615 : decode cL_law 615 = .ok (.aload_n 2, 1) := by decide +kernel
theorem dL_law_616 : decode cL_law 616 = .ok (.aload_n 0, 1) := by decide +kernel
theorem dL_law_617 : decode cL_law 617 = .ok (.iload_n 3, 1) := by decide +kernel
theorem dL_law_618 : decode cL_law 618 = .ok (.iconst 1, 1) := by decide +kernel
theorem dL_law_619 : decode cL_law 619 = .ok (.iadd, 1) := by decide +kernel
theorem dL_law_620 : decode cL_law 620 = .ok (.iaload, 1) := by decide +kernel
theorem dL_law_621 : decode cL_law 621 = .ok (.invokevirtual 101, 3) := by decide +kernel
theorem dL_law_624 : decode cL_law 624 = .ok (.if_icmp .eq 154, 3) := by decide +kernel
theorem dL_law_627 : decode cL_law 627 = .ok (.iconst 0, 1) := by decide +kernel
theorem dL_law_628 : decode cL_law 628 = .ok (.ireturn, 1) := by decide +kernel
theorem dL_law_629 : decode cL_law 629 = .ok (.aload_n 1, 1) := by decide +kernel
theorem dL_law_630 : decode cL_law 630 = .ok (.aload_n 0, 1) := by decide +kernel
theorem dL_law_631 : decode cL_law 631 = .ok (.iload_n 3, 1) := by decide +kernel
theorem dL_law_632 : decode cL_law 632 = .ok (.iconst 1, 1) := by decide +kernel
theorem dL_law_633 : decode cL_law 633 = .ok (.iadd, 1) := by decide +kernel
theorem dL_law_634 : decode cL_law 634 = .ok (.iaload, 1) := by decide +kernel
theorem dL_law_635 : decode cL_law 635 = .ok (.invokevirtual 102, 3) := by decide +kernel
theorem dL_law_638 : decode cL_law 638 = .ok (.aload_n 2, 1) := by decide +kernel
theorem dL_law_639 : decode cL_law 639 = .ok (.aload_n 0, 1) := by decide +kernel
theorem dL_law_640 : decode cL_law 640 = .ok (.iload_n 3, 1) := by decide +kernel
theorem dL_law_641 : decode cL_law 641 = .ok (.iconst 1, 1) := by decide +kernel
theorem dL_law_642 : decode cL_law 642 = .ok (.iadd, 1) := by decide +kernel
theorem dL_law_643 : decode cL_law 643 = .ok (.iaload, 1) := by decide +kernel
theorem dL_law_644 : decode cL_law 644 = .ok (.invokevirtual 105, 3) := by decide +kernel
theorem dL_law_647 : decode cL_law 647 = .ok (.lcmp, 1) := by decide +kernel
theorem dL_law_648 : decode cL_law 648 = .ok (.ifCond .eq 130, 3) := by decide +kernel
theorem dL_law_651 : decode cL_law 651 = .ok (.iconst 0, 1) := by decide +kernel
theorem dL_law_652 : decode cL_law 652 = .ok (.ireturn, 1) := by decide +kernel
theorem dL_law_653 : decode cL_law 653 = .ok (.aload_n 1, 1) := by decide +kernel
theorem dL_law_654 : decode cL_law 654 = .ok (.aload_n 0, 1) := by decide +kernel
theorem dL_law_655 : decode cL_law 655 = .ok (.iload_n 3, 1) := by decide +kernel
theorem dL_law_656 : decode cL_law 656 = .ok (.iconst 1, 1) := by decide +kernel
theorem dL_law_657 : decode cL_law 657 = .ok (.iadd, 1) := by decide +kernel
theorem dL_law_658 : decode cL_law 658 = .ok (.iaload, 1) := by decide +kernel
theorem dL_law_659 : decode cL_law 659 = .ok (.aload_n 0, 1) := by decide +kernel
theorem dL_law_660 : decode cL_law 660 = .ok (.iload_n 3, 1) := by decide +kernel
theorem dL_law_661 : decode cL_law 661 = .ok (.iconst 2, 1) := by decide +kernel
theorem dL_law_662 : decode cL_law 662 = .ok (.iadd, 1) := by decide +kernel
theorem dL_law_663 : decode cL_law 663 = .ok (.iaload, 1) := by decide +kernel
theorem dL_law_664 : decode cL_law 664 = .ok (.aload_n 0, 1) := by decide +kernel
theorem dL_law_665 : decode cL_law 665 = .ok (.iload_n 3, 1) := by decide +kernel
theorem dL_law_666 : decode cL_law 666 = .ok (.iconst 3, 1) := by decide +kernel
theorem dL_law_667 : decode cL_law 667 = .ok (.iadd, 1) := by decide +kernel
theorem dL_law_668 : decode cL_law 668 = .ok (.iaload, 1) := by decide +kernel
theorem dL_law_669 : decode cL_law 669 = .ok (.invokevirtual 106, 3) := by decide +kernel
theorem dL_law_672 : decode cL_law 672 = .ok (.aload_n 2, 1) := by decide +kernel
theorem dL_law_673 : decode cL_law 673 = .ok (.aload_n 0, 1) := by decide +kernel
theorem dL_law_674 : decode cL_law 674 = .ok (.iload_n 3, 1) := by decide +kernel
theorem dL_law_675 : decode cL_law 675 = .ok (.iconst 1, 1) := by decide +kernel
theorem dL_law_676 : decode cL_law 676 = .ok (.iadd, 1) := by decide +kernel
theorem dL_law_677 : decode cL_law 677 = .ok (.iaload, 1) := by decide +kernel
theorem dL_law_678 : decode cL_law 678 = .ok (.aload_n 0, 1) := by decide +kernel
theorem dL_law_679 : decode cL_law 679 = .ok (.iload_n 3, 1) := by decide +kernel
theorem dL_law_680 : decode cL_law 680 = .ok (.iconst 2, 1) := by decide +kernel
theorem dL_law_681 : decode cL_law 681 = .ok (.iadd, 1) := by decide +kernel
theorem dL_law_682 : decode cL_law 682 = .ok (.iaload, 1) := by decide +kernel
theorem dL_law_683 : decode cL_law 683 = .ok (.aload_n 0, 1) := by decide +kernel
theorem dL_law_684 : decode cL_law 684 = .ok (.iload_n 3, 1) := by decide +kernel
theorem dL_law_685 : decode cL_law 685 = .ok (.iconst 3, 1) := by decide +kernel
theorem dL_law_686 : decode cL_law 686 = .ok (.iadd, 1) := by decide +kernel
theorem dL_law_687 : decode cL_law 687 = .ok (.iaload, 1) := by decide +kernel
theorem dL_law_688 : decode cL_law 688 = .ok (.invokevirtual 110, 3) := by decide +kernel
theorem dL_law_691 : decode cL_law 691 = .ok (.if_icmp .eq 87, 3) := by decide +kernel
theorem dL_law_694 : decode cL_law 694 = .ok (.iconst 0, 1) := by decide +kernel
theorem dL_law_695 : decode cL_law 695 = .ok (.ireturn, 1) := by decide +kernel
theorem dL_law_696 : decode cL_law 696 = .ok (.aload_n 1, 1) := by decide +kernel
theorem dL_law_697 : decode cL_law 697 = .ok (.aload_n 0, 1) := by decide +kernel
theorem dL_law_698 : decode cL_law 698 = .ok (.iload_n 3, 1) := by decide +kernel
theorem dL_law_699 : decode cL_law 699 = .ok (.iconst 1, 1) := by decide +kernel
theorem dL_law_700 : decode cL_law 700 = .ok (.iadd, 1) := by decide +kernel
theorem dL_law_701 : decode cL_law 701 = .ok (.iaload, 1) := by decide +kernel
theorem dL_law_702 : decode cL_law 702 = .ok (.aload_n 0, 1) := by decide +kernel
theorem dL_law_703 : decode cL_law 703 = .ok (.iload_n 3, 1) := by decide +kernel
theorem dL_law_704 : decode cL_law 704 = .ok (.iconst 2, 1) := by decide +kernel
theorem dL_law_705 : decode cL_law 705 = .ok (.iadd, 1) := by decide +kernel
theorem dL_law_706 : decode cL_law 706 = .ok (.iaload, 1) := by decide +kernel
theorem dL_law_707 : decode cL_law 707 = .ok (.invokevirtual 111, 3) := by decide +kernel
theorem dL_law_710 : decode cL_law 710 = .ok (.aload_n 2, 1) := by decide +kernel
theorem dL_law_711 : decode cL_law 711 = .ok (.aload_n 0, 1) := by decide +kernel
theorem dL_law_712 : decode cL_law 712 = .ok (.iload_n 3, 1) := by decide +kernel
theorem dL_law_713 : decode cL_law 713 = .ok (.iconst 1, 1) := by decide +kernel
theorem dL_law_714 : decode cL_law 714 = .ok (.iadd, 1) := by decide +kernel
theorem dL_law_715 : decode cL_law 715 = .ok (.iaload, 1) := by decide +kernel
theorem dL_law_716 : decode cL_law 716 = .ok (.aload_n 0, 1) := by decide +kernel
theorem dL_law_717 : decode cL_law 717 = .ok (.iload_n 3, 1) := by decide +kernel
theorem dL_law_718 : decode cL_law 718 = .ok (.iconst 2, 1) := by decide +kernel
theorem dL_law_719 : decode cL_law 719 = .ok (.iadd, 1) := by decide +kernel
theorem dL_law_720 : decode cL_law 720 = .ok (.iaload, 1) := by decide +kernel
theorem dL_law_721 : decode cL_law 721 = .ok (.invokevirtual 114, 3) := by decide +kernel
theorem dL_law_724 : decode cL_law 724 = .ok (.if_icmp .eq 54, 3) := by decide +kernel
theorem dL_law_727 : decode cL_law 727 = .ok (.iconst 0, 1) := by decide +kernel
theorem dL_law_728 : decode cL_law 728 = .ok (.ireturn, 1) := by decide +kernel
theorem dL_law_729 : decode cL_law 729 = .ok (.aload_n 1, 1) := by decide +kernel
theorem dL_law_730 : decode cL_law 730 = .ok (.invokevirtual 115, 3) := by decide +kernel
theorem dL_law_733 : decode cL_law 733 = .ok (.aload_n 2, 1) := by decide +kernel
theorem dL_law_734 : decode cL_law 734 = .ok (.invokevirtual 118, 3) := by decide +kernel
theorem dL_law_737 : decode cL_law 737 = .ok (.if_icmp .eq 41, 3) := by decide +kernel
theorem dL_law_740 : decode cL_law 740 = .ok (.iconst 0, 1) := by decide +kernel
theorem dL_law_741 : decode cL_law 741 = .ok (.ireturn, 1) := by decide +kernel
theorem dL_law_742 : decode cL_law 742 = .ok (.aload_n 1, 1) := by decide +kernel
theorem dL_law_743 : decode cL_law 743 = .ok (.invokevirtual 119, 3) := by decide +kernel
theorem dL_law_746 : decode cL_law 746 = .ok (.aload_n 2, 1) := by decide +kernel
theorem dL_law_747 : decode cL_law 747 = .ok (.invokevirtual 122, 3) := by decide +kernel
theorem dL_law_750 : decode cL_law 750 = .ok (.if_icmp .eq 28, 3) := by decide +kernel
theorem dL_law_753 : decode cL_law 753 = .ok (.iconst 0, 1) := by decide +kernel
theorem dL_law_754 : decode cL_law 754 = .ok (.ireturn, 1) := by decide +kernel
theorem dL_law_755 : decode cL_law 755 = .ok (.aload_n 1, 1) := by decide +kernel
theorem dL_law_756 : decode cL_law 756 = .ok (.aload_n 0, 1) := by decide +kernel
theorem dL_law_757 : decode cL_law 757 = .ok (.iload_n 3, 1) := by decide +kernel
theorem dL_law_758 : decode cL_law 758 = .ok (.iconst 1, 1) := by decide +kernel
theorem dL_law_759 : decode cL_law 759 = .ok (.iadd, 1) := by decide +kernel
theorem dL_law_760 : decode cL_law 760 = .ok (.iaload, 1) := by decide +kernel
theorem dL_law_761 : decode cL_law 761 = .ok (.invokevirtual 123, 3) := by decide +kernel
theorem dL_law_764 : decode cL_law 764 = .ok (.aload_n 2, 1) := by decide +kernel
theorem dL_law_765 : decode cL_law 765 = .ok (.aload_n 0, 1) := by decide +kernel
theorem dL_law_766 : decode cL_law 766 = .ok (.iload_n 3, 1) := by decide +kernel
theorem dL_law_767 : decode cL_law 767 = .ok (.iconst 1, 1) := by decide +kernel
theorem dL_law_768 : decode cL_law 768 = .ok (.iadd, 1) := by decide +kernel
theorem dL_law_769 : decode cL_law 769 = .ok (.iaload, 1) := by decide +kernel
theorem dL_law_770 : decode cL_law 770 = .ok (.invokevirtual 126, 3) := by decide +kernel
theorem dL_law_773 : decode cL_law 773 = .ok (.if_icmp .eq 5, 3) := by decide +kernel
theorem dL_law_776 : decode cL_law 776 = .ok (.iconst 0, 1) := by decide +kernel
theorem dL_law_777 : decode cL_law 777 = .ok (.ireturn, 1) := by decide +kernel
theorem dL_law_778 : decode cL_law 778 = .ok (.iinc 3 4, 3) := by decide +kernel
theorem dL_law_781 : decode cL_law 781 = .ok (.goto (-763), 3) := by decide +kernel
theorem dL_law_784 : decode cL_law 784 = .ok (.iconst 1, 1) := by decide +kernel
theorem dL_law_785 : decode cL_law 785 = .ok (.ireturn, 1) := by decide +kernel
