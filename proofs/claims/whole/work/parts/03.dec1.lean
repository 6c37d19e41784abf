theorem dX7_goOn_8 : decode cX7_goOn 8 = .ok (.ifCond .lt 58, 3) := by decide +kernel
theorem dX7_goOn_11 : decode cX7_goOn 11 = .ok (.aload_n 0, 1) := by decide +kernel
theorem dX7_goOn_12 : decode cX7_goOn 12 = .ok (.getfield 15, 3) := by decide +kernel
theorem dX7_goOn_15 : decode cX7_goOn 15 = .ok (.iload_n 1, 1) := by decide +kernel
theorem dX7_goOn_16 : decode cX7_goOn 16 = .ok (.iaload, 1) := by decide +kernel
theorem dX7_goOn_17 : decode cX7_goOn 17 = .ok (.aload_n 0, 1) := by decide +kernel
theorem dX7_goOn_18 : decode cX7_goOn 18 = .ok (.getfield 21, 3) := by decide +kernel
theorem dX7_goOn_21 : decode cX7_goOn 21 = .ok (.iconst 1, 1) := by decide +kernel
theorem dX7_goOn_22 : decode cX7_goOn 22 = .ok (.isub, 1) := by decide +kernel
theorem dX7_goOn_23 : decode cX7_goOn 23 = .ok (.if_icmp .ge 37, 3) := by decide +kernel
theorem dX7_goOn_26 : decode cX7_goOn 26 = .ok (.aload_n 0, 1) := by decide +kernel
theorem dX7_goOn_27 : decode cX7_goOn 27 = .ok (.getfield 15, 3) := by decide +kernel
theorem dX7_goOn_30 : decode cX7_goOn 30 = .ok (.iload_n 1, 1) := by decide +kernel
theorem dX7_goOn_31 : decode cX7_goOn 31 = .ok (.iaload, 1) := by decide +kernel
theorem dX7_goOn_32 : decode cX7_goOn 32 = .ok (.iconst 1, 1) := by decide +kernel
theorem dX7_goOn_33 : decode cX7_goOn 33 = .ok (.iadd, 1) := by decide +kernel
theorem dX7_goOn_34 : decode cX7_goOn 34 = .ok (.istore_n 2, 1) := by decide +kernel
theorem dX7_goOn_35 : decode cX7_goOn 35 = .ok (.iload_n 1, 1) := by decide +kernel
theorem dX7_goOn_36 : decode cX7_goOn 36 = .ok (.istore_n 3, 1) := by decide +kernel
theorem dX7_goOn_37 : decode cX7_goOn 37 = .ok (.iload_n 3, 1) := by decide +kernel
theorem dX7_goOn_38 : decode cX7_goOn 38 = .ok (.aload_n 0, 1) := by decide +kernel
theorem dX7_goOn_39 : decode cX7_goOn 39 = .ok (.getfield 25, 3) := by decide +kernel
theorem dX7_goOn_42 : decode cX7_goOn 42 = .ok (.if_icmp .ge 16, 3) := by decide +kernel
theorem dX7_goOn_45 : decode cX7_goOn 45 = .ok (.aload_n 0, 1) := by decide +kernel
theorem dX7_goOn_46 : decode cX7_goOn 46 = .ok (.getfield 15, 3) := by decide +kernel
theorem dX7_goOn_49 : decode cX7_goOn 49 = .ok (.iload_n 3, 1) := by decide +kernel
theorem dX7_goOn_50 : decode cX7_goOn 50 = .ok (.iload_n 2, 1) := by decide +kernel
theorem dX7_goOn_51 : decode cX7_goOn 51 = .ok (.iastore, 1) := by decide +kernel
theorem dX7_goOn_52 : decode cX7_goOn 52 = .ok (.iinc 3 1, 3) := by decide +kernel
theorem dX7_goOn_55 : decode cX7_goOn 55 = .ok (.goto (-18), 3) := by decide +kernel
theorem dX7_goOn_58 : decode cX7_goOn 58 = .ok (.iconst 1, 1) := by decide +kernel
theorem dX7_goOn_59 : decode cX7_goOn 59 = .ok (.ireturn, 1) := by decide +kernel
theorem dX7_goOn_60 : decode cX7_goOn 60 = .ok (.iinc 1 (-1), 3) := by decide +kernel
theorem dX7_goOn_63 : decode cX7_goOn 63 = .ok (.goto (-56), 3) := by decide +kernel
theorem dX7_goOn_66 : decode cX7_goOn 66 = .ok (.iconst 0, 1) := by decide +kernel
theorem dX7_goOn_67 : decode cX7_goOn 67 = .ok (.ireturn, 1) := by decide +kernel
theorem dX7_leastStrength_0 : decode cX7_leastStrength 0 = .ok (.iconst 0, 1) := by decide +kernel
theorem dX7_leastStrength_1 : decode cX7_leastStrength 1 = .ok (.istore_n 2, 1) := by decide +kernel
theorem dX7_leastStrength_2 : decode cX7_leastStrength 2 = .ok (.iconst 0, 1) := by decide +kernel
theorem dX7_leastStrength_3 : decode cX7_leastStrength 3 = .ok (.istore_n 3, 1) := by decide +kernel
theorem dX7_leastStrength_4 : decode cX7_leastStrength 4 = .ok (.iload_n 3, 1) := by decide +kernel
theorem dX7_leastStrength_5 : decode cX7_leastStrength 5 = .ok (.aload_n 0, 1) := by decide +kernel
theorem dX7_leastStrength_6 : decode cX7_leastStrength 6 = .ok (.getfield 21, 3) := by decide +kernel
theorem dX7_leastStrength_9 : decode cX7_leastStrength 9 = .ok (.if_icmp .ge 101, 3) := by decide +kernel
theorem dX7_leastStrength_12 : decode cX7_leastStrength 12 = .ok (.aload_n 1, 1) := by decide +kernel
theorem dX7_leastStrength_13 : decode cX7_leastStrength 13 = .ok (.getfield 58, 3) := by decide +kernel
theorem dX7_leastStrength_16 : decode cX7_leastStrength 16 = .ok (.aload_n 0, 1) := by decide +kernel
theorem dX7_leastStrength_17 : decode cX7_leastStrength 17 = .ok (.getfield 9, 3) := by decide +kernel
theorem dX7_leastStrength_20 : decode cX7_leastStrength 20 = .ok (.iload_n 3, 1) := by decide +kernel
theorem dX7_leastStrength_21 : decode cX7_leastStrength 21 = .ok (.iaload, 1) := by decide +kernel
theorem dX7_leastStrength_22 : decode cX7_leastStrength 22 = .ok (.iaload, 1) := by decide +kernel
theorem dX7_leastStrength_23 : decode cX7_leastStrength 23 = .ok (.aload_n 1, 1) := by decide +kernel
theorem dX7_leastStrength_24 : decode cX7_leastStrength 24 = .ok (.invokevirtual 61, 3) := by decide +kernel
theorem dX7_leastStrength_27 : decode cX7_leastStrength 27 = .ok (.invokestatic 65, 3) := by decide +kernel
theorem dX7_leastStrength_30 : decode cX7_leastStrength 30 = .ok (.istore 4, 2) := by decide +kernel
theorem dX7_leastStrength_32 : decode cX7_leastStrength 32 = .ok (.aload_n 1, 1) := by decide +kernel
theorem dX7_leastStrength_33 : decode cX7_leastStrength 33 = .ok (.getfield 70, 3) := by decide +kernel
theorem dX7_leastStrength_36 : decode cX7_leastStrength 36 = .ok (.aload_n 0, 1) := by decide +kernel
theorem dX7_leastStrength_37 : decode cX7_leastStrength 37 = .ok (.getfield 9, 3) := by decide +kernel
theorem dX7_leastStrength_40 : decode cX7_leastStrength 40 = .ok (.iload_n 3, 1) := by decide +kernel
theorem dX7_leastStrength_41 : decode cX7_leastStrength 41 = .ok (.iaload, 1) := by decide +kernel
theorem dX7_leastStrength_42 : decode cX7_leastStrength 42 = .ok (.iaload, 1) := by decide +kernel
theorem dX7_leastStrength_43 : decode cX7_leastStrength 43 = .ok (.istore 5, 2) := by decide +kernel
theorem dX7_leastStrength_45 : decode cX7_leastStrength 45 = .ok (.iconst 0, 1) := by decide +kernel
theorem dX7_leastStrength_46 : decode cX7_leastStrength 46 = .ok (.istore 6, 2) := by decide +kernel
theorem dX7_leastStrength_48 : decode cX7_leastStrength 48 = .ok (.iload 6, 2) := by decide +kernel
theorem dX7_leastStrength_50 : decode cX7_leastStrength 50 = .ok (.aload_n 0, 1) := by decide +kernel
theorem dX7_leastStrength_51 : decode cX7_leastStrength 51 = .ok (.getfield 25, 3) := by decide +kernel
theorem dX7_leastStrength_54 : decode cX7_leastStrength 54 = .ok (.if_icmp .ge 34, 3) := by decide +kernel
theorem dX7_leastStrength_57 : decode cX7_leastStrength 57 = .ok (.iload 5, 2) := by decide +kernel
theorem dX7_leastStrength_59 : decode cX7_leastStrength 59 = .ok (.aload_n 0, 1) := by decide +kernel
theorem dX7_leastStrength_60 : decode cX7_leastStrength 60 = .ok (.getfield 15, 3) := by decide +kernel
theorem dX7_leastStrength_63 : decode cX7_leastStrength 63 = .ok (.iload 6, 2) := by decide +kernel
theorem dX7_leastStrength_65 : decode cX7_leastStrength 65 = .ok (.iaload, 1) := by decide +kernel
theorem dX7_leastStrength_66 : decode cX7_leastStrength 66 = .ok (.iload_n 3, 1) := by decide +kernel
theorem dX7_leastStrength_67 : decode cX7_leastStrength 67 = .ok (.if_icmp .ne 8, 3) := by decide +kernel
theorem dX7_leastStrength_70 : decode cX7_leastStrength 70 = .ok (.iload 4, 2) := by decide +kernel
theorem dX7_leastStrength_72 : decode cX7_leastStrength 72 = .ok (.goto 7, 3) := by decide +kernel
theorem dX7_leastStrength_75 : decode cX7_leastStrength 75 = .ok (.iload 4, 2) := by decide +kernel
theorem dX7_leastStrength_77 : decode cX7_leastStrength 77 = .ok (.iconst 2, 1) := by decide +kernel
theorem dX7_leastStrength_78 : decode cX7_leastStrength 78 = .ok (.idiv, 1) := by decide +kernel
theorem dX7_leastStrength_79 : decode cX7_leastStrength 79 = .ok (.isub, 1) := by decide +kernel
theorem dX7_leastStrength_80 : decode cX7_leastStrength 80 = .ok (.istore 5, 2) := by decide +kernel
theorem dX7_leastStrength_82 : decode cX7_leastStrength 82 = .ok (.iinc 6 1, 3) := by decide +kernel
theorem dX7_leastStrength_85 : decode cX7_leastStrength 85 = .ok (.goto (-37), 3) := by decide +kernel
theorem dX7_leastStrength_88 : decode cX7_leastStrength 88 = .ok (.iload_n 3, 1) := by decide +kernel
theorem dX7_leastStrength_89 : decode cX7_leastStrength 89 = .ok (.ifCond .ne 8, 3) := by decide +kernel
theorem dX7_leastStrength_92 : decode cX7_leastStrength 92 = .ok (.iload 5, 2) := by decide +kernel
theorem dX7_leastStrength_94 : decode cX7_leastStrength 94 = .ok (.goto 9, 3) := by decide +kernel
theorem dX7_leastStrength_97 : decode cX7_leastStrength 97 = .ok (.iload_n 2, 1) := by decide +kernel
theorem dX7_leastStrength_98 : decode cX7_leastStrength 98 = .ok (.iload 5, 2) := by decide +kernel
theorem dX7_leastStrength_100 : decode cX7_leastStrength 100 = .ok (.invokestatic 43, 3) := by decide +kernel
theorem dX7_leastStrength_103 : decode cX7_leastStrength 103 = .ok (.istore_n 2, 1) := by decide +kernel
theorem dX7_leastStrength_104 : decode cX7_leastStrength 104 = .ok (.iinc 3 1, 3) := by decide +kernel
theorem dX7_leastStrength_107 : decode cX7_leastStrength 107 = .ok (.goto (-103), 3) := by decide +kernel
theorem dX7_leastStrength_110 : decode cX7_leastStrength 110 = .ok (.iload_n 2, 1) := by decide +kernel
theorem dX7_leastStrength_111 : decode cX7_leastStrength 111 = .ok (.ireturn, 1) := by decide +kernel
theorem dX8_init_0 : decode cX8_init 0 = .ok (.aload_n 0, 1) := by decide +kernel
theorem dX8_init_1 : decode cX8_init 1 = .ok (.invokespecial 1, 3) := by decide +kernel
theorem dX8_init_4 : decode cX8_init 4 = .ok (.aload_n 0, 1) := by decide +kernel
theorem dX8_init_5 : decode cX8_init 5 = .ok (.new 7, 3) := by decide +kernel
theorem dX8_init_8 : decode cX8_init 8 = .ok (.dup, 1) := by decide +kernel
theorem dX8_init_9 : decode cX8_init 9 = .ok (.bipush 6, 2) := by decide +kernel
theorem dX8_init_11 : decode cX8_init 11 = .ok (.bipush 40, 2) := by decide +kernel
theorem dX8_init_13 : decode cX8_init 13 = .ok (.invokespecial 11, 3) := by decide +kernel
theorem dX8_init_16 : decode cX8_init 16 = .ok (.putfield 14, 3) := by decide +kernel
theorem dX8_init_19 : decode cX8_init 19 = .ok (.aload_n 0, 1) := by decide +kernel
theorem dX8_init_20 : decode cX8_init 20 = .ok (.new 7, 3) := by decide +kernel
theorem dX8_init_23 : decode cX8_init 23 = .ok (.dup, 1) := by decide +kernel
theorem dX8_init_24 : decode cX8_init 24 = .ok (.iconst 4, 1) := by decide +kernel
theorem dX8_init_25 : decode cX8_init 25 = .ok (.bipush 60, 2) := by decide +kernel
theorem dX8_init_27 : decode cX8_init 27 = .ok (.invokespecial 11, 3) := by decide +kernel
theorem dX8_init_30 : decode cX8_init 30 = .ok (.putfield 18, 3) := by decide +kernel
theorem dX8_init_33 : decode cX8_init 33 = .ok (.aload_n 0, 1) := by decide +kernel
theorem dX8_init_34 : decode cX8_init 34 = .ok (.new 21, 3) := by decide +kernel
theorem dX8_init_37 : decode cX8_init 37 = .ok (.dup, 1) := by decide +kernel
theorem dX8_init_38 : decode cX8_init 38 = .ok (.invokespecial 23, 3) := by decide +kernel
theorem dX8_init_41 : decode cX8_init 41 = .ok (.putfield 24, 3) := by decide +kernel
theorem dX8_init_44 : decode cX8_init 44 = .ok (.aload_n 0, 1) := by decide +kernel
theorem dX8_init_45 : decode cX8_init 45 = .ok (.new 28, 3) := by decide +kernel
theorem dX8_init_48 : decode cX8_init 48 = .ok (.dup, 1) := by decide +kernel
theorem dX8_init_49 : decode cX8_init 49 = .ok (.invokespecial 30, 3) := by decide +kernel
theorem dX8_init_52 : decode cX8_init 52 = .ok (.putfield 31, 3) := by decide +kernel
theorem dX8_init_55 : decode cX8_init 55 = .ok (.aload_n 0, 1) := by decide +kernel
theorem dX8_init_56 : decode cX8_init 56 = .ok (.new 28, 3) := by decide +kernel
theorem dX8_init_59 : decode cX8_init 59 = .ok (.dup, 1) := by decide +kernel
theorem dX8_init_60 : decode cX8_init 60 = .ok (.invokespecial 30, 3) := by decide +kernel
theorem dX8_init_63 : decode cX8_init 63 = .ok (.putfield 35, 3) := by decide +kernel
theorem dX8_init_66 : decode cX8_init 66 = .ok (.aload_n 0, 1) := by decide +kernel
theorem dX8_init_67 : decode cX8_init 67 = .ok (.new 28, 3) := by decide +kernel
theorem dX8_init_70 : decode cX8_init 70 = .ok (.dup, 1) := by decide +kernel
theorem dX8_init_71 : decode cX8_init 71 = .ok (.invokespecial 30, 3) := by decide +kernel
theorem dX8_init_74 : decode cX8_init 74 = .ok (.putfield 38, 3) := by decide +kernel
theorem dX8_init_77 : decode cX8_init 77 = .ok (.aload_n 0, 1) := by decide +kernel
theorem dX8_init_78 : decode cX8_init 78 = .ok (.new 41, 3) := by decide +kernel
theorem dX8_init_81 : decode cX8_init 81 = .ok (.dup, 1) := by decide +kernel
theorem dX8_init_82 : decode cX8_init 82 = .ok (.iconst 0, 1) := by decide +kernel
theorem dX8_init_83 : decode cX8_init 83 = .ok (.invokespecial 43, 3) := by decide +kernel
theorem dX8_init_86 : decode cX8_init 86 = .ok (.putfield 46, 3) := by decide +kernel
theorem dX8_init_89 : decode cX8_init 89 = .ok (.aload_n 0, 1) := by decide +kernel
theorem dX8_init_90 : decode cX8_init 90 = .ok (.iconst 3, 1) := by decide +kernel
theorem dX8_init_91 : decode cX8_init 91 = .ok (.anewarray 41, 3) := by decide +kernel
theorem dX8_init_94 : decode cX8_init 94 = .ok (.dup, 1) := by decide +kernel
theorem dX8_init_95 : decode cX8_init 95 = .ok (.iconst 0, 1) := by decide +kernel
theorem dX8_init_96 : decode cX8_init 96 = .ok (.new 41, 3) := by decide +kernel
theorem dX8_init_99 : decode cX8_init 99 = .ok (.dup, 1) := by decide +kernel
theorem dX8_init_100 : decode cX8_init 100 = .ok (.iconst (-1), 1) := by decide +kernel
theorem dX8_init_101 : decode cX8_init 101 = .ok (.invokespecial 43, 3) := by decide +kernel
theorem dX8_init_104 : decode cX8_init 104 = .ok (.aastore, 1) := by decide +kernel
theorem dX8_init_105 : decode cX8_init 105 = .ok (.dup, 1) := by decide +kernel
theorem dX8_init_106 : decode cX8_init 106 = .ok (.iconst 1, 1) := by decide +kernel
theorem dX8_init_107 : decode cX8_init 107 = .ok (.new 41, 3) := by decide +kernel
theorem dX8_init_110 : decode cX8_init 110 = .ok (.dup, 1) := by decide +kernel
theorem dX8_init_111 : decode cX8_init 111 = .ok (.iconst (-1), 1) := by decide +kernel
theorem dX8_init_112 : decode cX8_init 112 = .ok (.invokespecial 43, 3) := by decide +kernel
theorem dX8_init_115 : decode cX8_init 115 = .ok (.aastore, 1) := by decide +kernel
theorem dX8_init_116 : decode cX8_init 116 = .ok (.dup, 1) := by decide +kernel
theorem dX8_init_117 : decode cX8_init 117 = .ok (.iconst 2, 1) := by decide +kernel
theorem dX8_init_118 : decode cX8_init 118 = .ok (.new 41, 3) := by decide +kernel
theorem dX8_init_121 : decode cX8_init 121 = .ok (.dup, 1) := by decide +kernel
theorem dX8_init_122 : decode cX8_init 122 = .ok (.iconst (-1), 1) := by decide +kernel
theorem dX8_init_123 : decode cX8_init 123 = .ok (.invokespecial 43, 3) := by decide +kernel
theorem dX8_init_126 : decode cX8_init 126 = .ok (.aastore, 1) := by decide +kernel
theorem dX8_init_127 : decode cX8_init 127 = .ok (.putfield 50, 3) := by decide +kernel
theorem dX8_init_130 : decode cX8_init 130 = .ok (.aload_n 0, 1) := by decide +kernel
theorem dX8_init_131 : decode cX8_init 131 = .ok (.new 54, 3) := by decide +kernel
theorem dX8_init_134 : decode cX8_init 134 = .ok (.dup, 1) := by decide +kernel
theorem dX8_init_135 : decode cX8_init 135 = .ok (.invokespecial 56, 3) := by decide +kernel
theorem dX8_init_138 : decode cX8_init 138 = .ok (.putfield 57, 3) := by decide +kernel
theorem dX8_init_141 : decode cX8_init 141 = .ok (.aload_n 0, 1) := by decide +kernel
theorem dX8_init_142 : decode cX8_init 142 = .ok (.new 61, 3) := by decide +kernel
theorem dX8_init_145 : decode cX8_init 145 = .ok (.dup, 1) := by decide +kernel
theorem dX8_init_146 : decode cX8_init 146 = .ok (.invokespecial 63, 3) := by decide +kernel
theorem dX8_init_149 : decode cX8_init 149 = .ok (.putfield 64, 3) := by decide +kernel
theorem dX8_init_152 : decode cX8_init 152 = .ok (.aload_n 0, 1) := by decide +kernel
theorem dX8_init_153 : decode cX8_init 153 = .ok (.new 68, 3) := by decide +kernel
theorem dX8_init_156 : decode cX8_init 156 = .ok (.dup, 1) := by decide +kernel
theorem dX8_init_157 : decode cX8_init 157 = .ok (.invokespecial 70, 3) := by decide +kernel
theorem dX8_init_160 : decode cX8_init 160 = .ok (.putfield 71, 3) := by decide +kernel
theorem dX8_init_163 : decode cX8_init 163 = .ok (.aload_n 0, 1) := by decide +kernel
theorem dX8_init_164 : decode cX8_init 164 = .ok (.bipush 6, 2) := by decide +kernel
theorem dX8_init_166 : decode cX8_init 166 = .ok (.newarray .int, 2) := by decide +kernel
theorem dX8_init_168 : decode cX8_init 168 = .ok (.putfield 75, 3) := by decide +kernel
theorem dX8_init_171 : decode cX8_init 171 = .ok (.aload_n 0, 1) := by decide +kernel
theorem dX8_init_172 : decode cX8_init 172 = .ok (.iconst 0, 1) := by decide +kernel
theorem dX8_init_173 : decode cX8_init 173 = .ok (.putfield 79, 3) := by decide +kernel
theorem dX8_init_176 : decode cX8_init 176 = .ok (.aload_n 0, 1) := by decide +kernel
theorem dX8_init_177 : decode cX8_init 177 = .ok (.iconst 0, 1) := by decide +kernel
theorem dX8_init_178 : decode cX8_init 178 = .ok (.putfield 83, 3) := by decide +kernel
theorem dX8_init_181 : decode cX8_init 181 = .ok (.aload_n 0, 1) := by decide +kernel
theorem dX8_init_182 : decode cX8_init 182 = .ok (.lconst 0, 1) := by decide +kernel
theorem dX8_init_183 : decode cX8_init 183 = .ok (.putfield 86, 3) := by decide +kernel
theorem dX8_init_186 : decode cX8_init 186 = .ok (.aload_n 0, 1) := by decide +kernel
theorem dX8_init_187 : decode cX8_init 187 = .ok (.lconst 1, 1) := by decide +kernel
theorem dX8_init_188 : decode cX8_init 188 = .ok (.putfield 90, 3) := by decide +kernel
theorem dX8_init_191 : decode cX8_init 191 = .ok (.return_, 1) := by decide +kernel
theorem dX8_row_0 : decode cX8_row 0 = .ok (.aload_n 0, 1) := by decide +kernel
theorem dX8_row_1 : decode cX8_row 1 = .ok (.aload_n 0, 1) := by decide +kernel
theorem dX8_row_2 : decode cX8_row 2 = .ok (.getfield 14, 3) := by decide +kernel
theorem dX8_row_5 : decode cX8_row 5 = .ok (.iload_n 1, 1) := by decide +kernel
theorem dX8_row_6 : decode cX8_row 6 = .ok (.iload_n 2, 1) := by decide +kernel
theorem dX8_row_7 : decode cX8_row 7 = .ok (.invokevirtual 93, 3) := by decide +kernel
theorem dX8_row_10 : decode cX8_row 10 = .ok (.ireturn, 1) := by decide +kernel
theorem dX8_lay_0 : decode cX8_lay 0 = .ok (.aload_n 0, 1) := by decide +kernel
theorem dX8_lay_1 : decode cX8_lay 1 = .ok (.aload_n 0, 1) := by decide +kernel
theorem dX8_lay_2 : decode cX8_lay 2 = .ok (.getfield 14, 3) := by decide +kernel
theorem dX8_lay_5 : decode cX8_lay 5 = .ok (.iload_n 1, 1) := by decide +kernel
theorem dX8_lay_6 : decode cX8_lay 6 = .ok (.iload_n 2, 1) := by decide +kernel
theorem dX8_lay_7 : decode cX8_lay 7 = .ok (.invokevirtual 97, 3) := by decide +kernel
theorem dX8_lay_10 : decode cX8_lay 10 = .ok (.istore 4, 2) := by decide +kernel
theorem dX8_lay_12 : decode cX8_lay 12 = .ok (.iload 4, 2) := by decide +kernel
theorem dX8_lay_14 : decode cX8_lay 14 = .ok (.ifCond .eq 6, 3) := by decide +kernel
theorem dX8_lay_17 : decode cX8_lay 17 = .ok (.iload 4, 2) := by decide +kernel
theorem dX8_lay_19 : decode cX8_lay 19 = .ok (.ireturn, 1) := by decide +kernel
theorem dX8_lay_20 : decode cX8_lay 20 = .ok (.aload_n 0, 1) := by decide +kernel
theorem dX8_lay_21 : decode cX8_lay 21 = .ok (.aload_n 0, 1) := by decide +kernel
theorem dX8_lay_22 : decode cX8_lay 22 = .ok (.getfield 14, 3) := by decide +kernel
theorem dX8_lay_25 : decode cX8_lay 25 = .ok (.iload_n 1, 1) := by decide +kernel
theorem dX8_lay_26 : decode cX8_lay 26 = .ok (.iload_n 2, 1) := by decide +kernel
theorem dX8_lay_27 : decode cX8_lay 27 = .ok (.invokevirtual 100, 3) := by decide +kernel
theorem dX8_lay_30 : decode cX8_lay 30 = .ok (.putfield 83, 3) := by decide +kernel
theorem dX8_lay_33 : decode cX8_lay 33 = .ok (.aload_n 0, 1) := by decide +kernel
theorem dX8_lay_34 : decode cX8_lay 34 = .ok (.getfield 14, 3) := by decide +kernel
theorem dX8_lay_37 : decode cX8_lay 37 = .ok (.iload_n 1, 1) := by decide +kernel
theorem dX8_lay_38 : decode cX8_lay 38 = .ok (.iload_n 2, 1) := by decide +kernel
theorem dX8_lay_39 : decode cX8_lay 39 = .ok (.iload_n 3, 1) := by decide +kernel
theorem dX8_lay_40 : decode cX8_lay 40 = .ok (.invokevirtual 104, 3) := by decide +kernel
theorem dX8_lay_43 : decode cX8_lay 43 = .ok (.iconst 1, 1) := by decide +kernel
theorem dX8_lay_44 : decode cX8_lay 44 = .ok (.ireturn, 1) := by decide +kernel
theorem dX8_at_0 : decode cX8_at 0 = .ok (.aload_n 0, 1) := by decide +kernel
theorem dX8_at_1 : decode cX8_at 1 = .ok (.aload_n 0, 1) := by decide +kernel
theorem dX8_at_2 : decode cX8_at 2 = .ok (.getfield 14, 3) := by decide +kernel
theorem dX8_at_5 : decode cX8_at 5 = .ok (.iload_n 1, 1) := by decide +kernel
theorem dX8_at_6 : decode cX8_at 6 = .ok (.iload_n 2, 1) := by decide +kernel
theorem dX8_at_7 : decode cX8_at 7 = .ok (.invokevirtual 97, 3) := by decide +kernel
theorem dX8_at_10 : decode cX8_at 10 = .ok (.istore_n 3, 1) := by decide +kernel
theorem dX8_at_11 : decode cX8_at 11 = .ok (.iload_n 3, 1) := by decide +kernel
theorem dX8_at_12 : decode cX8_at 12 = .ok (.ifCond .eq 5, 3) := by decide +kernel
theorem dX8_at_15 : decode cX8_at 15 = .ok (.iload_n 3, 1) := by decide +kernel
theorem dX8_at_16 : decode cX8_at 16 = .ok (.ireturn, 1) := by decide +kernel
theorem dX8_at_17 : decode cX8_at 17 = .ok (.aload_n 0, 1) := by decide +kernel
theorem dX8_at_18 : decode cX8_at 18 = .ok (.aload_n 0, 1) := by decide +kernel
theorem dX8_at_19 : decode cX8_at 19 = .ok (.getfield 14, 3) := by decide +kernel
theorem dX8_at_22 : decode cX8_at 22 = .ok (.iload_n 1, 1) := by decide +kernel
theorem dX8_at_23 : decode cX8_at 23 = .ok (.iload_n 2, 1) := by decide +kernel
theorem dX8_at_24 : decode cX8_at 24 = .ok (.invokevirtual 100, 3) := by decide +kernel
theorem dX8_at_27 : decode cX8_at 27 = .ok (.putfield 83, 3) := by decide +kernel
theorem dX8_at_30 : decode cX8_at 30 = .ok (.iconst 1, 1) := by decide +kernel
theorem dX8_at_31 : decode cX8_at 31 = .ok (.ireturn, 1) := by decide +kernel
theorem dX8_tear_0 : decode cX8_tear 0 = .ok (.aload_n 0, 1) := by decide +kernel
theorem dX8_tear_1 : decode cX8_tear 1 = .ok (.aload_n 0, 1) := by decide +kernel
theorem dX8_tear_2 : decode cX8_tear 2 = .ok (.getfield 14, 3) := by decide +kernel
theorem dX8_tear_5 : decode cX8_tear 5 = .ok (.iload_n 1, 1) := by decide +kernel
theorem dX8_tear_6 : decode cX8_tear 6 = .ok (.invokevirtual 108, 3) := by decide +kernel
theorem dX8_tear_9 : decode cX8_tear 9 = .ok (.istore_n 2, 1) := by decide +kernel
theorem dX8_tear_10 : decode cX8_tear 10 = .ok (.iload_n 2, 1) := by decide +kernel
theorem dX8_tear_11 : decode cX8_tear 11 = .ok (.ifCond .eq 5, 3) := by decide +kernel
theorem dX8_tear_14 : decode cX8_tear 14 = .ok (.iload_n 2, 1) := by decide +kernel
theorem dX8_tear_15 : decode cX8_tear 15 = .ok (.ireturn, 1) := by decide +kernel
theorem dX8_tear_16 : decode cX8_tear 16 = .ok (.aload_n 0, 1) := by decide +kernel
theorem dX8_tear_17 : decode cX8_tear 17 = .ok (.getfield 14, 3) := by decide +kernel
theorem dX8_tear_20 : decode cX8_tear 20 = .ok (.iload_n 1, 1) := by decide +kernel
theorem dX8_tear_21 : decode cX8_tear 21 = .ok (.invokevirtual 112, 3) := by decide +kernel
theorem dX8_tear_24 : decode cX8_tear 24 = .ok (.iconst 1, 1) := by decide +kernel
theorem dX8_tear_25 : decode cX8_tear 25 = .ok (.ireturn, 1) := by decide +kernel
theorem dX8_copy_0 : decode cX8_copy 0 = .ok (.aload_n 0, 1) := by decide +kernel
theorem dX8_copy_1 : decode cX8_copy 1 = .ok (.getfield 14, 3) := by decide +kernel
theorem dX8_copy_4 : decode cX8_copy 4 = .ok (.iload_n 1, 1) := by decide +kernel
theorem dX8_copy_5 : decode cX8_copy 5 = .ok (.invokevirtual 115, 3) := by decide +kernel
theorem dX8_copy_8 : decode cX8_copy 8 = .ok (.ifCond .eq 14, 3) := by decide +kernel
theorem dX8_copy_11 : decode cX8_copy 11 = .ok (.aload_n 0, 1) := by decide +kernel
theorem dX8_copy_12 : decode cX8_copy 12 = .ok (.getfield 14, 3) := by decide +kernel
theorem dX8_copy_15 : decode cX8_copy 15 = .ok (.iload_n 3, 1) := by decide +kernel
theorem dX8_copy_16 : decode cX8_copy 16 = .ok (.invokevirtual 115, 3) := by decide +kernel
theorem dX8_copy_19 : decode cX8_copy 19 = .ok (.ifCond .ne 5, 3) := by decide +kernel
theorem dX8_copy_22 : decode cX8_copy 22 = .ok (.iconst (-1), 1) := by decide +kernel
theorem dX8_copy_23 : decode cX8_copy 23 = .ok (.ireturn, 1) := by decide +kernel
theorem dX8_copy_24 : decode cX8_copy 24 = .ok (.iload 5, 2) := by decide +kernel
theorem dX8_copy_26 : decode cX8_copy 26 = .ok (.ifCond .ge 9, 3) := by decide +kernel
theorem dX8_copy_29 : decode cX8_copy 29 = .ok (.aload_n 0, 1) := by decide +kernel
theorem dX8_copy_30 : decode cX8_copy 30 = .ok (.iconst 5, 1) := by decide +kernel
theorem dX8_copy_31 : decode cX8_copy 31 = .ok (.invokevirtual 119, 3) := by decide +kernel
theorem dX8_copy_34 : decode cX8_copy 34 = .ok (.ireturn, 1) := by decide +kernel
theorem dX8_copy_35 : decode cX8_copy 35 = .ok (.aload_n 0, 1) := by decide +kernel
theorem dX8_copy_36 : decode cX8_copy 36 = .ok (.getfield 14, 3) := by decide +kernel
theorem dX8_copy_39 : decode cX8_copy 39 = .ok (.iload_n 1, 1) := by decide +kernel
theorem dX8_copy_40 : decode cX8_copy 40 = .ok (.invokevirtual 123, 3) := by decide +kernel
theorem dX8_copy_43 : decode cX8_copy 43 = .ok (.ifCond .eq 14, 3) := by decide +kernel
theorem dX8_copy_46 : decode cX8_copy 46 = .ok (.aload_n 0, 1) := by decide +kernel
theorem dX8_copy_47 : decode cX8_copy 47 = .ok (.getfield 14, 3) := by decide +kernel
theorem dX8_copy_50 : decode cX8_copy 50 = .ok (.iload_n 3, 1) := by decide +kernel
theorem dX8_copy_51 : decode cX8_copy 51 = .ok (.invokevirtual 123, 3) := by decide +kernel
theorem dX8_copy_54 : decode cX8_copy 54 = .ok (.ifCond .ne 9, 3) := by decide +kernel
theorem dX8_copy_57 : decode cX8_copy 57 = .ok (.aload_n 0, 1) := by decide +kernel
theorem dX8_copy_58 : decode cX8_copy 58 = .ok (.iconst 1, 1) := by decide +kernel
theorem dX8_copy_59 : decode cX8_copy 59 = .ok (.invokevirtual 119, 3) := by decide +kernel
theorem dX8_copy_62 : decode cX8_copy 62 = .ok (.ireturn, 1) := by decide +kernel
theorem dX8_copy_63 : decode cX8_copy 63 = .ok (.aload_n 0, 1) := by decide +kernel
theorem dX8_copy_64 : decode cX8_copy 64 = .ok (.getfield 14, 3) := by decide +kernel
theorem dX8_copy_67 : decode cX8_copy 67 = .ok (.iload_n 1, 1) := by decide +kernel
theorem dX8_copy_68 : decode cX8_copy 68 = .ok (.iload_n 2, 1) := by decide +kernel
theorem dX8_copy_69 : decode cX8_copy 69 = .ok (.iload 5, 2) := by decide +kernel
theorem dX8_copy_71 : decode cX8_copy 71 = .ok (.invokevirtual 126, 3) := by decide +kernel
theorem dX8_copy_74 : decode cX8_copy 74 = .ok (.ifCond .eq 18, 3) := by decide +kernel
theorem dX8_copy_77 : decode cX8_copy 77 = .ok (.aload_n 0, 1) := by decide +kernel
theorem dX8_copy_78 : decode cX8_copy 78 = .ok (.getfield 14, 3) := by decide +kernel
theorem dX8_copy_81 : decode cX8_copy 81 = .ok (.iload_n 3, 1) := by decide +kernel
theorem dX8_copy_82 : decode cX8_copy 82 = .ok (.iload 4, 2) := by decide +kernel
theorem dX8_copy_84 : decode cX8_copy 84 = .ok (.iload 5, 2) := by decide +kernel
theorem dX8_copy_86 : decode cX8_copy 86 = .ok (.invokevirtual 126, 3) := by decide +kernel
theorem dX8_copy_89 : decode cX8_copy 89 = .ok (.ifCond .ne 9, 3) := by decide +kernel
theorem dX8_copy_92 : decode cX8_copy 92 = .ok (.aload_n 0, 1) := by decide +kernel
theorem dX8_copy_93 : decode cX8_copy 93 = .ok (.iconst 2, 1) := by decide +kernel
theorem dX8_copy_94 : decode cX8_copy 94 = .ok (.invokevirtual 119, 3) := by decide +kernel
theorem dX8_copy_97 : decode cX8_copy 97 = .ok (.ireturn, 1) := by decide +kernel
theorem dX8_copy_98 : decode cX8_copy 98 = .ok (.aload_n 0, 1) := by decide +kernel
theorem dX8_copy_99 : decode cX8_copy 99 = .ok (.getfield 14, 3) := by decide +kernel
theorem dX8_copy_102 : decode cX8_copy 102 = .ok (.iload_n 1, 1) := by decide +kernel
theorem dX8_copy_103 : decode cX8_copy 103 = .ok (.iload_n 2, 1) := by decide +kernel
theorem dX8_copy_104 : decode cX8_copy 104 = .ok (.iload_n 3, 1) := by decide +kernel
theorem dX8_copy_105 : decode cX8_copy 105 = .ok (.iload 4, 2) := by decide +kernel
theorem dX8_copy_107 : decode cX8_copy 107 = .ok (.iload 5, 2) := by decide +kernel
theorem dX8_copy_109 : decode cX8_copy 109 = .ok (.invokevirtual 130, 3) := by decide +kernel
theorem dX8_copy_112 : decode cX8_copy 112 = .ok (.iconst 1, 1) := by decide +kernel
theorem dX8_copy_113 : decode cX8_copy 113 = .ok (.ireturn, 1) := by decide +kernel
theorem dX8_mean_0 : decode cX8_mean 0 = .ok (.aload_n 0, 1) := by decide +kernel
theorem dX8_mean_1 : decode cX8_mean 1 = .ok (.aload_n 0, 1) := by decide +kernel
theorem dX8_mean_2 : decode cX8_mean 2 = .ok (.getfield 14, 3) := by decide +kernel
theorem dX8_mean_5 : decode cX8_mean 5 = .ok (.iload_n 1, 1) := by decide +kernel
theorem dX8_mean_6 : decode cX8_mean 6 = .ok (.invokevirtual 108, 3) := by decide +kernel
theorem dX8_mean_9 : decode cX8_mean 9 = .ok (.istore_n 2, 1) := by decide +kernel
theorem dX8_mean_10 : decode cX8_mean 10 = .ok (.iload_n 2, 1) := by decide +kernel
theorem dX8_mean_11 : decode cX8_mean 11 = .ok (.ifCond .eq 5, 3) := by decide +kernel
theorem dX8_mean_14 : decode cX8_mean 14 = .ok (.iload_n 2, 1) := by decide +kernel
theorem dX8_mean_15 : decode cX8_mean 15 = .ok (.ireturn, 1) := by decide +kernel
theorem dX8_mean_16 : decode cX8_mean 16 = .ok (.aload_n 0, 1) := by decide +kernel
theorem dX8_mean_17 : decode cX8_mean 17 = .ok (.getfield 14, 3) := by decide +kernel
theorem dX8_mean_20 : decode cX8_mean 20 = .ok (.iload_n 1, 1) := by decide +kernel
theorem dX8_mean_21 : decode cX8_mean 21 = .ok (.invokevirtual 134, 3) := by decide +kernel
theorem dX8_mean_24 : decode cX8_mean 24 = .ok (.istore_n 3, 1) := by decide +kernel
theorem dX8_mean_25 : decode cX8_mean 25 = .ok (.iload_n 3, 1) := by decide +kernel
theorem dX8_mean_26 : decode cX8_mean 26 = .ok (.ifCond .gt 9, 3) := by decide +kernel
theorem dX8_mean_29 : decode cX8_mean 29 = .ok (.aload_n 0, 1) := by decide +kernel
theorem dX8_mean_30 : decode cX8_mean 30 = .ok (.iconst 4, 1) := by decide +kernel
theorem dX8_mean_31 : decode cX8_mean 31 = .ok (.invokevirtual 119, 3) := by decide +kernel
theorem dX8_mean_34 : decode cX8_mean 34 = .ok (.ireturn, 1) := by decide +kernel
theorem dX8_mean_35 : decode cX8_mean 35 = .ok (.aload_n 0, 1) := by decide +kernel
theorem dX8_mean_36 : decode cX8_mean 36 = .ok (.aload_n 0, 1) := by decide +kernel
theorem dX8_mean_37 : decode cX8_mean 37 = .ok (.getfield 14, 3) := by decide +kernel
theorem dX8_mean_40 : decode cX8_mean 40 = .ok (.iload_n 1, 1) := by decide +kernel
theorem dX8_mean_41 : decode cX8_mean 41 = .ok (.invokevirtual 137, 3) := by decide +kernel
theorem dX8_mean_44 : decode cX8_mean 44 = .ok (.iload_n 3, 1) := by decide +kernel
theorem dX8_mean_45 : decode cX8_mean 45 = .ok (.i2l, 1) := by decide +kernel
theorem dX8_mean_46 : decode cX8_mean 46 = .ok (.ldiv, 1) := by decide +kernel
theorem dX8_mean_47 : decode cX8_mean 47 = .ok (.l2i, 1) := by decide +kernel
theorem dX8_mean_48 : decode cX8_mean 48 = .ok (.putfield 83, 3) := by decide +kernel
theorem dX8_mean_51 : decode cX8_mean 51 = .ok (.iconst 1, 1) := by decide +kernel
theorem dX8_mean_52 : decode cX8_mean 52 = .ok (.ireturn, 1) := by decide +kernel
theorem dX8_text_0 : decode cX8_text 0 = .ok (.aload_n 0, 1) := by decide +kernel
theorem dX8_text_1 : decode cX8_text 1 = .ok (.aload_n 0, 1) := by decide +kernel
theorem dX8_text_2 : decode cX8_text 2 = .ok (.getfield 18, 3) := by decide +kernel
theorem dX8_text_5 : decode cX8_text 5 = .ok (.iload_n 1, 1) := by decide +kernel
theorem dX8_text_6 : decode cX8_text 6 = .ok (.iload_n 2, 1) := by decide +kernel
theorem dX8_text_7 : decode cX8_text 7 = .ok (.invokevirtual 93, 3) := by decide +kernel
theorem dX8_text_10 : decode cX8_text 10 = .ok (.istore_n 3, 1) := by decide +kernel
theorem dX8_text_11 : decode cX8_text 11 = .ok (.iconst 0, 1) := by decide +kernel
theorem dX8_text_12 : decode cX8_text 12 = .ok (.istore 4, 2) := by decide +kernel
theorem dX8_text_14 : decode cX8_text 14 = .ok (.iload 4, 2) := by decide +kernel
theorem dX8_text_16 : decode cX8_text 16 = .ok (.iload_n 3, 1) := by decide +kernel
theorem dX8_text_17 : decode cX8_text 17 = .ok (.if_icmp .ge 21, 3) := by decide +kernel
theorem dX8_text_20 : decode cX8_text 20 = .ok (.aload_n 0, 1) := by decide +kernel
theorem dX8_text_21 : decode cX8_text 21 = .ok (.getfield 18, 3) := by decide +kernel
theorem dX8_text_24 : decode cX8_text 24 = .ok (.iload_n 1, 1) := by decide +kernel
theorem dX8_text_25 : decode cX8_text 25 = .ok (.iload 4, 2) := by decide +kernel
theorem dX8_text_27 : decode cX8_text 27 = .ok (.bipush 32, 2) := by decide +kernel
theorem dX8_text_29 : decode cX8_text 29 = .ok (.invokevirtual 104, 3) := by decide +kernel
theorem dX8_text_32 : decode cX8_text 32 = .ok (.iinc 4 1, 3) := by decide +kernel
theorem dX8_text_35 : decode cX8_text 35 = .ok (.goto (-21), 3) := by decide +kernel
theorem dX8_text_38 : decode cX8_text 38 = .ok (.iload_n 3, 1) := by decide +kernel
theorem dX8_text_39 : decode cX8_text 39 = .ok (.ireturn, 1) := by decide +kernel
theorem dX8_put_0 : decode cX8_put 0 = .ok (.aload_n 0, 1) := by decide +kernel
theorem dX8_put_1 : decode cX8_put 1 = .ok (.aload_n 0, 1) := by decide +kernel
theorem dX8_put_2 : decode cX8_put 2 = .ok (.getfield 18, 3) := by decide +kernel
theorem dX8_put_5 : decode cX8_put 5 = .ok (.iload_n 1, 1) := by decide +kernel
theorem dX8_put_6 : decode cX8_put 6 = .ok (.iload_n 2, 1) := by decide +kernel
theorem dX8_put_7 : decode cX8_put 7 = .ok (.invokevirtual 97, 3) := by decide +kernel
theorem dX8_put_10 : decode cX8_put 10 = .ok (.istore 4, 2) := by decide +kernel
theorem dX8_put_12 : decode cX8_put 12 = .ok (.iload 4, 2) := by decide +kernel
theorem dX8_put_14 : decode cX8_put 14 = .ok (.ifCond .eq 6, 3) := by decide +kernel
theorem dX8_put_17 : decode cX8_put 17 = .ok (.iload 4, 2) := by decide +kernel
theorem dX8_put_19 : decode cX8_put 19 = .ok (.ireturn, 1) := by decide +kernel
theorem dX8_put_20 : decode cX8_put 20 = .ok (.aload_n 0, 1) := by decide +kernel
theorem dX8_put_21 : decode cX8_put 21 = .ok (.getfield 18, 3) := by decide +kernel
theorem dX8_put_24 : decode cX8_put 24 = .ok (.iload_n 1, 1) := by decide +kernel
theorem dX8_put_25 : decode cX8_put 25 = .ok (.iload_n 2, 1) := by decide +kernel
theorem dX8_put_26 : decode cX8_put 26 = .ok (.invokevirtual 100, 3) := by decide +kernel
theorem dX8_put_29 : decode cX8_put 29 = .ok (.istore 5, 2) := by decide +kernel
theorem dX8_put_31 : decode cX8_put 31 = .ok (.aload_n 0, 1) := by decide +kernel
theorem dX8_put_32 : decode cX8_put 32 = .ok (.getfield 18, 3) := by decide +kernel
theorem dX8_put_35 : decode cX8_put 35 = .ok (.iload_n 1, 1) := by decide +kernel
theorem dX8_put_36 : decode cX8_put 36 = .ok (.iload_n 2, 1) := by decide +kernel
theorem dX8_put_37 : decode cX8_put 37 = .ok (.iload_n 3, 1) := by decide +kernel
theorem dX8_put_38 : decode cX8_put 38 = .ok (.i2b, 1) := by decide +kernel
theorem dX8_put_39 : decode cX8_put 39 = .ok (.invokevirtual 104, 3) := by decide +kernel
theorem dX8_put_42 : decode cX8_put 42 = .ok (.iload 5, 2) := by decide +kernel
theorem dX8_put_44 : decode cX8_put 44 = .ok (.sipush 1000, 3) := by decide +kernel
theorem dX8_put_47 : decode cX8_put 47 = .ok (.iadd, 1) := by decide +kernel
theorem dX8_put_48 : decode cX8_put 48 = .ok (.ireturn, 1) := by decide +kernel
theorem dX8_fault_0 : decode cX8_fault 0 = .ok (.aload_n 0, 1) := by decide +kernel
theorem dX8_fault_1 : decode cX8_fault 1 = .ok (.aload_n 0, 1) := by decide +kernel
theorem dX8_fault_2 : decode cX8_fault 2 = .ok (.getfield 18, 3) := by decide +kernel
theorem dX8_fault_5 : decode cX8_fault 5 = .ok (.iload_n 1, 1) := by decide +kernel
theorem dX8_fault_6 : decode cX8_fault 6 = .ok (.invokevirtual 108, 3) := by decide +kernel
theorem dX8_fault_9 : decode cX8_fault 9 = .ok (.istore_n 2, 1) := by decide +kernel
theorem dX8_fault_10 : decode cX8_fault 10 = .ok (.iload_n 2, 1) := by decide +kernel
theorem dX8_fault_11 : decode cX8_fault 11 = .ok (.ifCond .eq 7, 3) := by decide +kernel
theorem dX8_fault_14 : decode cX8_fault 14 = .ok (.iload_n 2, 1) := by decide +kernel
theorem dX8_fault_15 : decode cX8_fault 15 = .ok (.goto 19, 3) := by decide +kernel
theorem dX8_fault_18 : decode cX8_fault 18 = .ok (.aload_n 0, 1) := by decide +kernel
theorem dX8_fault_19 : decode cX8_fault 19 = .ok (.getfield 24, 3) := by decide +kernel
theorem dX8_fault_22 : decode cX8_fault 22 = .ok (.aload_n 0, 1) := by decide +kernel
theorem dX8_fault_23 : decode cX8_fault 23 = .ok (.getfield 18, 3) := by decide +kernel
theorem dX8_fault_26 : decode cX8_fault 26 = .ok (.iload_n 1, 1) := by decide +kernel
theorem dX8_fault_27 : decode cX8_fault 27 = .ok (.aload_n 0, 1) := by decide +kernel
theorem dX8_fault_28 : decode cX8_fault 28 = .ok (.getfield 38, 3) := by decide +kernel
theorem dX8_fault_31 : decode cX8_fault 31 = .ok (.invokevirtual 141, 3) := by decide +kernel
theorem dX8_fault_34 : decode cX8_fault 34 = .ok (.ireturn, 1) := by decide +kernel
theorem dX8_front_0 : decode cX8_front 0 = .ok (.aload_n 0, 1) := by decide +kernel
theorem dX8_front_1 : decode cX8_front 1 = .ok (.aload_n 0, 1) := by decide +kernel
theorem dX8_front_2 : decode cX8_front 2 = .ok (.getfield 18, 3) := by decide +kernel
theorem dX8_front_5 : decode cX8_front 5 = .ok (.iload_n 1, 1) := by decide +kernel
theorem dX8_front_6 : decode cX8_front 6 = .ok (.invokevirtual 108, 3) := by decide +kernel
theorem dX8_front_9 : decode cX8_front 9 = .ok (.istore_n 2, 1) := by decide +kernel
theorem dX8_front_10 : decode cX8_front 10 = .ok (.iload_n 2, 1) := by decide +kernel
theorem dX8_front_11 : decode cX8_front 11 = .ok (.ifCond .eq 5, 3) := by decide +kernel
theorem dX8_front_14 : decode cX8_front 14 = .ok (.iload_n 2, 1) := by decide +kernel
theorem dX8_front_15 : decode cX8_front 15 = .ok (.ireturn, 1) := by decide +kernel
theorem dX8_front_16 : decode cX8_front 16 = .ok (.aload_n 0, 1) := by decide +kernel
theorem dX8_front_17 : decode cX8_front 17 = .ok (.getfield 24, 3) := by decide +kernel
theorem dX8_front_20 : decode cX8_front 20 = .ok (.aload_n 0, 1) := by decide +kernel
theorem dX8_front_21 : decode cX8_front 21 = .ok (.getfield 18, 3) := by decide +kernel
theorem dX8_front_24 : decode cX8_front 24 = .ok (.iload_n 1, 1) := by decide +kernel
theorem dX8_front_25 : decode cX8_front 25 = .ok (.aload_n 0, 1) := by decide +kernel
theorem dX8_front_26 : decode cX8_front 26 = .ok (.getfield 38, 3) := by decide +kernel
theorem dX8_front_29 : decode cX8_front 29 = .ok (.invokevirtual 141, 3) := by decide +kernel
theorem dX8_front_32 : decode cX8_front 32 = .ok (.bipush (-9), 2) := by decide +kernel
theorem dX8_front_34 : decode cX8_front 34 = .ok (.if_icmp .eq 6, 3) := by decide +kernel
theorem dX8_front_37 : decode cX8_front 37 = .ok (.bipush (-4), 2) := by decide +kernel
theorem dX8_front_39 : decode cX8_front 39 = .ok (.ireturn, 1) := by decide +kernel
theorem dX8_front_40 : decode cX8_front 40 = .ok (.aload_n 0, 1) := by decide +kernel
theorem dX8_front_41 : decode cX8_front 41 = .ok (.getfield 31, 3) := by decide +kernel
theorem dX8_front_44 : decode cX8_front 44 = .ok (.aload_n 0, 1) := by decide +kernel
theorem dX8_front_45 : decode cX8_front 45 = .ok (.getfield 38, 3) := by decide +kernel
theorem dX8_front_48 : decode cX8_front 48 = .ok (.invokevirtual 145, 3) := by decide +kernel
theorem dX8_front_51 : decode cX8_front 51 = .ok (.aload_n 0, 1) := by decide +kernel
theorem dX8_front_52 : decode cX8_front 52 = .ok (.getfield 35, 3) := by decide +kernel
theorem dX8_front_55 : decode cX8_front 55 = .ok (.aload_n 0, 1) := by decide +kernel
theorem dX8_front_56 : decode cX8_front 56 = .ok (.getfield 31, 3) := by decide +kernel
theorem dX8_front_59 : decode cX8_front 59 = .ok (.invokevirtual 145, 3) := by decide +kernel
theorem dX8_front_62 : decode cX8_front 62 = .ok (.aload_n 0, 1) := by decide +kernel
theorem dX8_front_63 : decode cX8_front 63 = .ok (.getfield 46, 3) := by decide +kernel
theorem dX8_front_66 : decode cX8_front 66 = .ok (.iconst 0, 1) := by decide +kernel
theorem dX8_front_67 : decode cX8_front 67 = .ok (.putfield 149, 3) := by decide +kernel
theorem dX8_front_70 : decode cX8_front 70 = .ok (.iconst 0, 1) := by decide +kernel
theorem dX8_front_71 : decode cX8_front 71 = .ok (.istore_n 3, 1) := by decide +kernel
theorem dX8_front_72 : decode cX8_front 72 = .ok (.iload_n 3, 1) := by decide +kernel
theorem dX8_front_73 : decode cX8_front 73 = .ok (.aload_n 0, 1) := by decide +kernel
theorem dX8_front_74 : decode cX8_front 74 = .ok (.getfield 50, 3) := by decide +kernel
theorem dX8_front_77 : decode cX8_front 77 = .ok (.arraylength, 1) := by decide +kernel
theorem dX8_front_78 : decode cX8_front 78 = .ok (.if_icmp .ge 19, 3) := by decide +kernel
theorem dX8_front_81 : decode cX8_front 81 = .ok (.aload_n 0, 1) := by decide +kernel
theorem dX8_front_82 : decode cX8_front 82 = .ok (.getfield 50, 3) := by decide +kernel
theorem dX8_front_85 : decode cX8_front 85 = .ok (.iload_n 3, 1) := by decide +kernel
theorem dX8_front_86 : decode cX8_front 86 = .ok (.aaload, 1) := by decide +kernel
theorem dX8_front_87 : decode cX8_front 87 = .ok (.iconst (-1), 1) := by decide +kernel
theorem dX8_front_88 : decode cX8_front 88 = .ok (.putfield 149, 3) := by decide +kernel
theorem dX8_front_91 : decode cX8_front 91 = .ok (.iinc 3 1, 3) := by decide +kernel
theorem dX8_front_94 : decode cX8_front 94 = .ok (.goto (-22), 3) := by decide +kernel
theorem dX8_front_97 : decode cX8_front 97 = .ok (.aload_n 0, 1) := by decide +kernel
theorem dX8_front_98 : decode cX8_front 98 = .ok (.getfield 35, 3) := by decide +kernel
theorem dX8_front_101 : decode cX8_front 101 = .ok (.getfield 151, 3) := by decide +kernel
theorem dX8_front_104 : decode cX8_front 104 = .ok (.ireturn, 1) := by decide +kernel
theorem dX8_hut_0 : decode cX8_hut 0 = .ok (.aload_n 0, 1) := by decide +kernel
theorem dX8_hut_1 : decode cX8_hut 1 = .ok (.getfield 35, 3) := by decide +kernel
theorem dX8_hut_4 : decode cX8_hut 4 = .ok (.iload_n 1, 1) := by decide +kernel
theorem dX8_hut_5 : decode cX8_hut 5 = .ok (.invokevirtual 154, 3) := by decide +kernel
theorem dX8_hut_8 : decode cX8_hut 8 = .ok (.ifCond .eq 13, 3) := by decide +kernel
theorem dX8_hut_11 : decode cX8_hut 11 = .ok (.iload_n 2, 1) := by decide +kernel
theorem dX8_hut_12 : decode cX8_hut 12 = .ok (.iconst 0, 1) := by decide +kernel
theorem dX8_hut_13 : decode cX8_hut 13 = .ok (.bipush 6, 2) := by decide +kernel
theorem dX8_hut_15 : decode cX8_hut 15 = .ok (.invokestatic 155, 3) := by decide +kernel
theorem dX8_hut_18 : decode cX8_hut 18 = .ok (.ifCond .ne 5, 3) := by decide +kernel
theorem dX8_hut_21 : decode cX8_hut 21 = .ok (.iconst (-1), 1) := by decide +kernel
theorem dX8_hut_22 : decode cX8_hut 22 = .ok (.ireturn, 1) := by decide +kernel
theorem dX8_hut_23 : decode cX8_hut 23 = .ok (.aload_n 0, 1) := by decide +kernel
theorem dX8_hut_24 : decode cX8_hut 24 = .ok (.aload_n 0, 1) := by decide +kernel
theorem dX8_hut_25 : decode cX8_hut 25 = .ok (.getfield 35, 3) := by decide +kernel
theorem dX8_hut_28 : decode cX8_hut 28 = .ok (.iload_n 1, 1) := by decide +kernel
theorem dX8_hut_29 : decode cX8_hut 29 = .ok (.iload_n 2, 1) := by decide +kernel
theorem dX8_hut_30 : decode cX8_hut 30 = .ok (.invokevirtual 158, 3) := by decide +kernel
theorem dX8_hut_33 : decode cX8_hut 33 = .ok (.putfield 83, 3) := by decide +kernel
theorem dX8_hut_36 : decode cX8_hut 36 = .ok (.iconst 1, 1) := by decide +kernel
theorem dX8_hut_37 : decode cX8_hut 37 = .ok (.ireturn, 1) := by decide +kernel
theorem dX8_mark_0 : decode cX8_mark 0 = .ok (.aload_n 0, 1) := by decide +kernel
theorem dX8_mark_1 : decode cX8_mark 1 = .ok (.getfield 35, 3) := by decide +kernel
theorem dX8_mark_4 : decode cX8_mark 4 = .ok (.iload_n 1, 1) := by decide +kernel
theorem dX8_mark_5 : decode cX8_mark 5 = .ok (.invokevirtual 154, 3) := by decide +kernel
theorem dX8_mark_8 : decode cX8_mark 8 = .ok (.ifCond .eq 12, 3) := by decide +kernel
theorem dX8_mark_11 : decode cX8_mark 11 = .ok (.iload_n 2, 1) := by decide +kernel
theorem dX8_mark_12 : decode cX8_mark 12 = .ok (.iconst 1, 1) := by decide +kernel
theorem dX8_mark_13 : decode cX8_mark 13 = .ok (.iconst 5, 1) := by decide +kernel
theorem dX8_mark_14 : decode cX8_mark 14 = .ok (.invokestatic 155, 3) := by decide +kernel
theorem dX8_mark_17 : decode cX8_mark 17 = .ok (.ifCond .ne 5, 3) := by decide +kernel
theorem dX8_mark_20 : decode cX8_mark 20 = .ok (.iconst (-1), 1) := by decide +kernel
theorem dX8_mark_21 : decode cX8_mark 21 = .ok (.ireturn, 1) := by decide +kernel
theorem dX8_mark_22 : decode cX8_mark 22 = .ok (.aload_n 0, 1) := by decide +kernel
theorem dX8_mark_23 : decode cX8_mark 23 = .ok (.getfield 35, 3) := by decide +kernel
theorem dX8_mark_26 : decode cX8_mark 26 = .ok (.getfield 163, 3) := by decide +kernel
theorem dX8_mark_29 : decode cX8_mark 29 = .ok (.iload_n 1, 1) := by decide +kernel
theorem dX8_mark_30 : decode cX8_mark 30 = .ok (.iaload, 1) := by decide +kernel
theorem dX8_mark_31 : decode cX8_mark 31 = .ok (.iload_n 2, 1) := by decide +kernel
theorem dX8_mark_32 : decode cX8_mark 32 = .ok (.invokestatic 166, 3) := by decide +kernel
theorem dX8_mark_35 : decode cX8_mark 35 = .ok (.ifCond .ne 9, 3) := by decide +kernel
theorem dX8_mark_38 : decode cX8_mark 38 = .ok (.aload_n 0, 1) := by decide +kernel
theorem dX8_mark_39 : decode cX8_mark 39 = .ok (.iconst 3, 1) := by decide +kernel
theorem dX8_mark_40 : decode cX8_mark 40 = .ok (.invokevirtual 119, 3) := by decide +kernel
theorem dX8_mark_43 : decode cX8_mark 43 = .ok (.ireturn, 1) := by decide +kernel
theorem dX8_mark_44 : decode cX8_mark 44 = .ok (.aload_n 0, 1) := by decide +kernel
theorem dX8_mark_45 : decode cX8_mark 45 = .ok (.getfield 35, 3) := by decide +kernel
theorem dX8_mark_48 : decode cX8_mark 48 = .ok (.invokevirtual 170, 3) := by decide +kernel
theorem dX8_mark_51 : decode cX8_mark 51 = .ok (.istore_n 3, 1) := by decide +kernel
theorem dX8_mark_52 : decode cX8_mark 52 = .ok (.aload_n 0, 1) := by decide +kernel
theorem dX8_mark_53 : decode cX8_mark 53 = .ok (.getfield 35, 3) := by decide +kernel
theorem dX8_mark_56 : decode cX8_mark 56 = .ok (.getfield 163, 3) := by decide +kernel
theorem dX8_mark_59 : decode cX8_mark 59 = .ok (.iload_n 1, 1) := by decide +kernel
theorem dX8_mark_60 : decode cX8_mark 60 = .ok (.iaload, 1) := by decide +kernel
theorem dX8_mark_61 : decode cX8_mark 61 = .ok (.iload_n 3, 1) := by decide +kernel
theorem dX8_mark_62 : decode cX8_mark 62 = .ok (.invokestatic 174, 3) := by decide +kernel
theorem dX8_mark_65 : decode cX8_mark 65 = .ok (.istore 4, 2) := by decide +kernel
theorem dX8_mark_67 : decode cX8_mark 67 = .ok (.iload_n 2, 1) := by decide +kernel
theorem dX8_mark_68 : decode cX8_mark 68 = .ok (.tableswitch 84 1 4 #[32, 41, 63, 75], 32) := by decide +kernel
theorem dX8_mark_100 : decode cX8_mark 100 = .ok (.iload 4, 2) := by decide +kernel
theorem dX8_mark_102 : decode cX8_mark 102 = .ok (.iconst 0, 1) := by decide +kernel
theorem dX8_mark_103 : decode cX8_mark 103 = .ok (.iload_n 3, 1) := by decide +kernel
theorem dX8_mark_104 : decode cX8_mark 104 = .ok (.invokestatic 174, 3) := by decide +kernel
theorem dX8_mark_107 : decode cX8_mark 107 = .ok (.isub, 1) := by decide +kernel
theorem dX8_mark_108 : decode cX8_mark 108 = .ok (.ireturn, 1) := by decide +kernel
theorem dX8_mark_109 : decode cX8_mark 109 = .ok (.aload_n 0, 1) := by decide +kernel
theorem dX8_mark_110 : decode cX8_mark 110 = .ok (.getfield 35, 3) := by decide +kernel
theorem dX8_mark_113 : decode cX8_mark 113 = .ok (.getfield 163, 3) := by decide +kernel
theorem dX8_mark_116 : decode cX8_mark 116 = .ok (.iload_n 1, 1) := by decide +kernel
theorem dX8_mark_117 : decode cX8_mark 117 = .ok (.iaload, 1) := by decide +kernel
theorem dX8_mark_118 : decode cX8_mark 118 = .ok (.iload_n 3, 1) := by decide +kernel
theorem dX8_mark_119 : decode cX8_mark 119 = .ok (.invokestatic 177, 3) := by decide +kernel
theorem dX8_mark_122 : decode cX8_mark 122 = .ok (.ifCond .eq 7, 3) := by decide +kernel
theorem dX8_mark_125 : decode cX8_mark 125 = .ok (.iconst 1, 1) := by decide +kernel
theorem dX8_mark_126 : decode cX8_mark 126 = .ok (.goto 4, 3) := by decide +kernel
theorem dX8_mark_129 : decode cX8_mark 129 = .ok (.iconst 0, 1) := by decide +kernel
theorem dX8_mark_130 : decode cX8_mark 130 = .ok (.ireturn, 1) := by decide +kernel
theorem dX8_mark_131 : decode cX8_mark 131 = .ok (.iconst 0, 1) := by decide +kernel
theorem dX8_mark_132 : decode cX8_mark 132 = .ok (.iload_n 3, 1) := by decide +kernel
theorem dX8_mark_133 : decode cX8_mark 133 = .ok (.invokestatic 174, 3) := by decide +kernel
theorem dX8_mark_136 : decode cX8_mark 136 = .ok (.iload 4, 2) := by decide +kernel
theorem dX8_mark_138 : decode cX8_mark 138 = .ok (.isub, 1) := by decide +kernel
theorem dX8_mark_139 : decode cX8_mark 139 = .ok (.bipush 10, 2) := by decide +kernel
theorem dX8_mark_141 : decode cX8_mark 141 = .ok (.iadd, 1) := by decide +kernel
theorem dX8_mark_142 : decode cX8_mark 142 = .ok (.ireturn, 1) := by decide +kernel
theorem dX8_mark_143 : decode cX8_mark 143 = .ok (.aload_n 0, 1) := by decide +kernel
theorem dX8_mark_144 : decode cX8_mark 144 = .ok (.getfield 35, 3) := by decide +kernel
theorem dX8_mark_147 : decode cX8_mark 147 = .ok (.iload_n 1, 1) := by decide +kernel
theorem dX8_mark_148 : decode cX8_mark 148 = .ok (.invokevirtual 180, 3) := by decide +kernel
theorem dX8_mark_151 : decode cX8_mark 151 = .ok (.ireturn, 1) := by decide +kernel
theorem dX8_mark_152 : decode cX8_mark 152 = .ok (.aload_n 0, 1) := by decide +kernel
theorem dX8_mark_153 : decode cX8_mark 153 = .ok (.getfield 35, 3) := by decide +kernel
theorem dX8_mark_156 : decode cX8_mark 156 = .ok (.iload_n 1, 1) := by decide +kernel
theorem dX8_mark_157 : decode cX8_mark 157 = .ok (.invokevirtual 183, 3) := by decide +kernel
theorem dX8_mark_160 : decode cX8_mark 160 = .ok (.ireturn, 1) := by decide +kernel
theorem dX8_tires_0 : decode cX8_tires 0 = .ok (.aload_n 0, 1) := by decide +kernel
theorem dX8_tires_1 : decode cX8_tires 1 = .ok (.getfield 35, 3) := by decide +kernel
theorem dX8_tires_4 : decode cX8_tires 4 = .ok (.iload_n 1, 1) := by decide +kernel
theorem dX8_tires_5 : decode cX8_tires 5 = .ok (.invokevirtual 154, 3) := by decide +kernel
theorem dX8_tires_8 : decode cX8_tires 8 = .ok (.ifCond .eq 13, 3) := by decide +kernel
theorem dX8_tires_11 : decode cX8_tires 11 = .ok (.iload_n 2, 1) := by decide +kernel
theorem dX8_tires_12 : decode cX8_tires 12 = .ok (.iconst 0, 1) := by decide +kernel
theorem dX8_tires_13 : decode cX8_tires 13 = .ok (.bipush 9, 2) := by decide +kernel
theorem dX8_tires_15 : decode cX8_tires 15 = .ok (.invokestatic 155, 3) := by decide +kernel
theorem dX8_tires_18 : decode cX8_tires 18 = .ok (.ifCond .ne 5, 3) := by decide +kernel
theorem dX8_tires_21 : decode cX8_tires 21 = .ok (.iconst (-1), 1) := by decide +kernel
theorem dX8_tires_22 : decode cX8_tires 22 = .ok (.ireturn, 1) := by decide +kernel
theorem dX8_tires_23 : decode cX8_tires 23 = .ok (.aload_n 0, 1) := by decide +kernel
theorem dX8_tires_24 : decode cX8_tires 24 = .ok (.getfield 35, 3) := by decide +kernel
theorem dX8_tires_27 : decode cX8_tires 27 = .ok (.getfield 163, 3) := by decide +kernel
theorem dX8_tires_30 : decode cX8_tires 30 = .ok (.iload_n 1, 1) := by decide +kernel
theorem dX8_tires_31 : decode cX8_tires 31 = .ok (.iaload, 1) := by decide +kernel
theorem dX8_tires_32 : decode cX8_tires 32 = .ok (.istore_n 3, 1) := by decide +kernel
theorem dX8_tires_33 : decode cX8_tires 33 = .ok (.iload_n 3, 1) := by decide +kernel
theorem dX8_tires_34 : decode cX8_tires 34 = .ok (.iload_n 2, 1) := by decide +kernel
theorem dX8_tires_35 : decode cX8_tires 35 = .ok (.invokestatic 174, 3) := by decide +kernel
theorem dX8_tires_38 : decode cX8_tires 38 = .ok (.iload_n 3, 1) := by decide +kernel
theorem dX8_tires_39 : decode cX8_tires 39 = .ok (.iload_n 2, 1) := by decide +kernel
theorem dX8_tires_40 : decode cX8_tires 40 = .ok (.invokestatic 177, 3) := by decide +kernel
theorem dX8_tires_43 : decode cX8_tires 43 = .ok (.ifCond .eq 8, 3) := by decide +kernel
theorem dX8_tires_46 : decode cX8_tires 46 = .ok (.bipush 10, 2) := by decide +kernel
theorem dX8_tires_48 : decode cX8_tires 48 = .ok (.goto 4, 3) := by decide +kernel
theorem dX8_tires_51 : decode cX8_tires 51 = .ok (.iconst 0, 1) := by decide +kernel
theorem dX8_tires_52 : decode cX8_tires 52 = .ok (.iadd, 1) := by decide +kernel
theorem dX8_tires_53 : decode cX8_tires 53 = .ok (.ireturn, 1) := by decide +kernel
theorem dX8_winter_0 : decode cX8_winter 0 = .ok (.aload_n 0, 1) := by decide +kernel
theorem dX8_winter_1 : decode cX8_winter 1 = .ok (.getfield 35, 3) := by decide +kernel
theorem dX8_winter_4 : decode cX8_winter 4 = .ok (.getfield 151, 3) := by decide +kernel
theorem dX8_winter_7 : decode cX8_winter 7 = .ok (.ifCond .ne 6, 3) := by decide +kernel
theorem dX8_winter_10 : decode cX8_winter 10 = .ok (.bipush (-4), 2) := by decide +kernel
theorem dX8_winter_12 : decode cX8_winter 12 = .ok (.ireturn, 1) := by decide +kernel
theorem dX8_winter_13 : decode cX8_winter 13 = .ok (.aload_n 0, 1) := by decide +kernel
theorem dX8_winter_14 : decode cX8_winter 14 = .ok (.getfield 46, 3) := by decide +kernel
theorem dX8_winter_17 : decode cX8_winter 17 = .ok (.iconst 1, 1) := by decide +kernel
theorem dX8_winter_18 : decode cX8_winter 18 = .ok (.invokevirtual 186, 3) := by decide +kernel
theorem dX8_winter_21 : decode cX8_winter 21 = .ok (.ifCond .eq 6, 3) := by decide +kernel
theorem dX8_winter_24 : decode cX8_winter 24 = .ok (.bipush (-2), 2) := by decide +kernel
theorem dX8_winter_26 : decode cX8_winter 26 = .ok (.ireturn, 1) := by decide +kernel
theorem dX8_winter_27 : decode cX8_winter 27 = .ok (.aload_n 0, 1) := by decide +kernel
theorem dX8_winter_28 : decode cX8_winter 28 = .ok (.iconst 0, 1) := by decide +kernel
theorem dX8_winter_29 : decode cX8_winter 29 = .ok (.iconst 0, 1) := by decide +kernel
theorem dX8_winter_30 : decode cX8_winter 30 = .ok (.iconst 0, 1) := by decide +kernel
theorem dX8_winter_31 : decode cX8_winter 31 = .ok (.invokestatic 189, 3) := by decide +kernel
theorem dX8_winter_34 : decode cX8_winter 34 = .ok (.invokevirtual 193, 3) := by decide +kernel
theorem dX8_winter_37 : decode cX8_winter 37 = .ok (.aload_n 0, 1) := by decide +kernel
theorem dX8_winter_38 : decode cX8_winter 38 = .ok (.getfield 35, 3) := by decide +kernel
theorem dX8_winter_41 : decode cX8_winter 41 = .ok (.invokevirtual 196, 3) := by decide +kernel
theorem dX8_winter_44 : decode cX8_winter 44 = .ok (.ireturn, 1) := by decide +kernel
theorem dX8_feed_0 : decode cX8_feed 0 = .ok (.aload_n 0, 1) := by decide +kernel
theorem dX8_feed_1 : decode cX8_feed 1 = .ok (.getfield 35, 3) := by decide +kernel
theorem dX8_feed_4 : decode cX8_feed 4 = .ok (.iload_n 1, 1) := by decide +kernel
theorem dX8_feed_5 : decode cX8_feed 5 = .ok (.invokevirtual 154, 3) := by decide +kernel
theorem dX8_feed_8 : decode cX8_feed 8 = .ok (.ifCond .ne 5, 3) := by decide +kernel
theorem dX8_feed_11 : decode cX8_feed 11 = .ok (.iconst (-1), 1) := by decide +kernel
theorem dX8_feed_12 : decode cX8_feed 12 = .ok (.ireturn, 1) := by decide +kernel
theorem dX8_feed_13 : decode cX8_feed 13 = .ok (.aload_n 0, 1) := by decide +kernel
theorem dX8_feed_14 : decode cX8_feed 14 = .ok (.getfield 35, 3) := by decide +kernel
theorem dX8_feed_17 : decode cX8_feed 17 = .ok (.iload_n 1, 1) := by decide +kernel
theorem dX8_feed_18 : decode cX8_feed 18 = .ok (.invokevirtual 199, 3) := by decide +kernel
theorem dX8_feed_21 : decode cX8_feed 21 = .ok (.ifCond .ne 6, 3) := by decide +kernel
theorem dX8_feed_24 : decode cX8_feed 24 = .ok (.bipush (-4), 2) := by decide +kernel
theorem dX8_feed_26 : decode cX8_feed 26 = .ok (.ireturn, 1) := by decide +kernel
theorem dX8_feed_27 : decode cX8_feed 27 = .ok (.aload_n 0, 1) := by decide +kernel
theorem dX8_feed_28 : decode cX8_feed 28 = .ok (.getfield 35, 3) := by decide +kernel
theorem dX8_feed_31 : decode cX8_feed 31 = .ok (.getfield 202, 3) := by decide +kernel
theorem dX8_feed_34 : decode cX8_feed 34 = .ok (.ifCond .gt 6, 3) := by decide +kernel
theorem dX8_feed_37 : decode cX8_feed 37 = .ok (.bipush (-6), 2) := by decide +kernel
theorem dX8_feed_39 : decode cX8_feed 39 = .ok (.ireturn, 1) := by decide +kernel
theorem dX8_feed_40 : decode cX8_feed 40 = .ok (.aload_n 0, 1) := by decide +kernel
theorem dX8_feed_41 : decode cX8_feed 41 = .ok (.getfield 46, 3) := by decide +kernel
theorem dX8_feed_44 : decode cX8_feed 44 = .ok (.iconst 1, 1) := by decide +kernel
theorem dX8_feed_45 : decode cX8_feed 45 = .ok (.invokevirtual 186, 3) := by decide +kernel
theorem dX8_feed_48 : decode cX8_feed 48 = .ok (.ifCond .eq 6, 3) := by decide +kernel
theorem dX8_feed_51 : decode cX8_feed 51 = .ok (.bipush (-2), 2) := by decide +kernel
theorem dX8_feed_53 : decode cX8_feed 53 = .ok (.ireturn, 1) := by decide +kernel
theorem dX8_feed_54 : decode cX8_feed 54 = .ok (.aload_n 0, 1) := by decide +kernel
theorem dX8_feed_55 : decode cX8_feed 55 = .ok (.iconst 1, 1) := by decide +kernel
theorem dX8_feed_56 : decode cX8_feed 56 = .ok (.iload_n 1, 1) := by decide +kernel
theorem dX8_feed_57 : decode cX8_feed 57 = .ok (.iconst 0, 1) := by decide +kernel
theorem dX8_feed_58 : decode cX8_feed 58 = .ok (.invokestatic 189, 3) := by decide +kernel
theorem dX8_feed_61 : decode cX8_feed 61 = .ok (.invokevirtual 193, 3) := by decide +kernel
theorem dX8_feed_64 : decode cX8_feed 64 = .ok (.aload_n 0, 1) := by decide +kernel
theorem dX8_feed_65 : decode cX8_feed 65 = .ok (.getfield 35, 3) := by decide +kernel
theorem dX8_feed_68 : decode cX8_feed 68 = .ok (.getfield 205, 3) := by decide +kernel
theorem dX8_feed_71 : decode cX8_feed 71 = .ok (.iload_n 1, 1) := by decide +kernel
theorem dX8_feed_72 : decode cX8_feed 72 = .ok (.iaload, 1) := by decide +kernel
theorem dX8_feed_73 : decode cX8_feed 73 = .ok (.ireturn, 1) := by decide +kernel
theorem dX8_sell_0 : decode cX8_sell 0 = .ok (.aload_n 0, 1) := by decide +kernel
theorem dX8_sell_1 : decode cX8_sell 1 = .ok (.getfield 35, 3) := by decide +kernel
theorem dX8_sell_4 : decode cX8_sell 4 = .ok (.iload_n 1, 1) := by decide +kernel
theorem dX8_sell_5 : decode cX8_sell 5 = .ok (.invokevirtual 154, 3) := by decide +kernel
theorem dX8_sell_8 : decode cX8_sell 8 = .ok (.ifCond .eq 19, 3) := by decide +kernel
theorem dX8_sell_11 : decode cX8_sell 11 = .ok (.aload_n 0, 1) := by decide +kernel
theorem dX8_sell_12 : decode cX8_sell 12 = .ok (.getfield 35, 3) := by decide +kernel
theorem dX8_sell_15 : decode cX8_sell 15 = .ok (.iload_n 2, 1) := by decide +kernel
theorem dX8_sell_16 : decode cX8_sell 16 = .ok (.invokevirtual 154, 3) := by decide +kernel
theorem dX8_sell_19 : decode cX8_sell 19 = .ok (.ifCond .eq 8, 3) := by decide +kernel
theorem dX8_sell_22 : decode cX8_sell 22 = .ok (.iload_n 1, 1) := by decide +kernel
theorem dX8_sell_23 : decode cX8_sell 23 = .ok (.iload_n 2, 1) := by decide +kernel
theorem dX8_sell_24 : decode cX8_sell 24 = .ok (.if_icmp .ne 5, 3) := by decide +kernel
theorem dX8_sell_27 : decode cX8_sell 27 = .ok (.iconst (-1), 1) := by decide +kernel
theorem dX8_sell_28 : decode cX8_sell 28 = .ok (.ireturn, 1) := by decide +kernel
theorem dX8_sell_29 : decode cX8_sell 29 = .ok (.aload_n 0, 1) := by decide +kernel
theorem dX8_sell_30 : decode cX8_sell 30 = .ok (.getfield 35, 3) := by decide +kernel
theorem dX8_sell_33 : decode cX8_sell 33 = .ok (.iload_n 1, 1) := by decide +kernel
theorem dX8_sell_34 : decode cX8_sell 34 = .ok (.invokevirtual 199, 3) := by decide +kernel
theorem dX8_sell_37 : decode cX8_sell 37 = .ok (.ifCond .eq 14, 3) := by decide +kernel
theorem dX8_sell_40 : decode cX8_sell 40 = .ok (.aload_n 0, 1) := by decide +kernel
theorem dX8_sell_41 : decode cX8_sell 41 = .ok (.getfield 35, 3) := by decide +kernel
theorem dX8_sell_44 : decode cX8_sell 44 = .ok (.iload_n 2, 1) := by decide +kernel
theorem dX8_sell_45 : decode cX8_sell 45 = .ok (.invokevirtual 199, 3) := by decide +kernel
theorem dX8_sell_48 : decode cX8_sell 48 = .ok (.ifCond .ne 6, 3) := by decide +kernel
theorem dX8_sell_51 : decode cX8_sell 51 = .ok (.bipush (-4), 2) := by decide +kernel
theorem dX8_sell_53 : decode cX8_sell 53 = .ok (.ireturn, 1) := by decide +kernel
theorem dX8_sell_54 : decode cX8_sell 54 = .ok (.aload_n 0, 1) := by decide +kernel
theorem dX8_sell_55 : decode cX8_sell 55 = .ok (.getfield 46, 3) := by decide +kernel
theorem dX8_sell_58 : decode cX8_sell 58 = .ok (.iconst 1, 1) := by decide +kernel
theorem dX8_sell_59 : decode cX8_sell 59 = .ok (.invokevirtual 186, 3) := by decide +kernel
theorem dX8_sell_62 : decode cX8_sell 62 = .ok (.ifCond .eq 6, 3) := by decide +kernel
theorem dX8_sell_65 : decode cX8_sell 65 = .ok (.bipush (-2), 2) := by decide +kernel
theorem dX8_sell_67 : decode cX8_sell 67 = .ok (.ireturn, 1) := by decide +kernel
theorem dX8_sell_68 : decode cX8_sell 68 = .ok (.aload_n 0, 1) := by decide +kernel
theorem dX8_sell_69 : decode cX8_sell 69 = .ok (.iconst 2, 1) := by decide +kernel
theorem dX8_sell_70 : decode cX8_sell 70 = .ok (.iload_n 1, 1) := by decide +kernel
theorem dX8_sell_71 : decode cX8_sell 71 = .ok (.iload_n 2, 1) := by decide +kernel
theorem dX8_sell_72 : decode cX8_sell 72 = .ok (.invokestatic 189, 3) := by decide +kernel
theorem dX8_sell_75 : decode cX8_sell 75 = .ok (.invokevirtual 193, 3) := by decide +kernel
theorem dX8_sell_78 : decode cX8_sell 78 = .ok (.aload_n 0, 1) := by decide +kernel
theorem dX8_sell_79 : decode cX8_sell 79 = .ok (.getfield 35, 3) := by decide +kernel
theorem dX8_sell_82 : decode cX8_sell 82 = .ok (.getfield 208, 3) := by decide +kernel
theorem dX8_sell_85 : decode cX8_sell 85 = .ok (.iload_n 1, 1) := by decide +kernel
theorem dX8_sell_86 : decode cX8_sell 86 = .ok (.iaload, 1) := by decide +kernel
theorem dX8_sell_87 : decode cX8_sell 87 = .ok (.ireturn, 1) := by decide +kernel
theorem dX8_storm_0 : decode cX8_storm 0 = .ok (.aload_n 0, 1) := by decide +kernel
theorem dX8_storm_1 : decode cX8_storm 1 = .ok (.getfield 35, 3) := by decide +kernel
theorem dX8_storm_4 : decode cX8_storm 4 = .ok (.iload_n 1, 1) := by decide +kernel
theorem dX8_storm_5 : decode cX8_storm 5 = .ok (.invokevirtual 154, 3) := by decide +kernel
theorem dX8_storm_8 : decode cX8_storm 8 = .ok (.ifCond .ne 5, 3) := by decide +kernel
theorem dX8_storm_11 : decode cX8_storm 11 = .ok (.iconst (-1), 1) := by decide +kernel
theorem dX8_storm_12 : decode cX8_storm 12 = .ok (.ireturn, 1) := by decide +kernel
theorem dX8_storm_13 : decode cX8_storm 13 = .ok (.aload_n 0, 1) := by decide +kernel
theorem dX8_storm_14 : decode cX8_storm 14 = .ok (.getfield 35, 3) := by decide +kernel
theorem dX8_storm_17 : decode cX8_storm 17 = .ok (.iload_n 1, 1) := by decide +kernel
theorem dX8_storm_18 : decode cX8_storm 18 = .ok (.invokevirtual 199, 3) := by decide +kernel
theorem dX8_storm_21 : decode cX8_storm 21 = .ok (.ifCond .ne 6, 3) := by decide +kernel
theorem dX8_storm_24 : decode cX8_storm 24 = .ok (.bipush (-4), 2) := by decide +kernel
theorem dX8_storm_26 : decode cX8_storm 26 = .ok (.ireturn, 1) := by decide +kernel
theorem dX8_storm_27 : decode cX8_storm 27 = .ok (.aload_n 0, 1) := by decide +kernel
theorem dX8_storm_28 : decode cX8_storm 28 = .ok (.getfield 46, 3) := by decide +kernel
theorem dX8_storm_31 : decode cX8_storm 31 = .ok (.iconst 1, 1) := by decide +kernel
theorem dX8_storm_32 : decode cX8_storm 32 = .ok (.invokevirtual 186, 3) := by decide +kernel
theorem dX8_storm_35 : decode cX8_storm 35 = .ok (.ifCond .eq 6, 3) := by decide +kernel
theorem dX8_storm_38 : decode cX8_storm 38 = .ok (.bipush (-2), 2) := by decide +kernel
theorem dX8_storm_40 : decode cX8_storm 40 = .ok (.ireturn, 1) := by decide +kernel
theorem dX8_storm_41 : decode cX8_storm 41 = .ok (.aload_n 0, 1) := by decide +kernel
theorem dX8_storm_42 : decode cX8_storm 42 = .ok (.iconst 3, 1) := by decide +kernel
theorem dX8_storm_43 : decode cX8_storm 43 = .ok (.iload_n 1, 1) := by decide +kernel
theorem dX8_storm_44 : decode cX8_storm 44 = .ok (.iconst 0, 1) := by decide +kernel
theorem dX8_storm_45 : decode cX8_storm 45 = .ok (.invokestatic 189, 3) := by decide +kernel
theorem dX8_storm_48 : decode cX8_storm 48 = .ok (.invokevirtual 193, 3) := by decide +kernel
theorem dX8_storm_51 : decode cX8_storm 51 = .ok (.aload_n 0, 1) := by decide +kernel
theorem dX8_storm_52 : decode cX8_storm 52 = .ok (.getfield 35, 3) := by decide +kernel
theorem dX8_storm_55 : decode cX8_storm 55 = .ok (.invokevirtual 196, 3) := by decide +kernel
theorem dX8_storm_58 : decode cX8_storm 58 = .ok (.ireturn, 1) := by decide +kernel
theorem dX8_undo_0 : decode cX8_undo 0 = .ok (.iload_n 1, 1) := by decide +kernel
theorem dX8_undo_1 : decode cX8_undo 1 = .ok (.iconst 0, 1) := by decide +kernel
theorem dX8_undo_2 : decode cX8_undo 2 = .ok (.aload_n 0, 1) := by decide +kernel
theorem dX8_undo_3 : decode cX8_undo 3 = .ok (.getfield 46, 3) := by decide +kernel
theorem dX8_undo_6 : decode cX8_undo 6 = .ok (.getfield 149, 3) := by decide +kernel
theorem dX8_undo_9 : decode cX8_undo 9 = .ok (.invokestatic 155, 3) := by decide +kernel
theorem dX8_undo_12 : decode cX8_undo 12 = .ok (.ifCond .ne 5, 3) := by decide +kernel
theorem dX8_undo_15 : decode cX8_undo 15 = .ok (.iconst (-1), 1) := by decide +kernel
theorem dX8_undo_16 : decode cX8_undo 16 = .ok (.ireturn, 1) := by decide +kernel
theorem dX8_undo_17 : decode cX8_undo 17 = .ok (.aload_n 0, 1) := by decide +kernel
theorem dX8_undo_18 : decode cX8_undo 18 = .ok (.getfield 46, 3) := by decide +kernel
theorem dX8_undo_21 : decode cX8_undo 21 = .ok (.getfield 149, 3) := by decide +kernel
theorem dX8_undo_24 : decode cX8_undo 24 = .ok (.iload_n 1, 1) := by decide +kernel
theorem dX8_undo_25 : decode cX8_undo 25 = .ok (.isub, 1) := by decide +kernel
theorem dX8_undo_26 : decode cX8_undo 26 = .ok (.istore_n 2, 1) := by decide +kernel
theorem dX8_undo_27 : decode cX8_undo 27 = .ok (.aload_n 0, 1) := by decide +kernel
theorem dX8_undo_28 : decode cX8_undo 28 = .ok (.getfield 46, 3) := by decide +kernel
theorem dX8_undo_31 : decode cX8_undo 31 = .ok (.iload_n 1, 1) := by decide +kernel
theorem dX8_undo_32 : decode cX8_undo 32 = .ok (.putfield 149, 3) := by decide +kernel
theorem dX8_undo_35 : decode cX8_undo 35 = .ok (.aload_n 0, 1) := by decide +kernel
theorem dX8_undo_36 : decode cX8_undo 36 = .ok (.invokevirtual 211, 3) := by decide +kernel
theorem dX8_undo_39 : decode cX8_undo 39 = .ok (.iload_n 2, 1) := by decide +kernel
theorem dX8_undo_40 : decode cX8_undo 40 = .ok (.ireturn, 1) := by decide +kernel
theorem dX8_keep_0 : decode cX8_keep 0 = .ok (.iload_n 1, 1) := by decide +kernel
theorem dX8_keep_1 : decode cX8_keep 1 = .ok (.iconst 0, 1) := by decide +kernel
theorem dX8_keep_2 : decode cX8_keep 2 = .ok (.iconst 2, 1) := by decide +kernel
theorem dX8_keep_3 : decode cX8_keep 3 = .ok (.invokestatic 155, 3) := by decide +kernel
theorem dX8_keep_6 : decode cX8_keep 6 = .ok (.ifCond .ne 5, 3) := by decide +kernel
theorem dX8_keep_9 : decode cX8_keep 9 = .ok (.iconst (-1), 1) := by decide +kernel
theorem dX8_keep_10 : decode cX8_keep 10 = .ok (.ireturn, 1) := by decide +kernel
theorem dX8_keep_11 : decode cX8_keep 11 = .ok (.aload_n 0, 1) := by decide +kernel
theorem dX8_keep_12 : decode cX8_keep 12 = .ok (.getfield 35, 3) := by decide +kernel
theorem dX8_keep_15 : decode cX8_keep 15 = .ok (.getfield 151, 3) := by decide +kernel
theorem dX8_keep_18 : decode cX8_keep 18 = .ok (.ifCond .ne 6, 3) := by decide +kernel
theorem dX8_keep_21 : decode cX8_keep 21 = .ok (.bipush (-4), 2) := by decide +kernel
theorem dX8_keep_23 : decode cX8_keep 23 = .ok (.ireturn, 1) := by decide +kernel
theorem dX8_keep_24 : decode cX8_keep 24 = .ok (.aload_n 0, 1) := by decide +kernel
theorem dX8_keep_25 : decode cX8_keep 25 = .ok (.getfield 50, 3) := by decide +kernel
theorem dX8_keep_28 : decode cX8_keep 28 = .ok (.iload_n 1, 1) := by decide +kernel
theorem dX8_keep_29 : decode cX8_keep 29 = .ok (.aaload, 1) := by decide +kernel
theorem dX8_keep_30 : decode cX8_keep 30 = .ok (.aload_n 0, 1) := by decide +kernel
theorem dX8_keep_31 : decode cX8_keep 31 = .ok (.getfield 46, 3) := by decide +kernel
theorem dX8_keep_34 : decode cX8_keep 34 = .ok (.invokevirtual 214, 3) := by decide +kernel
theorem dX8_keep_37 : decode cX8_keep 37 = .ok (.aload_n 0, 1) := by decide +kernel
theorem dX8_keep_38 : decode cX8_keep 38 = .ok (.getfield 46, 3) := by decide +kernel
theorem dX8_keep_41 : decode cX8_keep 41 = .ok (.getfield 149, 3) := by decide +kernel
theorem dX8_keep_44 : decode cX8_keep 44 = .ok (.ireturn, 1) := by decide +kernel
theorem dX8_on_0 : decode cX8_on 0 = .ok (.iload_n 1, 1) := by decide +kernel
theorem dX8_on_1 : decode cX8_on 1 = .ok (.iconst 0, 1) := by decide +kernel
theorem dX8_on_2 : decode cX8_on 2 = .ok (.iconst 2, 1) := by decide +kernel
theorem dX8_on_3 : decode cX8_on 3 = .ok (.invokestatic 155, 3) := by decide +kernel
theorem dX8_on_6 : decode cX8_on 6 = .ok (.ifCond .ne 5, 3) := by decide +kernel
theorem dX8_on_9 : decode cX8_on 9 = .ok (.iconst (-1), 1) := by decide +kernel
theorem dX8_on_10 : decode cX8_on 10 = .ok (.ireturn, 1) := by decide +kernel
theorem dX8_on_11 : decode cX8_on 11 = .ok (.aload_n 0, 1) := by decide +kernel
theorem dX8_on_12 : decode cX8_on 12 = .ok (.getfield 50, 3) := by decide +kernel
theorem dX8_on_15 : decode cX8_on 15 = .ok (.iload_n 1, 1) := by decide +kernel
theorem dX8_on_16 : decode cX8_on 16 = .ok (.aaload, 1) := by decide +kernel
theorem dX8_on_17 : decode cX8_on 17 = .ok (.getfield 149, 3) := by decide +kernel
theorem dX8_on_20 : decode cX8_on 20 = .ok (.iconst (-1), 1) := by decide +kernel
theorem dX8_on_21 : decode cX8_on 21 = .ok (.if_icmp .ne 9, 3) := by decide +kernel
theorem dX8_on_24 : decode cX8_on 24 = .ok (.aload_n 0, 1) := by decide +kernel
theorem dX8_on_25 : decode cX8_on 25 = .ok (.iconst 1, 1) := by decide +kernel
theorem dX8_on_26 : decode cX8_on 26 = .ok (.invokevirtual 119, 3) := by decide +kernel
theorem dX8_on_29 : decode cX8_on 29 = .ok (.ireturn, 1) := by decide +kernel
theorem dX8_on_30 : decode cX8_on 30 = .ok (.aload_n 0, 1) := by decide +kernel
theorem dX8_on_31 : decode cX8_on 31 = .ok (.getfield 46, 3) := by decide +kernel
theorem dX8_on_34 : decode cX8_on 34 = .ok (.aload_n 0, 1) := by decide +kernel
theorem dX8_on_35 : decode cX8_on 35 = .ok (.getfield 50, 3) := by decide +kernel
theorem dX8_on_38 : decode cX8_on 38 = .ok (.iload_n 1, 1) := by decide +kernel
theorem dX8_on_39 : decode cX8_on 39 = .ok (.aaload, 1) := by decide +kernel
theorem dX8_on_40 : decode cX8_on 40 = .ok (.invokevirtual 214, 3) := by decide +kernel
theorem dX8_on_43 : decode cX8_on 43 = .ok (.aload_n 0, 1) := by decide +kernel
theorem dX8_on_44 : decode cX8_on 44 = .ok (.invokevirtual 211, 3) := by decide +kernel
theorem dX8_on_47 : decode cX8_on 47 = .ok (.aload_n 0, 1) := by decide +kernel
theorem dX8_on_48 : decode cX8_on 48 = .ok (.getfield 46, 3) := by decide +kernel
theorem dX8_on_51 : decode cX8_on 51 = .ok (.getfield 149, 3) := by decide +kernel
theorem dX8_on_54 : decode cX8_on 54 = .ok (.ireturn, 1) := by decide +kernel
theorem dX8_then_0 : decode cX8_then 0 = .ok (.aload_n 0, 1) := by decide +kernel
theorem dX8_then_1 : decode cX8_then 1 = .ok (.getfield 35, 3) := by decide +kernel
theorem dX8_then_4 : decode cX8_then 4 = .ok (.iload_n 1, 1) := by decide +kernel
theorem dX8_then_5 : decode cX8_then 5 = .ok (.invokevirtual 154, 3) := by decide +kernel
theorem dX8_then_8 : decode cX8_then 8 = .ok (.ifCond .eq 13, 3) := by decide +kernel
theorem dX8_then_11 : decode cX8_then 11 = .ok (.iload_n 2, 1) := by decide +kernel
theorem dX8_then_12 : decode cX8_then 12 = .ok (.iconst 0, 1) := by decide +kernel
theorem dX8_then_13 : decode cX8_then 13 = .ok (.bipush 40, 2) := by decide +kernel
theorem dX8_then_15 : decode cX8_then 15 = .ok (.invokestatic 155, 3) := by decide +kernel
theorem dX8_then_18 : decode cX8_then 18 = .ok (.ifCond .ne 5, 3) := by decide +kernel
theorem dX8_then_21 : decode cX8_then 21 = .ok (.iconst (-1), 1) := by decide +kernel
theorem dX8_then_22 : decode cX8_then 22 = .ok (.ireturn, 1) := by decide +kernel
theorem dX8_then_23 : decode cX8_then 23 = .ok (.aload_n 0, 1) := by decide +kernel
theorem dX8_then_24 : decode cX8_then 24 = .ok (.getfield 38, 3) := by decide +kernel
theorem dX8_then_27 : decode cX8_then 27 = .ok (.aload_n 0, 1) := by decide +kernel
theorem dX8_then_28 : decode cX8_then 28 = .ok (.getfield 35, 3) := by decide +kernel
theorem dX8_then_31 : decode cX8_then 31 = .ok (.invokevirtual 145, 3) := by decide +kernel
theorem dX8_then_34 : decode cX8_then 34 = .ok (.aload_n 0, 1) := by decide +kernel
theorem dX8_then_35 : decode cX8_then 35 = .ok (.getfield 38, 3) := by decide +kernel
theorem dX8_then_38 : decode cX8_then 38 = .ok (.iload_n 2, 1) := by decide +kernel
theorem dX8_then_39 : decode cX8_then 39 = .ok (.invokevirtual 217, 3) := by decide +kernel
theorem dX8_then_42 : decode cX8_then 42 = .ok (.aload_n 0, 1) := by decide +kernel
theorem dX8_then_43 : decode cX8_then 43 = .ok (.getfield 38, 3) := by decide +kernel
theorem dX8_then_46 : decode cX8_then 46 = .ok (.iload_n 1, 1) := by decide +kernel
theorem dX8_then_47 : decode cX8_then 47 = .ok (.invokevirtual 199, 3) := by decide +kernel
theorem dX8_then_50 : decode cX8_then 50 = .ok (.ifCond .eq 16, 3) := by decide +kernel
theorem dX8_then_53 : decode cX8_then 53 = .ok (.aload_n 0, 1) := by decide +kernel
theorem dX8_then_54 : decode cX8_then 54 = .ok (.aload_n 0, 1) := by decide +kernel
theorem dX8_then_55 : decode cX8_then 55 = .ok (.getfield 38, 3) := by decide +kernel
theorem dX8_then_58 : decode cX8_then 58 = .ok (.getfield 205, 3) := by decide +kernel
theorem dX8_then_61 : decode cX8_then 61 = .ok (.iload_n 1, 1) := by decide +kernel
theorem dX8_then_62 : decode cX8_then 62 = .ok (.iaload, 1) := by decide +kernel
theorem dX8_then_63 : decode cX8_then 63 = .ok (.putfield 83, 3) := by decide +kernel
theorem dX8_then_66 : decode cX8_then 66 = .ok (.aload_n 0, 1) := by decide +kernel
theorem dX8_then_67 : decode cX8_then 67 = .ok (.getfield 38, 3) := by decide +kernel
theorem dX8_then_70 : decode cX8_then 70 = .ok (.getfield 220, 3) := by decide +kernel
theorem dX8_then_73 : decode cX8_then 73 = .ok (.iload_n 1, 1) := by decide +kernel
theorem dX8_then_74 : decode cX8_then 74 = .ok (.iaload, 1) := by decide +kernel
theorem dX8_then_75 : decode cX8_then 75 = .ok (.ireturn, 1) := by decide +kernel
theorem dX8_lost_0 : decode cX8_lost 0 = .ok (.aload_n 0, 1) := by decide +kernel
theorem dX8_lost_1 : decode cX8_lost 1 = .ok (.getfield 35, 3) := by decide +kernel
theorem dX8_lost_4 : decode cX8_lost 4 = .ok (.iload_n 1, 1) := by decide +kernel
theorem dX8_lost_5 : decode cX8_lost 5 = .ok (.invokevirtual 154, 3) := by decide +kernel
theorem dX8_lost_8 : decode cX8_lost 8 = .ok (.ifCond .ne 5, 3) := by decide +kernel
theorem dX8_lost_11 : decode cX8_lost 11 = .ok (.iconst (-1), 1) := by decide +kernel
theorem dX8_lost_12 : decode cX8_lost 12 = .ok (.ireturn, 1) := by decide +kernel
theorem dX8_lost_13 : decode cX8_lost 13 = .ok (.aload_n 0, 1) := by decide +kernel
theorem dX8_lost_14 : decode cX8_lost 14 = .ok (.getfield 38, 3) := by decide +kernel
theorem dX8_lost_17 : decode cX8_lost 17 = .ok (.aload_n 0, 1) := by decide +kernel
theorem dX8_lost_18 : decode cX8_lost 18 = .ok (.getfield 35, 3) := by decide +kernel
theorem dX8_lost_21 : decode cX8_lost 21 = .ok (.invokevirtual 145, 3) := by decide +kernel
theorem dX8_lost_24 : decode cX8_lost 24 = .ok (.iconst 0, 1) := by decide +kernel
theorem dX8_lost_25 : decode cX8_lost 25 = .ok (.istore_n 2, 1) := by decide +kernel
theorem dX8_lost_26 : decode cX8_lost 26 = .ok (.iload_n 2, 1) := by decide +kernel
theorem dX8_lost_27 : decode cX8_lost 27 = .ok (.bipush 40, 2) := by decide +kernel
theorem dX8_lost_29 : decode cX8_lost 29 = .ok (.if_icmp .gt 29, 3) := by decide +kernel
theorem dX8_lost_32 : decode cX8_lost 32 = .ok (.aload_n 0, 1) := by decide +kernel
theorem dX8_lost_33 : decode cX8_lost 33 = .ok (.getfield 38, 3) := by decide +kernel
theorem dX8_lost_36 : decode cX8_lost 36 = .ok (.iload_n 1, 1) := by decide +kernel
theorem dX8_lost_37 : decode cX8_lost 37 = .ok (.invokevirtual 199, 3) := by decide +kernel
theorem dX8_lost_40 : decode cX8_lost 40 = .ok (.ifCond .ne 5, 3) := by decide +kernel
theorem dX8_lost_43 : decode cX8_lost 43 = .ok (.iload_n 2, 1) := by decide +kernel
theorem dX8_lost_44 : decode cX8_lost 44 = .ok (.ireturn, 1) := by decide +kernel
theorem dX8_lost_45 : decode cX8_lost 45 = .ok (.aload_n 0, 1) := by decide +kernel
theorem dX8_lost_46 : decode cX8_lost 46 = .ok (.getfield 38, 3) := by decide +kernel
theorem dX8_lost_49 : decode cX8_lost 49 = .ok (.invokevirtual 223, 3) := by decide +kernel
theorem dX8_lost_52 : decode cX8_lost 52 = .ok (.iinc 2 1, 3) := by decide +kernel
theorem dX8_lost_55 : decode cX8_lost 55 = .ok (.goto (-29), 3) := by decide +kernel
theorem dX8_lost_58 : decode cX8_lost 58 = .ok (.bipush (-9), 2) := by decide +kernel
theorem dX8_lost_60 : decode cX8_lost 60 = .ok (.ireturn, 1) := by decide +kernel
theorem dX8_order_0 : decode cX8_order 0 = .ok (.aload_n 0, 1) := by decide +kernel
theorem dX8_order_1 : decode cX8_order 1 = .ok (.getfield 14, 3) := by decide +kernel
theorem dX8_order_4 : decode cX8_order 4 = .ok (.iload_n 1, 1) := by decide +kernel
theorem dX8_order_5 : decode cX8_order 5 = .ok (.invokevirtual 115, 3) := by decide +kernel
theorem dX8_order_8 : decode cX8_order 8 = .ok (.ifCond .ne 5, 3) := by decide +kernel
theorem dX8_order_11 : decode cX8_order 11 = .ok (.iconst (-1), 1) := by decide +kernel
theorem dX8_order_12 : decode cX8_order 12 = .ok (.ireturn, 1) := by decide +kernel
theorem dX8_order_13 : decode cX8_order 13 = .ok (.aload_n 0, 1) := by decide +kernel
theorem dX8_order_14 : decode cX8_order 14 = .ok (.getfield 35, 3) := by decide +kernel
theorem dX8_order_17 : decode cX8_order 17 = .ok (.getfield 151, 3) := by decide +kernel
theorem dX8_order_20 : decode cX8_order 20 = .ok (.ifCond .ne 6, 3) := by decide +kernel
theorem dX8_order_23 : decode cX8_order 23 = .ok (.bipush (-4), 2) := by decide +kernel
theorem dX8_order_25 : decode cX8_order 25 = .ok (.ireturn, 1) := by decide +kernel
theorem dX8_order_26 : decode cX8_order 26 = .ok (.aload_n 0, 1) := by decide +kernel
theorem dX8_order_27 : decode cX8_order 27 = .ok (.getfield 38, 3) := by decide +kernel
theorem dX8_order_30 : decode cX8_order 30 = .ok (.aload_n 0, 1) := by decide +kernel
theorem dX8_order_31 : decode cX8_order 31 = .ok (.getfield 35, 3) := by decide +kernel
theorem dX8_order_34 : decode cX8_order 34 = .ok (.invokevirtual 145, 3) := by decide +kernel
theorem dX8_order_37 : decode cX8_order 37 = .ok (.aload_n 0, 1) := by decide +kernel
theorem dX8_order_38 : decode cX8_order 38 = .ok (.getfield 38, 3) := by decide +kernel
theorem dX8_order_41 : decode cX8_order 41 = .ok (.invokevirtual 223, 3) := by decide +kernel
theorem dX8_order_44 : decode cX8_order 44 = .ok (.aload_n 0, 1) := by decide +kernel
theorem dX8_order_45 : decode cX8_order 45 = .ok (.getfield 14, 3) := by decide +kernel
theorem dX8_order_48 : decode cX8_order 48 = .ok (.iload_n 1, 1) := by decide +kernel
theorem dX8_order_49 : decode cX8_order 49 = .ok (.aload_n 0, 1) := by decide +kernel
theorem dX8_order_50 : decode cX8_order 50 = .ok (.getfield 38, 3) := by decide +kernel
theorem dX8_order_53 : decode cX8_order 53 = .ok (.getfield 226, 3) := by decide +kernel
theorem dX8_order_56 : decode cX8_order 56 = .ok (.aload_n 0, 1) := by decide +kernel
theorem dX8_order_57 : decode cX8_order 57 = .ok (.getfield 38, 3) := by decide +kernel
theorem dX8_order_60 : decode cX8_order 60 = .ok (.getfield 229, 3) := by decide +kernel
theorem dX8_order_63 : decode cX8_order 63 = .ok (.invokevirtual 232, 3) := by decide +kernel
theorem dX8_order_66 : decode cX8_order 66 = .ok (.aload_n 0, 1) := by decide +kernel
theorem dX8_order_67 : decode cX8_order 67 = .ok (.getfield 38, 3) := by decide +kernel
theorem dX8_order_70 : decode cX8_order 70 = .ok (.getfield 229, 3) := by decide +kernel
theorem dX8_order_73 : decode cX8_order 73 = .ok (.ireturn, 1) := by decide +kernel
theorem dX8_least_0 : decode cX8_least 0 = .ok (.aload_n 0, 1) := by decide +kernel
theorem dX8_least_1 : decode cX8_least 1 = .ok (.getfield 35, 3) := by decide +kernel
theorem dX8_least_4 : decode cX8_least 4 = .ok (.iload_n 1, 1) := by decide +kernel
theorem dX8_least_5 : decode cX8_least 5 = .ok (.invokevirtual 154, 3) := by decide +kernel
theorem dX8_least_8 : decode cX8_least 8 = .ok (.ifCond .eq 13, 3) := by decide +kernel
theorem dX8_least_11 : decode cX8_least 11 = .ok (.iload_n 2, 1) := by decide +kernel
theorem dX8_least_12 : decode cX8_least 12 = .ok (.iconst 0, 1) := by decide +kernel
theorem dX8_least_13 : decode cX8_least 13 = .ok (.bipush 40, 2) := by decide +kernel
theorem dX8_least_15 : decode cX8_least 15 = .ok (.invokestatic 155, 3) := by decide +kernel
theorem dX8_least_18 : decode cX8_least 18 = .ok (.ifCond .ne 5, 3) := by decide +kernel
theorem dX8_least_21 : decode cX8_least 21 = .ok (.iconst (-1), 1) := by decide +kernel
theorem dX8_least_22 : decode cX8_least 22 = .ok (.ireturn, 1) := by decide +kernel
theorem dX8_least_23 : decode cX8_least 23 = .ok (.iconst 0, 1) := by decide +kernel
theorem dX8_least_24 : decode cX8_least 24 = .ok (.istore_n 3, 1) := by decide +kernel
theorem dX8_least_25 : decode cX8_least 25 = .ok (.iload_n 3, 1) := by decide +kernel
theorem dX8_least_26 : decode cX8_least 26 = .ok (.bipush 20, 2) := by decide +kernel
theorem dX8_least_28 : decode cX8_least 28 = .ok (.if_icmp .gt 54, 3) := by decide +kernel
theorem dX8_least_31 : decode cX8_least 31 = .ok (.aload_n 0, 1) := by decide +kernel
theorem dX8_least_32 : decode cX8_least 32 = .ok (.getfield 38, 3) := by decide +kernel
theorem dX8_least_35 : decode cX8_least 35 = .ok (.aload_n 0, 1) := by decide +kernel
theorem dX8_least_36 : decode cX8_least 36 = .ok (.getfield 35, 3) := by decide +kernel
theorem dX8_least_39 : decode cX8_least 39 = .ok (.invokevirtual 145, 3) := by decide +kernel
theorem dX8_least_42 : decode cX8_least 42 = .ok (.aload_n 0, 1) := by decide +kernel
theorem dX8_least_43 : decode cX8_least 43 = .ok (.getfield 38, 3) := by decide +kernel
theorem dX8_least_46 : decode cX8_least 46 = .ok (.getfield 205, 3) := by decide +kernel
theorem dX8_least_49 : decode cX8_least 49 = .ok (.iload_n 1, 1) := by decide +kernel
theorem dX8_least_50 : decode cX8_least 50 = .ok (.dup2, 1) := by decide +kernel
theorem dX8_least_51 : decode cX8_least 51 = .ok (.iaload, 1) := by decide +kernel
theorem dX8_least_52 : decode cX8_least 52 = .ok (.iload_n 3, 1) := by decide +kernel
theorem dX8_least_53 : decode cX8_least 53 = .ok (.iadd, 1) := by decide +kernel
theorem dX8_least_54 : decode cX8_least 54 = .ok (.iastore, 1) := by decide +kernel
theorem dX8_least_55 : decode cX8_least 55 = .ok (.aload_n 0, 1) := by decide +kernel
theorem dX8_least_56 : decode cX8_least 56 = .ok (.getfield 38, 3) := by decide +kernel
theorem dX8_least_59 : decode cX8_least 59 = .ok (.iload_n 2, 1) := by decide +kernel
theorem dX8_least_60 : decode cX8_least 60 = .ok (.invokevirtual 217, 3) := by decide +kernel
theorem dX8_least_63 : decode cX8_least 63 = .ok (.aload_n 0, 1) := by decide +kernel
theorem dX8_least_64 : decode cX8_least 64 = .ok (.getfield 38, 3) := by decide +kernel
theorem dX8_least_67 : decode cX8_least 67 = .ok (.iload_n 1, 1) := by decide +kernel
theorem dX8_least_68 : decode cX8_least 68 = .ok (.invokevirtual 199, 3) := by decide +kernel
theorem dX8_least_71 : decode cX8_least 71 = .ok (.ifCond .eq 5, 3) := by decide +kernel
theorem dX8_least_74 : decode cX8_least 74 = .ok (.iload_n 3, 1) := by decide +kernel
theorem dX8_least_75 : decode cX8_least 75 = .ok (.ireturn, 1) := by decide +kernel
theorem dX8_least_76 : decode cX8_least 76 = .ok (.iinc 3 1, 3) := by decide +kernel
theorem dX8_least_79 : decode cX8_least 79 = .ok (.goto (-54), 3) := by decide +kernel
theorem dX8_least_82 : decode cX8_least 82 = .ok (.bipush (-9), 2) := by decide +kernel
theorem dX8_least_84 : decode cX8_least 84 = .ok (.ireturn, 1) := by decide +kernel
theorem dX8_vee_0 : decode cX8_vee 0 = .ok (.iload_n 1, 1) := by decide +kernel
theorem dX8_vee_1 : decode cX8_vee 1 = .ok (.iconst 0, 1) := by decide +kernel
theorem dX8_vee_2 : decode cX8_vee 2 = .ok (.iconst 4, 1) := by decide +kernel
theorem dX8_vee_3 : decode cX8_vee 3 = .ok (.invokestatic 155, 3) := by decide +kernel
theorem dX8_vee_6 : decode cX8_vee 6 = .ok (.ifCond .eq 14, 3) := by decide +kernel
theorem dX8_vee_9 : decode cX8_vee 9 = .ok (.aload_n 0, 1) := by decide +kernel
theorem dX8_vee_10 : decode cX8_vee 10 = .ok (.getfield 14, 3) := by decide +kernel
theorem dX8_vee_13 : decode cX8_vee 13 = .ok (.iload_n 2, 1) := by decide +kernel
theorem dX8_vee_14 : decode cX8_vee 14 = .ok (.invokevirtual 115, 3) := by decide +kernel
theorem dX8_vee_17 : decode cX8_vee 17 = .ok (.ifCond .ne 5, 3) := by decide +kernel
theorem dX8_vee_20 : decode cX8_vee 20 = .ok (.iconst (-1), 1) := by decide +kernel
theorem dX8_vee_21 : decode cX8_vee 21 = .ok (.ireturn, 1) := by decide +kernel
theorem dX8_vee_22 : decode cX8_vee 22 = .ok (.aload_n 0, 1) := by decide +kernel
theorem dX8_vee_23 : decode cX8_vee 23 = .ok (.getfield 35, 3) := by decide +kernel
theorem dX8_vee_26 : decode cX8_vee 26 = .ok (.invokevirtual 196, 3) := by decide +kernel
theorem dX8_vee_29 : decode cX8_vee 29 = .ok (.ifCond .ne 6, 3) := by decide +kernel
theorem dX8_vee_32 : decode cX8_vee 32 = .ok (.bipush (-4), 2) := by decide +kernel
theorem dX8_vee_34 : decode cX8_vee 34 = .ok (.ireturn, 1) := by decide +kernel
theorem dX8_vee_35 : decode cX8_vee 35 = .ok (.aload_n 0, 1) := by decide +kernel
theorem dX8_vee_36 : decode cX8_vee 36 = .ok (.getfield 57, 3) := by decide +kernel
theorem dX8_vee_39 : decode cX8_vee 39 = .ok (.aload_n 0, 1) := by decide +kernel
theorem dX8_vee_40 : decode cX8_vee 40 = .ok (.getfield 35, 3) := by decide +kernel
theorem dX8_vee_43 : decode cX8_vee 43 = .ok (.iload_n 1, 1) := by decide +kernel
theorem dX8_vee_44 : decode cX8_vee 44 = .ok (.invokevirtual 236, 3) := by decide +kernel
theorem dX8_vee_47 : decode cX8_vee 47 = .ok (.istore_n 3, 1) := by decide +kernel
theorem dX8_vee_48 : decode cX8_vee 48 = .ok (.aload_n 0, 1) := by decide +kernel
theorem dX8_vee_49 : decode cX8_vee 49 = .ok (.getfield 14, 3) := by decide +kernel
theorem dX8_vee_52 : decode cX8_vee 52 = .ok (.iload_n 2, 1) := by decide +kernel
theorem dX8_vee_53 : decode cX8_vee 53 = .ok (.aload_n 0, 1) := by decide +kernel
theorem dX8_vee_54 : decode cX8_vee 54 = .ok (.getfield 57, 3) := by decide +kernel
theorem dX8_vee_57 : decode cX8_vee 57 = .ok (.getfield 240, 3) := by decide +kernel
theorem dX8_vee_60 : decode cX8_vee 60 = .ok (.iload_n 1, 1) := by decide +kernel
theorem dX8_vee_61 : decode cX8_vee 61 = .ok (.invokevirtual 232, 3) := by decide +kernel
theorem dX8_vee_64 : decode cX8_vee 64 = .ok (.iload_n 3, 1) := by decide +kernel
theorem dX8_vee_65 : decode cX8_vee 65 = .ok (.bipush 100, 2) := by decide +kernel
theorem dX8_vee_67 : decode cX8_vee 67 = .ok (.iadd, 1) := by decide +kernel
theorem dX8_vee_68 : decode cX8_vee 68 = .ok (.ireturn, 1) := by decide +kernel
theorem dX8_pairs_0 : decode cX8_pairs 0 = .ok (.aload_n 0, 1) := by decide +kernel
theorem dX8_pairs_1 : decode cX8_pairs 1 = .ok (.getfield 14, 3) := by decide +kernel
theorem dX8_pairs_4 : decode cX8_pairs 4 = .ok (.iload_n 1, 1) := by decide +kernel
theorem dX8_pairs_5 : decode cX8_pairs 5 = .ok (.invokevirtual 115, 3) := by decide +kernel
theorem dX8_pairs_8 : decode cX8_pairs 8 = .ok (.ifCond .ne 5, 3) := by decide +kernel
theorem dX8_pairs_11 : decode cX8_pairs 11 = .ok (.iconst (-1), 1) := by decide +kernel
theorem dX8_pairs_12 : decode cX8_pairs 12 = .ok (.ireturn, 1) := by decide +kernel
theorem dX8_pairs_13 : decode cX8_pairs 13 = .ok (.aload_n 0, 1) := by decide +kernel
theorem dX8_pairs_14 : decode cX8_pairs 14 = .ok (.getfield 35, 3) := by decide +kernel
theorem dX8_pairs_17 : decode cX8_pairs 17 = .ok (.invokevirtual 196, 3) := by decide +kernel
theorem dX8_pairs_20 : decode cX8_pairs 20 = .ok (.ifCond .ne 6, 3) := by decide +kernel
theorem dX8_pairs_23 : decode cX8_pairs 23 = .ok (.bipush (-4), 2) := by decide +kernel
theorem dX8_pairs_25 : decode cX8_pairs 25 = .ok (.ireturn, 1) := by decide +kernel
theorem dX8_pairs_26 : decode cX8_pairs 26 = .ok (.aload_n 0, 1) := by decide +kernel
theorem dX8_pairs_27 : decode cX8_pairs 27 = .ok (.getfield 64, 3) := by decide +kernel
theorem dX8_pairs_30 : decode cX8_pairs 30 = .ok (.aload_n 0, 1) := by decide +kernel
theorem dX8_pairs_31 : decode cX8_pairs 31 = .ok (.getfield 35, 3) := by decide +kernel
theorem dX8_pairs_34 : decode cX8_pairs 34 = .ok (.invokevirtual 243, 3) := by decide +kernel
theorem dX8_pairs_37 : decode cX8_pairs 37 = .ok (.aload_n 0, 1) := by decide +kernel
theorem dX8_pairs_38 : decode cX8_pairs 38 = .ok (.getfield 14, 3) := by decide +kernel
theorem dX8_pairs_41 : decode cX8_pairs 41 = .ok (.iload_n 1, 1) := by decide +kernel
theorem dX8_pairs_42 : decode cX8_pairs 42 = .ok (.aload_n 0, 1) := by decide +kernel
theorem dX8_pairs_43 : decode cX8_pairs 43 = .ok (.getfield 64, 3) := by decide +kernel
theorem dX8_pairs_46 : decode cX8_pairs 46 = .ok (.getfield 245, 3) := by decide +kernel
theorem dX8_pairs_49 : decode cX8_pairs 49 = .ok (.aload_n 0, 1) := by decide +kernel
theorem dX8_pairs_50 : decode cX8_pairs 50 = .ok (.getfield 64, 3) := by decide +kernel
theorem dX8_pairs_53 : decode cX8_pairs 53 = .ok (.getfield 246, 3) := by decide +kernel
theorem dX8_pairs_56 : decode cX8_pairs 56 = .ok (.invokevirtual 232, 3) := by decide +kernel
theorem dX8_pairs_59 : decode cX8_pairs 59 = .ok (.aload_n 0, 1) := by decide +kernel
theorem dX8_pairs_60 : decode cX8_pairs 60 = .ok (.aload_n 0, 1) := by decide +kernel
theorem dX8_pairs_61 : decode cX8_pairs 61 = .ok (.getfield 64, 3) := by decide +kernel
theorem dX8_pairs_64 : decode cX8_pairs 64 = .ok (.getfield 247, 3) := by decide +kernel
theorem dX8_pairs_67 : decode cX8_pairs 67 = .ok (.putfield 83, 3) := by decide +kernel
theorem dX8_pairs_70 : decode cX8_pairs 70 = .ok (.aload_n 0, 1) := by decide +kernel
theorem dX8_pairs_71 : decode cX8_pairs 71 = .ok (.getfield 64, 3) := by decide +kernel
theorem dX8_pairs_74 : decode cX8_pairs 74 = .ok (.getfield 250, 3) := by decide +kernel
theorem dX8_pairs_77 : decode cX8_pairs 77 = .ok (.ireturn, 1) := by decide +kernel
theorem dX8_kinds_0 : decode cX8_kinds 0 = .ok (.aload_n 0, 1) := by decide +kernel
theorem dX8_kinds_1 : decode cX8_kinds 1 = .ok (.iload_n 1, 1) := by decide +kernel
theorem dX8_kinds_2 : decode cX8_kinds 2 = .ok (.iload_n 2, 1) := by decide +kernel
theorem dX8_kinds_3 : decode cX8_kinds 3 = .ok (.invokevirtual 253, 3) := by decide +kernel
theorem dX8_kinds_6 : decode cX8_kinds 6 = .ok (.istore_n 3, 1) := by decide +kernel
theorem dX8_kinds_7 : decode cX8_kinds 7 = .ok (.iload_n 3, 1) := by decide +kernel
theorem dX8_kinds_8 : decode cX8_kinds 8 = .ok (.ifCond .eq 7, 3) := by decide +kernel
theorem dX8_kinds_11 : decode cX8_kinds 11 = .ok (.iload_n 3, 1) := by decide +kernel
theorem dX8_kinds_12 : decode cX8_kinds 12 = .ok (.goto 8, 3) := by decide +kernel
theorem dX8_kinds_15 : decode cX8_kinds 15 = .ok (.aload_n 0, 1) := by decide +kernel
theorem dX8_kinds_16 : decode cX8_kinds 16 = .ok (.iload_n 2, 1) := by decide +kernel
theorem dX8_kinds_17 : decode cX8_kinds 17 = .ok (.invokevirtual 256, 3) := by decide +kernel
theorem dX8_kinds_20 : decode cX8_kinds 20 = .ok (.ireturn, 1) := by decide +kernel
theorem dX8_test_0 : decode cX8_test 0 = .ok (.aload_n 0, 1) := by decide +kernel
theorem dX8_test_1 : decode cX8_test 1 = .ok (.iload_n 1, 1) := by decide +kernel
theorem dX8_test_2 : decode cX8_test 2 = .ok (.iload_n 2, 1) := by decide +kernel
theorem dX8_test_3 : decode cX8_test 3 = .ok (.invokevirtual 253, 3) := by decide +kernel
theorem dX8_test_6 : decode cX8_test 6 = .ok (.istore_n 3, 1) := by decide +kernel
theorem dX8_test_7 : decode cX8_test 7 = .ok (.iload_n 3, 1) := by decide +kernel
theorem dX8_test_8 : decode cX8_test 8 = .ok (.ifCond .eq 5, 3) := by decide +kernel
theorem dX8_test_11 : decode cX8_test 11 = .ok (.iload_n 3, 1) := by decide +kernel
theorem dX8_test_12 : decode cX8_test 12 = .ok (.ireturn, 1) := by decide +kernel
theorem dX8_test_13 : decode cX8_test 13 = .ok (.aload_n 0, 1) := by decide +kernel
theorem dX8_test_14 : decode cX8_test 14 = .ok (.iload_n 2, 1) := by decide +kernel
theorem dX8_test_15 : decode cX8_test 15 = .ok (.invokevirtual 256, 3) := by decide +kernel
theorem dX8_test_18 : decode cX8_test 18 = .ok (.istore 4, 2) := by decide +kernel
theorem dX8_test_20 : decode cX8_test 20 = .ok (.iload 4, 2) := by decide +kernel
theorem dX8_test_22 : decode cX8_test 22 = .ok (.ifCond .ne 6, 3) := by decide +kernel
theorem dX8_test_25 : decode cX8_test 25 = .ok (.bipush (-9), 2) := by decide +kernel
theorem dX8_test_27 : decode cX8_test 27 = .ok (.ireturn, 1) := by decide +kernel
theorem dX8_test_28 : decode cX8_test 28 = .ok (.iconst 0, 1) := by decide +kernel
theorem dX8_test_29 : decode cX8_test 29 = .ok (.istore 5, 2) := by decide +kernel
theorem dX8_test_31 : decode cX8_test 31 = .ok (.bipush 7, 2) := by decide +kernel
theorem dX8_test_33 : decode cX8_test 33 = .ok (.istore 6, 2) := by decide +kernel
theorem dX8_test_35 : decode cX8_test 35 = .ok (.iconst 0, 1) := by decide +kernel
theorem dX8_test_36 : decode cX8_test 36 = .ok (.istore 7, 2) := by decide +kernel
theorem dX8_test_38 : decode cX8_test 38 = .ok (.iload 7, 2) := by decide +kernel
theorem dX8_test_40 : decode cX8_test 40 = .ok (.bipush 10, 2) := by decide +kernel
theorem dX8_test_42 : decode cX8_test 42 = .ok (.if_icmp .ge 33, 3) := by decide +kernel
theorem dX8_test_45 : decode cX8_test 45 = .ok (.iload 4, 2) := by decide +kernel
theorem dX8_test_47 : decode cX8_test 47 = .ok (.iload 7, 2) := by decide +kernel
theorem dX8_test_49 : decode cX8_test 49 = .ok (.invokestatic 259, 3) := by decide +kernel
theorem dX8_test_52 : decode cX8_test 52 = .ok (.istore 8, 2) := by decide +kernel
theorem dX8_test_54 : decode cX8_test 54 = .ok (.iload 8, 2) := by decide +kernel
theorem dX8_test_56 : decode cX8_test 56 = .ok (.iload 6, 2) := by decide +kernel
theorem dX8_test_58 : decode cX8_test 58 = .ok (.if_icmp .ge 11, 3) := by decide +kernel
theorem dX8_test_61 : decode cX8_test 61 = .ok (.iload 8, 2) := by decide +kernel
theorem dX8_test_63 : decode cX8_test 63 = .ok (.istore 6, 2) := by decide +kernel
theorem dX8_test_65 : decode cX8_test 65 = .ok (.iload 7, 2) := by decide +kernel
theorem dX8_test_67 : decode cX8_test 67 = .ok (.istore 5, 2) := by decide +kernel
theorem dX8_test_69 : decode cX8_test 69 = .ok (.iinc 7 1, 3) := by decide +kernel
theorem dX8_test_72 : decode cX8_test 72 = .ok (.goto (-34), 3) := by decide +kernel
theorem dX8_test_75 : decode cX8_test 75 = .ok (.aload_n 0, 1) := by decide +kernel
theorem dX8_test_76 : decode cX8_test 76 = .ok (.iload 6, 2) := by decide +kernel
theorem dX8_test_78 : decode cX8_test 78 = .ok (.putfield 83, 3) := by decide +kernel
theorem dX8_test_81 : decode cX8_test 81 = .ok (.iload 5, 2) := by decide +kernel
theorem dX8_test_83 : decode cX8_test 83 = .ok (.ireturn, 1) := by decide +kernel
theorem dX8_flown_0 : decode cX8_flown 0 = .ok (.aload_n 0, 1) := by decide +kernel
theorem dX8_flown_1 : decode cX8_flown 1 = .ok (.getfield 35, 3) := by decide +kernel
theorem dX8_flown_4 : decode cX8_flown 4 = .ok (.iload_n 1, 1) := by decide +kernel
theorem dX8_flown_5 : decode cX8_flown 5 = .ok (.invokevirtual 154, 3) := by decide +kernel
theorem dX8_flown_8 : decode cX8_flown 8 = .ok (.ifCond .eq 22, 3) := by decide +kernel
theorem dX8_flown_11 : decode cX8_flown 11 = .ok (.iload_n 2, 1) := by decide +kernel
theorem dX8_flown_12 : decode cX8_flown 12 = .ok (.iconst 0, 1) := by decide +kernel
theorem dX8_flown_13 : decode cX8_flown 13 = .ok (.iconst 4, 1) := by decide +kernel
theorem dX8_flown_14 : decode cX8_flown 14 = .ok (.invokestatic 155, 3) := by decide +kernel
theorem dX8_flown_17 : decode cX8_flown 17 = .ok (.ifCond .eq 13, 3) := by decide +kernel
theorem dX8_flown_20 : decode cX8_flown 20 = .ok (.iload_n 3, 1) := by decide +kernel
theorem dX8_flown_21 : decode cX8_flown 21 = .ok (.iconst 0, 1) := by decide +kernel
theorem dX8_flown_22 : decode cX8_flown 22 = .ok (.bipush 40, 2) := by decide +kernel
theorem dX8_flown_24 : decode cX8_flown 24 = .ok (.invokestatic 155, 3) := by decide +kernel
theorem dX8_flown_27 : decode cX8_flown 27 = .ok (.ifCond .ne 5, 3) := by decide +kernel
theorem dX8_flown_30 : decode cX8_flown 30 = .ok (.iconst (-1), 1) := by decide +kernel
theorem dX8_flown_31 : decode cX8_flown 31 = .ok (.ireturn, 1) := by decide +kernel
theorem dX8_flown_32 : decode cX8_flown 32 = .ok (.aload_n 0, 1) := by decide +kernel
theorem dX8_flown_33 : decode cX8_flown 33 = .ok (.getfield 71, 3) := by decide +kernel
theorem dX8_flown_36 : decode cX8_flown 36 = .ok (.aload_n 0, 1) := by decide +kernel
theorem dX8_flown_37 : decode cX8_flown 37 = .ok (.getfield 35, 3) := by decide +kernel
theorem dX8_flown_40 : decode cX8_flown 40 = .ok (.getfield 163, 3) := by decide +kernel
theorem dX8_flown_43 : decode cX8_flown 43 = .ok (.iload_n 1, 1) := by decide +kernel
theorem dX8_flown_44 : decode cX8_flown 44 = .ok (.iaload, 1) := by decide +kernel
theorem dX8_flown_45 : decode cX8_flown 45 = .ok (.iload_n 2, 1) := by decide +kernel
theorem dX8_flown_46 : decode cX8_flown 46 = .ok (.iload_n 3, 1) := by decide +kernel
theorem dX8_flown_47 : decode cX8_flown 47 = .ok (.invokevirtual 262, 3) := by decide +kernel
theorem dX8_flown_50 : decode cX8_flown 50 = .ok (.istore 4, 2) := by decide +kernel
theorem dX8_flown_52 : decode cX8_flown 52 = .ok (.iload 4, 2) := by decide +kernel
theorem dX8_flown_54 : decode cX8_flown 54 = .ok (.ifCond .ne 6, 3) := by decide +kernel
theorem dX8_flown_57 : decode cX8_flown 57 = .ok (.bipush (-9), 2) := by decide +kernel
theorem dX8_flown_59 : decode cX8_flown 59 = .ok (.ireturn, 1) := by decide +kernel
theorem dX8_flown_60 : decode cX8_flown 60 = .ok (.aload_n 0, 1) := by decide +kernel
theorem dX8_flown_61 : decode cX8_flown 61 = .ok (.aload_n 0, 1) := by decide +kernel
theorem dX8_flown_62 : decode cX8_flown 62 = .ok (.getfield 71, 3) := by decide +kernel
theorem dX8_flown_65 : decode cX8_flown 65 = .ok (.getfield 264, 3) := by decide +kernel
theorem dX8_flown_68 : decode cX8_flown 68 = .ok (.putfield 83, 3) := by decide +kernel
theorem dX8_flown_71 : decode cX8_flown 71 = .ok (.iload 4, 2) := by decide +kernel
theorem dX8_flown_73 : decode cX8_flown 73 = .ok (.ireturn, 1) := by decide +kernel
theorem dX8_duel_0 : decode cX8_duel 0 = .ok (.iload_n 1, 1) := by decide +kernel
theorem dX8_duel_1 : decode cX8_duel 1 = .ok (.iconst 0, 1) := by decide +kernel
theorem dX8_duel_2 : decode cX8_duel 2 = .ok (.bipush 6, 2) := by decide +kernel
theorem dX8_duel_4 : decode cX8_duel 4 = .ok (.invokestatic 155, 3) := by decide +kernel
theorem dX8_duel_7 : decode cX8_duel 7 = .ok (.ifCond .ne 5, 3) := by decide +kernel
theorem dX8_duel_10 : decode cX8_duel 10 = .ok (.iconst (-1), 1) := by decide +kernel
theorem dX8_duel_11 : decode cX8_duel 11 = .ok (.ireturn, 1) := by decide +kernel
theorem dX8_duel_12 : decode cX8_duel 12 = .ok (.aload_n 0, 1) := by decide +kernel
theorem dX8_duel_13 : decode cX8_duel 13 = .ok (.getfield 35, 3) := by decide +kernel
theorem dX8_duel_16 : decode cX8_duel 16 = .ok (.invokevirtual 196, 3) := by decide +kernel
theorem dX8_duel_19 : decode cX8_duel 19 = .ok (.ifCond .ne 6, 3) := by decide +kernel
theorem dX8_duel_22 : decode cX8_duel 22 = .ok (.bipush (-4), 2) := by decide +kernel
theorem dX8_duel_24 : decode cX8_duel 24 = .ok (.ireturn, 1) := by decide +kernel
theorem dX8_duel_25 : decode cX8_duel 25 = .ok (.aload_n 0, 1) := by decide +kernel
theorem dX8_duel_26 : decode cX8_duel 26 = .ok (.getfield 35, 3) := by decide +kernel
theorem dX8_duel_29 : decode cX8_duel 29 = .ok (.iload_n 1, 1) := by decide +kernel
theorem dX8_duel_30 : decode cX8_duel 30 = .ok (.invokevirtual 267, 3) := by decide +kernel
theorem dX8_duel_33 : decode cX8_duel 33 = .ok (.bipush 100, 2) := by decide +kernel
theorem dX8_duel_35 : decode cX8_duel 35 = .ok (.iadd, 1) := by decide +kernel
theorem dX8_duel_36 : decode cX8_duel 36 = .ok (.ireturn, 1) := by decide +kernel
theorem dX8_odds_0 : decode cX8_odds 0 = .ok (.iload_n 1, 1) := by decide +kernel
theorem dX8_odds_1 : decode cX8_odds 1 = .ok (.iconst 0, 1) := by decide +kernel
theorem dX8_odds_2 : decode cX8_odds 2 = .ok (.bipush 6, 2) := by decide +kernel
theorem dX8_odds_4 : decode cX8_odds 4 = .ok (.invokestatic 155, 3) := by decide +kernel
theorem dX8_odds_7 : decode cX8_odds 7 = .ok (.ifCond .eq 13, 3) := by decide +kernel
theorem dX8_odds_10 : decode cX8_odds 10 = .ok (.iload_n 2, 1) := by decide +kernel
theorem dX8_odds_11 : decode cX8_odds 11 = .ok (.iconst 0, 1) := by decide +kernel
theorem dX8_odds_12 : decode cX8_odds 12 = .ok (.bipush 12, 2) := by decide +kernel
theorem dX8_odds_14 : decode cX8_odds 14 = .ok (.invokestatic 155, 3) := by decide +kernel
theorem dX8_odds_17 : decode cX8_odds 17 = .ok (.ifCond .ne 5, 3) := by decide +kernel
theorem dX8_odds_20 : decode cX8_odds 20 = .ok (.iconst (-1), 1) := by decide +kernel
theorem dX8_odds_21 : decode cX8_odds 21 = .ok (.ireturn, 1) := by decide +kernel
theorem dX8_odds_22 : decode cX8_odds 22 = .ok (.aload_n 0, 1) := by decide +kernel
theorem dX8_odds_23 : decode cX8_odds 23 = .ok (.getfield 35, 3) := by decide +kernel
theorem dX8_odds_26 : decode cX8_odds 26 = .ok (.getfield 151, 3) := by decide +kernel
theorem dX8_odds_29 : decode cX8_odds 29 = .ok (.ifCond .ne 6, 3) := by decide +kernel
theorem dX8_odds_32 : decode cX8_odds 32 = .ok (.bipush (-4), 2) := by decide +kernel
theorem dX8_odds_34 : decode cX8_odds 34 = .ok (.ireturn, 1) := by decide +kernel
theorem dX8_odds_35 : decode cX8_odds 35 = .ok (.aload_n 0, 1) := by decide +kernel
theorem dX8_odds_36 : decode cX8_odds 36 = .ok (.invokevirtual 270, 3) := by decide +kernel
theorem dX8_odds_39 : decode cX8_odds 39 = .ok (.istore_n 3, 1) := by decide +kernel
theorem dX8_odds_40 : decode cX8_odds 40 = .ok (.lconst 0, 1) := by decide +kernel
theorem dX8_odds_41 : decode cX8_odds 41 = .ok (.lstore 4, 2) := by decide +kernel
theorem dX8_odds_43 : decode cX8_odds 43 = .ok (.iconst 0, 1) := by decide +kernel
theorem dX8_odds_44 : decode cX8_odds 44 = .ok (.istore 6, 2) := by decide +kernel
theorem dX8_odds_46 : decode cX8_odds 46 = .ok (.iload 6, 2) := by decide +kernel
theorem dX8_odds_48 : decode cX8_odds 48 = .ok (.iload_n 3, 1) := by decide +kernel
theorem dX8_odds_49 : decode cX8_odds 49 = .ok (.if_icmp .gt 39, 3) := by decide +kernel
theorem dX8_odds_52 : decode cX8_odds 52 = .ok (.iload 6, 2) := by decide +kernel
theorem dX8_odds_54 : decode cX8_odds 54 = .ok (.iload_n 3, 1) := by decide +kernel
theorem dX8_odds_55 : decode cX8_odds 55 = .ok (.invokestatic 273, 3) := by decide +kernel
theorem dX8_odds_58 : decode cX8_odds 58 = .ok (.ifCond .eq 24, 3) := by decide +kernel
theorem dX8_odds_61 : decode cX8_odds 61 = .ok (.iload 6, 2) := by decide +kernel
theorem dX8_odds_63 : decode cX8_odds 63 = .ok (.invokestatic 276, 3) := by decide +kernel
theorem dX8_odds_66 : decode cX8_odds 66 = .ok (.iload_n 1, 1) := by decide +kernel
theorem dX8_odds_67 : decode cX8_odds 67 = .ok (.if_icmp .lt 15, 3) := by decide +kernel
theorem dX8_odds_70 : decode cX8_odds 70 = .ok (.lload 4, 2) := by decide +kernel
theorem dX8_odds_72 : decode cX8_odds 72 = .ok (.iload 6, 2) := by decide +kernel
theorem dX8_odds_74 : decode cX8_odds 74 = .ok (.iload_n 3, 1) := by decide +kernel
theorem dX8_odds_75 : decode cX8_odds 75 = .ok (.iload_n 2, 1) := by decide +kernel
theorem dX8_odds_76 : decode cX8_odds 76 = .ok (.invokestatic 281, 3) := by decide +kernel
theorem dX8_odds_79 : decode cX8_odds 79 = .ok (.ladd, 1) := by decide +kernel
theorem dX8_odds_80 : decode cX8_odds 80 = .ok (.lstore 4, 2) := by decide +kernel
theorem dX8_odds_82 : decode cX8_odds 82 = .ok (.iinc 6 1, 3) := by decide +kernel
theorem dX8_odds_85 : decode cX8_odds 85 = .ok (.goto (-39), 3) := by decide +kernel
theorem dX8_odds_88 : decode cX8_odds 88 = .ok (.aload_n 0, 1) := by decide +kernel
theorem dX8_odds_89 : decode cX8_odds 89 = .ok (.lload 4, 2) := by decide +kernel
theorem dX8_odds_91 : decode cX8_odds 91 = .ok (.iload_n 3, 1) := by decide +kernel
theorem dX8_odds_92 : decode cX8_odds 92 = .ok (.iload_n 3, 1) := by decide +kernel
theorem dX8_odds_93 : decode cX8_odds 93 = .ok (.iconst 0, 1) := by decide +kernel
theorem dX8_odds_94 : decode cX8_odds 94 = .ok (.invokestatic 281, 3) := by decide +kernel
theorem dX8_odds_97 : decode cX8_odds 97 = .ok (.invokevirtual 285, 3) := by decide +kernel
theorem dX8_odds_100 : decode cX8_odds 100 = .ok (.iconst 1, 1) := by decide +kernel
theorem dX8_odds_101 : decode cX8_odds 101 = .ok (.ireturn, 1) := by decide +kernel
theorem dX8_mid_0 : decode cX8_mid 0 = .ok (.iload_n 1, 1) := by decide +kernel
theorem dX8_mid_1 : decode cX8_mid 1 = .ok (.iconst 0, 1) := by decide +kernel
theorem dX8_mid_2 : decode cX8_mid 2 = .ok (.bipush 12, 2) := by decide +kernel
theorem dX8_mid_4 : decode cX8_mid 4 = .ok (.invokestatic 155, 3) := by decide +kernel
theorem dX8_mid_7 : decode cX8_mid 7 = .ok (.ifCond .ne 5, 3) := by decide +kernel
theorem dX8_mid_10 : decode cX8_mid 10 = .ok (.iconst (-1), 1) := by decide +kernel
theorem dX8_mid_11 : decode cX8_mid 11 = .ok (.ireturn, 1) := by decide +kernel
theorem dX8_mid_12 : decode cX8_mid 12 = .ok (.aload_n 0, 1) := by decide +kernel
theorem dX8_mid_13 : decode cX8_mid 13 = .ok (.getfield 35, 3) := by decide +kernel
theorem dX8_mid_16 : decode cX8_mid 16 = .ok (.getfield 151, 3) := by decide +kernel
theorem dX8_mid_19 : decode cX8_mid 19 = .ok (.ifCond .ne 6, 3) := by decide +kernel
theorem dX8_mid_22 : decode cX8_mid 22 = .ok (.bipush (-4), 2) := by decide +kernel
theorem dX8_mid_24 : decode cX8_mid 24 = .ok (.ireturn, 1) := by decide +kernel
theorem dX8_mid_25 : decode cX8_mid 25 = .ok (.aload_n 0, 1) := by decide +kernel
theorem dX8_mid_26 : decode cX8_mid 26 = .ok (.invokevirtual 270, 3) := by decide +kernel
theorem dX8_mid_29 : decode cX8_mid 29 = .ok (.istore_n 2, 1) := by decide +kernel
theorem dX8_mid_30 : decode cX8_mid 30 = .ok (.lconst 0, 1) := by decide +kernel
theorem dX8_mid_31 : decode cX8_mid 31 = .ok (.lstore_n 3, 1) := by decide +kernel
theorem dX8_mid_32 : decode cX8_mid 32 = .ok (.iconst 0, 1) := by decide +kernel
theorem dX8_mid_33 : decode cX8_mid 33 = .ok (.istore 5, 2) := by decide +kernel
theorem dX8_mid_35 : decode cX8_mid 35 = .ok (.iload 5, 2) := by decide +kernel
theorem dX8_mid_37 : decode cX8_mid 37 = .ok (.iload_n 2, 1) := by decide +kernel
theorem dX8_mid_38 : decode cX8_mid 38 = .ok (.if_icmp .gt 58, 3) := by decide +kernel
theorem dX8_mid_41 : decode cX8_mid 41 = .ok (.aload_n 0, 1) := by decide +kernel
theorem dX8_mid_42 : decode cX8_mid 42 = .ok (.getfield 38, 3) := by decide +kernel
theorem dX8_mid_45 : decode cX8_mid 45 = .ok (.iload 5, 2) := by decide +kernel
theorem dX8_mid_47 : decode cX8_mid 47 = .ok (.invokevirtual 289, 3) := by decide +kernel
theorem dX8_mid_50 : decode cX8_mid 50 = .ok (.istore 6, 2) := by decide +kernel
theorem dX8_mid_52 : decode cX8_mid 52 = .ok (.iload 5, 2) := by decide +kernel
theorem dX8_mid_54 : decode cX8_mid 54 = .ok (.iload_n 2, 1) := by decide +kernel
theorem dX8_mid_55 : decode cX8_mid 55 = .ok (.invokestatic 273, 3) := by decide +kernel
theorem dX8_mid_58 : decode cX8_mid 58 = .ok (.ifCond .eq 32, 3) := by decide +kernel
theorem dX8_mid_61 : decode cX8_mid 61 = .ok (.iload 6, 2) := by decide +kernel
theorem dX8_mid_63 : decode cX8_mid 63 = .ok (.bipush (-9), 2) := by decide +kernel
theorem dX8_mid_65 : decode cX8_mid 65 = .ok (.if_icmp .eq 25, 3) := by decide +kernel
theorem dX8_mid_68 : decode cX8_mid 68 = .ok (.lload_n 3, 1) := by decide +kernel
theorem dX8_mid_69 : decode cX8_mid 69 = .ok (.iload 5, 2) := by decide +kernel
theorem dX8_mid_71 : decode cX8_mid 71 = .ok (.iload_n 2, 1) := by decide +kernel
theorem dX8_mid_72 : decode cX8_mid 72 = .ok (.iload_n 1, 1) := by decide +kernel
theorem dX8_mid_73 : decode cX8_mid 73 = .ok (.invokestatic 281, 3) := by decide +kernel
theorem dX8_mid_76 : decode cX8_mid 76 = .ok (.aload_n 0, 1) := by decide +kernel
theorem dX8_mid_77 : decode cX8_mid 77 = .ok (.getfield 38, 3) := by decide +kernel
theorem dX8_mid_80 : decode cX8_mid 80 = .ok (.getfield 205, 3) := by decide +kernel
theorem dX8_mid_83 : decode cX8_mid 83 = .ok (.iload 6, 2) := by decide +kernel
theorem dX8_mid_85 : decode cX8_mid 85 = .ok (.iaload, 1) := by decide +kernel
theorem dX8_mid_86 : decode cX8_mid 86 = .ok (.i2l, 1) := by decide +kernel
theorem dX8_mid_87 : decode cX8_mid 87 = .ok (.lmul, 1) := by decide +kernel
theorem dX8_mid_88 : decode cX8_mid 88 = .ok (.ladd, 1) := by decide +kernel
theorem dX8_mid_89 : decode cX8_mid 89 = .ok (.lstore_n 3, 1) := by decide +kernel
theorem dX8_mid_90 : decode cX8_mid 90 = .ok (.iinc 5 1, 3) := by decide +kernel
theorem dX8_mid_93 : decode cX8_mid 93 = .ok (.goto (-58), 3) := by decide +kernel
theorem dX8_mid_96 : decode cX8_mid 96 = .ok (.aload_n 0, 1) := by decide +kernel
theorem dX8_mid_97 : decode cX8_mid 97 = .ok (.lload_n 3, 1) := by decide +kernel
theorem dX8_mid_98 : decode cX8_mid 98 = .ok (.iload_n 2, 1) := by decide +kernel
theorem dX8_mid_99 : decode cX8_mid 99 = .ok (.iload_n 2, 1) := by decide +kernel
theorem dX8_mid_100 : decode cX8_mid 100 = .ok (.iconst 0, 1) := by decide +kernel
theorem dX8_mid_101 : decode cX8_mid 101 = .ok (.invokestatic 281, 3) := by decide +kernel
theorem dX8_mid_104 : decode cX8_mid 104 = .ok (.invokevirtual 285, 3) := by decide +kernel
theorem dX8_mid_107 : decode cX8_mid 107 = .ok (.iconst 1, 1) := by decide +kernel
theorem dX8_mid_108 : decode cX8_mid 108 = .ok (.ireturn, 1) := by decide +kernel
theorem dX8_lots_0 : decode cX8_lots 0 = .ok (.iload_n 1, 1) := by decide +kernel
theorem dX8_lots_1 : decode cX8_lots 1 = .ok (.iconst 1, 1) := by decide +kernel
theorem dX8_lots_2 : decode cX8_lots 2 = .ok (.bipush 20, 2) := by decide +kernel
theorem dX8_lots_4 : decode cX8_lots 4 = .ok (.invokestatic 155, 3) := by decide +kernel
theorem dX8_lots_7 : decode cX8_lots 7 = .ok (.ifCond .eq 14, 3) := by decide +kernel
theorem dX8_lots_10 : decode cX8_lots 10 = .ok (.iload_n 2, 1) := by decide +kernel
theorem dX8_lots_11 : decode cX8_lots 11 = .ok (.iconst 1, 1) := by decide +kernel
theorem dX8_lots_12 : decode cX8_lots 12 = .ok (.ldc_w 292, 3) := by decide +kernel
theorem dX8_lots_15 : decode cX8_lots 15 = .ok (.invokestatic 155, 3) := by decide +kernel
theorem dX8_lots_18 : decode cX8_lots 18 = .ok (.ifCond .ne 5, 3) := by decide +kernel
theorem dX8_lots_21 : decode cX8_lots 21 = .ok (.iconst (-1), 1) := by decide +kernel
theorem dX8_lots_22 : decode cX8_lots 22 = .ok (.ireturn, 1) := by decide +kernel
theorem dX8_lots_23 : decode cX8_lots 23 = .ok (.aload_n 0, 1) := by decide +kernel
theorem dX8_lots_24 : decode cX8_lots 24 = .ok (.getfield 35, 3) := by decide +kernel
theorem dX8_lots_27 : decode cX8_lots 27 = .ok (.getfield 151, 3) := by decide +kernel
theorem dX8_lots_30 : decode cX8_lots 30 = .ok (.ifCond .ne 6, 3) := by decide +kernel
theorem dX8_lots_33 : decode cX8_lots 33 = .ok (.bipush (-4), 2) := by decide +kernel
theorem dX8_lots_35 : decode cX8_lots 35 = .ok (.ireturn, 1) := by decide +kernel
theorem dX8_lots_36 : decode cX8_lots 36 = .ok (.aload_n 0, 1) := by decide +kernel
theorem dX8_lots_37 : decode cX8_lots 37 = .ok (.getfield 46, 3) := by decide +kernel
theorem dX8_lots_40 : decode cX8_lots 40 = .ok (.iload_n 1, 1) := by decide +kernel
theorem dX8_lots_41 : decode cX8_lots 41 = .ok (.invokevirtual 186, 3) := by decide +kernel
theorem dX8_lots_44 : decode cX8_lots 44 = .ok (.ifCond .eq 6, 3) := by decide +kernel
theorem dX8_lots_47 : decode cX8_lots 47 = .ok (.bipush (-2), 2) := by decide +kernel
theorem dX8_lots_49 : decode cX8_lots 49 = .ok (.ireturn, 1) := by decide +kernel
theorem dX8_lots_50 : decode cX8_lots 50 = .ok (.iload_n 2, 1) := by decide +kernel
theorem dX8_lots_51 : decode cX8_lots 51 = .ok (.i2l, 1) := by decide +kernel
theorem dX8_lots_52 : decode cX8_lots 52 = .ok (.lstore_n 3, 1) := by decide +kernel
theorem dX8_lots_53 : decode cX8_lots 53 = .ok (.iconst 0, 1) := by decide +kernel
theorem dX8_lots_54 : decode cX8_lots 54 = .ok (.istore 5, 2) := by decide +kernel
theorem dX8_lots_56 : decode cX8_lots 56 = .ok (.iload 5, 2) := by decide +kernel
theorem dX8_lots_58 : decode cX8_lots 58 = .ok (.iload_n 1, 1) := by decide +kernel
theorem dX8_lots_59 : decode cX8_lots 59 = .ok (.if_icmp .ge 28, 3) := by decide +kernel
theorem dX8_lots_62 : decode cX8_lots 62 = .ok (.ldc2_w 293, 3) := by decide +kernel
theorem dX8_lots_65 : decode cX8_lots 65 = .ok (.lload_n 3, 1) := by decide +kernel
theorem dX8_lots_66 : decode cX8_lots 66 = .ok (.lmul, 1) := by decide +kernel
theorem dX8_lots_67 : decode cX8_lots 67 = .ok (.ldc2_w 295, 3) := by decide +kernel
theorem dX8_lots_70 : decode cX8_lots 70 = .ok (.lrem, 1) := by decide +kernel
theorem dX8_lots_71 : decode cX8_lots 71 = .ok (.lstore_n 3, 1) := by decide +kernel
theorem dX8_lots_72 : decode cX8_lots 72 = .ok (.aload_n 0, 1) := by decide +kernel
theorem dX8_lots_73 : decode cX8_lots 73 = .ok (.aload_n 0, 1) := by decide +kernel
theorem dX8_lots_74 : decode cX8_lots 74 = .ok (.lload_n 3, 1) := by decide +kernel
theorem dX8_lots_75 : decode cX8_lots 75 = .ok (.invokevirtual 297, 3) := by decide +kernel
theorem dX8_lots_78 : decode cX8_lots 78 = .ok (.invokevirtual 193, 3) := by decide +kernel
theorem dX8_lots_81 : decode cX8_lots 81 = .ok (.iinc 5 1, 3) := by decide +kernel
theorem dX8_lots_84 : decode cX8_lots 84 = .ok (.goto (-28), 3) := by decide +kernel
theorem dX8_lots_87 : decode cX8_lots 87 = .ok (.aload_n 0, 1) := by decide +kernel
theorem dX8_lots_88 : decode cX8_lots 88 = .ok (.getfield 35, 3) := by decide +kernel
theorem dX8_lots_91 : decode cX8_lots 91 = .ok (.invokevirtual 196, 3) := by decide +kernel
theorem dX8_lots_94 : decode cX8_lots 94 = .ok (.ireturn, 1) := by decide +kernel
theorem dX8_asked_0 : decode cX8_asked 0 = .ok (.aload_n 0, 1) := by decide +kernel
theorem dX8_asked_1 : decode cX8_asked 1 = .ok (.getfield 83, 3) := by decide +kernel
theorem dX8_asked_4 : decode cX8_asked 4 = .ok (.ireturn, 1) := by decide +kernel
theorem dX8_upper_0 : decode cX8_upper 0 = .ok (.aload_n 0, 1) := by decide +kernel
theorem dX8_upper_1 : decode cX8_upper 1 = .ok (.getfield 86, 3) := by decide +kernel
theorem dX8_upper_4 : decode cX8_upper 4 = .ok (.lreturn, 1) := by decide +kernel
theorem dX8_lower_0 : decode cX8_lower 0 = .ok (.aload_n 0, 1) := by decide +kernel
theorem dX8_lower_1 : decode cX8_lower 1 = .ok (.getfield 90, 3) := by decide +kernel
theorem dX8_lower_4 : decode cX8_lower 4 = .ok (.lreturn, 1) := by decide +kernel
theorem dX8_count_0 : decode cX8_count 0 = .ok (.iload_n 1, 1) := by decide +kernel
theorem dX8_count_1 : decode cX8_count 1 = .ok (.tableswitch 144 0 10 #[59, 67, 75, 83, 91, 99, 107, 115, 123, 131, 139], 59) := by decide +kernel
theorem dX8_count_60 : decode cX8_count 60 = .ok (.aload_n 0, 1) := by decide +kernel
theorem dX8_count_61 : decode cX8_count 61 = .ok (.getfield 35, 3) := by decide +kernel
theorem dX8_count_64 : decode cX8_count 64 = .ok (.getfield 151, 3) := by decide +kernel
theorem dX8_count_67 : decode cX8_count 67 = .ok (.ireturn, 1) := by decide +kernel
theorem dX8_count_68 : decode cX8_count 68 = .ok (.aload_n 0, 1) := by decide +kernel
theorem dX8_count_69 : decode cX8_count 69 = .ok (.getfield 35, 3) := by decide +kernel
theorem dX8_count_72 : decode cX8_count 72 = .ok (.getfield 301, 3) := by decide +kernel
theorem dX8_count_75 : decode cX8_count 75 = .ok (.ireturn, 1) := by decide +kernel
theorem dX8_count_76 : decode cX8_count 76 = .ok (.aload_n 0, 1) := by decide +kernel
theorem dX8_count_77 : decode cX8_count 77 = .ok (.getfield 46, 3) := by decide +kernel
theorem dX8_count_80 : decode cX8_count 80 = .ok (.getfield 149, 3) := by decide +kernel
theorem dX8_count_83 : decode cX8_count 83 = .ok (.ireturn, 1) := by decide +kernel
theorem dX8_count_84 : decode cX8_count 84 = .ok (.aload_n 0, 1) := by decide +kernel
theorem dX8_count_85 : decode cX8_count 85 = .ok (.getfield 35, 3) := by decide +kernel
theorem dX8_count_88 : decode cX8_count 88 = .ok (.getfield 202, 3) := by decide +kernel
theorem dX8_count_91 : decode cX8_count 91 = .ok (.ireturn, 1) := by decide +kernel
theorem dX8_count_92 : decode cX8_count 92 = .ok (.aload_n 0, 1) := by decide +kernel
theorem dX8_count_93 : decode cX8_count 93 = .ok (.getfield 35, 3) := by decide +kernel
theorem dX8_count_96 : decode cX8_count 96 = .ok (.invokevirtual 304, 3) := by decide +kernel
theorem dX8_count_99 : decode cX8_count 99 = .ok (.ireturn, 1) := by decide +kernel
theorem dX8_count_100 : decode cX8_count 100 = .ok (.aload_n 0, 1) := by decide +kernel
theorem dX8_count_101 : decode cX8_count 101 = .ok (.getfield 35, 3) := by decide +kernel
theorem dX8_count_104 : decode cX8_count 104 = .ok (.invokevirtual 307, 3) := by decide +kernel
theorem dX8_count_107 : decode cX8_count 107 = .ok (.ireturn, 1) := by decide +kernel
theorem dX8_count_108 : decode cX8_count 108 = .ok (.aload_n 0, 1) := by decide +kernel
theorem dX8_count_109 : decode cX8_count 109 = .ok (.getfield 35, 3) := by decide +kernel
theorem dX8_count_112 : decode cX8_count 112 = .ok (.invokevirtual 310, 3) := by decide +kernel
theorem dX8_count_115 : decode cX8_count 115 = .ok (.ireturn, 1) := by decide +kernel
theorem dX8_count_116 : decode cX8_count 116 = .ok (.aload_n 0, 1) := by decide +kernel
theorem dX8_count_117 : decode cX8_count 117 = .ok (.getfield 35, 3) := by decide +kernel
theorem dX8_count_120 : decode cX8_count 120 = .ok (.invokevirtual 313, 3) := by decide +kernel
theorem dX8_count_123 : decode cX8_count 123 = .ok (.ireturn, 1) := by decide +kernel
theorem dX8_count_124 : decode cX8_count 124 = .ok (.aload_n 0, 1) := by decide +kernel
theorem dX8_count_125 : decode cX8_count 125 = .ok (.getfield 14, 3) := by decide +kernel
theorem dX8_count_128 : decode cX8_count 128 = .ok (.invokevirtual 316, 3) := by decide +kernel
theorem dX8_count_131 : decode cX8_count 131 = .ok (.ireturn, 1) := by decide +kernel
theorem dX8_count_132 : decode cX8_count 132 = .ok (.aload_n 0, 1) := by decide +kernel
theorem dX8_count_133 : decode cX8_count 133 = .ok (.getfield 18, 3) := by decide +kernel
theorem dX8_count_136 : decode cX8_count 136 = .ok (.invokevirtual 316, 3) := by decide +kernel
theorem dX8_count_139 : decode cX8_count 139 = .ok (.ireturn, 1) := by decide +kernel
theorem dX8_count_140 : decode cX8_count 140 = .ok (.aload_n 0, 1) := by decide +kernel
theorem dX8_count_141 : decode cX8_count 141 = .ok (.invokevirtual 319, 3) := by decide +kernel
theorem dX8_count_144 : decode cX8_count 144 = .ok (.ireturn, 1) := by decide +kernel
theorem dX8_count_145 : decode cX8_count 145 = .ok (.iconst (-1), 1) := by decide +kernel
theorem dX8_count_146 : decode cX8_count 146 = .ok (.ireturn, 1) := by decide +kernel
theorem dX8_finding_0 : decode cX8_finding 0 = .ok (.aload_n 0, 1) := by decide +kernel
theorem dX8_finding_1 : decode cX8_finding 1 = .ok (.getfield 79, 3) := by decide +kernel
theorem dX8_finding_4 : decode cX8_finding 4 = .ok (.ireturn, 1) := by decide +kernel
theorem dX8_findings_0 : decode cX8_findings 0 = .ok (.iload_n 1, 1) := by decide +kernel
theorem dX8_findings_1 : decode cX8_findings 1 = .ok (.iconst 1, 1) := by decide +kernel
theorem dX8_findings_2 : decode cX8_findings 2 = .ok (.iconst 5, 1) := by decide +kernel
theorem dX8_findings_3 : decode cX8_findings 3 = .ok (.invokestatic 155, 3) := by decide +kernel
theorem dX8_findings_6 : decode cX8_findings 6 = .ok (.ifCond .eq 12, 3) := by decide +kernel
theorem dX8_findings_9 : decode cX8_findings 9 = .ok (.aload_n 0, 1) := by decide +kernel
theorem dX8_findings_10 : decode cX8_findings 10 = .ok (.getfield 75, 3) := by decide +kernel
theorem dX8_findings_13 : decode cX8_findings 13 = .ok (.iload_n 1, 1) := by decide +kernel
theorem dX8_findings_14 : decode cX8_findings 14 = .ok (.iaload, 1) := by decide +kernel
theorem dX8_findings_15 : decode cX8_findings 15 = .ok (.goto 4, 3) := by decide +kernel
theorem dX8_findings_18 : decode cX8_findings 18 = .ok (.iconst (-1), 1) := by decide +kernel
theorem dX8_findings_19 : decode cX8_findings 19 = .ok (.ireturn, 1) := by decide +kernel
theorem dX8_digest_0 : decode cX8_digest 0 = .ok (.ldc2_w 322, 3) := by decide +kernel
theorem dX8_digest_3 : decode cX8_digest 3 = .ok (.lstore_n 1, 1) := by decide +kernel
theorem dX8_digest_4 : decode cX8_digest 4 = .ok (.iconst 0, 1) := by decide +kernel
theorem dX8_digest_5 : decode cX8_digest 5 = .ok (.istore_n 3, 1) := by decide +kernel
theorem dX8_digest_6 : decode cX8_digest 6 = .ok (.iload_n 3, 1) := by decide +kernel
theorem dX8_digest_7 : decode cX8_digest 7 = .ok (.bipush 11, 2) := by decide +kernel
theorem dX8_digest_9 : decode cX8_digest 9 = .ok (.if_icmp .ge 22, 3) := by decide +kernel
theorem dX8_digest_12 : decode cX8_digest 12 = .ok (.ldc2_w 324, 3) := by decide +kernel
theorem dX8_digest_15 : decode cX8_digest 15 = .ok (.lload_n 1, 1) := by decide +kernel
theorem dX8_digest_16 : decode cX8_digest 16 = .ok (.lmul, 1) := by decide +kernel
theorem dX8_digest_17 : decode cX8_digest 17 = .ok (.aload_n 0, 1) := by decide +kernel
theorem dX8_digest_18 : decode cX8_digest 18 = .ok (.iload_n 3, 1) := by decide +kernel
theorem dX8_digest_19 : decode cX8_digest 19 = .ok (.invokevirtual 326, 3) := by decide +kernel
theorem dX8_digest_22 : decode cX8_digest 22 = .ok (.i2l, 1) := by decide +kernel
theorem dX8_digest_23 : decode cX8_digest 23 = .ok (.ladd, 1) := by decide +kernel
theorem dX8_digest_24 : decode cX8_digest 24 = .ok (.lstore_n 1, 1) := by decide +kernel
theorem dX8_digest_25 : decode cX8_digest 25 = .ok (.iinc 3 1, 3) := by decide +kernel
theorem dX8_digest_28 : decode cX8_digest 28 = .ok (.goto (-22), 3) := by decide +kernel
theorem dX8_digest_31 : decode cX8_digest 31 = .ok (.iconst 0, 1) := by decide +kernel
theorem dX8_digest_32 : decode cX8_digest 32 = .ok (.istore_n 3, 1) := by decide +kernel
theorem dX8_digest_33 : decode cX8_digest 33 = .ok (.iload_n 3, 1) := by decide +kernel
theorem dX8_digest_34 : decode cX8_digest 34 = .ok (.aload_n 0, 1) := by decide +kernel
theorem dX8_digest_35 : decode cX8_digest 35 = .ok (.getfield 35, 3) := by decide +kernel
theorem dX8_digest_38 : decode cX8_digest 38 = .ok (.getfield 151, 3) := by decide +kernel
theorem dX8_digest_41 : decode cX8_digest 41 = .ok (.if_icmp .ge 43, 3) := by decide +kernel
theorem dX8_digest_44 : decode cX8_digest 44 = .ok (.iconst 0, 1) := by decide +kernel
theorem dX8_digest_45 : decode cX8_digest 45 = .ok (.istore 4, 2) := by decide +kernel
theorem dX8_digest_47 : decode cX8_digest 47 = .ok (.iload 4, 2) := by decide +kernel
theorem dX8_digest_49 : decode cX8_digest 49 = .ok (.bipush 7, 2) := by decide +kernel
theorem dX8_digest_51 : decode cX8_digest 51 = .ok (.if_icmp .ge 27, 3) := by decide +kernel
theorem dX8_digest_54 : decode cX8_digest 54 = .ok (.ldc2_w 324, 3) := by decide +kernel
theorem dX8_digest_57 : decode cX8_digest 57 = .ok (.lload_n 1, 1) := by decide +kernel
theorem dX8_digest_58 : decode cX8_digest 58 = .ok (.lmul, 1) := by decide +kernel
theorem dX8_digest_59 : decode cX8_digest 59 = .ok (.aload_n 0, 1) := by decide +kernel
theorem dX8_digest_60 : decode cX8_digest 60 = .ok (.getfield 35, 3) := by decide +kernel
theorem dX8_digest_63 : decode cX8_digest 63 = .ok (.iload_n 3, 1) := by decide +kernel
theorem dX8_digest_64 : decode cX8_digest 64 = .ok (.iload 4, 2) := by decide +kernel
theorem dX8_digest_66 : decode cX8_digest 66 = .ok (.invokevirtual 158, 3) := by decide +kernel
theorem dX8_digest_69 : decode cX8_digest 69 = .ok (.i2l, 1) := by decide +kernel
theorem dX8_digest_70 : decode cX8_digest 70 = .ok (.ladd, 1) := by decide +kernel
theorem dX8_digest_71 : decode cX8_digest 71 = .ok (.lstore_n 1, 1) := by decide +kernel
theorem dX8_digest_72 : decode cX8_digest 72 = .ok (.iinc 4 1, 3) := by decide +kernel
theorem dX8_digest_75 : decode cX8_digest 75 = .ok (.goto (-28), 3) := by decide +kernel
theorem dX8_digest_78 : decode cX8_digest 78 = .ok (.iinc 3 1, 3) := by decide +kernel
theorem dX8_digest_81 : decode cX8_digest 81 = .ok (.goto (-48), 3) := by decide +kernel
theorem dX8_digest_84 : decode cX8_digest 84 = .ok (.iconst 0, 1) := by decide +kernel
theorem dX8_digest_85 : decode cX8_digest 85 = .ok (.istore_n 3, 1) := by decide +kernel
theorem dX8_digest_86 : decode cX8_digest 86 = .ok (.iload_n 3, 1) := by decide +kernel
theorem dX8_digest_87 : decode cX8_digest 87 = .ok (.aload_n 0, 1) := by decide +kernel
theorem dX8_digest_88 : decode cX8_digest 88 = .ok (.getfield 50, 3) := by decide +kernel
theorem dX8_digest_91 : decode cX8_digest 91 = .ok (.arraylength, 1) := by decide +kernel
theorem dX8_digest_92 : decode cX8_digest 92 = .ok (.if_icmp .ge 26, 3) := by decide +kernel
theorem dX8_digest_95 : decode cX8_digest 95 = .ok (.ldc2_w 324, 3) := by decide +kernel
theorem dX8_digest_98 : decode cX8_digest 98 = .ok (.lload_n 1, 1) := by decide +kernel
theorem dX8_digest_99 : decode cX8_digest 99 = .ok (.lmul, 1) := by decide +kernel
theorem dX8_digest_100 : decode cX8_digest 100 = .ok (.aload_n 0, 1) := by decide +kernel
theorem dX8_digest_101 : decode cX8_digest 101 = .ok (.getfield 50, 3) := by decide +kernel
theorem dX8_digest_104 : decode cX8_digest 104 = .ok (.iload_n 3, 1) := by decide +kernel
theorem dX8_digest_105 : decode cX8_digest 105 = .ok (.aaload, 1) := by decide +kernel
theorem dX8_digest_106 : decode cX8_digest 106 = .ok (.getfield 149, 3) := by decide +kernel
theorem dX8_digest_109 : decode cX8_digest 109 = .ok (.i2l, 1) := by decide +kernel
theorem dX8_digest_110 : decode cX8_digest 110 = .ok (.ladd, 1) := by decide +kernel
theorem dX8_digest_111 : decode cX8_digest 111 = .ok (.lstore_n 1, 1) := by decide +kernel
theorem dX8_digest_112 : decode cX8_digest 112 = .ok (.iinc 3 1, 3) := by decide +kernel
theorem dX8_digest_115 : decode cX8_digest 115 = .ok (.goto (-29), 3) := by decide +kernel
theorem dX8_digest_118 : decode cX8_digest 118 = .ok (.aload_n 0, 1) := by decide +kernel
theorem dX8_digest_119 : decode cX8_digest 119 = .ok (.getfield 18, 3) := by decide +kernel
theorem dX8_digest_122 : decode cX8_digest 122 = .ok (.aload_n 0, 1) := by decide +kernel
theorem dX8_digest_123 : decode cX8_digest 123 = .ok (.getfield 14, 3) := by decide +kernel
theorem dX8_digest_126 : decode cX8_digest 126 = .ok (.lload_n 1, 1) := by decide +kernel
theorem dX8_digest_127 : decode cX8_digest 127 = .ok (.invokevirtual 329, 3) := by decide +kernel
theorem dX8_digest_130 : decode cX8_digest 130 = .ok (.invokevirtual 329, 3) := by decide +kernel
theorem dX8_digest_133 : decode cX8_digest 133 = .ok (.lreturn, 1) := by decide +kernel
theorem dX8_within_0 : decode cX8_within 0 = .ok (.iload_n 1, 1) := by decide +kernel
theorem dX8_within_1 : decode cX8_within 1 = .ok (.iload_n 0, 1) := by decide +kernel
theorem dX8_within_2 : decode cX8_within 2 = .ok (.if_icmp .gt 12, 3) := by decide +kernel
theorem dX8_within_5 : decode cX8_within 5 = .ok (.iload_n 0, 1) := by decide +kernel
theorem dX8_within_6 : decode cX8_within 6 = .ok (.iload_n 2, 1) := by decide +kernel
theorem dX8_within_7 : decode cX8_within 7 = .ok (.if_icmp .gt 7, 3) := by decide +kernel
theorem dX8_within_10 : decode cX8_within 10 = .ok (.iconst 1, 1) := by decide +kernel
theorem dX8_within_11 : decode cX8_within 11 = .ok (.goto 4, 3) := by decide +kernel
theorem dX8_within_14 : decode cX8_within 14 = .ok (.iconst 0, 1) := by decide +kernel
theorem dX8_within_15 : decode cX8_within 15 = .ok (.ireturn, 1) := by decide +kernel
theorem dX8_find_0 : decode cX8_find 0 = .ok (.aload_n 0, 1) := by decide +kernel
theorem dX8_find_1 : decode cX8_find 1 = .ok (.iload_n 1, 1) := by decide +kernel
theorem dX8_find_2 : decode cX8_find 2 = .ok (.putfield 79, 3) := by decide +kernel
theorem dX8_find_5 : decode cX8_find 5 = .ok (.aload_n 0, 1) := by decide +kernel
theorem dX8_find_6 : decode cX8_find 6 = .ok (.getfield 75, 3) := by decide +kernel
theorem dX8_find_9 : decode cX8_find 9 = .ok (.iload_n 1, 1) := by decide +kernel
theorem dX8_find_10 : decode cX8_find 10 = .ok (.dup2, 1) := by decide +kernel
theorem dX8_find_11 : decode cX8_find 11 = .ok (.iaload, 1) := by decide +kernel
theorem dX8_find_12 : decode cX8_find 12 = .ok (.iconst 1, 1) := by decide +kernel
theorem dX8_find_13 : decode cX8_find 13 = .ok (.iadd, 1) := by decide +kernel
theorem dX8_find_14 : decode cX8_find 14 = .ok (.iastore, 1) := by decide +kernel
theorem dX8_find_15 : decode cX8_find 15 = .ok (.bipush (-3), 2) := by decide +kernel
theorem dX8_find_17 : decode cX8_find 17 = .ok (.ireturn, 1) := by decide +kernel
theorem dX8_refusedMissing_0 : decode cX8_refusedMissing 0 = .ok (.aload_n 1, 1) := by decide +kernel
theorem dX8_refusedMissing_1 : decode cX8_refusedMissing 1 = .ok (.iload_n 2, 1) := by decide +kernel
theorem dX8_refusedMissing_2 : decode cX8_refusedMissing 2 = .ok (.invokevirtual 115, 3) := by decide +kernel
theorem dX8_refusedMissing_5 : decode cX8_refusedMissing 5 = .ok (.ifCond .ne 5, 3) := by decide +kernel
theorem dX8_refusedMissing_8 : decode cX8_refusedMissing 8 = .ok (.iconst (-1), 1) := by decide +kernel
theorem dX8_refusedMissing_9 : decode cX8_refusedMissing 9 = .ok (.ireturn, 1) := by decide +kernel
theorem dX8_refusedMissing_10 : decode cX8_refusedMissing 10 = .ok (.aload_n 1, 1) := by decide +kernel
theorem dX8_refusedMissing_11 : decode cX8_refusedMissing 11 = .ok (.iload_n 2, 1) := by decide +kernel
theorem dX8_refusedMissing_12 : decode cX8_refusedMissing 12 = .ok (.invokevirtual 123, 3) := by decide +kernel
theorem dX8_refusedMissing_15 : decode cX8_refusedMissing 15 = .ok (.ifCond .eq 7, 3) := by decide +kernel
theorem dX8_refusedMissing_18 : decode cX8_refusedMissing 18 = .ok (.iconst 0, 1) := by decide +kernel
theorem dX8_refusedMissing_19 : decode cX8_refusedMissing 19 = .ok (.goto 8, 3) := by decide +kernel
theorem dX8_refusedMissing_22 : decode cX8_refusedMissing 22 = .ok (.aload_n 0, 1) := by decide +kernel
theorem dX8_refusedMissing_23 : decode cX8_refusedMissing 23 = .ok (.iconst 1, 1) := by decide +kernel
theorem dX8_refusedMissing_24 : decode cX8_refusedMissing 24 = .ok (.invokevirtual 119, 3) := by decide +kernel
theorem dX8_refusedMissing_27 : decode cX8_refusedMissing 27 = .ok (.ireturn, 1) := by decide +kernel
theorem dX8_refusedPlace_0 : decode cX8_refusedPlace 0 = .ok (.aload_n 0, 1) := by decide +kernel
theorem dX8_refusedPlace_1 : decode cX8_refusedPlace 1 = .ok (.aload_n 1, 1) := by decide +kernel
theorem dX8_refusedPlace_2 : decode cX8_refusedPlace 2 = .ok (.iload_n 2, 1) := by decide +kernel
theorem dX8_refusedPlace_3 : decode cX8_refusedPlace 3 = .ok (.invokevirtual 108, 3) := by decide +kernel
theorem dX8_refusedPlace_6 : decode cX8_refusedPlace 6 = .ok (.istore 4, 2) := by decide +kernel
theorem dX8_refusedPlace_8 : decode cX8_refusedPlace 8 = .ok (.iload 4, 2) := by decide +kernel
theorem dX8_refusedPlace_10 : decode cX8_refusedPlace 10 = .ok (.ifCond .eq 6, 3) := by decide +kernel
theorem dX8_refusedPlace_13 : decode cX8_refusedPlace 13 = .ok (.iload 4, 2) := by decide +kernel
theorem dX8_refusedPlace_15 : decode cX8_refusedPlace 15 = .ok (.ireturn, 1) := by decide +kernel
theorem dX8_refusedPlace_16 : decode cX8_refusedPlace 16 = .ok (.aload_n 1, 1) := by decide +kernel
theorem dX8_refusedPlace_17 : decode cX8_refusedPlace 17 = .ok (.iload_n 2, 1) := by decide +kernel
theorem dX8_refusedPlace_18 : decode cX8_refusedPlace 18 = .ok (.iload_n 3, 1) := by decide +kernel
theorem dX8_refusedPlace_19 : decode cX8_refusedPlace 19 = .ok (.invokevirtual 333, 3) := by decide +kernel
theorem dX8_refusedPlace_22 : decode cX8_refusedPlace 22 = .ok (.ifCond .eq 7, 3) := by decide +kernel
theorem dX8_refusedPlace_25 : decode cX8_refusedPlace 25 = .ok (.iconst 0, 1) := by decide +kernel
theorem dX8_refusedPlace_26 : decode cX8_refusedPlace 26 = .ok (.goto 8, 3) := by decide +kernel
theorem dX8_refusedPlace_29 : decode cX8_refusedPlace 29 = .ok (.aload_n 0, 1) := by decide +kernel
theorem dX8_refusedPlace_30 : decode cX8_refusedPlace 30 = .ok (.iconst 2, 1) := by decide +kernel
theorem dX8_refusedPlace_31 : decode cX8_refusedPlace 31 = .ok (.invokevirtual 119, 3) := by decide +kernel
theorem dX8_refusedPlace_34 : decode cX8_refusedPlace 34 = .ok (.ireturn, 1) := by decide +kernel
theorem dX8_refusedSigns_0 : decode cX8_refusedSigns 0 = .ok (.aload_n 0, 1) := by decide +kernel
theorem dX8_refusedSigns_1 : decode cX8_refusedSigns 1 = .ok (.getfield 35, 3) := by decide +kernel
theorem dX8_refusedSigns_4 : decode cX8_refusedSigns 4 = .ok (.iload_n 1, 1) := by decide +kernel
theorem dX8_refusedSigns_5 : decode cX8_refusedSigns 5 = .ok (.invokevirtual 154, 3) := by decide +kernel
theorem dX8_refusedSigns_8 : decode cX8_refusedSigns 8 = .ok (.ifCond .ne 5, 3) := by decide +kernel
theorem dX8_refusedSigns_11 : decode cX8_refusedSigns 11 = .ok (.iconst (-1), 1) := by decide +kernel
theorem dX8_refusedSigns_12 : decode cX8_refusedSigns 12 = .ok (.ireturn, 1) := by decide +kernel
theorem dX8_refusedSigns_13 : decode cX8_refusedSigns 13 = .ok (.aload_n 0, 1) := by decide +kernel
theorem dX8_refusedSigns_14 : decode cX8_refusedSigns 14 = .ok (.aload_n 0, 1) := by decide +kernel
theorem dX8_refusedSigns_15 : decode cX8_refusedSigns 15 = .ok (.getfield 14, 3) := by decide +kernel
theorem dX8_refusedSigns_18 : decode cX8_refusedSigns 18 = .ok (.iload_n 2, 1) := by decide +kernel
theorem dX8_refusedSigns_19 : decode cX8_refusedSigns 19 = .ok (.invokevirtual 108, 3) := by decide +kernel
theorem dX8_refusedSigns_22 : decode cX8_refusedSigns 22 = .ok (.istore_n 3, 1) := by decide +kernel
theorem dX8_refusedSigns_23 : decode cX8_refusedSigns 23 = .ok (.iload_n 3, 1) := by decide +kernel
theorem dX8_refusedSigns_24 : decode cX8_refusedSigns 24 = .ok (.ifCond .eq 5, 3) := by decide +kernel
theorem dX8_refusedSigns_27 : decode cX8_refusedSigns 27 = .ok (.iload_n 3, 1) := by decide +kernel
theorem dX8_refusedSigns_28 : decode cX8_refusedSigns 28 = .ok (.ireturn, 1) := by decide +kernel
theorem dX8_refusedSigns_29 : decode cX8_refusedSigns 29 = .ok (.aload_n 0, 1) := by decide +kernel
theorem dX8_refusedSigns_30 : decode cX8_refusedSigns 30 = .ok (.getfield 14, 3) := by decide +kernel
theorem dX8_refusedSigns_33 : decode cX8_refusedSigns 33 = .ok (.iload_n 2, 1) := by decide +kernel
theorem dX8_refusedSigns_34 : decode cX8_refusedSigns 34 = .ok (.invokevirtual 134, 3) := by decide +kernel
theorem dX8_refusedSigns_37 : decode cX8_refusedSigns 37 = .ok (.iconst 2, 1) := by decide +kernel
theorem dX8_refusedSigns_38 : decode cX8_refusedSigns 38 = .ok (.irem, 1) := by decide +kernel
theorem dX8_refusedSigns_39 : decode cX8_refusedSigns 39 = .ok (.ifCond .eq 9, 3) := by decide +kernel
theorem dX8_refusedSigns_42 : decode cX8_refusedSigns 42 = .ok (.aload_n 0, 1) := by decide +kernel
theorem dX8_refusedSigns_43 : decode cX8_refusedSigns 43 = .ok (.iconst 5, 1) := by decide +kernel
theorem dX8_refusedSigns_44 : decode cX8_refusedSigns 44 = .ok (.invokevirtual 119, 3) := by decide +kernel
theorem dX8_refusedSigns_47 : decode cX8_refusedSigns 47 = .ok (.ireturn, 1) := by decide +kernel
theorem dX8_refusedSigns_48 : decode cX8_refusedSigns 48 = .ok (.iconst 0, 1) := by decide +kernel
theorem dX8_refusedSigns_49 : decode cX8_refusedSigns 49 = .ok (.istore 4, 2) := by decide +kernel
theorem dX8_refusedSigns_51 : decode cX8_refusedSigns 51 = .ok (.iload 4, 2) := by decide +kernel
theorem dX8_refusedSigns_53 : decode cX8_refusedSigns 53 = .ok (.aload_n 0, 1) := by decide +kernel
theorem dX8_refusedSigns_54 : decode cX8_refusedSigns 54 = .ok (.getfield 14, 3) := by decide +kernel
theorem dX8_refusedSigns_57 : decode cX8_refusedSigns 57 = .ok (.iload_n 2, 1) := by decide +kernel
theorem dX8_refusedSigns_58 : decode cX8_refusedSigns 58 = .ok (.invokevirtual 134, 3) := by decide +kernel
theorem dX8_refusedSigns_61 : decode cX8_refusedSigns 61 = .ok (.if_icmp .ge 46, 3) := by decide +kernel
theorem dX8_refusedSigns_64 : decode cX8_refusedSigns 64 = .ok (.aload_n 0, 1) := by decide +kernel
theorem dX8_refusedSigns_65 : decode cX8_refusedSigns 65 = .ok (.getfield 14, 3) := by decide +kernel
theorem dX8_refusedSigns_68 : decode cX8_refusedSigns 68 = .ok (.iload_n 2, 1) := by decide +kernel
theorem dX8_refusedSigns_69 : decode cX8_refusedSigns 69 = .ok (.iload 4, 2) := by decide +kernel
theorem dX8_refusedSigns_71 : decode cX8_refusedSigns 71 = .ok (.invokevirtual 100, 3) := by decide +kernel
theorem dX8_refusedSigns_74 : decode cX8_refusedSigns 74 = .ok (.iconst 0, 1) := by decide +kernel
theorem dX8_refusedSigns_75 : decode cX8_refusedSigns 75 = .ok (.iload 4, 2) := by decide +kernel
theorem dX8_refusedSigns_77 : decode cX8_refusedSigns 77 = .ok (.iconst 2, 1) := by decide +kernel
theorem dX8_refusedSigns_78 : decode cX8_refusedSigns 78 = .ok (.irem, 1) := by decide +kernel
theorem dX8_refusedSigns_79 : decode cX8_refusedSigns 79 = .ok (.ifCond .ne 8, 3) := by decide +kernel
theorem dX8_refusedSigns_82 : decode cX8_refusedSigns 82 = .ok (.bipush 9, 2) := by decide +kernel
theorem dX8_refusedSigns_84 : decode cX8_refusedSigns 84 = .ok (.goto 5, 3) := by decide +kernel
theorem dX8_refusedSigns_87 : decode cX8_refusedSigns 87 = .ok (.bipush 11, 2) := by decide +kernel
theorem dX8_refusedSigns_89 : decode cX8_refusedSigns 89 = .ok (.invokestatic 155, 3) := by decide +kernel
theorem dX8_refusedSigns_92 : decode cX8_refusedSigns 92 = .ok (.ifCond .ne 9, 3) := by decide +kernel
theorem dX8_refusedSigns_95 : decode cX8_refusedSigns 95 = .ok (.aload_n 0, 1) := by decide +kernel
theorem dX8_refusedSigns_96 : decode cX8_refusedSigns 96 = .ok (.iconst 3, 1) := by decide +kernel
theorem dX8_refusedSigns_97 : decode cX8_refusedSigns 97 = .ok (.invokevirtual 119, 3) := by decide +kernel
theorem dX8_refusedSigns_100 : decode cX8_refusedSigns 100 = .ok (.ireturn, 1) := by decide +kernel
theorem dX8_refusedSigns_101 : decode cX8_refusedSigns 101 = .ok (.iinc 4 1, 3) := by decide +kernel
theorem dX8_refusedSigns_104 : decode cX8_refusedSigns 104 = .ok (.goto (-53), 3) := by decide +kernel
theorem dX8_refusedSigns_107 : decode cX8_refusedSigns 107 = .ok (.iconst 0, 1) := by decide +kernel
theorem dX8_refusedSigns_108 : decode cX8_refusedSigns 108 = .ok (.ireturn, 1) := by decide +kernel
theorem dX8_makeOn_0 : decode cX8_makeOn 0 = .ok (.aload_n 1, 1) := by decide +kernel
theorem dX8_makeOn_1 : decode cX8_makeOn 1 = .ok (.iload_n 2, 1) := by decide +kernel
theorem dX8_makeOn_2 : decode cX8_makeOn 2 = .ok (.invokevirtual 115, 3) := by decide +kernel
theorem dX8_makeOn_5 : decode cX8_makeOn 5 = .ok (.ifCond .eq 11, 3) := by decide +kernel
theorem dX8_makeOn_8 : decode cX8_makeOn 8 = .ok (.iload_n 3, 1) := by decide +kernel
theorem dX8_makeOn_9 : decode cX8_makeOn 9 = .ok (.aload_n 1, 1) := by decide +kernel
theorem dX8_makeOn_10 : decode cX8_makeOn 10 = .ok (.getfield 336, 3) := by decide +kernel
theorem dX8_makeOn_13 : decode cX8_makeOn 13 = .ok (.if_icmp .le 5, 3) := by decide +kernel
theorem dX8_makeOn_16 : decode cX8_makeOn 16 = .ok (.iconst (-1), 1) := by decide +kernel
theorem dX8_makeOn_17 : decode cX8_makeOn 17 = .ok (.ireturn, 1) := by decide +kernel
theorem dX8_makeOn_18 : decode cX8_makeOn 18 = .ok (.iload_n 3, 1) := by decide +kernel
theorem dX8_makeOn_19 : decode cX8_makeOn 19 = .ok (.ifCond .ge 9, 3) := by decide +kernel
theorem dX8_makeOn_22 : decode cX8_makeOn 22 = .ok (.aload_n 0, 1) := by decide +kernel
theorem dX8_makeOn_23 : decode cX8_makeOn 23 = .ok (.iconst 5, 1) := by decide +kernel
theorem dX8_makeOn_24 : decode cX8_makeOn 24 = .ok (.invokevirtual 119, 3) := by decide +kernel
theorem dX8_makeOn_27 : decode cX8_makeOn 27 = .ok (.ireturn, 1) := by decide +kernel
theorem dX8_makeOn_28 : decode cX8_makeOn 28 = .ok (.aload_n 1, 1) := by decide +kernel
theorem dX8_makeOn_29 : decode cX8_makeOn 29 = .ok (.iload_n 2, 1) := by decide +kernel
theorem dX8_makeOn_30 : decode cX8_makeOn 30 = .ok (.iload_n 3, 1) := by decide +kernel
theorem dX8_makeOn_31 : decode cX8_makeOn 31 = .ok (.invokevirtual 339, 3) := by decide +kernel
theorem dX8_makeOn_34 : decode cX8_makeOn 34 = .ok (.iload_n 3, 1) := by decide +kernel
theorem dX8_makeOn_35 : decode cX8_makeOn 35 = .ok (.ireturn, 1) := by decide +kernel
theorem dX8_act_0 : decode cX8_act 0 = .ok (.aload_n 0, 1) := by decide +kernel
theorem dX8_act_1 : decode cX8_act 1 = .ok (.getfield 46, 3) := by decide +kernel
theorem dX8_act_4 : decode cX8_act 4 = .ok (.iload_n 1, 1) := by decide +kernel
theorem dX8_act_5 : decode cX8_act 5 = .ok (.invokevirtual 342, 3) := by decide +kernel
theorem dX8_act_8 : decode cX8_act 8 = .ok (.aload_n 0, 1) := by decide +kernel
theorem dX8_act_9 : decode cX8_act 9 = .ok (.getfield 35, 3) := by decide +kernel
theorem dX8_act_12 : decode cX8_act 12 = .ok (.iload_n 1, 1) := by decide +kernel
theorem dX8_act_13 : decode cX8_act 13 = .ok (.invokestatic 345, 3) := by decide +kernel
theorem dX8_act_16 : decode cX8_act 16 = .ok (.return_, 1) := by decide +kernel
theorem dX8_doAnew_0 : decode cX8_doAnew 0 = .ok (.aload_n 0, 1) := by decide +kernel
theorem dX8_doAnew_1 : decode cX8_doAnew 1 = .ok (.getfield 35, 3) := by decide +kernel
theorem dX8_doAnew_4 : decode cX8_doAnew 4 = .ok (.aload_n 0, 1) := by decide +kernel
theorem dX8_doAnew_5 : decode cX8_doAnew 5 = .ok (.getfield 31, 3) := by decide +kernel
theorem dX8_doAnew_8 : decode cX8_doAnew 8 = .ok (.invokevirtual 145, 3) := by decide +kernel
theorem dX8_doAnew_11 : decode cX8_doAnew 11 = .ok (.iconst 0, 1) := by decide +kernel
theorem dX8_doAnew_12 : decode cX8_doAnew 12 = .ok (.istore_n 1, 1) := by decide +kernel
theorem dX8_doAnew_13 : decode cX8_doAnew 13 = .ok (.iload_n 1, 1) := by decide +kernel
theorem dX8_doAnew_14 : decode cX8_doAnew 14 = .ok (.aload_n 0, 1) := by decide +kernel
theorem dX8_doAnew_15 : decode cX8_doAnew 15 = .ok (.getfield 46, 3) := by decide +kernel
theorem dX8_doAnew_18 : decode cX8_doAnew 18 = .ok (.getfield 149, 3) := by decide +kernel
theorem dX8_doAnew_21 : decode cX8_doAnew 21 = .ok (.if_icmp .ge 25, 3) := by decide +kernel
theorem dX8_doAnew_24 : decode cX8_doAnew 24 = .ok (.aload_n 0, 1) := by decide +kernel
theorem dX8_doAnew_25 : decode cX8_doAnew 25 = .ok (.getfield 35, 3) := by decide +kernel
theorem dX8_doAnew_28 : decode cX8_doAnew 28 = .ok (.aload_n 0, 1) := by decide +kernel
theorem dX8_doAnew_29 : decode cX8_doAnew 29 = .ok (.getfield 46, 3) := by decide +kernel
theorem dX8_doAnew_32 : decode cX8_doAnew 32 = .ok (.getfield 349, 3) := by decide +kernel
theorem dX8_doAnew_35 : decode cX8_doAnew 35 = .ok (.iload_n 1, 1) := by decide +kernel
theorem dX8_doAnew_36 : decode cX8_doAnew 36 = .ok (.iaload, 1) := by decide +kernel
theorem dX8_doAnew_37 : decode cX8_doAnew 37 = .ok (.invokestatic 345, 3) := by decide +kernel
theorem dX8_doAnew_40 : decode cX8_doAnew 40 = .ok (.iinc 1 1, 3) := by decide +kernel
theorem dX8_doAnew_43 : decode cX8_doAnew 43 = .ok (.goto (-30), 3) := by decide +kernel
theorem dX8_doAnew_46 : decode cX8_doAnew 46 = .ok (.return_, 1) := by decide +kernel
theorem dX8_codeByLot_0 : decode cX8_codeByLot 0 = .ok (.aload_n 0, 1) := by decide +kernel
theorem dX8_codeByLot_1 : decode cX8_codeByLot 1 = .ok (.getfield 35, 3) := by decide +kernel
theorem dX8_codeByLot_4 : decode cX8_codeByLot 4 = .ok (.getfield 151, 3) := by decide +kernel
theorem dX8_codeByLot_7 : decode cX8_codeByLot 7 = .ok (.ifCond .ne 8, 3) := by decide +kernel
theorem dX8_codeByLot_10 : decode cX8_codeByLot 10 = .ok (.bipush (-9), 2) := by decide +kernel
theorem dX8_codeByLot_12 : decode cX8_codeByLot 12 = .ok (.goto 18, 3) := by decide +kernel
theorem dX8_codeByLot_15 : decode cX8_codeByLot 15 = .ok (.lload_n 1, 1) := by decide +kernel
theorem dX8_codeByLot_16 : decode cX8_codeByLot 16 = .ok (.ldc2_w 352, 3) := by decide +kernel
theorem dX8_codeByLot_19 : decode cX8_codeByLot 19 = .ok (.ldiv, 1) := by decide +kernel
theorem dX8_codeByLot_20 : decode cX8_codeByLot 20 = .ok (.aload_n 0, 1) := by decide +kernel
theorem dX8_codeByLot_21 : decode cX8_codeByLot 21 = .ok (.getfield 35, 3) := by decide +kernel
theorem dX8_codeByLot_24 : decode cX8_codeByLot 24 = .ok (.getfield 151, 3) := by decide +kernel
theorem dX8_codeByLot_27 : decode cX8_codeByLot 27 = .ok (.i2l, 1) := by decide +kernel
theorem dX8_codeByLot_28 : decode cX8_codeByLot 28 = .ok (.lrem, 1) := by decide +kernel
theorem dX8_codeByLot_29 : decode cX8_codeByLot 29 = .ok (.l2i, 1) := by decide +kernel
theorem dX8_codeByLot_30 : decode cX8_codeByLot 30 = .ok (.istore_n 3, 1) := by decide +kernel
theorem dX8_codeByLot_31 : decode cX8_codeByLot 31 = .ok (.lload_n 1, 1) := by decide +kernel
theorem dX8_codeByLot_32 : decode cX8_codeByLot 32 = .ok (.ldc2_w 354, 3) := by decide +kernel
theorem dX8_codeByLot_35 : decode cX8_codeByLot 35 = .ok (.lrem, 1) := by decide +kernel
theorem dX8_codeByLot_36 : decode cX8_codeByLot 36 = .ok (.lconst 0, 1) := by decide +kernel
theorem dX8_codeByLot_37 : decode cX8_codeByLot 37 = .ok (.lcmp, 1) := by decide +kernel
theorem dX8_codeByLot_38 : decode cX8_codeByLot 38 = .ok (.ifCond .ne 21, 3) := by decide +kernel
theorem dX8_codeByLot_41 : decode cX8_codeByLot 41 = .ok (.aload_n 0, 1) := by decide +kernel
theorem dX8_codeByLot_42 : decode cX8_codeByLot 42 = .ok (.getfield 35, 3) := by decide +kernel
theorem dX8_codeByLot_45 : decode cX8_codeByLot 45 = .ok (.iload_n 3, 1) := by decide +kernel
theorem dX8_codeByLot_46 : decode cX8_codeByLot 46 = .ok (.invokevirtual 356, 3) := by decide +kernel
theorem dX8_codeByLot_49 : decode cX8_codeByLot 49 = .ok (.ifCond .eq 10, 3) := by decide +kernel
theorem dX8_codeByLot_52 : decode cX8_codeByLot 52 = .ok (.iconst 1, 1) := by decide +kernel
theorem dX8_codeByLot_53 : decode cX8_codeByLot 53 = .ok (.iload_n 3, 1) := by decide +kernel
theorem dX8_codeByLot_54 : decode cX8_codeByLot 54 = .ok (.iconst 0, 1) := by decide +kernel
theorem dX8_codeByLot_55 : decode cX8_codeByLot 55 = .ok (.invokestatic 189, 3) := by decide +kernel
theorem dX8_codeByLot_58 : decode cX8_codeByLot 58 = .ok (.ireturn, 1) := by decide +kernel
theorem dX8_codeByLot_59 : decode cX8_codeByLot 59 = .ok (.iconst 0, 1) := by decide +kernel
theorem dX8_codeByLot_60 : decode cX8_codeByLot 60 = .ok (.iconst 0, 1) := by decide +kernel
theorem dX8_codeByLot_61 : decode cX8_codeByLot 61 = .ok (.iconst 0, 1) := by decide +kernel
theorem dX8_codeByLot_62 : decode cX8_codeByLot 62 = .ok (.invokestatic 189, 3) := by decide +kernel
theorem dX8_codeByLot_65 : decode cX8_codeByLot 65 = .ok (.ireturn, 1) := by decide +kernel
theorem dX8_howManyKept_0 : decode cX8_howManyKept 0 = .ok (.iconst 0, 1) := by decide +kernel
theorem dX8_howManyKept_1 : decode cX8_howManyKept 1 = .ok (.istore_n 1, 1) := by decide +kernel
theorem dX8_howManyKept_2 : decode cX8_howManyKept 2 = .ok (.iconst 0, 1) := by decide +kernel
theorem dX8_howManyKept_3 : decode cX8_howManyKept 3 = .ok (.istore_n 2, 1) := by decide +kernel
theorem dX8_howManyKept_4 : decode cX8_howManyKept 4 = .ok (.iload_n 2, 1) := by decide +kernel
theorem dX8_howManyKept_5 : decode cX8_howManyKept 5 = .ok (.aload_n 0, 1) := by decide +kernel
theorem dX8_howManyKept_6 : decode cX8_howManyKept 6 = .ok (.getfield 50, 3) := by decide +kernel
theorem dX8_howManyKept_9 : decode cX8_howManyKept 9 = .ok (.arraylength, 1) := by decide +kernel
theorem dX8_howManyKept_10 : decode cX8_howManyKept 10 = .ok (.if_icmp .ge 25, 3) := by decide +kernel
theorem dX8_howManyKept_13 : decode cX8_howManyKept 13 = .ok (.aload_n 0, 1) := by decide +kernel
theorem dX8_howManyKept_14 : decode cX8_howManyKept 14 = .ok (.getfield 50, 3) := by decide +kernel
theorem dX8_howManyKept_17 : decode cX8_howManyKept 17 = .ok (.iload_n 2, 1) := by decide +kernel
theorem dX8_howManyKept_18 : decode cX8_howManyKept 18 = .ok (.aaload, 1) := by decide +kernel
theorem dX8_howManyKept_19 : decode cX8_howManyKept 19 = .ok (.getfield 149, 3) := by decide +kernel
theorem dX8_howManyKept_22 : decode cX8_howManyKept 22 = .ok (.iconst (-1), 1) := by decide +kernel
theorem dX8_howManyKept_23 : decode cX8_howManyKept 23 = .ok (.if_icmp .eq 6, 3) := by decide +kernel
theorem dX8_howManyKept_26 : decode cX8_howManyKept 26 = .ok (.iinc 1 1, 3) := by decide +kernel
theorem dX8_howManyKept_29 : decode cX8_howManyKept 29 = .ok (.iinc 2 1, 3) := by decide +kernel
theorem dX8_howManyKept_32 : decode cX8_howManyKept 32 = .ok (.goto (-28), 3) := by decide +kernel
theorem dX8_howManyKept_35 : decode cX8_howManyKept 35 = .ok (.iload_n 1, 1) := by decide +kernel
theorem dX8_howManyKept_36 : decode cX8_howManyKept 36 = .ok (.ireturn, 1) := by decide +kernel
theorem dX8_kindsBy_0 : decode cX8_kindsBy 0 = .ok (.iconst 0, 1) := by decide +kernel
theorem dX8_kindsBy_1 : decode cX8_kindsBy 1 = .ok (.istore_n 2, 1) := by decide +kernel
theorem dX8_kindsBy_2 : decode cX8_kindsBy 2 = .ok (.iconst 0, 1) := by decide +kernel
theorem dX8_kindsBy_3 : decode cX8_kindsBy 3 = .ok (.istore_n 3, 1) := by decide +kernel
theorem dX8_kindsBy_4 : decode cX8_kindsBy 4 = .ok (.iload_n 3, 1) := by decide +kernel
theorem dX8_kindsBy_5 : decode cX8_kindsBy 5 = .ok (.bipush 6, 2) := by decide +kernel
theorem dX8_kindsBy_7 : decode cX8_kindsBy 7 = .ok (.if_icmp .ge 24, 3) := by decide +kernel
theorem dX8_kindsBy_10 : decode cX8_kindsBy 10 = .ok (.aload_n 0, 1) := by decide +kernel
theorem dX8_kindsBy_11 : decode cX8_kindsBy 11 = .ok (.iload_n 3, 1) := by decide +kernel
theorem dX8_kindsBy_12 : decode cX8_kindsBy 12 = .ok (.iload_n 1, 1) := by decide +kernel
theorem dX8_kindsBy_13 : decode cX8_kindsBy 13 = .ok (.invokevirtual 359, 3) := by decide +kernel
theorem dX8_kindsBy_16 : decode cX8_kindsBy 16 = .ok (.ifCond .eq 9, 3) := by decide +kernel
theorem dX8_kindsBy_19 : decode cX8_kindsBy 19 = .ok (.iload_n 2, 1) := by decide +kernel
theorem dX8_kindsBy_20 : decode cX8_kindsBy 20 = .ok (.iconst 1, 1) := by decide +kernel
theorem dX8_kindsBy_21 : decode cX8_kindsBy 21 = .ok (.iload_n 3, 1) := by decide +kernel
theorem dX8_kindsBy_22 : decode cX8_kindsBy 22 = .ok (.ishl, 1) := by decide +kernel
theorem dX8_kindsBy_23 : decode cX8_kindsBy 23 = .ok (.ior, 1) := by decide +kernel
theorem dX8_kindsBy_24 : decode cX8_kindsBy 24 = .ok (.istore_n 2, 1) := by decide +kernel
theorem dX8_kindsBy_25 : decode cX8_kindsBy 25 = .ok (.iinc 3 1, 3) := by decide +kernel
theorem dX8_kindsBy_28 : decode cX8_kindsBy 28 = .ok (.goto (-24), 3) := by decide +kernel
theorem dX8_kindsBy_31 : decode cX8_kindsBy 31 = .ok (.iload_n 2, 1) := by decide +kernel
theorem dX8_kindsBy_32 : decode cX8_kindsBy 32 = .ok (.ireturn, 1) := by decide +kernel
theorem dX8_fits_0 : decode cX8_fits 0 = .ok (.iconst 0, 1) := by decide +kernel
theorem dX8_fits_1 : decode cX8_fits 1 = .ok (.istore_n 3, 1) := by decide +kernel
theorem dX8_fits_2 : decode cX8_fits 2 = .ok (.iload_n 3, 1) := by decide +kernel
theorem dX8_fits_3 : decode cX8_fits 3 = .ok (.iconst 1, 1) := by decide +kernel
theorem dX8_fits_4 : decode cX8_fits 4 = .ok (.iadd, 1) := by decide +kernel
theorem dX8_fits_5 : decode cX8_fits 5 = .ok (.aload_n 0, 1) := by decide +kernel
theorem dX8_fits_6 : decode cX8_fits 6 = .ok (.getfield 14, 3) := by decide +kernel
theorem dX8_fits_9 : decode cX8_fits 9 = .ok (.iload_n 2, 1) := by decide +kernel
theorem dX8_fits_10 : decode cX8_fits 10 = .ok (.invokevirtual 134, 3) := by decide +kernel
theorem dX8_fits_13 : decode cX8_fits 13 = .ok (.if_icmp .ge 38, 3) := by decide +kernel
theorem dX8_fits_16 : decode cX8_fits 16 = .ok (.iload_n 1, 1) := by decide +kernel
theorem dX8_fits_17 : decode cX8_fits 17 = .ok (.aload_n 0, 1) := by decide +kernel
theorem dX8_fits_18 : decode cX8_fits 18 = .ok (.getfield 14, 3) := by decide +kernel
theorem dX8_fits_21 : decode cX8_fits 21 = .ok (.iload_n 2, 1) := by decide +kernel
theorem dX8_fits_22 : decode cX8_fits 22 = .ok (.iload_n 3, 1) := by decide +kernel
theorem dX8_fits_23 : decode cX8_fits 23 = .ok (.invokevirtual 100, 3) := by decide +kernel
theorem dX8_fits_26 : decode cX8_fits 26 = .ok (.invokestatic 174, 3) := by decide +kernel
theorem dX8_fits_29 : decode cX8_fits 29 = .ok (.aload_n 0, 1) := by decide +kernel
theorem dX8_fits_30 : decode cX8_fits 30 = .ok (.getfield 14, 3) := by decide +kernel
theorem dX8_fits_33 : decode cX8_fits 33 = .ok (.iload_n 2, 1) := by decide +kernel
theorem dX8_fits_34 : decode cX8_fits 34 = .ok (.iload_n 3, 1) := by decide +kernel
theorem dX8_fits_35 : decode cX8_fits 35 = .ok (.iconst 1, 1) := by decide +kernel
theorem dX8_fits_36 : decode cX8_fits 36 = .ok (.iadd, 1) := by decide +kernel
theorem dX8_fits_37 : decode cX8_fits 37 = .ok (.invokevirtual 100, 3) := by decide +kernel
theorem dX8_fits_40 : decode cX8_fits 40 = .ok (.if_icmp .eq 5, 3) := by decide +kernel
theorem dX8_fits_43 : decode cX8_fits 43 = .ok (.iconst 0, 1) := by decide +kernel
theorem dX8_fits_44 : decode cX8_fits 44 = .ok (.ireturn, 1) := by decide +kernel
theorem dX8_fits_45 : decode cX8_fits 45 = .ok (.iinc 3 2, 3) := by decide +kernel
theorem dX8_fits_48 : decode cX8_fits 48 = .ok (.goto (-46), 3) := by decide +kernel
theorem dX8_fits_51 : decode cX8_fits 51 = .ok (.iconst 1, 1) := by decide +kernel
theorem dX8_fits_52 : decode cX8_fits 52 = .ok (.ireturn, 1) := by decide +kernel
theorem dX8_thereBehindWinter_0 : decode cX8_thereBehindWinter 0 = .ok (.aload_n 0, 1) := by decide +kernel
theorem dX8_thereBehindWinter_1 : decode cX8_thereBehindWinter 1 = .ok (.getfield 38, 3) := by decide +kernel
theorem dX8_thereBehindWinter_4 : decode cX8_thereBehindWinter 4 = .ok (.aload_n 0, 1) := by decide +kernel
theorem dX8_thereBehindWinter_5 : decode cX8_thereBehindWinter 5 = .ok (.getfield 35, 3) := by decide +kernel
theorem dX8_thereBehindWinter_8 : decode cX8_thereBehindWinter 8 = .ok (.invokevirtual 145, 3) := by decide +kernel
theorem dX8_thereBehindWinter_11 : decode cX8_thereBehindWinter 11 = .ok (.aload_n 0, 1) := by decide +kernel
theorem dX8_thereBehindWinter_12 : decode cX8_thereBehindWinter 12 = .ok (.getfield 38, 3) := by decide +kernel
theorem dX8_thereBehindWinter_15 : decode cX8_thereBehindWinter 15 = .ok (.invokevirtual 223, 3) := by decide +kernel
theorem dX8_thereBehindWinter_18 : decode cX8_thereBehindWinter 18 = .ok (.aload_n 0, 1) := by decide +kernel
theorem dX8_thereBehindWinter_19 : decode cX8_thereBehindWinter 19 = .ok (.getfield 38, 3) := by decide +kernel
theorem dX8_thereBehindWinter_22 : decode cX8_thereBehindWinter 22 = .ok (.invokevirtual 304, 3) := by decide +kernel
theorem dX8_thereBehindWinter_25 : decode cX8_thereBehindWinter 25 = .ok (.ireturn, 1) := by decide +kernel
theorem dX8_isPartOf_0 : decode cX8_isPartOf 0 = .ok (.iload_n 0, 1) := by decide +kernel
theorem dX8_isPartOf_1 : decode cX8_isPartOf 1 = .ok (.iload_n 1, 1) := by decide +kernel
theorem dX8_isPartOf_2 : decode cX8_isPartOf 2 = .ok (.iconst (-1), 1) := by decide +kernel
theorem dX8_isPartOf_3 : decode cX8_isPartOf 3 = .ok (.ixor, 1) := by decide +kernel
theorem dX8_isPartOf_4 : decode cX8_isPartOf 4 = .ok (.iand, 1) := by decide +kernel
theorem dX8_isPartOf_5 : decode cX8_isPartOf 5 = .ok (.ifCond .ne 7, 3) := by decide +kernel
theorem dX8_isPartOf_8 : decode cX8_isPartOf 8 = .ok (.iconst 1, 1) := by decide +kernel
theorem dX8_isPartOf_9 : decode cX8_isPartOf 9 = .ok (.goto 4, 3) := by decide +kernel
theorem dX8_isPartOf_12 : decode cX8_isPartOf 12 = .ok (.iconst 0, 1) := by decide +kernel
theorem dX8_isPartOf_13 : decode cX8_isPartOf 13 = .ok (.ireturn, 1) := by decide +kernel
theorem dX8_weight_0 : decode cX8_weight 0 = .ok (.lconst 1, 1) := by decide +kernel
theorem dX8_weight_1 : decode cX8_weight 1 = .ok (.lstore_n 3, 1) := by decide +kernel
theorem dX8_weight_2 : decode cX8_weight 2 = .ok (.iconst 0, 1) := by decide +kernel
theorem dX8_weight_3 : decode cX8_weight 3 = .ok (.istore 5, 2) := by decide +kernel
theorem dX8_weight_5 : decode cX8_weight 5 = .ok (.iload 5, 2) := by decide +kernel
theorem dX8_weight_7 : decode cX8_weight 7 = .ok (.bipush 6, 2) := by decide +kernel
theorem dX8_weight_9 : decode cX8_weight 9 = .ok (.if_icmp .ge 42, 3) := by decide +kernel
theorem dX8_weight_12 : decode cX8_weight 12 = .ok (.iload_n 1, 1) := by decide +kernel
theorem dX8_weight_13 : decode cX8_weight 13 = .ok (.iload 5, 2) := by decide +kernel
theorem dX8_weight_15 : decode cX8_weight 15 = .ok (.ishr, 1) := by decide +kernel
theorem dX8_weight_16 : decode cX8_weight 16 = .ok (.iconst 1, 1) := by decide +kernel
theorem dX8_weight_17 : decode cX8_weight 17 = .ok (.iand, 1) := by decide +kernel
theorem dX8_weight_18 : decode cX8_weight 18 = .ok (.iconst 1, 1) := by decide +kernel
theorem dX8_weight_19 : decode cX8_weight 19 = .ok (.if_icmp .ne 26, 3) := by decide +kernel
theorem dX8_weight_22 : decode cX8_weight 22 = .ok (.lload_n 3, 1) := by decide +kernel
theorem dX8_weight_23 : decode cX8_weight 23 = .ok (.iload_n 0, 1) := by decide +kernel
theorem dX8_weight_24 : decode cX8_weight 24 = .ok (.iload 5, 2) := by decide +kernel
theorem dX8_weight_26 : decode cX8_weight 26 = .ok (.ishr, 1) := by decide +kernel
theorem dX8_weight_27 : decode cX8_weight 27 = .ok (.iconst 1, 1) := by decide +kernel
theorem dX8_weight_28 : decode cX8_weight 28 = .ok (.iand, 1) := by decide +kernel
theorem dX8_weight_29 : decode cX8_weight 29 = .ok (.iconst 1, 1) := by decide +kernel
theorem dX8_weight_30 : decode cX8_weight 30 = .ok (.if_icmp .ne 11, 3) := by decide +kernel
theorem dX8_weight_33 : decode cX8_weight 33 = .ok (.bipush 12, 2) := by decide +kernel
theorem dX8_weight_35 : decode cX8_weight 35 = .ok (.iload_n 2, 1) := by decide +kernel
theorem dX8_weight_36 : decode cX8_weight 36 = .ok (.isub, 1) := by decide +kernel
theorem dX8_weight_37 : decode cX8_weight 37 = .ok (.i2l, 1) := by decide +kernel
theorem dX8_weight_38 : decode cX8_weight 38 = .ok (.goto 5, 3) := by decide +kernel
theorem dX8_weight_41 : decode cX8_weight 41 = .ok (.iload_n 2, 1) := by decide +kernel
theorem dX8_weight_42 : decode cX8_weight 42 = .ok (.i2l, 1) := by decide +kernel
theorem dX8_weight_43 : decode cX8_weight 43 = .ok (.lmul, 1) := by decide +kernel
theorem dX8_weight_44 : decode cX8_weight 44 = .ok (.lstore_n 3, 1) := by decide +kernel
theorem dX8_weight_45 : decode cX8_weight 45 = .ok (.iinc 5 1, 3) := by decide +kernel
theorem dX8_weight_48 : decode cX8_weight 48 = .ok (.goto (-43), 3) := by decide +kernel
theorem dX8_weight_51 : decode cX8_weight 51 = .ok (.lload_n 3, 1) := by decide +kernel
theorem dX8_weight_52 : decode cX8_weight 52 = .ok (.lreturn, 1) := by decide +kernel
theorem dX8_tell_0 : decode cX8_tell 0 = .ok (.lload_n 1, 1) := by decide +kernel
theorem dX8_tell_1 : decode cX8_tell 1 = .ok (.lload_n 3, 1) := by decide +kernel
theorem dX8_tell_2 : decode cX8_tell 2 = .ok (.invokestatic 362, 3) := by decide +kernel
theorem dX8_tell_5 : decode cX8_tell 5 = .ok (.lstore 5, 2) := by decide +kernel
theorem dX8_tell_7 : decode cX8_tell 7 = .ok (.aload_n 0, 1) := by decide +kernel
theorem dX8_tell_8 : decode cX8_tell 8 = .ok (.lload 5, 2) := by decide +kernel
theorem dX8_tell_10 : decode cX8_tell 10 = .ok (.lconst 0, 1) := by decide +kernel
theorem dX8_tell_11 : decode cX8_tell 11 = .ok (.lcmp, 1) := by decide +kernel
theorem dX8_tell_12 : decode cX8_tell 12 = .ok (.ifCond .ne 7, 3) := by decide +kernel
theorem dX8_tell_15 : decode cX8_tell 15 = .ok (.lconst 0, 1) := by decide +kernel
theorem dX8_tell_16 : decode cX8_tell 16 = .ok (.goto 7, 3) := by decide +kernel
theorem dX8_tell_19 : decode cX8_tell 19 = .ok (.lload_n 1, 1) := by decide +kernel
theorem dX8_tell_20 : decode cX8_tell 20 = .ok (.lload 5, 2) := by decide +kernel
theorem dX8_tell_22 : decode cX8_tell 22 = .ok (.ldiv, 1) := by decide +kernel
theorem dX8_tell_23 : decode cX8_tell 23 = .ok (.putfield 86, 3) := by decide +kernel
theorem dX8_tell_26 : decode cX8_tell 26 = .ok (.aload_n 0, 1) := by decide +kernel
theorem dX8_tell_27 : decode cX8_tell 27 = .ok (.lload 5, 2) := by decide +kernel
theorem dX8_tell_29 : decode cX8_tell 29 = .ok (.lconst 0, 1) := by decide +kernel
theorem dX8_tell_30 : decode cX8_tell 30 = .ok (.lcmp, 1) := by decide +kernel
theorem dX8_tell_31 : decode cX8_tell 31 = .ok (.ifCond .ne 7, 3) := by decide +kernel
theorem dX8_tell_34 : decode cX8_tell 34 = .ok (.lconst 1, 1) := by decide +kernel
theorem dX8_tell_35 : decode cX8_tell 35 = .ok (.goto 7, 3) := by decide +kernel
theorem dX8_tell_38 : decode cX8_tell 38 = .ok (.lload_n 3, 1) := by decide +kernel
theorem dX8_tell_39 : decode cX8_tell 39 = .ok (.lload 5, 2) := by decide +kernel
theorem dX8_tell_41 : decode cX8_tell 41 = .ok (.ldiv, 1) := by decide +kernel
theorem dX8_tell_42 : decode cX8_tell 42 = .ok (.putfield 90, 3) := by decide +kernel
theorem dX8_tell_45 : decode cX8_tell 45 = .ok (.return_, 1) := by decide +kernel
theorem dX8_greatestDivisor_0 : decode cX8_greatestDivisor 0 = .ok (.iconst 0, 1) := by decide +kernel
theorem dX8_greatestDivisor_1 : decode cX8_greatestDivisor 1 = .ok (.istore 4, 2) := by decide +kernel
theorem dX8_greatestDivisor_3 : decode cX8_greatestDivisor 3 = .ok (.iload 4, 2) := by decide +kernel
theorem dX8_greatestDivisor_5 : decode cX8_greatestDivisor 5 = .ok (.bipush 100, 2) := by decide +kernel
theorem dX8_greatestDivisor_7 : decode cX8_greatestDivisor 7 = .ok (.if_icmp .ge 25, 3) := by decide +kernel
theorem dX8_greatestDivisor_10 : decode cX8_greatestDivisor 10 = .ok (.lload_n 2, 1) := by decide +kernel
theorem dX8_greatestDivisor_11 : decode cX8_greatestDivisor 11 = .ok (.lconst 0, 1) := by decide +kernel
theorem dX8_greatestDivisor_12 : decode cX8_greatestDivisor 12 = .ok (.lcmp, 1) := by decide +kernel
theorem dX8_greatestDivisor_13 : decode cX8_greatestDivisor 13 = .ok (.ifCond .eq 19, 3) := by decide +kernel
theorem dX8_greatestDivisor_16 : decode cX8_greatestDivisor 16 = .ok (.lload_n 0, 1) := by decide +kernel
theorem dX8_greatestDivisor_17 : decode cX8_greatestDivisor 17 = .ok (.lload_n 2, 1) := by decide +kernel
theorem dX8_greatestDivisor_18 : decode cX8_greatestDivisor 18 = .ok (.lrem, 1) := by decide +kernel
theorem dX8_greatestDivisor_19 : decode cX8_greatestDivisor 19 = .ok (.lstore 5, 2) := by decide +kernel
theorem dX8_greatestDivisor_21 : decode cX8_greatestDivisor 21 = .ok (.lload_n 2, 1) := by decide +kernel
theorem dX8_greatestDivisor_22 : decode cX8_greatestDivisor 22 = .ok (.lstore_n 0, 1) := by decide +kernel
theorem dX8_greatestDivisor_23 : decode cX8_greatestDivisor 23 = .ok (.lload 5, 2) := by decide +kernel
theorem dX8_greatestDivisor_25 : decode cX8_greatestDivisor 25 = .ok (.lstore_n 2, 1) := by decide +kernel
theorem dX8_greatestDivisor_26 : decode cX8_greatestDivisor 26 = .ok (.iinc 4 1, 3) := by decide +kernel
theorem dX8_greatestDivisor_29 : decode cX8_greatestDivisor 29 = .ok (.goto (-26), 3) := by decide +kernel
theorem dX8_greatestDivisor_32 : decode cX8_greatestDivisor 32 = .ok (.lload_n 0, 1) := by decide +kernel
theorem dX8_greatestDivisor_33 : decode cX8_greatestDivisor 33 = .ok (.lreturn, 1) := by decide +kernel
theorem dX9_init_0 : decode cX9_init 0 = .ok (.aload_n 0, 1) := by decide +kernel
theorem dX9_init_1 : decode cX9_init 1 = .ok (.invokespecial 1, 3) := by decide +kernel
theorem dX9_init_4 : decode cX9_init 4 = .ok (.aload_n 0, 1) := by decide +kernel
theorem dX9_init_5 : decode cX9_init 5 = .ok (.bipush 6, 2) := by decide +kernel
theorem dX9_init_7 : decode cX9_init 7 = .ok (.newarray .int, 2) := by decide +kernel
theorem dX9_init_9 : decode cX9_init 9 = .ok (.putfield 7, 3) := by decide +kernel
theorem dX9_init_12 : decode cX9_init 12 = .ok (.aload_n 0, 1) := by decide +kernel
theorem dX9_init_13 : decode cX9_init 13 = .ok (.lconst 1, 1) := by decide +kernel
theorem dX9_init_14 : decode cX9_init 14 = .ok (.putfield 13, 3) := by decide +kernel
theorem dX9_init_17 : decode cX9_init 17 = .ok (.aload_n 0, 1) := by decide +kernel
theorem dX9_init_18 : decode cX9_init 18 = .ok (.bipush 6, 2) := by decide +kernel
theorem dX9_init_20 : decode cX9_init 20 = .ok (.newarray .int, 2) := by decide +kernel
theorem dX9_init_22 : decode cX9_init 22 = .ok (.putfield 17, 3) := by decide +kernel
theorem dX9_init_25 : decode cX9_init 25 = .ok (.aload_n 0, 1) := by decide +kernel
theorem dX9_init_26 : decode cX9_init 26 = .ok (.sipush 240, 3) := by decide +kernel
theorem dX9_init_29 : decode cX9_init 29 = .ok (.newarray .int, 2) := by decide +kernel
theorem dX9_init_31 : decode cX9_init 31 = .ok (.putfield 20, 3) := by decide +kernel
theorem dX9_init_34 : decode cX9_init 34 = .ok (.aload_n 0, 1) := by decide +kernel
theorem dX9_init_35 : decode cX9_init 35 = .ok (.bipush 40, 2) := by decide +kernel
theorem dX9_init_37 : decode cX9_init 37 = .ok (.newarray .int, 2) := by decide +kernel
theorem dX9_init_39 : decode cX9_init 39 = .ok (.putfield 23, 3) := by decide +kernel
theorem dX9_init_42 : decode cX9_init 42 = .ok (.aload_n 0, 1) := by decide +kernel
theorem dX9_init_43 : decode cX9_init 43 = .ok (.iconst 4, 1) := by decide +kernel
theorem dX9_init_44 : decode cX9_init 44 = .ok (.newarray .int, 2) := by decide +kernel
theorem dX9_init_46 : decode cX9_init 46 = .ok (.putfield 26, 3) := by decide +kernel
theorem dX9_init_49 : decode cX9_init 49 = .ok (.aload_n 0, 1) := by decide +kernel
theorem dX9_init_50 : decode cX9_init 50 = .ok (.sipush 240, 3) := by decide +kernel
theorem dX9_init_53 : decode cX9_init 53 = .ok (.newarray .byte, 2) := by decide +kernel
theorem dX9_init_55 : decode cX9_init 55 = .ok (.putfield 29, 3) := by decide +kernel
theorem dX9_init_58 : decode cX9_init 58 = .ok (.aload_n 0, 1) := by decide +kernel
theorem dX9_init_59 : decode cX9_init 59 = .ok (.bipush 6, 2) := by decide +kernel
theorem dX9_init_61 : decode cX9_init 61 = .ok (.newarray .int, 2) := by decide +kernel
theorem dX9_init_63 : decode cX9_init 63 = .ok (.putfield 33, 3) := by decide +kernel
theorem dX9_init_66 : decode cX9_init 66 = .ok (.aload_n 0, 1) := by decide +kernel
theorem dX9_init_67 : decode cX9_init 67 = .ok (.iconst 4, 1) := by decide +kernel
theorem dX9_init_68 : decode cX9_init 68 = .ok (.newarray .int, 2) := by decide +kernel
theorem dX9_init_70 : decode cX9_init 70 = .ok (.putfield 36, 3) := by decide +kernel
theorem dX9_init_73 : decode cX9_init 73 = .ok (.aload_n 0, 1) := by decide +kernel
theorem dX9_init_74 : decode cX9_init 74 = .ok (.bipush 26, 2) := by decide +kernel
theorem dX9_init_76 : decode cX9_init 76 = .ok (.newarray .int, 2) := by decide +kernel
theorem dX9_init_78 : decode cX9_init 78 = .ok (.putfield 39, 3) := by decide +kernel
theorem dX9_init_81 : decode cX9_init 81 = .ok (.aload_n 0, 1) := by decide +kernel
theorem dX9_init_82 : decode cX9_init 82 = .ok (.bipush 26, 2) := by decide +kernel
theorem dX9_init_84 : decode cX9_init 84 = .ok (.newarray .int, 2) := by decide +kernel
theorem dX9_init_86 : decode cX9_init 86 = .ok (.putfield 42, 3) := by decide +kernel
theorem dX9_init_89 : decode cX9_init 89 = .ok (.aload_n 0, 1) := by decide +kernel
theorem dX9_init_90 : decode cX9_init 90 = .ok (.iconst 4, 1) := by decide +kernel
theorem dX9_init_91 : decode cX9_init 91 = .ok (.newarray .int, 2) := by decide +kernel
theorem dX9_init_93 : decode cX9_init 93 = .ok (.putfield 45, 3) := by decide +kernel
theorem dX9_init_96 : decode cX9_init 96 = .ok (.aload_n 0, 1) := by decide +kernel
theorem dX9_init_97 : decode cX9_init 97 = .ok (.bipush 24, 2) := by decide +kernel
theorem dX9_init_99 : decode cX9_init 99 = .ok (.newarray .int, 2) := by decide +kernel
theorem dX9_init_101 : decode cX9_init 101 = .ok (.putfield 48, 3) := by decide +kernel
theorem dX9_init_104 : decode cX9_init 104 = .ok (.aload_n 0, 1) := by decide +kernel
theorem dX9_init_105 : decode cX9_init 105 = .ok (.bipush 6, 2) := by decide +kernel
theorem dX9_init_107 : decode cX9_init 107 = .ok (.newarray .int, 2) := by decide +kernel
theorem dX9_init_109 : decode cX9_init 109 = .ok (.putfield 51, 3) := by decide +kernel
theorem dX9_init_112 : decode cX9_init 112 = .ok (.aload_n 0, 1) := by decide +kernel
theorem dX9_init_113 : decode cX9_init 113 = .ok (.sipush 1040, 3) := by decide +kernel
theorem dX9_init_116 : decode cX9_init 116 = .ok (.newarray .int, 2) := by decide +kernel
theorem dX9_init_118 : decode cX9_init 118 = .ok (.putfield 54, 3) := by decide +kernel
theorem dX9_init_121 : decode cX9_init 121 = .ok (.aload_n 0, 1) := by decide +kernel
theorem dX9_init_122 : decode cX9_init 122 = .ok (.iconst 3, 1) := by decide +kernel
theorem dX9_init_123 : decode cX9_init 123 = .ok (.newarray .boolean, 2) := by decide +kernel
theorem dX9_init_125 : decode cX9_init 125 = .ok (.putfield 57, 3) := by decide +kernel
theorem dX9_init_128 : decode cX9_init 128 = .ok (.aload_n 0, 1) := by decide +kernel
theorem dX9_init_129 : decode cX9_init 129 = .ok (.iconst 3, 1) := by decide +kernel
theorem dX9_init_130 : decode cX9_init 130 = .ok (.newarray .int, 2) := by decide +kernel
theorem dX9_init_132 : decode cX9_init 132 = .ok (.putfield 61, 3) := by decide +kernel
theorem dX9_init_135 : decode cX9_init 135 = .ok (.aload_n 0, 1) := by decide +kernel
theorem dX9_init_136 : decode cX9_init 136 = .ok (.bipush 78, 2) := by decide +kernel
theorem dX9_init_138 : decode cX9_init 138 = .ok (.newarray .int, 2) := by decide +kernel
theorem dX9_init_140 : decode cX9_init 140 = .ok (.putfield 64, 3) := by decide +kernel
theorem dX9_init_143 : decode cX9_init 143 = .ok (.aload_n 0, 1) := by decide +kernel
theorem dX9_init_144 : decode cX9_init 144 = .ok (.sipush 3120, 3) := by decide +kernel
theorem dX9_init_147 : decode cX9_init 147 = .ok (.newarray .int, 2) := by decide +kernel
theorem dX9_init_149 : decode cX9_init 149 = .ok (.putfield 67, 3) := by decide +kernel
theorem dX9_init_152 : decode cX9_init 152 = .ok (.aload_n 0, 1) := by decide +kernel
theorem dX9_init_153 : decode cX9_init 153 = .ok (.iconst 4, 1) := by decide +kernel
theorem dX9_init_154 : decode cX9_init 154 = .ok (.newarray .int, 2) := by decide +kernel
theorem dX9_init_156 : decode cX9_init 156 = .ok (.putfield 70, 3) := by decide +kernel
theorem dX9_init_159 : decode cX9_init 159 = .ok (.aload_n 0, 1) := by decide +kernel
theorem dX9_init_160 : decode cX9_init 160 = .ok (.bipush 6, 2) := by decide +kernel
theorem dX9_init_162 : decode cX9_init 162 = .ok (.newarray .int, 2) := by decide +kernel
theorem dX9_init_164 : decode cX9_init 164 = .ok (.putfield 73, 3) := by decide +kernel
theorem dX9_init_167 : decode cX9_init 167 = .ok (.aload_n 0, 1) := by decide +kernel
theorem dX9_init_168 : decode cX9_init 168 = .ok (.bipush 6, 2) := by decide +kernel
theorem dX9_init_170 : decode cX9_init 170 = .ok (.newarray .int, 2) := by decide +kernel
theorem dX9_init_172 : decode cX9_init 172 = .ok (.putfield 76, 3) := by decide +kernel
theorem dX9_init_175 : decode cX9_init 175 = .ok (.aload_n 0, 1) := by decide +kernel
theorem dX9_init_176 : decode cX9_init 176 = .ok (.bipush 6, 2) := by decide +kernel
theorem dX9_init_178 : decode cX9_init 178 = .ok (.newarray .int, 2) := by decide +kernel
theorem dX9_init_180 : decode cX9_init 180 = .ok (.putfield 79, 3) := by decide +kernel
theorem dX9_init_183 : decode cX9_init 183 = .ok (.aload_n 0, 1) := by decide +kernel
theorem dX9_init_184 : decode cX9_init 184 = .ok (.bipush 64, 2) := by decide +kernel
theorem dX9_init_186 : decode cX9_init 186 = .ok (.newarray .int, 2) := by decide +kernel
theorem dX9_init_188 : decode cX9_init 188 = .ok (.putfield 82, 3) := by decide +kernel
theorem dX9_init_191 : decode cX9_init 191 = .ok (.aload_n 0, 1) := by decide +kernel
theorem dX9_init_192 : decode cX9_init 192 = .ok (.bipush 64, 2) := by decide +kernel
theorem dX9_init_194 : decode cX9_init 194 = .ok (.newarray .int, 2) := by decide +kernel
theorem dX9_init_196 : decode cX9_init 196 = .ok (.putfield 85, 3) := by decide +kernel
theorem dX9_init_199 : decode cX9_init 199 = .ok (.iconst 0, 1) := by decide +kernel
theorem dX9_init_200 : decode cX9_init 200 = .ok (.istore_n 1, 1) := by decide +kernel
theorem dX9_init_201 : decode cX9_init 201 = .ok (.iload_n 1, 1) := by decide +kernel
theorem dX9_init_202 : decode cX9_init 202 = .ok (.bipush 6, 2) := by decide +kernel
theorem dX9_init_204 : decode cX9_init 204 = .ok (.if_icmp .ge 16, 3) := by decide +kernel
theorem dX9_init_207 : decode cX9_init 207 = .ok (.aload_n 0, 1) := by decide +kernel
theorem dX9_init_208 : decode cX9_init 208 = .ok (.getfield 17, 3) := by decide +kernel
theorem dX9_init_211 : decode cX9_init 211 = .ok (.iload_n 1, 1) := by decide +kernel
theorem dX9_init_212 : decode cX9_init 212 = .ok (.iconst (-1), 1) := by decide +kernel
theorem dX9_init_213 : decode cX9_init 213 = .ok (.iastore, 1) := by decide +kernel
theorem dX9_init_214 : decode cX9_init 214 = .ok (.iinc 1 1, 3) := by decide +kernel
theorem dX9_init_217 : decode cX9_init 217 = .ok (.goto (-16), 3) := by decide +kernel
theorem dX9_init_220 : decode cX9_init 220 = .ok (.iconst 0, 1) := by decide +kernel
theorem dX9_init_221 : decode cX9_init 221 = .ok (.istore_n 1, 1) := by decide +kernel
theorem dX9_init_222 : decode cX9_init 222 = .ok (.iload_n 1, 1) := by decide +kernel
theorem dX9_init_223 : decode cX9_init 223 = .ok (.iconst 4, 1) := by decide +kernel
theorem dX9_init_224 : decode cX9_init 224 = .ok (.if_icmp .ge 16, 3) := by decide +kernel
theorem dX9_init_227 : decode cX9_init 227 = .ok (.aload_n 0, 1) := by decide +kernel
theorem dX9_init_228 : decode cX9_init 228 = .ok (.getfield 26, 3) := by decide +kernel
theorem dX9_init_231 : decode cX9_init 231 = .ok (.iload_n 1, 1) := by decide +kernel
theorem dX9_init_232 : decode cX9_init 232 = .ok (.iconst (-1), 1) := by decide +kernel
theorem dX9_init_233 : decode cX9_init 233 = .ok (.iastore, 1) := by decide +kernel
theorem dX9_init_234 : decode cX9_init 234 = .ok (.iinc 1 1, 3) := by decide +kernel
theorem dX9_init_237 : decode cX9_init 237 = .ok (.goto (-15), 3) := by decide +kernel
theorem dX9_init_240 : decode cX9_init 240 = .ok (.return_, 1) := by decide +kernel
theorem dX9_in_0 : decode cX9_in 0 = .ok (.iload_n 0, 1) := by decide +kernel
theorem dX9_in_1 : decode cX9_in 1 = .ok (.iload_n 1, 1) := by decide +kernel
theorem dX9_in_2 : decode cX9_in 2 = .ok (.if_icmp .lt 12, 3) := by decide +kernel
theorem dX9_in_5 : decode cX9_in 5 = .ok (.iload_n 0, 1) := by decide +kernel
theorem dX9_in_6 : decode cX9_in 6 = .ok (.iload_n 2, 1) := by decide +kernel
theorem dX9_in_7 : decode cX9_in 7 = .ok (.if_icmp .gt 7, 3) := by decide +kernel
theorem dX9_in_10 : decode cX9_in 10 = .ok (.iconst 1, 1) := by decide +kernel
theorem dX9_in_11 : decode cX9_in 11 = .ok (.goto 4, 3) := by decide +kernel
theorem dX9_in_14 : decode cX9_in 14 = .ok (.iconst 0, 1) := by decide +kernel
theorem dX9_in_15 : decode cX9_in 15 = .ok (.ireturn, 1) := by decide +kernel
theorem dX9_has_0 : decode cX9_has 0 = .ok (.iload_n 0, 1) := by decide +kernel
theorem dX9_has_1 : decode cX9_has 1 = .ok (.iload_n 1, 1) := by decide +kernel
theorem dX9_has_2 : decode cX9_has 2 = .ok (.ishr, 1) := by decide +kernel
theorem dX9_has_3 : decode cX9_has 3 = .ok (.iconst 1, 1) := by decide +kernel
theorem dX9_has_4 : decode cX9_has 4 = .ok (.iand, 1) := by decide +kernel
theorem dX9_has_5 : decode cX9_has 5 = .ok (.iconst 1, 1) := by decide +kernel
theorem dX9_has_6 : decode cX9_has 6 = .ok (.if_icmp .ne 7, 3) := by decide +kernel
theorem dX9_has_9 : decode cX9_has 9 = .ok (.iconst 1, 1) := by decide +kernel
theorem dX9_has_10 : decode cX9_has 10 = .ok (.goto 4, 3) := by decide +kernel
theorem dX9_has_13 : decode cX9_has 13 = .ok (.iconst 0, 1) := by decide +kernel
theorem dX9_has_14 : decode cX9_has 14 = .ok (.ireturn, 1) := by decide +kernel
theorem dX9_bits_0 : decode cX9_bits 0 = .ok (.iconst 0, 1) := by decide +kernel
theorem dX9_bits_1 : decode cX9_bits 1 = .ok (.istore_n 1, 1) := by decide +kernel
theorem dX9_bits_2 : decode cX9_bits 2 = .ok (.iload_n 0, 1) := by decide +kernel
theorem dX9_bits_3 : decode cX9_bits 3 = .ok (.istore_n 2, 1) := by decide +kernel
theorem dX9_bits_4 : decode cX9_bits 4 = .ok (.iload_n 2, 1) := by decide +kernel
theorem dX9_bits_5 : decode cX9_bits 5 = .ok (.ifCond .eq 15, 3) := by decide +kernel
theorem dX9_bits_8 : decode cX9_bits 8 = .ok (.iinc 1 1, 3) := by decide +kernel
theorem dX9_bits_11 : decode cX9_bits 11 = .ok (.iload_n 2, 1) := by decide +kernel
theorem dX9_bits_12 : decode cX9_bits 12 = .ok (.iload_n 2, 1) := by decide +kernel
theorem dX9_bits_13 : decode cX9_bits 13 = .ok (.iconst 1, 1) := by decide +kernel
theorem dX9_bits_14 : decode cX9_bits 14 = .ok (.isub, 1) := by decide +kernel
theorem dX9_bits_15 : decode cX9_bits 15 = .ok (.iand, 1) := by decide +kernel
theorem dX9_bits_16 : decode cX9_bits 16 = .ok (.istore_n 2, 1) := by decide +kernel
theorem dX9_bits_17 : decode cX9_bits 17 = .ok (.goto (-13), 3) := by decide +kernel
theorem dX9_bits_20 : decode cX9_bits 20 = .ok (.iload_n 1, 1) := by decide +kernel
theorem dX9_bits_21 : decode cX9_bits 21 = .ok (.ireturn, 1) := by decide +kernel
theorem dX9_apart_0 : decode cX9_apart 0 = .ok (.iload_n 0, 1) := by decide +kernel
theorem dX9_apart_1 : decode cX9_apart 1 = .ok (.iload_n 1, 1) := by decide +kernel
theorem dX9_apart_2 : decode cX9_apart 2 = .ok (.if_icmp .ge 9, 3) := by decide +kernel
theorem dX9_apart_5 : decode cX9_apart 5 = .ok (.iload_n 1, 1) := by decide +kernel
theorem dX9_apart_6 : decode cX9_apart 6 = .ok (.iload_n 0, 1) := by decide +kernel
theorem dX9_apart_7 : decode cX9_apart 7 = .ok (.isub, 1) := by decide +kernel
theorem dX9_apart_8 : decode cX9_apart 8 = .ok (.goto 6, 3) := by decide +kernel
theorem dX9_apart_11 : decode cX9_apart 11 = .ok (.iload_n 0, 1) := by decide +kernel
theorem dX9_apart_12 : decode cX9_apart 12 = .ok (.iload_n 1, 1) := by decide +kernel
theorem dX9_apart_13 : decode cX9_apart 13 = .ok (.isub, 1) := by decide +kernel
theorem dX9_apart_14 : decode cX9_apart 14 = .ok (.ireturn, 1) := by decide +kernel
theorem dX9_meets_0 : decode cX9_meets 0 = .ok (.aload_n 0, 1) := by decide +kernel
theorem dX9_meets_1 : decode cX9_meets 1 = .ok (.iload_n 1, 1) := by decide +kernel
theorem dX9_meets_2 : decode cX9_meets 2 = .ok (.putfield 88, 3) := by decide +kernel
theorem dX9_meets_5 : decode cX9_meets 5 = .ok (.aload_n 0, 1) := by decide +kernel
theorem dX9_meets_6 : decode cX9_meets 6 = .ok (.getfield 7, 3) := by decide +kernel
theorem dX9_meets_9 : decode cX9_meets 9 = .ok (.iload_n 1, 1) := by decide +kernel
theorem dX9_meets_10 : decode cX9_meets 10 = .ok (.dup2, 1) := by decide +kernel
theorem dX9_meets_11 : decode cX9_meets 11 = .ok (.iaload, 1) := by decide +kernel
theorem dX9_meets_12 : decode cX9_meets 12 = .ok (.iconst 1, 1) := by decide +kernel
theorem dX9_meets_13 : decode cX9_meets 13 = .ok (.iadd, 1) := by decide +kernel
theorem dX9_meets_14 : decode cX9_meets 14 = .ok (.iastore, 1) := by decide +kernel
theorem dX9_meets_15 : decode cX9_meets 15 = .ok (.bipush (-3), 2) := by decide +kernel
theorem dX9_meets_17 : decode cX9_meets 17 = .ok (.ireturn, 1) := by decide +kernel
theorem dX9_finding_0 : decode cX9_finding 0 = .ok (.aload_n 0, 1) := by decide +kernel
theorem dX9_finding_1 : decode cX9_finding 1 = .ok (.getfield 88, 3) := by decide +kernel
theorem dX9_finding_4 : decode cX9_finding 4 = .ok (.ireturn, 1) := by decide +kernel
theorem dX9_findings_0 : decode cX9_findings 0 = .ok (.iload_n 1, 1) := by decide +kernel
theorem dX9_findings_1 : decode cX9_findings 1 = .ok (.iconst 1, 1) := by decide +kernel
theorem dX9_findings_2 : decode cX9_findings 2 = .ok (.iconst 5, 1) := by decide +kernel
theorem dX9_findings_3 : decode cX9_findings 3 = .ok (.invokestatic 92, 3) := by decide +kernel
theorem dX9_findings_6 : decode cX9_findings 6 = .ok (.ifCond .eq 12, 3) := by decide +kernel
theorem dX9_findings_9 : decode cX9_findings 9 = .ok (.aload_n 0, 1) := by decide +kernel
theorem dX9_findings_10 : decode cX9_findings 10 = .ok (.getfield 7, 3) := by decide +kernel
theorem dX9_findings_13 : decode cX9_findings 13 = .ok (.iload_n 1, 1) := by decide +kernel
theorem dX9_findings_14 : decode cX9_findings 14 = .ok (.iaload, 1) := by decide +kernel
theorem dX9_findings_15 : decode cX9_findings 15 = .ok (.goto 4, 3) := by decide +kernel
theorem dX9_findings_18 : decode cX9_findings 18 = .ok (.iconst (-1), 1) := by decide +kernel
theorem dX9_findings_19 : decode cX9_findings 19 = .ok (.ireturn, 1) := by decide +kernel
theorem dX9_tells_0 : decode cX9_tells 0 = .ok (.aload_n 0, 1) := by decide +kernel
theorem dX9_tells_1 : decode cX9_tells 1 = .ok (.iload_n 1, 1) := by decide +kernel
theorem dX9_tells_2 : decode cX9_tells 2 = .ok (.putfield 96, 3) := by decide +kernel
theorem dX9_tells_5 : decode cX9_tells 5 = .ok (.iload_n 2, 1) := by decide +kernel
theorem dX9_tells_6 : decode cX9_tells 6 = .ok (.ireturn, 1) := by decide +kernel
theorem dX9_asked_0 : decode cX9_asked 0 = .ok (.aload_n 0, 1) := by decide +kernel
theorem dX9_asked_1 : decode cX9_asked 1 = .ok (.getfield 96, 3) := by decide +kernel
theorem dX9_asked_4 : decode cX9_asked 4 = .ok (.ireturn, 1) := by decide +kernel
theorem dX9_fraction_0 : decode cX9_fraction 0 = .ok (.lload_n 1, 1) := by decide +kernel
theorem dX9_fraction_1 : decode cX9_fraction 1 = .ok (.lstore 5, 2) := by decide +kernel
theorem dX9_fraction_3 : decode cX9_fraction 3 = .ok (.lload_n 3, 1) := by decide +kernel
theorem dX9_fraction_4 : decode cX9_fraction 4 = .ok (.lstore 7, 2) := by decide +kernel
theorem dX9_fraction_6 : decode cX9_fraction 6 = .ok (.lload 7, 2) := by decide +kernel
theorem dX9_fraction_8 : decode cX9_fraction 8 = .ok (.lconst 0, 1) := by decide +kernel
theorem dX9_fraction_9 : decode cX9_fraction 9 = .ok (.lcmp, 1) := by decide +kernel
theorem dX9_fraction_10 : decode cX9_fraction 10 = .ok (.ifCond .eq 21, 3) := by decide +kernel
theorem dX9_fraction_13 : decode cX9_fraction 13 = .ok (.lload 5, 2) := by decide +kernel
theorem dX9_fraction_15 : decode cX9_fraction 15 = .ok (.lload 7, 2) := by decide +kernel
theorem dX9_fraction_17 : decode cX9_fraction 17 = .ok (.lrem, 1) := by decide +kernel
theorem dX9_fraction_18 : decode cX9_fraction 18 = .ok (.lstore 9, 2) := by decide +kernel
theorem dX9_fraction_20 : decode cX9_fraction 20 = .ok (.lload 7, 2) := by decide +kernel
theorem dX9_fraction_22 : decode cX9_fraction 22 = .ok (.lstore 5, 2) := by decide +kernel
theorem dX9_fraction_24 : decode cX9_fraction 24 = .ok (.lload 9, 2) := by decide +kernel
theorem dX9_fraction_26 : decode cX9_fraction 26 = .ok (.lstore 7, 2) := by decide +kernel
theorem dX9_fraction_28 : decode cX9_fraction 28 = .ok (.goto (-22), 3) := by decide +kernel
theorem dX9_fraction_31 : decode cX9_fraction 31 = .ok (.aload_n 0, 1) := by decide +kernel
theorem dX9_fraction_32 : decode cX9_fraction 32 = .ok (.lload_n 1, 1) := by decide +kernel
theorem dX9_fraction_33 : decode cX9_fraction 33 = .ok (.lload 5, 2) := by decide +kernel
theorem dX9_fraction_35 : decode cX9_fraction 35 = .ok (.ldiv, 1) := by decide +kernel
theorem dX9_fraction_36 : decode cX9_fraction 36 = .ok (.putfield 99, 3) := by decide +kernel
theorem dX9_fraction_39 : decode cX9_fraction 39 = .ok (.aload_n 0, 1) := by decide +kernel
theorem dX9_fraction_40 : decode cX9_fraction 40 = .ok (.lload_n 3, 1) := by decide +kernel
theorem dX9_fraction_41 : decode cX9_fraction 41 = .ok (.lload 5, 2) := by decide +kernel
theorem dX9_fraction_43 : decode cX9_fraction 43 = .ok (.ldiv, 1) := by decide +kernel
theorem dX9_fraction_44 : decode cX9_fraction 44 = .ok (.putfield 13, 3) := by decide +kernel
theorem dX9_fraction_47 : decode cX9_fraction 47 = .ok (.iconst 1, 1) := by decide +kernel
theorem dX9_fraction_48 : decode cX9_fraction 48 = .ok (.ireturn, 1) := by decide +kernel
theorem dX9_upper_0 : decode cX9_upper 0 = .ok (.aload_n 0, 1) := by decide +kernel
theorem dX9_upper_1 : decode cX9_upper 1 = .ok (.getfield 99, 3) := by decide +kernel
theorem dX9_upper_4 : decode cX9_upper 4 = .ok (.lreturn, 1) := by decide +kernel
theorem dX9_lower_0 : decode cX9_lower 0 = .ok (.aload_n 0, 1) := by decide +kernel
theorem dX9_lower_1 : decode cX9_lower 1 = .ok (.getfield 13, 3) := by decide +kernel
theorem dX9_lower_4 : decode cX9_lower 4 = .ok (.lreturn, 1) := by decide +kernel
theorem dX9_isRow_0 : decode cX9_isRow 0 = .ok (.iload_n 0, 1) := by decide +kernel
theorem dX9_isRow_1 : decode cX9_isRow 1 = .ok (.iconst 0, 1) := by decide +kernel
theorem dX9_isRow_2 : decode cX9_isRow 2 = .ok (.iconst 5, 1) := by decide +kernel
theorem dX9_isRow_3 : decode cX9_isRow 3 = .ok (.invokestatic 92, 3) := by decide +kernel
theorem dX9_isRow_6 : decode cX9_isRow 6 = .ok (.ireturn, 1) := by decide +kernel
theorem dX9_rowAt_0 : decode cX9_rowAt 0 = .ok (.aload_n 0, 1) := by decide +kernel
theorem dX9_rowAt_1 : decode cX9_rowAt 1 = .ok (.getfield 20, 3) := by decide +kernel
theorem dX9_rowAt_4 : decode cX9_rowAt 4 = .ok (.bipush 40, 2) := by decide +kernel
theorem dX9_rowAt_6 : decode cX9_rowAt 6 = .ok (.iload_n 1, 1) := by decide +kernel
theorem dX9_rowAt_7 : decode cX9_rowAt 7 = .ok (.imul, 1) := by decide +kernel
theorem dX9_rowAt_8 : decode cX9_rowAt 8 = .ok (.iload_n 2, 1) := by decide +kernel
theorem dX9_rowAt_9 : decode cX9_rowAt 9 = .ok (.iadd, 1) := by decide +kernel
theorem dX9_rowAt_10 : decode cX9_rowAt 10 = .ok (.iaload, 1) := by decide +kernel
theorem dX9_rowAt_11 : decode cX9_rowAt 11 = .ok (.ireturn, 1) := by decide +kernel
theorem dX9_row_0 : decode cX9_row 0 = .ok (.iload_n 1, 1) := by decide +kernel
theorem dX9_row_1 : decode cX9_row 1 = .ok (.invokestatic 102, 3) := by decide +kernel
theorem dX9_row_4 : decode cX9_row 4 = .ok (.ifCond .eq 9, 3) := by decide +kernel
theorem dX9_row_7 : decode cX9_row 7 = .ok (.iload_n 2, 1) := by decide +kernel
theorem dX9_row_8 : decode cX9_row 8 = .ok (.bipush 40, 2) := by decide +kernel
theorem dX9_row_10 : decode cX9_row 10 = .ok (.if_icmp .le 5, 3) := by decide +kernel
theorem dX9_row_13 : decode cX9_row 13 = .ok (.iconst (-1), 1) := by decide +kernel
theorem dX9_row_14 : decode cX9_row 14 = .ok (.ireturn, 1) := by decide +kernel
theorem dX9_row_15 : decode cX9_row 15 = .ok (.iload_n 2, 1) := by decide +kernel
theorem dX9_row_16 : decode cX9_row 16 = .ok (.ifCond .ge 9, 3) := by decide +kernel
theorem dX9_row_19 : decode cX9_row 19 = .ok (.aload_n 0, 1) := by decide +kernel
theorem dX9_row_20 : decode cX9_row 20 = .ok (.iconst 5, 1) := by decide +kernel
theorem dX9_row_21 : decode cX9_row 21 = .ok (.invokevirtual 106, 3) := by decide +kernel
theorem dX9_row_24 : decode cX9_row 24 = .ok (.ireturn, 1) := by decide +kernel
theorem dX9_row_25 : decode cX9_row 25 = .ok (.aload_n 0, 1) := by decide +kernel
theorem dX9_row_26 : decode cX9_row 26 = .ok (.getfield 17, 3) := by decide +kernel
theorem dX9_row_29 : decode cX9_row 29 = .ok (.iload_n 1, 1) := by decide +kernel
theorem dX9_row_30 : decode cX9_row 30 = .ok (.iload_n 2, 1) := by decide +kernel
theorem dX9_row_31 : decode cX9_row 31 = .ok (.iastore, 1) := by decide +kernel
theorem dX9_row_32 : decode cX9_row 32 = .ok (.iconst 0, 1) := by decide +kernel
theorem dX9_row_33 : decode cX9_row 33 = .ok (.istore_n 3, 1) := by decide +kernel
theorem dX9_row_34 : decode cX9_row 34 = .ok (.iload_n 3, 1) := by decide +kernel
theorem dX9_row_35 : decode cX9_row 35 = .ok (.bipush 40, 2) := by decide +kernel
theorem dX9_row_37 : decode cX9_row 37 = .ok (.if_icmp .ge 21, 3) := by decide +kernel
theorem dX9_row_40 : decode cX9_row 40 = .ok (.aload_n 0, 1) := by decide +kernel
theorem dX9_row_41 : decode cX9_row 41 = .ok (.getfield 20, 3) := by decide +kernel
theorem dX9_row_44 : decode cX9_row 44 = .ok (.bipush 40, 2) := by decide +kernel
theorem dX9_row_46 : decode cX9_row 46 = .ok (.iload_n 1, 1) := by decide +kernel
theorem dX9_row_47 : decode cX9_row 47 = .ok (.imul, 1) := by decide +kernel
theorem dX9_row_48 : decode cX9_row 48 = .ok (.iload_n 3, 1) := by decide +kernel
theorem dX9_row_49 : decode cX9_row 49 = .ok (.iadd, 1) := by decide +kernel
theorem dX9_row_50 : decode cX9_row 50 = .ok (.iconst 0, 1) := by decide +kernel
theorem dX9_row_51 : decode cX9_row 51 = .ok (.iastore, 1) := by decide +kernel
theorem dX9_row_52 : decode cX9_row 52 = .ok (.iinc 3 1, 3) := by decide +kernel
theorem dX9_row_55 : decode cX9_row 55 = .ok (.goto (-21), 3) := by decide +kernel
theorem dX9_row_58 : decode cX9_row 58 = .ok (.iload_n 2, 1) := by decide +kernel
theorem dX9_row_59 : decode cX9_row 59 = .ok (.ireturn, 1) := by decide +kernel
theorem dX9_lay_0 : decode cX9_lay 0 = .ok (.iload_n 1, 1) := by decide +kernel
theorem dX9_lay_1 : decode cX9_lay 1 = .ok (.invokestatic 102, 3) := by decide +kernel
theorem dX9_lay_4 : decode cX9_lay 4 = .ok (.ifCond .ne 5, 3) := by decide +kernel
theorem dX9_lay_7 : decode cX9_lay 7 = .ok (.iconst (-1), 1) := by decide +kernel
theorem dX9_lay_8 : decode cX9_lay 8 = .ok (.ireturn, 1) := by decide +kernel
theorem dX9_lay_9 : decode cX9_lay 9 = .ok (.aload_n 0, 1) := by decide +kernel
theorem dX9_lay_10 : decode cX9_lay 10 = .ok (.getfield 17, 3) := by decide +kernel
theorem dX9_lay_13 : decode cX9_lay 13 = .ok (.iload_n 1, 1) := by decide +kernel
theorem dX9_lay_14 : decode cX9_lay 14 = .ok (.iaload, 1) := by decide +kernel
theorem dX9_lay_15 : decode cX9_lay 15 = .ok (.ifCond .ge 9, 3) := by decide +kernel
theorem dX9_lay_18 : decode cX9_lay 18 = .ok (.aload_n 0, 1) := by decide +kernel
theorem dX9_lay_19 : decode cX9_lay 19 = .ok (.iconst 1, 1) := by decide +kernel
theorem dX9_lay_20 : decode cX9_lay 20 = .ok (.invokevirtual 106, 3) := by decide +kernel
theorem dX9_lay_23 : decode cX9_lay 23 = .ok (.ireturn, 1) := by decide +kernel
theorem dX9_lay_24 : decode cX9_lay 24 = .ok (.iload_n 2, 1) := by decide +kernel
theorem dX9_lay_25 : decode cX9_lay 25 = .ok (.iconst 0, 1) := by decide +kernel
theorem dX9_lay_26 : decode cX9_lay 26 = .ok (.aload_n 0, 1) := by decide +kernel
theorem dX9_lay_27 : decode cX9_lay 27 = .ok (.getfield 17, 3) := by decide +kernel
theorem dX9_lay_30 : decode cX9_lay 30 = .ok (.iload_n 1, 1) := by decide +kernel
theorem dX9_lay_31 : decode cX9_lay 31 = .ok (.iaload, 1) := by decide +kernel
theorem dX9_lay_32 : decode cX9_lay 32 = .ok (.iconst 1, 1) := by decide +kernel
theorem dX9_lay_33 : decode cX9_lay 33 = .ok (.isub, 1) := by decide +kernel
theorem dX9_lay_34 : decode cX9_lay 34 = .ok (.invokestatic 92, 3) := by decide +kernel
theorem dX9_lay_37 : decode cX9_lay 37 = .ok (.ifCond .ne 9, 3) := by decide +kernel
theorem dX9_lay_40 : decode cX9_lay 40 = .ok (.aload_n 0, 1) := by decide +kernel
theorem dX9_lay_41 : decode cX9_lay 41 = .ok (.iconst 2, 1) := by decide +kernel
theorem dX9_lay_42 : decode cX9_lay 42 = .ok (.invokevirtual 106, 3) := by decide +kernel
theorem dX9_lay_45 : decode cX9_lay 45 = .ok (.ireturn, 1) := by decide +kernel
theorem dX9_lay_46 : decode cX9_lay 46 = .ok (.aload_n 0, 1) := by decide +kernel
theorem dX9_lay_47 : decode cX9_lay 47 = .ok (.iload_n 1, 1) := by decide +kernel
theorem dX9_lay_48 : decode cX9_lay 48 = .ok (.iload_n 2, 1) := by decide +kernel
theorem dX9_lay_49 : decode cX9_lay 49 = .ok (.invokevirtual 110, 3) := by decide +kernel
theorem dX9_lay_52 : decode cX9_lay 52 = .ok (.istore 4, 2) := by decide +kernel
theorem dX9_lay_54 : decode cX9_lay 54 = .ok (.aload_n 0, 1) := by decide +kernel
theorem dX9_lay_55 : decode cX9_lay 55 = .ok (.getfield 20, 3) := by decide +kernel
theorem dX9_lay_58 : decode cX9_lay 58 = .ok (.bipush 40, 2) := by decide +kernel
theorem dX9_lay_60 : decode cX9_lay 60 = .ok (.iload_n 1, 1) := by decide +kernel
theorem dX9_lay_61 : decode cX9_lay 61 = .ok (.imul, 1) := by decide +kernel
theorem dX9_lay_62 : decode cX9_lay 62 = .ok (.iload_n 2, 1) := by decide +kernel
theorem dX9_lay_63 : decode cX9_lay 63 = .ok (.iadd, 1) := by decide +kernel
theorem dX9_lay_64 : decode cX9_lay 64 = .ok (.iload_n 3, 1) := by decide +kernel
theorem dX9_lay_65 : decode cX9_lay 65 = .ok (.iastore, 1) := by decide +kernel
theorem dX9_lay_66 : decode cX9_lay 66 = .ok (.aload_n 0, 1) := by decide +kernel
theorem dX9_lay_67 : decode cX9_lay 67 = .ok (.iload 4, 2) := by decide +kernel
theorem dX9_lay_69 : decode cX9_lay 69 = .ok (.iconst 1, 1) := by decide +kernel
theorem dX9_lay_70 : decode cX9_lay 70 = .ok (.invokevirtual 114, 3) := by decide +kernel
theorem dX9_lay_73 : decode cX9_lay 73 = .ok (.ireturn, 1) := by decide +kernel
theorem dX9_at_0 : decode cX9_at 0 = .ok (.iload_n 1, 1) := by decide +kernel
theorem dX9_at_1 : decode cX9_at 1 = .ok (.invokestatic 102, 3) := by decide +kernel
theorem dX9_at_4 : decode cX9_at 4 = .ok (.ifCond .ne 5, 3) := by decide +kernel
theorem dX9_at_7 : decode cX9_at 7 = .ok (.iconst (-1), 1) := by decide +kernel
theorem dX9_at_8 : decode cX9_at 8 = .ok (.ireturn, 1) := by decide +kernel
theorem dX9_at_9 : decode cX9_at 9 = .ok (.aload_n 0, 1) := by decide +kernel
theorem dX9_at_10 : decode cX9_at 10 = .ok (.getfield 17, 3) := by decide +kernel
theorem dX9_at_13 : decode cX9_at 13 = .ok (.iload_n 1, 1) := by decide +kernel
theorem dX9_at_14 : decode cX9_at 14 = .ok (.iaload, 1) := by decide +kernel
theorem dX9_at_15 : decode cX9_at 15 = .ok (.ifCond .ge 9, 3) := by decide +kernel
theorem dX9_at_18 : decode cX9_at 18 = .ok (.aload_n 0, 1) := by decide +kernel
theorem dX9_at_19 : decode cX9_at 19 = .ok (.iconst 1, 1) := by decide +kernel
theorem dX9_at_20 : decode cX9_at 20 = .ok (.invokevirtual 106, 3) := by decide +kernel
theorem dX9_at_23 : decode cX9_at 23 = .ok (.ireturn, 1) := by decide +kernel
theorem dX9_at_24 : decode cX9_at 24 = .ok (.iload_n 2, 1) := by decide +kernel
theorem dX9_at_25 : decode cX9_at 25 = .ok (.iconst 0, 1) := by decide +kernel
theorem dX9_at_26 : decode cX9_at 26 = .ok (.aload_n 0, 1) := by decide +kernel
theorem dX9_at_27 : decode cX9_at 27 = .ok (.getfield 17, 3) := by decide +kernel
theorem dX9_at_30 : decode cX9_at 30 = .ok (.iload_n 1, 1) := by decide +kernel
theorem dX9_at_31 : decode cX9_at 31 = .ok (.iaload, 1) := by decide +kernel
theorem dX9_at_32 : decode cX9_at 32 = .ok (.iconst 1, 1) := by decide +kernel
theorem dX9_at_33 : decode cX9_at 33 = .ok (.isub, 1) := by decide +kernel
theorem dX9_at_34 : decode cX9_at 34 = .ok (.invokestatic 92, 3) := by decide +kernel
theorem dX9_at_37 : decode cX9_at 37 = .ok (.ifCond .eq 17, 3) := by decide +kernel
theorem dX9_at_40 : decode cX9_at 40 = .ok (.aload_n 0, 1) := by decide +kernel
theorem dX9_at_41 : decode cX9_at 41 = .ok (.aload_n 0, 1) := by decide +kernel
theorem dX9_at_42 : decode cX9_at 42 = .ok (.iload_n 1, 1) := by decide +kernel
theorem dX9_at_43 : decode cX9_at 43 = .ok (.iload_n 2, 1) := by decide +kernel
theorem dX9_at_44 : decode cX9_at 44 = .ok (.invokevirtual 110, 3) := by decide +kernel
theorem dX9_at_47 : decode cX9_at 47 = .ok (.iconst 1, 1) := by decide +kernel
theorem dX9_at_48 : decode cX9_at 48 = .ok (.invokevirtual 114, 3) := by decide +kernel
theorem dX9_at_51 : decode cX9_at 51 = .ok (.goto 8, 3) := by decide +kernel
theorem dX9_at_54 : decode cX9_at 54 = .ok (.aload_n 0, 1) := by decide +kernel
theorem dX9_at_55 : decode cX9_at 55 = .ok (.iconst 2, 1) := by decide +kernel
theorem dX9_at_56 : decode cX9_at 56 = .ok (.invokevirtual 106, 3) := by decide +kernel
theorem dX9_at_59 : decode cX9_at 59 = .ok (.ireturn, 1) := by decide +kernel
theorem dX9_tear_0 : decode cX9_tear 0 = .ok (.iload_n 1, 1) := by decide +kernel
theorem dX9_tear_1 : decode cX9_tear 1 = .ok (.invokestatic 102, 3) := by decide +kernel
theorem dX9_tear_4 : decode cX9_tear 4 = .ok (.ifCond .ne 5, 3) := by decide +kernel
theorem dX9_tear_7 : decode cX9_tear 7 = .ok (.iconst (-1), 1) := by decide +kernel
theorem dX9_tear_8 : decode cX9_tear 8 = .ok (.ireturn, 1) := by decide +kernel
theorem dX9_tear_9 : decode cX9_tear 9 = .ok (.aload_n 0, 1) := by decide +kernel
theorem dX9_tear_10 : decode cX9_tear 10 = .ok (.getfield 17, 3) := by decide +kernel
theorem dX9_tear_13 : decode cX9_tear 13 = .ok (.iload_n 1, 1) := by decide +kernel
theorem dX9_tear_14 : decode cX9_tear 14 = .ok (.iaload, 1) := by decide +kernel
theorem dX9_tear_15 : decode cX9_tear 15 = .ok (.ifCond .ge 9, 3) := by decide +kernel
theorem dX9_tear_18 : decode cX9_tear 18 = .ok (.aload_n 0, 1) := by decide +kernel
theorem dX9_tear_19 : decode cX9_tear 19 = .ok (.iconst 1, 1) := by decide +kernel
theorem dX9_tear_20 : decode cX9_tear 20 = .ok (.invokevirtual 106, 3) := by decide +kernel
theorem dX9_tear_23 : decode cX9_tear 23 = .ok (.ireturn, 1) := by decide +kernel
theorem dX9_tear_24 : decode cX9_tear 24 = .ok (.aload_n 0, 1) := by decide +kernel
theorem dX9_tear_25 : decode cX9_tear 25 = .ok (.getfield 17, 3) := by decide +kernel
theorem dX9_tear_28 : decode cX9_tear 28 = .ok (.iload_n 1, 1) := by decide +kernel
theorem dX9_tear_29 : decode cX9_tear 29 = .ok (.iconst (-1), 1) := by decide +kernel
theorem dX9_tear_30 : decode cX9_tear 30 = .ok (.iastore, 1) := by decide +kernel
theorem dX9_tear_31 : decode cX9_tear 31 = .ok (.iconst 1, 1) := by decide +kernel
theorem dX9_tear_32 : decode cX9_tear 32 = .ok (.ireturn, 1) := by decide +kernel
theorem dX9_copy_0 : decode cX9_copy 0 = .ok (.iload_n 1, 1) := by decide +kernel
theorem dX9_copy_1 : decode cX9_copy 1 = .ok (.invokestatic 102, 3) := by decide +kernel
theorem dX9_copy_4 : decode cX9_copy 4 = .ok (.ifCond .eq 10, 3) := by decide +kernel
theorem dX9_copy_7 : decode cX9_copy 7 = .ok (.iload_n 3, 1) := by decide +kernel
theorem dX9_copy_8 : decode cX9_copy 8 = .ok (.invokestatic 102, 3) := by decide +kernel
theorem dX9_copy_11 : decode cX9_copy 11 = .ok (.ifCond .ne 5, 3) := by decide +kernel
theorem dX9_copy_14 : decode cX9_copy 14 = .ok (.iconst (-1), 1) := by decide +kernel
theorem dX9_copy_15 : decode cX9_copy 15 = .ok (.ireturn, 1) := by decide +kernel
theorem dX9_copy_16 : decode cX9_copy 16 = .ok (.iload 5, 2) := by decide +kernel
theorem dX9_copy_18 : decode cX9_copy 18 = .ok (.ifCond .ge 9, 3) := by decide +kernel
theorem dX9_copy_21 : decode cX9_copy 21 = .ok (.aload_n 0, 1) := by decide +kernel
theorem dX9_copy_22 : decode cX9_copy 22 = .ok (.iconst 5, 1) := by decide +kernel
theorem dX9_copy_23 : decode cX9_copy 23 = .ok (.invokevirtual 106, 3) := by decide +kernel
theorem dX9_copy_26 : decode cX9_copy 26 = .ok (.ireturn, 1) := by decide +kernel
theorem dX9_copy_27 : decode cX9_copy 27 = .ok (.aload_n 0, 1) := by decide +kernel
theorem dX9_copy_28 : decode cX9_copy 28 = .ok (.getfield 17, 3) := by decide +kernel
theorem dX9_copy_31 : decode cX9_copy 31 = .ok (.iload_n 1, 1) := by decide +kernel
theorem dX9_copy_32 : decode cX9_copy 32 = .ok (.iaload, 1) := by decide +kernel
theorem dX9_copy_33 : decode cX9_copy 33 = .ok (.ifCond .lt 12, 3) := by decide +kernel
theorem dX9_copy_36 : decode cX9_copy 36 = .ok (.aload_n 0, 1) := by decide +kernel
theorem dX9_copy_37 : decode cX9_copy 37 = .ok (.getfield 17, 3) := by decide +kernel
theorem dX9_copy_40 : decode cX9_copy 40 = .ok (.iload_n 3, 1) := by decide +kernel
theorem dX9_copy_41 : decode cX9_copy 41 = .ok (.iaload, 1) := by decide +kernel
theorem dX9_copy_42 : decode cX9_copy 42 = .ok (.ifCond .ge 9, 3) := by decide +kernel
theorem dX9_copy_45 : decode cX9_copy 45 = .ok (.aload_n 0, 1) := by decide +kernel
theorem dX9_copy_46 : decode cX9_copy 46 = .ok (.iconst 1, 1) := by decide +kernel
theorem dX9_copy_47 : decode cX9_copy 47 = .ok (.invokevirtual 106, 3) := by decide +kernel
theorem dX9_copy_50 : decode cX9_copy 50 = .ok (.ireturn, 1) := by decide +kernel
theorem dX9_copy_51 : decode cX9_copy 51 = .ok (.iload_n 2, 1) := by decide +kernel
theorem dX9_copy_52 : decode cX9_copy 52 = .ok (.ifCond .lt 43, 3) := by decide +kernel
theorem dX9_copy_55 : decode cX9_copy 55 = .ok (.iload 4, 2) := by decide +kernel
theorem dX9_copy_57 : decode cX9_copy 57 = .ok (.ifCond .lt 38, 3) := by decide +kernel
theorem dX9_copy_60 : decode cX9_copy 60 = .ok (.iload_n 2, 1) := by decide +kernel
theorem dX9_copy_61 : decode cX9_copy 61 = .ok (.i2l, 1) := by decide +kernel
theorem dX9_copy_62 : decode cX9_copy 62 = .ok (.iload 5, 2) := by decide +kernel
theorem dX9_copy_64 : decode cX9_copy 64 = .ok (.i2l, 1) := by decide +kernel
theorem dX9_copy_65 : decode cX9_copy 65 = .ok (.ladd, 1) := by decide +kernel
theorem dX9_copy_66 : decode cX9_copy 66 = .ok (.aload_n 0, 1) := by decide +kernel
theorem dX9_copy_67 : decode cX9_copy 67 = .ok (.getfield 17, 3) := by decide +kernel
