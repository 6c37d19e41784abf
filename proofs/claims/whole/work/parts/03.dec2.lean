theorem dX9_copy_70 : decode cX9_copy 70 = .ok (.iload_n 1, 1) := by decide +kernel
theorem dX9_copy_71 : decode cX9_copy 71 = .ok (.iaload, 1) := by decide +kernel
theorem dX9_copy_72 : decode cX9_copy 72 = .ok (.i2l, 1) := by decide +kernel
theorem dX9_copy_73 : decode cX9_copy 73 = .ok (.lcmp, 1) := by decide +kernel
theorem dX9_copy_74 : decode cX9_copy 74 = .ok (.ifCond .gt 21, 3) := by decide +kernel
theorem dX9_copy_77 : decode cX9_copy 77 = .ok (.iload 4, 2) := by decide +kernel
theorem dX9_copy_79 : decode cX9_copy 79 = .ok (.i2l, 1) := by decide +kernel
theorem dX9_copy_80 : decode cX9_copy 80 = .ok (.iload 5, 2) := by decide +kernel
theorem dX9_copy_82 : decode cX9_copy 82 = .ok (.i2l, 1) := by decide +kernel
theorem dX9_copy_83 : decode cX9_copy 83 = .ok (.ladd, 1) := by decide +kernel
theorem dX9_copy_84 : decode cX9_copy 84 = .ok (.aload_n 0, 1) := by decide +kernel
theorem dX9_copy_85 : decode cX9_copy 85 = .ok (.getfield 17, 3) := by decide +kernel
theorem dX9_copy_88 : decode cX9_copy 88 = .ok (.iload_n 3, 1) := by decide +kernel
theorem dX9_copy_89 : decode cX9_copy 89 = .ok (.iaload, 1) := by decide +kernel
theorem dX9_copy_90 : decode cX9_copy 90 = .ok (.i2l, 1) := by decide +kernel
theorem dX9_copy_91 : decode cX9_copy 91 = .ok (.lcmp, 1) := by decide +kernel
theorem dX9_copy_92 : decode cX9_copy 92 = .ok (.ifCond .le 9, 3) := by decide +kernel
theorem dX9_copy_95 : decode cX9_copy 95 = .ok (.aload_n 0, 1) := by decide +kernel
theorem dX9_copy_96 : decode cX9_copy 96 = .ok (.iconst 2, 1) := by decide +kernel
theorem dX9_copy_97 : decode cX9_copy 97 = .ok (.invokevirtual 106, 3) := by decide +kernel
theorem dX9_copy_100 : decode cX9_copy 100 = .ok (.ireturn, 1) := by decide +kernel
theorem dX9_copy_101 : decode cX9_copy 101 = .ok (.iconst 0, 1) := by decide +kernel
theorem dX9_copy_102 : decode cX9_copy 102 = .ok (.istore 6, 2) := by decide +kernel
theorem dX9_copy_104 : decode cX9_copy 104 = .ok (.iload 6, 2) := by decide +kernel
theorem dX9_copy_106 : decode cX9_copy 106 = .ok (.iload 5, 2) := by decide +kernel
theorem dX9_copy_108 : decode cX9_copy 108 = .ok (.if_icmp .ge 25, 3) := by decide +kernel
theorem dX9_copy_111 : decode cX9_copy 111 = .ok (.aload_n 0, 1) := by decide +kernel
theorem dX9_copy_112 : decode cX9_copy 112 = .ok (.getfield 23, 3) := by decide +kernel
theorem dX9_copy_115 : decode cX9_copy 115 = .ok (.iload 6, 2) := by decide +kernel
theorem dX9_copy_117 : decode cX9_copy 117 = .ok (.aload_n 0, 1) := by decide +kernel
theorem dX9_copy_118 : decode cX9_copy 118 = .ok (.iload_n 1, 1) := by decide +kernel
theorem dX9_copy_119 : decode cX9_copy 119 = .ok (.iload_n 2, 1) := by decide +kernel
theorem dX9_copy_120 : decode cX9_copy 120 = .ok (.iload 6, 2) := by decide +kernel
theorem dX9_copy_122 : decode cX9_copy 122 = .ok (.iadd, 1) := by decide +kernel
theorem dX9_copy_123 : decode cX9_copy 123 = .ok (.invokevirtual 110, 3) := by decide +kernel
theorem dX9_copy_126 : decode cX9_copy 126 = .ok (.iastore, 1) := by decide +kernel
theorem dX9_copy_127 : decode cX9_copy 127 = .ok (.iinc 6 1, 3) := by decide +kernel
theorem dX9_copy_130 : decode cX9_copy 130 = .ok (.goto (-26), 3) := by decide +kernel
theorem dX9_copy_133 : decode cX9_copy 133 = .ok (.iconst 0, 1) := by decide +kernel
theorem dX9_copy_134 : decode cX9_copy 134 = .ok (.istore 6, 2) := by decide +kernel
theorem dX9_copy_136 : decode cX9_copy 136 = .ok (.iload 6, 2) := by decide +kernel
theorem dX9_copy_138 : decode cX9_copy 138 = .ok (.iload 5, 2) := by decide +kernel
theorem dX9_copy_140 : decode cX9_copy 140 = .ok (.if_icmp .ge 31, 3) := by decide +kernel
theorem dX9_copy_143 : decode cX9_copy 143 = .ok (.aload_n 0, 1) := by decide +kernel
theorem dX9_copy_144 : decode cX9_copy 144 = .ok (.getfield 20, 3) := by decide +kernel
theorem dX9_copy_147 : decode cX9_copy 147 = .ok (.bipush 40, 2) := by decide +kernel
theorem dX9_copy_149 : decode cX9_copy 149 = .ok (.iload_n 3, 1) := by decide +kernel
theorem dX9_copy_150 : decode cX9_copy 150 = .ok (.imul, 1) := by decide +kernel
theorem dX9_copy_151 : decode cX9_copy 151 = .ok (.iload 4, 2) := by decide +kernel
theorem dX9_copy_153 : decode cX9_copy 153 = .ok (.iadd, 1) := by decide +kernel
theorem dX9_copy_154 : decode cX9_copy 154 = .ok (.iload 6, 2) := by decide +kernel
theorem dX9_copy_156 : decode cX9_copy 156 = .ok (.iadd, 1) := by decide +kernel
theorem dX9_copy_157 : decode cX9_copy 157 = .ok (.aload_n 0, 1) := by decide +kernel
theorem dX9_copy_158 : decode cX9_copy 158 = .ok (.getfield 23, 3) := by decide +kernel
theorem dX9_copy_161 : decode cX9_copy 161 = .ok (.iload 6, 2) := by decide +kernel
theorem dX9_copy_163 : decode cX9_copy 163 = .ok (.iaload, 1) := by decide +kernel
theorem dX9_copy_164 : decode cX9_copy 164 = .ok (.iastore, 1) := by decide +kernel
theorem dX9_copy_165 : decode cX9_copy 165 = .ok (.iinc 6 1, 3) := by decide +kernel
theorem dX9_copy_168 : decode cX9_copy 168 = .ok (.goto (-32), 3) := by decide +kernel
theorem dX9_copy_171 : decode cX9_copy 171 = .ok (.iconst 1, 1) := by decide +kernel
theorem dX9_copy_172 : decode cX9_copy 172 = .ok (.ireturn, 1) := by decide +kernel
theorem dX9_mean_0 : decode cX9_mean 0 = .ok (.iload_n 1, 1) := by decide +kernel
theorem dX9_mean_1 : decode cX9_mean 1 = .ok (.invokestatic 102, 3) := by decide +kernel
theorem dX9_mean_4 : decode cX9_mean 4 = .ok (.ifCond .ne 5, 3) := by decide +kernel
theorem dX9_mean_7 : decode cX9_mean 7 = .ok (.iconst (-1), 1) := by decide +kernel
theorem dX9_mean_8 : decode cX9_mean 8 = .ok (.ireturn, 1) := by decide +kernel
theorem dX9_mean_9 : decode cX9_mean 9 = .ok (.aload_n 0, 1) := by decide +kernel
theorem dX9_mean_10 : decode cX9_mean 10 = .ok (.getfield 17, 3) := by decide +kernel
theorem dX9_mean_13 : decode cX9_mean 13 = .ok (.iload_n 1, 1) := by decide +kernel
theorem dX9_mean_14 : decode cX9_mean 14 = .ok (.iaload, 1) := by decide +kernel
theorem dX9_mean_15 : decode cX9_mean 15 = .ok (.ifCond .ge 9, 3) := by decide +kernel
theorem dX9_mean_18 : decode cX9_mean 18 = .ok (.aload_n 0, 1) := by decide +kernel
theorem dX9_mean_19 : decode cX9_mean 19 = .ok (.iconst 1, 1) := by decide +kernel
theorem dX9_mean_20 : decode cX9_mean 20 = .ok (.invokevirtual 106, 3) := by decide +kernel
theorem dX9_mean_23 : decode cX9_mean 23 = .ok (.ireturn, 1) := by decide +kernel
theorem dX9_mean_24 : decode cX9_mean 24 = .ok (.aload_n 0, 1) := by decide +kernel
theorem dX9_mean_25 : decode cX9_mean 25 = .ok (.getfield 17, 3) := by decide +kernel
theorem dX9_mean_28 : decode cX9_mean 28 = .ok (.iload_n 1, 1) := by decide +kernel
theorem dX9_mean_29 : decode cX9_mean 29 = .ok (.iaload, 1) := by decide +kernel
theorem dX9_mean_30 : decode cX9_mean 30 = .ok (.ifCond .ne 9, 3) := by decide +kernel
theorem dX9_mean_33 : decode cX9_mean 33 = .ok (.aload_n 0, 1) := by decide +kernel
theorem dX9_mean_34 : decode cX9_mean 34 = .ok (.iconst 4, 1) := by decide +kernel
theorem dX9_mean_35 : decode cX9_mean 35 = .ok (.invokevirtual 106, 3) := by decide +kernel
theorem dX9_mean_38 : decode cX9_mean 38 = .ok (.ireturn, 1) := by decide +kernel
theorem dX9_mean_39 : decode cX9_mean 39 = .ok (.lconst 0, 1) := by decide +kernel
theorem dX9_mean_40 : decode cX9_mean 40 = .ok (.lstore_n 2, 1) := by decide +kernel
theorem dX9_mean_41 : decode cX9_mean 41 = .ok (.iconst 0, 1) := by decide +kernel
theorem dX9_mean_42 : decode cX9_mean 42 = .ok (.istore 4, 2) := by decide +kernel
theorem dX9_mean_44 : decode cX9_mean 44 = .ok (.iload 4, 2) := by decide +kernel
theorem dX9_mean_46 : decode cX9_mean 46 = .ok (.aload_n 0, 1) := by decide +kernel
theorem dX9_mean_47 : decode cX9_mean 47 = .ok (.getfield 17, 3) := by decide +kernel
theorem dX9_mean_50 : decode cX9_mean 50 = .ok (.iload_n 1, 1) := by decide +kernel
theorem dX9_mean_51 : decode cX9_mean 51 = .ok (.iaload, 1) := by decide +kernel
theorem dX9_mean_52 : decode cX9_mean 52 = .ok (.if_icmp .ge 20, 3) := by decide +kernel
theorem dX9_mean_55 : decode cX9_mean 55 = .ok (.lload_n 2, 1) := by decide +kernel
theorem dX9_mean_56 : decode cX9_mean 56 = .ok (.aload_n 0, 1) := by decide +kernel
theorem dX9_mean_57 : decode cX9_mean 57 = .ok (.iload_n 1, 1) := by decide +kernel
theorem dX9_mean_58 : decode cX9_mean 58 = .ok (.iload 4, 2) := by decide +kernel
theorem dX9_mean_60 : decode cX9_mean 60 = .ok (.invokevirtual 110, 3) := by decide +kernel
theorem dX9_mean_63 : decode cX9_mean 63 = .ok (.i2l, 1) := by decide +kernel
theorem dX9_mean_64 : decode cX9_mean 64 = .ok (.ladd, 1) := by decide +kernel
theorem dX9_mean_65 : decode cX9_mean 65 = .ok (.lstore_n 2, 1) := by decide +kernel
theorem dX9_mean_66 : decode cX9_mean 66 = .ok (.iinc 4 1, 3) := by decide +kernel
theorem dX9_mean_69 : decode cX9_mean 69 = .ok (.goto (-25), 3) := by decide +kernel
theorem dX9_mean_72 : decode cX9_mean 72 = .ok (.aload_n 0, 1) := by decide +kernel
theorem dX9_mean_73 : decode cX9_mean 73 = .ok (.lload_n 2, 1) := by decide +kernel
theorem dX9_mean_74 : decode cX9_mean 74 = .ok (.aload_n 0, 1) := by decide +kernel
theorem dX9_mean_75 : decode cX9_mean 75 = .ok (.getfield 17, 3) := by decide +kernel
theorem dX9_mean_78 : decode cX9_mean 78 = .ok (.iload_n 1, 1) := by decide +kernel
theorem dX9_mean_79 : decode cX9_mean 79 = .ok (.iaload, 1) := by decide +kernel
theorem dX9_mean_80 : decode cX9_mean 80 = .ok (.i2l, 1) := by decide +kernel
theorem dX9_mean_81 : decode cX9_mean 81 = .ok (.ldiv, 1) := by decide +kernel
theorem dX9_mean_82 : decode cX9_mean 82 = .ok (.l2i, 1) := by decide +kernel
theorem dX9_mean_83 : decode cX9_mean 83 = .ok (.iconst 1, 1) := by decide +kernel
theorem dX9_mean_84 : decode cX9_mean 84 = .ok (.invokevirtual 114, 3) := by decide +kernel
theorem dX9_mean_87 : decode cX9_mean 87 = .ok (.ireturn, 1) := by decide +kernel
theorem dX9_isText_0 : decode cX9_isText 0 = .ok (.iload_n 0, 1) := by decide +kernel
theorem dX9_isText_1 : decode cX9_isText 1 = .ok (.iconst 0, 1) := by decide +kernel
theorem dX9_isText_2 : decode cX9_isText 2 = .ok (.iconst 3, 1) := by decide +kernel
theorem dX9_isText_3 : decode cX9_isText 3 = .ok (.invokestatic 92, 3) := by decide +kernel
theorem dX9_isText_6 : decode cX9_isText 6 = .ok (.ireturn, 1) := by decide +kernel
theorem dX9_text_0 : decode cX9_text 0 = .ok (.iload_n 1, 1) := by decide +kernel
theorem dX9_text_1 : decode cX9_text 1 = .ok (.invokestatic 117, 3) := by decide +kernel
theorem dX9_text_4 : decode cX9_text 4 = .ok (.ifCond .eq 9, 3) := by decide +kernel
theorem dX9_text_7 : decode cX9_text 7 = .ok (.iload_n 2, 1) := by decide +kernel
theorem dX9_text_8 : decode cX9_text 8 = .ok (.bipush 60, 2) := by decide +kernel
theorem dX9_text_10 : decode cX9_text 10 = .ok (.if_icmp .le 5, 3) := by decide +kernel
theorem dX9_text_13 : decode cX9_text 13 = .ok (.iconst (-1), 1) := by decide +kernel
theorem dX9_text_14 : decode cX9_text 14 = .ok (.ireturn, 1) := by decide +kernel
theorem dX9_text_15 : decode cX9_text 15 = .ok (.iload_n 2, 1) := by decide +kernel
theorem dX9_text_16 : decode cX9_text 16 = .ok (.ifCond .ge 9, 3) := by decide +kernel
theorem dX9_text_19 : decode cX9_text 19 = .ok (.aload_n 0, 1) := by decide +kernel
theorem dX9_text_20 : decode cX9_text 20 = .ok (.iconst 5, 1) := by decide +kernel
theorem dX9_text_21 : decode cX9_text 21 = .ok (.invokevirtual 106, 3) := by decide +kernel
theorem dX9_text_24 : decode cX9_text 24 = .ok (.ireturn, 1) := by decide +kernel
theorem dX9_text_25 : decode cX9_text 25 = .ok (.aload_n 0, 1) := by decide +kernel
theorem dX9_text_26 : decode cX9_text 26 = .ok (.getfield 26, 3) := by decide +kernel
theorem dX9_text_29 : decode cX9_text 29 = .ok (.iload_n 1, 1) := by decide +kernel
theorem dX9_text_30 : decode cX9_text 30 = .ok (.iload_n 2, 1) := by decide +kernel
theorem dX9_text_31 : decode cX9_text 31 = .ok (.iastore, 1) := by decide +kernel
theorem dX9_text_32 : decode cX9_text 32 = .ok (.iconst 0, 1) := by decide +kernel
theorem dX9_text_33 : decode cX9_text 33 = .ok (.istore_n 3, 1) := by decide +kernel
theorem dX9_text_34 : decode cX9_text 34 = .ok (.iload_n 3, 1) := by decide +kernel
theorem dX9_text_35 : decode cX9_text 35 = .ok (.bipush 60, 2) := by decide +kernel
theorem dX9_text_37 : decode cX9_text 37 = .ok (.if_icmp .ge 22, 3) := by decide +kernel
theorem dX9_text_40 : decode cX9_text 40 = .ok (.aload_n 0, 1) := by decide +kernel
theorem dX9_text_41 : decode cX9_text 41 = .ok (.getfield 29, 3) := by decide +kernel
theorem dX9_text_44 : decode cX9_text 44 = .ok (.bipush 60, 2) := by decide +kernel
theorem dX9_text_46 : decode cX9_text 46 = .ok (.iload_n 1, 1) := by decide +kernel
theorem dX9_text_47 : decode cX9_text 47 = .ok (.imul, 1) := by decide +kernel
theorem dX9_text_48 : decode cX9_text 48 = .ok (.iload_n 3, 1) := by decide +kernel
theorem dX9_text_49 : decode cX9_text 49 = .ok (.iadd, 1) := by decide +kernel
theorem dX9_text_50 : decode cX9_text 50 = .ok (.bipush 32, 2) := by decide +kernel
theorem dX9_text_52 : decode cX9_text 52 = .ok (.bastore, 1) := by decide +kernel
theorem dX9_text_53 : decode cX9_text 53 = .ok (.iinc 3 1, 3) := by decide +kernel
theorem dX9_text_56 : decode cX9_text 56 = .ok (.goto (-22), 3) := by decide +kernel
theorem dX9_text_59 : decode cX9_text 59 = .ok (.iload_n 2, 1) := by decide +kernel
theorem dX9_text_60 : decode cX9_text 60 = .ok (.ireturn, 1) := by decide +kernel
theorem dX9_put_0 : decode cX9_put 0 = .ok (.iload_n 1, 1) := by decide +kernel
theorem dX9_put_1 : decode cX9_put 1 = .ok (.invokestatic 117, 3) := by decide +kernel
theorem dX9_put_4 : decode cX9_put 4 = .ok (.ifCond .ne 5, 3) := by decide +kernel
theorem dX9_put_7 : decode cX9_put 7 = .ok (.iconst (-1), 1) := by decide +kernel
theorem dX9_put_8 : decode cX9_put 8 = .ok (.ireturn, 1) := by decide +kernel
theorem dX9_put_9 : decode cX9_put 9 = .ok (.aload_n 0, 1) := by decide +kernel
theorem dX9_put_10 : decode cX9_put 10 = .ok (.getfield 26, 3) := by decide +kernel
theorem dX9_put_13 : decode cX9_put 13 = .ok (.iload_n 1, 1) := by decide +kernel
theorem dX9_put_14 : decode cX9_put 14 = .ok (.iaload, 1) := by decide +kernel
theorem dX9_put_15 : decode cX9_put 15 = .ok (.ifCond .ge 9, 3) := by decide +kernel
theorem dX9_put_18 : decode cX9_put 18 = .ok (.aload_n 0, 1) := by decide +kernel
theorem dX9_put_19 : decode cX9_put 19 = .ok (.iconst 1, 1) := by decide +kernel
theorem dX9_put_20 : decode cX9_put 20 = .ok (.invokevirtual 106, 3) := by decide +kernel
theorem dX9_put_23 : decode cX9_put 23 = .ok (.ireturn, 1) := by decide +kernel
theorem dX9_put_24 : decode cX9_put 24 = .ok (.iload_n 2, 1) := by decide +kernel
theorem dX9_put_25 : decode cX9_put 25 = .ok (.iconst 0, 1) := by decide +kernel
theorem dX9_put_26 : decode cX9_put 26 = .ok (.aload_n 0, 1) := by decide +kernel
theorem dX9_put_27 : decode cX9_put 27 = .ok (.getfield 26, 3) := by decide +kernel
theorem dX9_put_30 : decode cX9_put 30 = .ok (.iload_n 1, 1) := by decide +kernel
theorem dX9_put_31 : decode cX9_put 31 = .ok (.iaload, 1) := by decide +kernel
theorem dX9_put_32 : decode cX9_put 32 = .ok (.iconst 1, 1) := by decide +kernel
theorem dX9_put_33 : decode cX9_put 33 = .ok (.isub, 1) := by decide +kernel
theorem dX9_put_34 : decode cX9_put 34 = .ok (.invokestatic 92, 3) := by decide +kernel
theorem dX9_put_37 : decode cX9_put 37 = .ok (.ifCond .ne 9, 3) := by decide +kernel
theorem dX9_put_40 : decode cX9_put 40 = .ok (.aload_n 0, 1) := by decide +kernel
theorem dX9_put_41 : decode cX9_put 41 = .ok (.iconst 2, 1) := by decide +kernel
theorem dX9_put_42 : decode cX9_put 42 = .ok (.invokevirtual 106, 3) := by decide +kernel
theorem dX9_put_45 : decode cX9_put 45 = .ok (.ireturn, 1) := by decide +kernel
theorem dX9_put_46 : decode cX9_put 46 = .ok (.aload_n 0, 1) := by decide +kernel
theorem dX9_put_47 : decode cX9_put 47 = .ok (.getfield 29, 3) := by decide +kernel
theorem dX9_put_50 : decode cX9_put 50 = .ok (.bipush 60, 2) := by decide +kernel
theorem dX9_put_52 : decode cX9_put 52 = .ok (.iload_n 1, 1) := by decide +kernel
theorem dX9_put_53 : decode cX9_put 53 = .ok (.imul, 1) := by decide +kernel
theorem dX9_put_54 : decode cX9_put 54 = .ok (.iload_n 2, 1) := by decide +kernel
theorem dX9_put_55 : decode cX9_put 55 = .ok (.iadd, 1) := by decide +kernel
theorem dX9_put_56 : decode cX9_put 56 = .ok (.baload, 1) := by decide +kernel
theorem dX9_put_57 : decode cX9_put 57 = .ok (.istore 4, 2) := by decide +kernel
theorem dX9_put_59 : decode cX9_put 59 = .ok (.aload_n 0, 1) := by decide +kernel
theorem dX9_put_60 : decode cX9_put 60 = .ok (.getfield 29, 3) := by decide +kernel
theorem dX9_put_63 : decode cX9_put 63 = .ok (.bipush 60, 2) := by decide +kernel
theorem dX9_put_65 : decode cX9_put 65 = .ok (.iload_n 1, 1) := by decide +kernel
theorem dX9_put_66 : decode cX9_put 66 = .ok (.imul, 1) := by decide +kernel
theorem dX9_put_67 : decode cX9_put 67 = .ok (.iload_n 2, 1) := by decide +kernel
theorem dX9_put_68 : decode cX9_put 68 = .ok (.iadd, 1) := by decide +kernel
theorem dX9_put_69 : decode cX9_put 69 = .ok (.iload_n 3, 1) := by decide +kernel
theorem dX9_put_70 : decode cX9_put 70 = .ok (.i2b, 1) := by decide +kernel
theorem dX9_put_71 : decode cX9_put 71 = .ok (.bastore, 1) := by decide +kernel
theorem dX9_put_72 : decode cX9_put 72 = .ok (.sipush 1000, 3) := by decide +kernel
theorem dX9_put_75 : decode cX9_put 75 = .ok (.iload 4, 2) := by decide +kernel
theorem dX9_put_77 : decode cX9_put 77 = .ok (.iadd, 1) := by decide +kernel
theorem dX9_put_78 : decode cX9_put 78 = .ok (.ireturn, 1) := by decide +kernel
theorem dX9_byteAt_0 : decode cX9_byteAt 0 = .ok (.iload_n 2, 1) := by decide +kernel
theorem dX9_byteAt_1 : decode cX9_byteAt 1 = .ok (.aload_n 0, 1) := by decide +kernel
theorem dX9_byteAt_2 : decode cX9_byteAt 2 = .ok (.getfield 26, 3) := by decide +kernel
theorem dX9_byteAt_5 : decode cX9_byteAt 5 = .ok (.iload_n 1, 1) := by decide +kernel
theorem dX9_byteAt_6 : decode cX9_byteAt 6 = .ok (.iaload, 1) := by decide +kernel
theorem dX9_byteAt_7 : decode cX9_byteAt 7 = .ok (.if_icmp .ge 17, 3) := by decide +kernel
theorem dX9_byteAt_10 : decode cX9_byteAt 10 = .ok (.aload_n 0, 1) := by decide +kernel
theorem dX9_byteAt_11 : decode cX9_byteAt 11 = .ok (.getfield 29, 3) := by decide +kernel
theorem dX9_byteAt_14 : decode cX9_byteAt 14 = .ok (.bipush 60, 2) := by decide +kernel
theorem dX9_byteAt_16 : decode cX9_byteAt 16 = .ok (.iload_n 1, 1) := by decide +kernel
theorem dX9_byteAt_17 : decode cX9_byteAt 17 = .ok (.imul, 1) := by decide +kernel
theorem dX9_byteAt_18 : decode cX9_byteAt 18 = .ok (.iload_n 2, 1) := by decide +kernel
theorem dX9_byteAt_19 : decode cX9_byteAt 19 = .ok (.iadd, 1) := by decide +kernel
theorem dX9_byteAt_20 : decode cX9_byteAt 20 = .ok (.baload, 1) := by decide +kernel
theorem dX9_byteAt_21 : decode cX9_byteAt 21 = .ok (.goto 4, 3) := by decide +kernel
theorem dX9_byteAt_24 : decode cX9_byteAt 24 = .ok (.iconst 0, 1) := by decide +kernel
theorem dX9_byteAt_25 : decode cX9_byteAt 25 = .ok (.ireturn, 1) := by decide +kernel
theorem dX9_kindBy_0 : decode cX9_kindBy 0 = .ok (.iload_n 0, 1) := by decide +kernel
theorem dX9_kindBy_1 : decode cX9_kindBy 1 = .ok (.tableswitch 83 99 112 #[79, 83, 83, 83, 77, 71, 83, 83, 81, 75, 83, 83, 83, 73], 71) := by decide +kernel
theorem dX9_kindBy_72 : decode cX9_kindBy 72 = .ok (.iconst 0, 1) := by decide +kernel
theorem dX9_kindBy_73 : decode cX9_kindBy 73 = .ok (.ireturn, 1) := by decide +kernel
theorem dX9_kindBy_74 : decode cX9_kindBy 74 = .ok (.iconst 1, 1) := by decide +kernel
theorem dX9_kindBy_75 : decode cX9_kindBy 75 = .ok (.ireturn, 1) := by decide +kernel
theorem dX9_kindBy_76 : decode cX9_kindBy 76 = .ok (.iconst 2, 1) := by decide +kernel
theorem dX9_kindBy_77 : decode cX9_kindBy 77 = .ok (.ireturn, 1) := by decide +kernel
theorem dX9_kindBy_78 : decode cX9_kindBy 78 = .ok (.iconst 3, 1) := by decide +kernel
theorem dX9_kindBy_79 : decode cX9_kindBy 79 = .ok (.ireturn, 1) := by decide +kernel
theorem dX9_kindBy_80 : decode cX9_kindBy 80 = .ok (.iconst 4, 1) := by decide +kernel
theorem dX9_kindBy_81 : decode cX9_kindBy 81 = .ok (.ireturn, 1) := by decide +kernel
theorem dX9_kindBy_82 : decode cX9_kindBy 82 = .ok (.iconst 5, 1) := by decide +kernel
theorem dX9_kindBy_83 : decode cX9_kindBy 83 = .ok (.ireturn, 1) := by decide +kernel
theorem dX9_kindBy_84 : decode cX9_kindBy 84 = .ok (.bipush (-9), 2) := by decide +kernel
theorem dX9_kindBy_86 : decode cX9_kindBy 86 = .ok (.ireturn, 1) := by decide +kernel
theorem dX9_figure_0 : decode cX9_figure 0 = .ok (.aload_n 0, 1) := by decide +kernel
theorem dX9_figure_1 : decode cX9_figure 1 = .ok (.iload_n 1, 1) := by decide +kernel
theorem dX9_figure_2 : decode cX9_figure 2 = .ok (.aload_n 0, 1) := by decide +kernel
theorem dX9_figure_3 : decode cX9_figure 3 = .ok (.getfield 120, 3) := by decide +kernel
theorem dX9_figure_6 : decode cX9_figure 6 = .ok (.invokevirtual 123, 3) := by decide +kernel
theorem dX9_figure_9 : decode cX9_figure 9 = .ok (.bipush 48, 2) := by decide +kernel
theorem dX9_figure_11 : decode cX9_figure 11 = .ok (.isub, 1) := by decide +kernel
theorem dX9_figure_12 : decode cX9_figure 12 = .ok (.istore_n 2, 1) := by decide +kernel
theorem dX9_figure_13 : decode cX9_figure 13 = .ok (.iload_n 2, 1) := by decide +kernel
theorem dX9_figure_14 : decode cX9_figure 14 = .ok (.iconst 0, 1) := by decide +kernel
theorem dX9_figure_15 : decode cX9_figure 15 = .ok (.bipush 9, 2) := by decide +kernel
theorem dX9_figure_17 : decode cX9_figure 17 = .ok (.invokestatic 92, 3) := by decide +kernel
theorem dX9_figure_20 : decode cX9_figure 20 = .ok (.ifCond .ne 6, 3) := by decide +kernel
theorem dX9_figure_23 : decode cX9_figure 23 = .ok (.bipush (-9), 2) := by decide +kernel
theorem dX9_figure_25 : decode cX9_figure 25 = .ok (.ireturn, 1) := by decide +kernel
theorem dX9_figure_26 : decode cX9_figure 26 = .ok (.aload_n 0, 1) := by decide +kernel
theorem dX9_figure_27 : decode cX9_figure 27 = .ok (.dup, 1) := by decide +kernel
theorem dX9_figure_28 : decode cX9_figure 28 = .ok (.getfield 120, 3) := by decide +kernel
theorem dX9_figure_31 : decode cX9_figure 31 = .ok (.iconst 1, 1) := by decide +kernel
theorem dX9_figure_32 : decode cX9_figure 32 = .ok (.iadd, 1) := by decide +kernel
theorem dX9_figure_33 : decode cX9_figure 33 = .ok (.putfield 120, 3) := by decide +kernel
theorem dX9_figure_36 : decode cX9_figure 36 = .ok (.iload_n 2, 1) := by decide +kernel
theorem dX9_figure_37 : decode cX9_figure 37 = .ok (.ireturn, 1) := by decide +kernel
theorem dX9_readsHead_0 : decode cX9_readsHead 0 = .ok (.aload_n 0, 1) := by decide +kernel
theorem dX9_readsHead_1 : decode cX9_readsHead 1 = .ok (.iload_n 1, 1) := by decide +kernel
theorem dX9_readsHead_2 : decode cX9_readsHead 2 = .ok (.aload_n 0, 1) := by decide +kernel
theorem dX9_readsHead_3 : decode cX9_readsHead 3 = .ok (.getfield 120, 3) := by decide +kernel
theorem dX9_readsHead_6 : decode cX9_readsHead 6 = .ok (.invokevirtual 123, 3) := by decide +kernel
theorem dX9_readsHead_9 : decode cX9_readsHead 9 = .ok (.bipush 102, 2) := by decide +kernel
theorem dX9_readsHead_11 : decode cX9_readsHead 11 = .ok (.if_icmp .eq 5, 3) := by decide +kernel
theorem dX9_readsHead_14 : decode cX9_readsHead 14 = .ok (.iconst 0, 1) := by decide +kernel
theorem dX9_readsHead_15 : decode cX9_readsHead 15 = .ok (.ireturn, 1) := by decide +kernel
theorem dX9_readsHead_16 : decode cX9_readsHead 16 = .ok (.aload_n 0, 1) := by decide +kernel
theorem dX9_readsHead_17 : decode cX9_readsHead 17 = .ok (.dup, 1) := by decide +kernel
theorem dX9_readsHead_18 : decode cX9_readsHead 18 = .ok (.getfield 120, 3) := by decide +kernel
theorem dX9_readsHead_21 : decode cX9_readsHead 21 = .ok (.iconst 1, 1) := by decide +kernel
theorem dX9_readsHead_22 : decode cX9_readsHead 22 = .ok (.iadd, 1) := by decide +kernel
theorem dX9_readsHead_23 : decode cX9_readsHead 23 = .ok (.putfield 120, 3) := by decide +kernel
theorem dX9_readsHead_26 : decode cX9_readsHead 26 = .ok (.iconst 0, 1) := by decide +kernel
theorem dX9_readsHead_27 : decode cX9_readsHead 27 = .ok (.istore_n 2, 1) := by decide +kernel
theorem dX9_readsHead_28 : decode cX9_readsHead 28 = .ok (.iload_n 2, 1) := by decide +kernel
theorem dX9_readsHead_29 : decode cX9_readsHead 29 = .ok (.iconst 4, 1) := by decide +kernel
theorem dX9_readsHead_30 : decode cX9_readsHead 30 = .ok (.if_icmp .ge 33, 3) := by decide +kernel
theorem dX9_readsHead_33 : decode cX9_readsHead 33 = .ok (.aload_n 0, 1) := by decide +kernel
theorem dX9_readsHead_34 : decode cX9_readsHead 34 = .ok (.getfield 45, 3) := by decide +kernel
theorem dX9_readsHead_37 : decode cX9_readsHead 37 = .ok (.iload_n 2, 1) := by decide +kernel
theorem dX9_readsHead_38 : decode cX9_readsHead 38 = .ok (.aload_n 0, 1) := by decide +kernel
theorem dX9_readsHead_39 : decode cX9_readsHead 39 = .ok (.iload_n 1, 1) := by decide +kernel
theorem dX9_readsHead_40 : decode cX9_readsHead 40 = .ok (.invokevirtual 126, 3) := by decide +kernel
theorem dX9_readsHead_43 : decode cX9_readsHead 43 = .ok (.iastore, 1) := by decide +kernel
theorem dX9_readsHead_44 : decode cX9_readsHead 44 = .ok (.aload_n 0, 1) := by decide +kernel
theorem dX9_readsHead_45 : decode cX9_readsHead 45 = .ok (.getfield 45, 3) := by decide +kernel
theorem dX9_readsHead_48 : decode cX9_readsHead 48 = .ok (.iload_n 2, 1) := by decide +kernel
theorem dX9_readsHead_49 : decode cX9_readsHead 49 = .ok (.iaload, 1) := by decide +kernel
theorem dX9_readsHead_50 : decode cX9_readsHead 50 = .ok (.bipush (-9), 2) := by decide +kernel
theorem dX9_readsHead_52 : decode cX9_readsHead 52 = .ok (.if_icmp .ne 5, 3) := by decide +kernel
theorem dX9_readsHead_55 : decode cX9_readsHead 55 = .ok (.iconst 0, 1) := by decide +kernel
theorem dX9_readsHead_56 : decode cX9_readsHead 56 = .ok (.ireturn, 1) := by decide +kernel
theorem dX9_readsHead_57 : decode cX9_readsHead 57 = .ok (.iinc 2 1, 3) := by decide +kernel
theorem dX9_readsHead_60 : decode cX9_readsHead 60 = .ok (.goto (-32), 3) := by decide +kernel
theorem dX9_readsHead_63 : decode cX9_readsHead 63 = .ok (.aload_n 0, 1) := by decide +kernel
theorem dX9_readsHead_64 : decode cX9_readsHead 64 = .ok (.getfield 120, 3) := by decide +kernel
theorem dX9_readsHead_67 : decode cX9_readsHead 67 = .ok (.istore_n 2, 1) := by decide +kernel
theorem dX9_readsHead_68 : decode cX9_readsHead 68 = .ok (.aload_n 0, 1) := by decide +kernel
theorem dX9_readsHead_69 : decode cX9_readsHead 69 = .ok (.iload_n 1, 1) := by decide +kernel
theorem dX9_readsHead_70 : decode cX9_readsHead 70 = .ok (.invokevirtual 126, 3) := by decide +kernel
theorem dX9_readsHead_73 : decode cX9_readsHead 73 = .ok (.istore_n 3, 1) := by decide +kernel
theorem dX9_readsHead_74 : decode cX9_readsHead 74 = .ok (.iload_n 3, 1) := by decide +kernel
theorem dX9_readsHead_75 : decode cX9_readsHead 75 = .ok (.bipush (-9), 2) := by decide +kernel
theorem dX9_readsHead_77 : decode cX9_readsHead 77 = .ok (.if_icmp .ne 8, 3) := by decide +kernel
theorem dX9_readsHead_80 : decode cX9_readsHead 80 = .ok (.bipush (-9), 2) := by decide +kernel
theorem dX9_readsHead_82 : decode cX9_readsHead 82 = .ok (.goto 8, 3) := by decide +kernel
theorem dX9_readsHead_85 : decode cX9_readsHead 85 = .ok (.aload_n 0, 1) := by decide +kernel
theorem dX9_readsHead_86 : decode cX9_readsHead 86 = .ok (.iload_n 1, 1) := by decide +kernel
theorem dX9_readsHead_87 : decode cX9_readsHead 87 = .ok (.invokevirtual 126, 3) := by decide +kernel
theorem dX9_readsHead_90 : decode cX9_readsHead 90 = .ok (.istore 4, 2) := by decide +kernel
theorem dX9_readsHead_92 : decode cX9_readsHead 92 = .ok (.iload 4, 2) := by decide +kernel
theorem dX9_readsHead_94 : decode cX9_readsHead 94 = .ok (.bipush (-9), 2) := by decide +kernel
theorem dX9_readsHead_96 : decode cX9_readsHead 96 = .ok (.if_icmp .ne 5, 3) := by decide +kernel
theorem dX9_readsHead_99 : decode cX9_readsHead 99 = .ok (.iconst 0, 1) := by decide +kernel
theorem dX9_readsHead_100 : decode cX9_readsHead 100 = .ok (.ireturn, 1) := by decide +kernel
theorem dX9_readsHead_101 : decode cX9_readsHead 101 = .ok (.aload_n 0, 1) := by decide +kernel
theorem dX9_readsHead_102 : decode cX9_readsHead 102 = .ok (.bipush 10, 2) := by decide +kernel
theorem dX9_readsHead_104 : decode cX9_readsHead 104 = .ok (.iload_n 3, 1) := by decide +kernel
theorem dX9_readsHead_105 : decode cX9_readsHead 105 = .ok (.imul, 1) := by decide +kernel
theorem dX9_readsHead_106 : decode cX9_readsHead 106 = .ok (.iload 4, 2) := by decide +kernel
theorem dX9_readsHead_108 : decode cX9_readsHead 108 = .ok (.iadd, 1) := by decide +kernel
theorem dX9_readsHead_109 : decode cX9_readsHead 109 = .ok (.putfield 129, 3) := by decide +kernel
theorem dX9_readsHead_112 : decode cX9_readsHead 112 = .ok (.aload_n 0, 1) := by decide +kernel
theorem dX9_readsHead_113 : decode cX9_readsHead 113 = .ok (.getfield 129, 3) := by decide +kernel
theorem dX9_readsHead_116 : decode cX9_readsHead 116 = .ok (.bipush 40, 2) := by decide +kernel
theorem dX9_readsHead_118 : decode cX9_readsHead 118 = .ok (.if_icmp .le 10, 3) := by decide +kernel
theorem dX9_readsHead_121 : decode cX9_readsHead 121 = .ok (.aload_n 0, 1) := by decide +kernel
theorem dX9_readsHead_122 : decode cX9_readsHead 122 = .ok (.iload_n 2, 1) := by decide +kernel
theorem dX9_readsHead_123 : decode cX9_readsHead 123 = .ok (.putfield 120, 3) := by decide +kernel
theorem dX9_readsHead_126 : decode cX9_readsHead 126 = .ok (.iconst 0, 1) := by decide +kernel
theorem dX9_readsHead_127 : decode cX9_readsHead 127 = .ok (.ireturn, 1) := by decide +kernel
theorem dX9_readsHead_128 : decode cX9_readsHead 128 = .ok (.aload_n 0, 1) := by decide +kernel
theorem dX9_readsHead_129 : decode cX9_readsHead 129 = .ok (.iconst 1, 1) := by decide +kernel
theorem dX9_readsHead_130 : decode cX9_readsHead 130 = .ok (.putfield 132, 3) := by decide +kernel
theorem dX9_readsHead_133 : decode cX9_readsHead 133 = .ok (.iconst 1, 1) := by decide +kernel
theorem dX9_readsHead_134 : decode cX9_readsHead 134 = .ok (.ireturn, 1) := by decide +kernel
theorem dX9_isTold_0 : decode cX9_isTold 0 = .ok (.iconst 0, 1) := by decide +kernel
theorem dX9_isTold_1 : decode cX9_isTold 1 = .ok (.istore_n 2, 1) := by decide +kernel
theorem dX9_isTold_2 : decode cX9_isTold 2 = .ok (.iconst 0, 1) := by decide +kernel
theorem dX9_isTold_3 : decode cX9_isTold 3 = .ok (.istore_n 3, 1) := by decide +kernel
theorem dX9_isTold_4 : decode cX9_isTold 4 = .ok (.iload_n 3, 1) := by decide +kernel
theorem dX9_isTold_5 : decode cX9_isTold 5 = .ok (.aload_n 0, 1) := by decide +kernel
theorem dX9_isTold_6 : decode cX9_isTold 6 = .ok (.getfield 136, 3) := by decide +kernel
theorem dX9_isTold_9 : decode cX9_isTold 9 = .ok (.if_icmp .ge 33, 3) := by decide +kernel
theorem dX9_isTold_12 : decode cX9_isTold 12 = .ok (.iload_n 2, 1) := by decide +kernel
theorem dX9_isTold_13 : decode cX9_isTold 13 = .ok (.ifCond .ne 17, 3) := by decide +kernel
theorem dX9_isTold_16 : decode cX9_isTold 16 = .ok (.aload_n 0, 1) := by decide +kernel
theorem dX9_isTold_17 : decode cX9_isTold 17 = .ok (.getfield 48, 3) := by decide +kernel
theorem dX9_isTold_20 : decode cX9_isTold 20 = .ok (.iconst 4, 1) := by decide +kernel
theorem dX9_isTold_21 : decode cX9_isTold 21 = .ok (.iload_n 3, 1) := by decide +kernel
theorem dX9_isTold_22 : decode cX9_isTold 22 = .ok (.imul, 1) := by decide +kernel
theorem dX9_isTold_23 : decode cX9_isTold 23 = .ok (.iconst 1, 1) := by decide +kernel
theorem dX9_isTold_24 : decode cX9_isTold 24 = .ok (.iadd, 1) := by decide +kernel
theorem dX9_isTold_25 : decode cX9_isTold 25 = .ok (.iaload, 1) := by decide +kernel
theorem dX9_isTold_26 : decode cX9_isTold 26 = .ok (.iload_n 1, 1) := by decide +kernel
theorem dX9_isTold_27 : decode cX9_isTold 27 = .ok (.if_icmp .ne 7, 3) := by decide +kernel
theorem dX9_isTold_30 : decode cX9_isTold 30 = .ok (.iconst 1, 1) := by decide +kernel
theorem dX9_isTold_31 : decode cX9_isTold 31 = .ok (.goto 4, 3) := by decide +kernel
theorem dX9_isTold_34 : decode cX9_isTold 34 = .ok (.iconst 0, 1) := by decide +kernel
theorem dX9_isTold_35 : decode cX9_isTold 35 = .ok (.istore_n 2, 1) := by decide +kernel
theorem dX9_isTold_36 : decode cX9_isTold 36 = .ok (.iinc 3 1, 3) := by decide +kernel
theorem dX9_isTold_39 : decode cX9_isTold 39 = .ok (.goto (-35), 3) := by decide +kernel
theorem dX9_isTold_42 : decode cX9_isTold 42 = .ok (.iload_n 2, 1) := by decide +kernel
theorem dX9_isTold_43 : decode cX9_isTold 43 = .ok (.ireturn, 1) := by decide +kernel
theorem dX9_readsHut_0 : decode cX9_readsHut 0 = .ok (.aload_n 0, 1) := by decide +kernel
theorem dX9_readsHut_1 : decode cX9_readsHut 1 = .ok (.iload_n 1, 1) := by decide +kernel
theorem dX9_readsHut_2 : decode cX9_readsHut 2 = .ok (.aload_n 0, 1) := by decide +kernel
theorem dX9_readsHut_3 : decode cX9_readsHut 3 = .ok (.getfield 120, 3) := by decide +kernel
theorem dX9_readsHut_6 : decode cX9_readsHut 6 = .ok (.invokevirtual 123, 3) := by decide +kernel
theorem dX9_readsHut_9 : decode cX9_readsHut 9 = .ok (.invokestatic 139, 3) := by decide +kernel
theorem dX9_readsHut_12 : decode cX9_readsHut 12 = .ok (.istore_n 2, 1) := by decide +kernel
theorem dX9_readsHut_13 : decode cX9_readsHut 13 = .ok (.iload_n 2, 1) := by decide +kernel
theorem dX9_readsHut_14 : decode cX9_readsHut 14 = .ok (.bipush (-9), 2) := by decide +kernel
theorem dX9_readsHut_16 : decode cX9_readsHut 16 = .ok (.if_icmp .eq 12, 3) := by decide +kernel
theorem dX9_readsHut_19 : decode cX9_readsHut 19 = .ok (.aload_n 0, 1) := by decide +kernel
theorem dX9_readsHut_20 : decode cX9_readsHut 20 = .ok (.getfield 136, 3) := by decide +kernel
theorem dX9_readsHut_23 : decode cX9_readsHut 23 = .ok (.bipush 6, 2) := by decide +kernel
theorem dX9_readsHut_25 : decode cX9_readsHut 25 = .ok (.if_icmp .ne 5, 3) := by decide +kernel
theorem dX9_readsHut_28 : decode cX9_readsHut 28 = .ok (.iconst 0, 1) := by decide +kernel
theorem dX9_readsHut_29 : decode cX9_readsHut 29 = .ok (.ireturn, 1) := by decide +kernel
theorem dX9_readsHut_30 : decode cX9_readsHut 30 = .ok (.aload_n 0, 1) := by decide +kernel
theorem dX9_readsHut_31 : decode cX9_readsHut 31 = .ok (.dup, 1) := by decide +kernel
theorem dX9_readsHut_32 : decode cX9_readsHut 32 = .ok (.getfield 120, 3) := by decide +kernel
theorem dX9_readsHut_35 : decode cX9_readsHut 35 = .ok (.iconst 1, 1) := by decide +kernel
theorem dX9_readsHut_36 : decode cX9_readsHut 36 = .ok (.iadd, 1) := by decide +kernel
theorem dX9_readsHut_37 : decode cX9_readsHut 37 = .ok (.putfield 120, 3) := by decide +kernel
theorem dX9_readsHut_40 : decode cX9_readsHut 40 = .ok (.aload_n 0, 1) := by decide +kernel
theorem dX9_readsHut_41 : decode cX9_readsHut 41 = .ok (.getfield 120, 3) := by decide +kernel
theorem dX9_readsHut_44 : decode cX9_readsHut 44 = .ok (.istore_n 3, 1) := by decide +kernel
theorem dX9_readsHut_45 : decode cX9_readsHut 45 = .ok (.iconst 4, 1) := by decide +kernel
theorem dX9_readsHut_46 : decode cX9_readsHut 46 = .ok (.aload_n 0, 1) := by decide +kernel
theorem dX9_readsHut_47 : decode cX9_readsHut 47 = .ok (.getfield 136, 3) := by decide +kernel
theorem dX9_readsHut_50 : decode cX9_readsHut 50 = .ok (.imul, 1) := by decide +kernel
theorem dX9_readsHut_51 : decode cX9_readsHut 51 = .ok (.istore 4, 2) := by decide +kernel
theorem dX9_readsHut_53 : decode cX9_readsHut 53 = .ok (.aload_n 0, 1) := by decide +kernel
theorem dX9_readsHut_54 : decode cX9_readsHut 54 = .ok (.iload_n 1, 1) := by decide +kernel
theorem dX9_readsHut_55 : decode cX9_readsHut 55 = .ok (.invokevirtual 126, 3) := by decide +kernel
theorem dX9_readsHut_58 : decode cX9_readsHut 58 = .ok (.istore 5, 2) := by decide +kernel
theorem dX9_readsHut_60 : decode cX9_readsHut 60 = .ok (.iload 5, 2) := by decide +kernel
theorem dX9_readsHut_62 : decode cX9_readsHut 62 = .ok (.bipush (-9), 2) := by decide +kernel
theorem dX9_readsHut_64 : decode cX9_readsHut 64 = .ok (.if_icmp .ne 5, 3) := by decide +kernel
theorem dX9_readsHut_67 : decode cX9_readsHut 67 = .ok (.iconst 0, 1) := by decide +kernel
theorem dX9_readsHut_68 : decode cX9_readsHut 68 = .ok (.ireturn, 1) := by decide +kernel
theorem dX9_readsHut_69 : decode cX9_readsHut 69 = .ok (.aload_n 0, 1) := by decide +kernel
theorem dX9_readsHut_70 : decode cX9_readsHut 70 = .ok (.iload 5, 2) := by decide +kernel
theorem dX9_readsHut_72 : decode cX9_readsHut 72 = .ok (.invokevirtual 142, 3) := by decide +kernel
theorem dX9_readsHut_75 : decode cX9_readsHut 75 = .ok (.ifCond .eq 10, 3) := by decide +kernel
theorem dX9_readsHut_78 : decode cX9_readsHut 78 = .ok (.aload_n 0, 1) := by decide +kernel
theorem dX9_readsHut_79 : decode cX9_readsHut 79 = .ok (.iload_n 3, 1) := by decide +kernel
theorem dX9_readsHut_80 : decode cX9_readsHut 80 = .ok (.putfield 120, 3) := by decide +kernel
theorem dX9_readsHut_83 : decode cX9_readsHut 83 = .ok (.iconst 0, 1) := by decide +kernel
theorem dX9_readsHut_84 : decode cX9_readsHut 84 = .ok (.ireturn, 1) := by decide +kernel
theorem dX9_readsHut_85 : decode cX9_readsHut 85 = .ok (.aload_n 0, 1) := by decide +kernel
theorem dX9_readsHut_86 : decode cX9_readsHut 86 = .ok (.getfield 48, 3) := by decide +kernel
theorem dX9_readsHut_89 : decode cX9_readsHut 89 = .ok (.iload 4, 2) := by decide +kernel
theorem dX9_readsHut_91 : decode cX9_readsHut 91 = .ok (.iload_n 2, 1) := by decide +kernel
theorem dX9_readsHut_92 : decode cX9_readsHut 92 = .ok (.iastore, 1) := by decide +kernel
theorem dX9_readsHut_93 : decode cX9_readsHut 93 = .ok (.aload_n 0, 1) := by decide +kernel
theorem dX9_readsHut_94 : decode cX9_readsHut 94 = .ok (.getfield 48, 3) := by decide +kernel
theorem dX9_readsHut_97 : decode cX9_readsHut 97 = .ok (.iload 4, 2) := by decide +kernel
theorem dX9_readsHut_99 : decode cX9_readsHut 99 = .ok (.iconst 1, 1) := by decide +kernel
theorem dX9_readsHut_100 : decode cX9_readsHut 100 = .ok (.iadd, 1) := by decide +kernel
theorem dX9_readsHut_101 : decode cX9_readsHut 101 = .ok (.iload 5, 2) := by decide +kernel
theorem dX9_readsHut_103 : decode cX9_readsHut 103 = .ok (.iastore, 1) := by decide +kernel
theorem dX9_readsHut_104 : decode cX9_readsHut 104 = .ok (.iconst 2, 1) := by decide +kernel
theorem dX9_readsHut_105 : decode cX9_readsHut 105 = .ok (.istore 6, 2) := by decide +kernel
theorem dX9_readsHut_107 : decode cX9_readsHut 107 = .ok (.iload 6, 2) := by decide +kernel
theorem dX9_readsHut_109 : decode cX9_readsHut 109 = .ok (.iconst 4, 1) := by decide +kernel
theorem dX9_readsHut_110 : decode cX9_readsHut 110 = .ok (.if_icmp .ge 41, 3) := by decide +kernel
theorem dX9_readsHut_113 : decode cX9_readsHut 113 = .ok (.aload_n 0, 1) := by decide +kernel
theorem dX9_readsHut_114 : decode cX9_readsHut 114 = .ok (.getfield 48, 3) := by decide +kernel
theorem dX9_readsHut_117 : decode cX9_readsHut 117 = .ok (.iload 4, 2) := by decide +kernel
theorem dX9_readsHut_119 : decode cX9_readsHut 119 = .ok (.iload 6, 2) := by decide +kernel
theorem dX9_readsHut_121 : decode cX9_readsHut 121 = .ok (.iadd, 1) := by decide +kernel
theorem dX9_readsHut_122 : decode cX9_readsHut 122 = .ok (.aload_n 0, 1) := by decide +kernel
theorem dX9_readsHut_123 : decode cX9_readsHut 123 = .ok (.iload_n 1, 1) := by decide +kernel
theorem dX9_readsHut_124 : decode cX9_readsHut 124 = .ok (.invokevirtual 126, 3) := by decide +kernel
theorem dX9_readsHut_127 : decode cX9_readsHut 127 = .ok (.iastore, 1) := by decide +kernel
theorem dX9_readsHut_128 : decode cX9_readsHut 128 = .ok (.aload_n 0, 1) := by decide +kernel
theorem dX9_readsHut_129 : decode cX9_readsHut 129 = .ok (.getfield 48, 3) := by decide +kernel
theorem dX9_readsHut_132 : decode cX9_readsHut 132 = .ok (.iload 4, 2) := by decide +kernel
theorem dX9_readsHut_134 : decode cX9_readsHut 134 = .ok (.iload 6, 2) := by decide +kernel
theorem dX9_readsHut_136 : decode cX9_readsHut 136 = .ok (.iadd, 1) := by decide +kernel
theorem dX9_readsHut_137 : decode cX9_readsHut 137 = .ok (.iaload, 1) := by decide +kernel
theorem dX9_readsHut_138 : decode cX9_readsHut 138 = .ok (.bipush (-9), 2) := by decide +kernel
theorem dX9_readsHut_140 : decode cX9_readsHut 140 = .ok (.if_icmp .ne 5, 3) := by decide +kernel
theorem dX9_readsHut_143 : decode cX9_readsHut 143 = .ok (.iconst 0, 1) := by decide +kernel
theorem dX9_readsHut_144 : decode cX9_readsHut 144 = .ok (.ireturn, 1) := by decide +kernel
theorem dX9_readsHut_145 : decode cX9_readsHut 145 = .ok (.iinc 6 1, 3) := by decide +kernel
theorem dX9_readsHut_148 : decode cX9_readsHut 148 = .ok (.goto (-41), 3) := by decide +kernel
theorem dX9_readsHut_151 : decode cX9_readsHut 151 = .ok (.aload_n 0, 1) := by decide +kernel
theorem dX9_readsHut_152 : decode cX9_readsHut 152 = .ok (.dup, 1) := by decide +kernel
theorem dX9_readsHut_153 : decode cX9_readsHut 153 = .ok (.getfield 136, 3) := by decide +kernel
theorem dX9_readsHut_156 : decode cX9_readsHut 156 = .ok (.iconst 1, 1) := by decide +kernel
theorem dX9_readsHut_157 : decode cX9_readsHut 157 = .ok (.iadd, 1) := by decide +kernel
theorem dX9_readsHut_158 : decode cX9_readsHut 158 = .ok (.putfield 136, 3) := by decide +kernel
theorem dX9_readsHut_161 : decode cX9_readsHut 161 = .ok (.iconst 1, 1) := by decide +kernel
theorem dX9_readsHut_162 : decode cX9_readsHut 162 = .ok (.ireturn, 1) := by decide +kernel
theorem dX9_faultOf_0 : decode cX9_faultOf 0 = .ok (.aload_n 0, 1) := by decide +kernel
theorem dX9_faultOf_1 : decode cX9_faultOf 1 = .ok (.iconst 0, 1) := by decide +kernel
theorem dX9_faultOf_2 : decode cX9_faultOf 2 = .ok (.putfield 120, 3) := by decide +kernel
theorem dX9_faultOf_5 : decode cX9_faultOf 5 = .ok (.aload_n 0, 1) := by decide +kernel
theorem dX9_faultOf_6 : decode cX9_faultOf 6 = .ok (.iconst 0, 1) := by decide +kernel
theorem dX9_faultOf_7 : decode cX9_faultOf 7 = .ok (.putfield 136, 3) := by decide +kernel
theorem dX9_faultOf_10 : decode cX9_faultOf 10 = .ok (.aload_n 0, 1) := by decide +kernel
theorem dX9_faultOf_11 : decode cX9_faultOf 11 = .ok (.iconst 0, 1) := by decide +kernel
theorem dX9_faultOf_12 : decode cX9_faultOf 12 = .ok (.putfield 132, 3) := by decide +kernel
theorem dX9_faultOf_15 : decode cX9_faultOf 15 = .ok (.aload_n 0, 1) := by decide +kernel
theorem dX9_faultOf_16 : decode cX9_faultOf 16 = .ok (.getfield 120, 3) := by decide +kernel
theorem dX9_faultOf_19 : decode cX9_faultOf 19 = .ok (.aload_n 0, 1) := by decide +kernel
theorem dX9_faultOf_20 : decode cX9_faultOf 20 = .ok (.getfield 26, 3) := by decide +kernel
theorem dX9_faultOf_23 : decode cX9_faultOf 23 = .ok (.iload_n 1, 1) := by decide +kernel
theorem dX9_faultOf_24 : decode cX9_faultOf 24 = .ok (.iaload, 1) := by decide +kernel
theorem dX9_faultOf_25 : decode cX9_faultOf 25 = .ok (.if_icmp .ge 61, 3) := by decide +kernel
theorem dX9_faultOf_28 : decode cX9_faultOf 28 = .ok (.aload_n 0, 1) := by decide +kernel
theorem dX9_faultOf_29 : decode cX9_faultOf 29 = .ok (.iload_n 1, 1) := by decide +kernel
theorem dX9_faultOf_30 : decode cX9_faultOf 30 = .ok (.aload_n 0, 1) := by decide +kernel
theorem dX9_faultOf_31 : decode cX9_faultOf 31 = .ok (.getfield 120, 3) := by decide +kernel
theorem dX9_faultOf_34 : decode cX9_faultOf 34 = .ok (.invokevirtual 123, 3) := by decide +kernel
theorem dX9_faultOf_37 : decode cX9_faultOf 37 = .ok (.bipush 32, 2) := by decide +kernel
theorem dX9_faultOf_39 : decode cX9_faultOf 39 = .ok (.if_icmp .ne 16, 3) := by decide +kernel
theorem dX9_faultOf_42 : decode cX9_faultOf 42 = .ok (.aload_n 0, 1) := by decide +kernel
theorem dX9_faultOf_43 : decode cX9_faultOf 43 = .ok (.dup, 1) := by decide +kernel
theorem dX9_faultOf_44 : decode cX9_faultOf 44 = .ok (.getfield 120, 3) := by decide +kernel
theorem dX9_faultOf_47 : decode cX9_faultOf 47 = .ok (.iconst 1, 1) := by decide +kernel
theorem dX9_faultOf_48 : decode cX9_faultOf 48 = .ok (.iadd, 1) := by decide +kernel
theorem dX9_faultOf_49 : decode cX9_faultOf 49 = .ok (.putfield 120, 3) := by decide +kernel
theorem dX9_faultOf_52 : decode cX9_faultOf 52 = .ok (.goto (-37), 3) := by decide +kernel
theorem dX9_faultOf_55 : decode cX9_faultOf 55 = .ok (.aload_n 0, 1) := by decide +kernel
theorem dX9_faultOf_56 : decode cX9_faultOf 56 = .ok (.getfield 132, 3) := by decide +kernel
theorem dX9_faultOf_59 : decode cX9_faultOf 59 = .ok (.ifCond .eq 14, 3) := by decide +kernel
theorem dX9_faultOf_62 : decode cX9_faultOf 62 = .ok (.aload_n 0, 1) := by decide +kernel
theorem dX9_faultOf_63 : decode cX9_faultOf 63 = .ok (.iload_n 1, 1) := by decide +kernel
theorem dX9_faultOf_64 : decode cX9_faultOf 64 = .ok (.invokevirtual 145, 3) := by decide +kernel
theorem dX9_faultOf_67 : decode cX9_faultOf 67 = .ok (.ifCond .eq 14, 3) := by decide +kernel
theorem dX9_faultOf_70 : decode cX9_faultOf 70 = .ok (.goto (-55), 3) := by decide +kernel
theorem dX9_faultOf_73 : decode cX9_faultOf 73 = .ok (.aload_n 0, 1) := by decide +kernel
theorem dX9_faultOf_74 : decode cX9_faultOf 74 = .ok (.iload_n 1, 1) := by decide +kernel
theorem dX9_faultOf_75 : decode cX9_faultOf 75 = .ok (.invokevirtual 148, 3) := by decide +kernel
theorem dX9_faultOf_78 : decode cX9_faultOf 78 = .ok (.ifCond .ne (-63), 3) := by decide +kernel
theorem dX9_faultOf_81 : decode cX9_faultOf 81 = .ok (.aload_n 0, 1) := by decide +kernel
theorem dX9_faultOf_82 : decode cX9_faultOf 82 = .ok (.getfield 120, 3) := by decide +kernel
theorem dX9_faultOf_85 : decode cX9_faultOf 85 = .ok (.ireturn, 1) := by decide +kernel
theorem dX9_faultOf_86 : decode cX9_faultOf 86 = .ok (.aload_n 0, 1) := by decide +kernel
theorem dX9_faultOf_87 : decode cX9_faultOf 87 = .ok (.getfield 136, 3) := by decide +kernel
theorem dX9_faultOf_90 : decode cX9_faultOf 90 = .ok (.ifCond .ne 12, 3) := by decide +kernel
theorem dX9_faultOf_93 : decode cX9_faultOf 93 = .ok (.aload_n 0, 1) := by decide +kernel
theorem dX9_faultOf_94 : decode cX9_faultOf 94 = .ok (.getfield 26, 3) := by decide +kernel
theorem dX9_faultOf_97 : decode cX9_faultOf 97 = .ok (.iload_n 1, 1) := by decide +kernel
theorem dX9_faultOf_98 : decode cX9_faultOf 98 = .ok (.iaload, 1) := by decide +kernel
theorem dX9_faultOf_99 : decode cX9_faultOf 99 = .ok (.goto 5, 3) := by decide +kernel
theorem dX9_faultOf_102 : decode cX9_faultOf 102 = .ok (.bipush (-9), 2) := by decide +kernel
theorem dX9_faultOf_104 : decode cX9_faultOf 104 = .ok (.ireturn, 1) := by decide +kernel
theorem dX9_fault_0 : decode cX9_fault 0 = .ok (.iload_n 1, 1) := by decide +kernel
theorem dX9_fault_1 : decode cX9_fault 1 = .ok (.invokestatic 117, 3) := by decide +kernel
theorem dX9_fault_4 : decode cX9_fault 4 = .ok (.ifCond .ne 5, 3) := by decide +kernel
theorem dX9_fault_7 : decode cX9_fault 7 = .ok (.iconst (-1), 1) := by decide +kernel
theorem dX9_fault_8 : decode cX9_fault 8 = .ok (.ireturn, 1) := by decide +kernel
theorem dX9_fault_9 : decode cX9_fault 9 = .ok (.aload_n 0, 1) := by decide +kernel
theorem dX9_fault_10 : decode cX9_fault 10 = .ok (.getfield 26, 3) := by decide +kernel
theorem dX9_fault_13 : decode cX9_fault 13 = .ok (.iload_n 1, 1) := by decide +kernel
theorem dX9_fault_14 : decode cX9_fault 14 = .ok (.iaload, 1) := by decide +kernel
theorem dX9_fault_15 : decode cX9_fault 15 = .ok (.ifCond .ge 11, 3) := by decide +kernel
theorem dX9_fault_18 : decode cX9_fault 18 = .ok (.aload_n 0, 1) := by decide +kernel
theorem dX9_fault_19 : decode cX9_fault 19 = .ok (.iconst 1, 1) := by decide +kernel
theorem dX9_fault_20 : decode cX9_fault 20 = .ok (.invokevirtual 106, 3) := by decide +kernel
theorem dX9_fault_23 : decode cX9_fault 23 = .ok (.goto 8, 3) := by decide +kernel
theorem dX9_fault_26 : decode cX9_fault 26 = .ok (.aload_n 0, 1) := by decide +kernel
theorem dX9_fault_27 : decode cX9_fault 27 = .ok (.iload_n 1, 1) := by decide +kernel
theorem dX9_fault_28 : decode cX9_fault 28 = .ok (.invokevirtual 151, 3) := by decide +kernel
theorem dX9_fault_31 : decode cX9_fault 31 = .ok (.ireturn, 1) := by decide +kernel
theorem dX9_front_0 : decode cX9_front 0 = .ok (.iload_n 1, 1) := by decide +kernel
theorem dX9_front_1 : decode cX9_front 1 = .ok (.invokestatic 117, 3) := by decide +kernel
theorem dX9_front_4 : decode cX9_front 4 = .ok (.ifCond .ne 5, 3) := by decide +kernel
theorem dX9_front_7 : decode cX9_front 7 = .ok (.iconst (-1), 1) := by decide +kernel
theorem dX9_front_8 : decode cX9_front 8 = .ok (.ireturn, 1) := by decide +kernel
theorem dX9_front_9 : decode cX9_front 9 = .ok (.aload_n 0, 1) := by decide +kernel
theorem dX9_front_10 : decode cX9_front 10 = .ok (.getfield 26, 3) := by decide +kernel
theorem dX9_front_13 : decode cX9_front 13 = .ok (.iload_n 1, 1) := by decide +kernel
theorem dX9_front_14 : decode cX9_front 14 = .ok (.iaload, 1) := by decide +kernel
theorem dX9_front_15 : decode cX9_front 15 = .ok (.ifCond .ge 9, 3) := by decide +kernel
theorem dX9_front_18 : decode cX9_front 18 = .ok (.aload_n 0, 1) := by decide +kernel
theorem dX9_front_19 : decode cX9_front 19 = .ok (.iconst 1, 1) := by decide +kernel
theorem dX9_front_20 : decode cX9_front 20 = .ok (.invokevirtual 106, 3) := by decide +kernel
theorem dX9_front_23 : decode cX9_front 23 = .ok (.ireturn, 1) := by decide +kernel
theorem dX9_front_24 : decode cX9_front 24 = .ok (.aload_n 0, 1) := by decide +kernel
theorem dX9_front_25 : decode cX9_front 25 = .ok (.iload_n 1, 1) := by decide +kernel
theorem dX9_front_26 : decode cX9_front 26 = .ok (.invokevirtual 151, 3) := by decide +kernel
theorem dX9_front_29 : decode cX9_front 29 = .ok (.bipush (-9), 2) := by decide +kernel
theorem dX9_front_31 : decode cX9_front 31 = .ok (.if_icmp .eq 6, 3) := by decide +kernel
theorem dX9_front_34 : decode cX9_front 34 = .ok (.bipush (-4), 2) := by decide +kernel
theorem dX9_front_36 : decode cX9_front 36 = .ok (.ireturn, 1) := by decide +kernel
theorem dX9_front_37 : decode cX9_front 37 = .ok (.aload_n 0, 1) := by decide +kernel
theorem dX9_front_38 : decode cX9_front 38 = .ok (.aload_n 0, 1) := by decide +kernel
theorem dX9_front_39 : decode cX9_front 39 = .ok (.getfield 136, 3) := by decide +kernel
theorem dX9_front_42 : decode cX9_front 42 = .ok (.putfield 154, 3) := by decide +kernel
theorem dX9_front_45 : decode cX9_front 45 = .ok (.iconst 0, 1) := by decide +kernel
theorem dX9_front_46 : decode cX9_front 46 = .ok (.istore_n 2, 1) := by decide +kernel
theorem dX9_front_47 : decode cX9_front 47 = .ok (.iload_n 2, 1) := by decide +kernel
theorem dX9_front_48 : decode cX9_front 48 = .ok (.iconst 4, 1) := by decide +kernel
theorem dX9_front_49 : decode cX9_front 49 = .ok (.if_icmp .ge 21, 3) := by decide +kernel
theorem dX9_front_52 : decode cX9_front 52 = .ok (.aload_n 0, 1) := by decide +kernel
theorem dX9_front_53 : decode cX9_front 53 = .ok (.getfield 36, 3) := by decide +kernel
theorem dX9_front_56 : decode cX9_front 56 = .ok (.iload_n 2, 1) := by decide +kernel
theorem dX9_front_57 : decode cX9_front 57 = .ok (.aload_n 0, 1) := by decide +kernel
theorem dX9_front_58 : decode cX9_front 58 = .ok (.getfield 45, 3) := by decide +kernel
theorem dX9_front_61 : decode cX9_front 61 = .ok (.iload_n 2, 1) := by decide +kernel
theorem dX9_front_62 : decode cX9_front 62 = .ok (.iaload, 1) := by decide +kernel
theorem dX9_front_63 : decode cX9_front 63 = .ok (.iastore, 1) := by decide +kernel
theorem dX9_front_64 : decode cX9_front 64 = .ok (.iinc 2 1, 3) := by decide +kernel
theorem dX9_front_67 : decode cX9_front 67 = .ok (.goto (-20), 3) := by decide +kernel
theorem dX9_front_70 : decode cX9_front 70 = .ok (.iconst 0, 1) := by decide +kernel
theorem dX9_front_71 : decode cX9_front 71 = .ok (.istore_n 2, 1) := by decide +kernel
theorem dX9_front_72 : decode cX9_front 72 = .ok (.iload_n 2, 1) := by decide +kernel
theorem dX9_front_73 : decode cX9_front 73 = .ok (.bipush 26, 2) := by decide +kernel
theorem dX9_front_75 : decode cX9_front 75 = .ok (.if_icmp .ge 16, 3) := by decide +kernel
theorem dX9_front_78 : decode cX9_front 78 = .ok (.aload_n 0, 1) := by decide +kernel
theorem dX9_front_79 : decode cX9_front 79 = .ok (.getfield 39, 3) := by decide +kernel
theorem dX9_front_82 : decode cX9_front 82 = .ok (.iload_n 2, 1) := by decide +kernel
theorem dX9_front_83 : decode cX9_front 83 = .ok (.iconst 0, 1) := by decide +kernel
theorem dX9_front_84 : decode cX9_front 84 = .ok (.iastore, 1) := by decide +kernel
theorem dX9_front_85 : decode cX9_front 85 = .ok (.iinc 2 1, 3) := by decide +kernel
theorem dX9_front_88 : decode cX9_front 88 = .ok (.goto (-16), 3) := by decide +kernel
theorem dX9_front_91 : decode cX9_front 91 = .ok (.aload_n 0, 1) := by decide +kernel
theorem dX9_front_92 : decode cX9_front 92 = .ok (.getfield 39, 3) := by decide +kernel
theorem dX9_front_95 : decode cX9_front 95 = .ok (.iconst 1, 1) := by decide +kernel
theorem dX9_front_96 : decode cX9_front 96 = .ok (.aload_n 0, 1) := by decide +kernel
theorem dX9_front_97 : decode cX9_front 97 = .ok (.getfield 129, 3) := by decide +kernel
theorem dX9_front_100 : decode cX9_front 100 = .ok (.iastore, 1) := by decide +kernel
theorem dX9_front_101 : decode cX9_front 101 = .ok (.iconst 0, 1) := by decide +kernel
theorem dX9_front_102 : decode cX9_front 102 = .ok (.istore_n 2, 1) := by decide +kernel
theorem dX9_front_103 : decode cX9_front 103 = .ok (.iload_n 2, 1) := by decide +kernel
theorem dX9_front_104 : decode cX9_front 104 = .ok (.aload_n 0, 1) := by decide +kernel
theorem dX9_front_105 : decode cX9_front 105 = .ok (.getfield 154, 3) := by decide +kernel
theorem dX9_front_108 : decode cX9_front 108 = .ok (.if_icmp .ge 96, 3) := by decide +kernel
theorem dX9_front_111 : decode cX9_front 111 = .ok (.aload_n 0, 1) := by decide +kernel
theorem dX9_front_112 : decode cX9_front 112 = .ok (.getfield 33, 3) := by decide +kernel
theorem dX9_front_115 : decode cX9_front 115 = .ok (.iload_n 2, 1) := by decide +kernel
theorem dX9_front_116 : decode cX9_front 116 = .ok (.aload_n 0, 1) := by decide +kernel
theorem dX9_front_117 : decode cX9_front 117 = .ok (.getfield 48, 3) := by decide +kernel
theorem dX9_front_120 : decode cX9_front 120 = .ok (.iconst 4, 1) := by decide +kernel
theorem dX9_front_121 : decode cX9_front 121 = .ok (.iload_n 2, 1) := by decide +kernel
theorem dX9_front_122 : decode cX9_front 122 = .ok (.imul, 1) := by decide +kernel
theorem dX9_front_123 : decode cX9_front 123 = .ok (.iaload, 1) := by decide +kernel
theorem dX9_front_124 : decode cX9_front 124 = .ok (.iastore, 1) := by decide +kernel
theorem dX9_front_125 : decode cX9_front 125 = .ok (.aload_n 0, 1) := by decide +kernel
theorem dX9_front_126 : decode cX9_front 126 = .ok (.getfield 39, 3) := by decide +kernel
theorem dX9_front_129 : decode cX9_front 129 = .ok (.iconst 2, 1) := by decide +kernel
theorem dX9_front_130 : decode cX9_front 130 = .ok (.iload_n 2, 1) := by decide +kernel
theorem dX9_front_131 : decode cX9_front 131 = .ok (.iadd, 1) := by decide +kernel
theorem dX9_front_132 : decode cX9_front 132 = .ok (.aload_n 0, 1) := by decide +kernel
theorem dX9_front_133 : decode cX9_front 133 = .ok (.getfield 48, 3) := by decide +kernel
theorem dX9_front_136 : decode cX9_front 136 = .ok (.iconst 4, 1) := by decide +kernel
theorem dX9_front_137 : decode cX9_front 137 = .ok (.iload_n 2, 1) := by decide +kernel
theorem dX9_front_138 : decode cX9_front 138 = .ok (.imul, 1) := by decide +kernel
theorem dX9_front_139 : decode cX9_front 139 = .ok (.iconst 1, 1) := by decide +kernel
theorem dX9_front_140 : decode cX9_front 140 = .ok (.iadd, 1) := by decide +kernel
theorem dX9_front_141 : decode cX9_front 141 = .ok (.iaload, 1) := by decide +kernel
theorem dX9_front_142 : decode cX9_front 142 = .ok (.iastore, 1) := by decide +kernel
theorem dX9_front_143 : decode cX9_front 143 = .ok (.aload_n 0, 1) := by decide +kernel
theorem dX9_front_144 : decode cX9_front 144 = .ok (.getfield 39, 3) := by decide +kernel
theorem dX9_front_147 : decode cX9_front 147 = .ok (.bipush 8, 2) := by decide +kernel
theorem dX9_front_149 : decode cX9_front 149 = .ok (.iload_n 2, 1) := by decide +kernel
theorem dX9_front_150 : decode cX9_front 150 = .ok (.iadd, 1) := by decide +kernel
theorem dX9_front_151 : decode cX9_front 151 = .ok (.aload_n 0, 1) := by decide +kernel
theorem dX9_front_152 : decode cX9_front 152 = .ok (.getfield 48, 3) := by decide +kernel
theorem dX9_front_155 : decode cX9_front 155 = .ok (.iconst 4, 1) := by decide +kernel
theorem dX9_front_156 : decode cX9_front 156 = .ok (.iload_n 2, 1) := by decide +kernel
theorem dX9_front_157 : decode cX9_front 157 = .ok (.imul, 1) := by decide +kernel
theorem dX9_front_158 : decode cX9_front 158 = .ok (.iconst 2, 1) := by decide +kernel
theorem dX9_front_159 : decode cX9_front 159 = .ok (.iadd, 1) := by decide +kernel
theorem dX9_front_160 : decode cX9_front 160 = .ok (.iaload, 1) := by decide +kernel
theorem dX9_front_161 : decode cX9_front 161 = .ok (.iastore, 1) := by decide +kernel
theorem dX9_front_162 : decode cX9_front 162 = .ok (.aload_n 0, 1) := by decide +kernel
theorem dX9_front_163 : decode cX9_front 163 = .ok (.getfield 39, 3) := by decide +kernel
theorem dX9_front_166 : decode cX9_front 166 = .ok (.bipush 14, 2) := by decide +kernel
theorem dX9_front_168 : decode cX9_front 168 = .ok (.iload_n 2, 1) := by decide +kernel
theorem dX9_front_169 : decode cX9_front 169 = .ok (.iadd, 1) := by decide +kernel
theorem dX9_front_170 : decode cX9_front 170 = .ok (.aload_n 0, 1) := by decide +kernel
theorem dX9_front_171 : decode cX9_front 171 = .ok (.getfield 48, 3) := by decide +kernel
theorem dX9_front_174 : decode cX9_front 174 = .ok (.iconst 4, 1) := by decide +kernel
theorem dX9_front_175 : decode cX9_front 175 = .ok (.iload_n 2, 1) := by decide +kernel
theorem dX9_front_176 : decode cX9_front 176 = .ok (.imul, 1) := by decide +kernel
theorem dX9_front_177 : decode cX9_front 177 = .ok (.iconst 3, 1) := by decide +kernel
theorem dX9_front_178 : decode cX9_front 178 = .ok (.iadd, 1) := by decide +kernel
theorem dX9_front_179 : decode cX9_front 179 = .ok (.iaload, 1) := by decide +kernel
theorem dX9_front_180 : decode cX9_front 180 = .ok (.iastore, 1) := by decide +kernel
theorem dX9_front_181 : decode cX9_front 181 = .ok (.aload_n 0, 1) := by decide +kernel
theorem dX9_front_182 : decode cX9_front 182 = .ok (.getfield 39, 3) := by decide +kernel
theorem dX9_front_185 : decode cX9_front 185 = .ok (.bipush 20, 2) := by decide +kernel
theorem dX9_front_187 : decode cX9_front 187 = .ok (.iload_n 2, 1) := by decide +kernel
theorem dX9_front_188 : decode cX9_front 188 = .ok (.iadd, 1) := by decide +kernel
theorem dX9_front_189 : decode cX9_front 189 = .ok (.aload_n 0, 1) := by decide +kernel
theorem dX9_front_190 : decode cX9_front 190 = .ok (.getfield 39, 3) := by decide +kernel
theorem dX9_front_193 : decode cX9_front 193 = .ok (.iconst 2, 1) := by decide +kernel
theorem dX9_front_194 : decode cX9_front 194 = .ok (.iload_n 2, 1) := by decide +kernel
theorem dX9_front_195 : decode cX9_front 195 = .ok (.iadd, 1) := by decide +kernel
theorem dX9_front_196 : decode cX9_front 196 = .ok (.iaload, 1) := by decide +kernel
theorem dX9_front_197 : decode cX9_front 197 = .ok (.iastore, 1) := by decide +kernel
theorem dX9_front_198 : decode cX9_front 198 = .ok (.iinc 2 1, 3) := by decide +kernel
theorem dX9_front_201 : decode cX9_front 201 = .ok (.goto (-98), 3) := by decide +kernel
theorem dX9_front_204 : decode cX9_front 204 = .ok (.aload_n 0, 1) := by decide +kernel
theorem dX9_front_205 : decode cX9_front 205 = .ok (.iconst 0, 1) := by decide +kernel
theorem dX9_front_206 : decode cX9_front 206 = .ok (.putfield 157, 3) := by decide +kernel
theorem dX9_front_209 : decode cX9_front 209 = .ok (.iconst 0, 1) := by decide +kernel
theorem dX9_front_210 : decode cX9_front 210 = .ok (.istore_n 2, 1) := by decide +kernel
theorem dX9_front_211 : decode cX9_front 211 = .ok (.iload_n 2, 1) := by decide +kernel
theorem dX9_front_212 : decode cX9_front 212 = .ok (.iconst 3, 1) := by decide +kernel
theorem dX9_front_213 : decode cX9_front 213 = .ok (.if_icmp .ge 16, 3) := by decide +kernel
theorem dX9_front_216 : decode cX9_front 216 = .ok (.aload_n 0, 1) := by decide +kernel
theorem dX9_front_217 : decode cX9_front 217 = .ok (.getfield 57, 3) := by decide +kernel
theorem dX9_front_220 : decode cX9_front 220 = .ok (.iload_n 2, 1) := by decide +kernel
theorem dX9_front_221 : decode cX9_front 221 = .ok (.iconst 0, 1) := by decide +kernel
theorem dX9_front_222 : decode cX9_front 222 = .ok (.bastore, 1) := by decide +kernel
theorem dX9_front_223 : decode cX9_front 223 = .ok (.iinc 2 1, 3) := by decide +kernel
theorem dX9_front_226 : decode cX9_front 226 = .ok (.goto (-15), 3) := by decide +kernel
theorem dX9_front_229 : decode cX9_front 229 = .ok (.aload_n 0, 1) := by decide +kernel
theorem dX9_front_230 : decode cX9_front 230 = .ok (.getfield 154, 3) := by decide +kernel
theorem dX9_front_233 : decode cX9_front 233 = .ok (.ireturn, 1) := by decide +kernel
theorem dX9_isHut_0 : decode cX9_isHut 0 = .ok (.iload_n 1, 1) := by decide +kernel
theorem dX9_isHut_1 : decode cX9_isHut 1 = .ok (.iconst 0, 1) := by decide +kernel
theorem dX9_isHut_2 : decode cX9_isHut 2 = .ok (.aload_n 0, 1) := by decide +kernel
theorem dX9_isHut_3 : decode cX9_isHut 3 = .ok (.getfield 154, 3) := by decide +kernel
theorem dX9_isHut_6 : decode cX9_isHut 6 = .ok (.iconst 1, 1) := by decide +kernel
theorem dX9_isHut_7 : decode cX9_isHut 7 = .ok (.isub, 1) := by decide +kernel
theorem dX9_isHut_8 : decode cX9_isHut 8 = .ok (.invokestatic 92, 3) := by decide +kernel
theorem dX9_isHut_11 : decode cX9_isHut 11 = .ok (.ireturn, 1) := by decide +kernel
theorem dX9_stays_0 : decode cX9_stays 0 = .ok (.iload_n 0, 1) := by decide +kernel
theorem dX9_stays_1 : decode cX9_stays 1 = .ok (.iconst 2, 1) := by decide +kernel
theorem dX9_stays_2 : decode cX9_stays 2 = .ok (.if_icmp .ne 12, 3) := by decide +kernel
theorem dX9_stays_5 : decode cX9_stays 5 = .ok (.iload_n 1, 1) := by decide +kernel
theorem dX9_stays_6 : decode cX9_stays 6 = .ok (.iconst 4, 1) := by decide +kernel
theorem dX9_stays_7 : decode cX9_stays 7 = .ok (.if_icmp .le 7, 3) := by decide +kernel
theorem dX9_stays_10 : decode cX9_stays 10 = .ok (.iconst 1, 1) := by decide +kernel
theorem dX9_stays_11 : decode cX9_stays 11 = .ok (.goto 4, 3) := by decide +kernel
theorem dX9_stays_14 : decode cX9_stays 14 = .ok (.iconst 0, 1) := by decide +kernel
theorem dX9_stays_15 : decode cX9_stays 15 = .ok (.ireturn, 1) := by decide +kernel
theorem dX9_tiredBy_0 : decode cX9_tiredBy 0 = .ok (.iload_n 0, 1) := by decide +kernel
theorem dX9_tiredBy_1 : decode cX9_tiredBy 1 = .ok (.tableswitch 60 1 5 #[35, 39, 50, 35, 54], 35) := by decide +kernel
theorem dX9_tiredBy_36 : decode cX9_tiredBy 36 = .ok (.iload_n 1, 1) := by decide +kernel
theorem dX9_tiredBy_37 : decode cX9_tiredBy 37 = .ok (.iconst 1, 1) := by decide +kernel
theorem dX9_tiredBy_38 : decode cX9_tiredBy 38 = .ok (.iadd, 1) := by decide +kernel
theorem dX9_tiredBy_39 : decode cX9_tiredBy 39 = .ok (.ireturn, 1) := by decide +kernel
theorem dX9_tiredBy_40 : decode cX9_tiredBy 40 = .ok (.iload_n 1, 1) := by decide +kernel
theorem dX9_tiredBy_41 : decode cX9_tiredBy 41 = .ok (.iconst 4, 1) := by decide +kernel
theorem dX9_tiredBy_42 : decode cX9_tiredBy 42 = .ok (.if_icmp .le 7, 3) := by decide +kernel
theorem dX9_tiredBy_45 : decode cX9_tiredBy 45 = .ok (.iconst 0, 1) := by decide +kernel
theorem dX9_tiredBy_46 : decode cX9_tiredBy 46 = .ok (.goto 4, 3) := by decide +kernel
theorem dX9_tiredBy_49 : decode cX9_tiredBy 49 = .ok (.iload_n 1, 1) := by decide +kernel
theorem dX9_tiredBy_50 : decode cX9_tiredBy 50 = .ok (.ireturn, 1) := by decide +kernel
theorem dX9_tiredBy_51 : decode cX9_tiredBy 51 = .ok (.iload_n 1, 1) := by decide +kernel
theorem dX9_tiredBy_52 : decode cX9_tiredBy 52 = .ok (.iconst 2, 1) := by decide +kernel
theorem dX9_tiredBy_53 : decode cX9_tiredBy 53 = .ok (.idiv, 1) := by decide +kernel
theorem dX9_tiredBy_54 : decode cX9_tiredBy 54 = .ok (.ireturn, 1) := by decide +kernel
theorem dX9_tiredBy_55 : decode cX9_tiredBy 55 = .ok (.iload_n 1, 1) := by decide +kernel
theorem dX9_tiredBy_56 : decode cX9_tiredBy 56 = .ok (.iconst 2, 1) := by decide +kernel
theorem dX9_tiredBy_57 : decode cX9_tiredBy 57 = .ok (.idiv, 1) := by decide +kernel
theorem dX9_tiredBy_58 : decode cX9_tiredBy 58 = .ok (.iconst 1, 1) := by decide +kernel
theorem dX9_tiredBy_59 : decode cX9_tiredBy 59 = .ok (.iadd, 1) := by decide +kernel
theorem dX9_tiredBy_60 : decode cX9_tiredBy 60 = .ok (.ireturn, 1) := by decide +kernel
theorem dX9_tiredBy_61 : decode cX9_tiredBy 61 = .ok (.iload_n 1, 1) := by decide +kernel
theorem dX9_tiredBy_62 : decode cX9_tiredBy 62 = .ok (.ireturn, 1) := by decide +kernel
theorem dX9_lateBy_0 : decode cX9_lateBy 0 = .ok (.iload_n 0, 1) := by decide +kernel
theorem dX9_lateBy_1 : decode cX9_lateBy 1 = .ok (.tableswitch 41 1 5 #[35, 41, 37, 39, 39], 35) := by decide +kernel
theorem dX9_lateBy_36 : decode cX9_lateBy 36 = .ok (.iconst 3, 1) := by decide +kernel
theorem dX9_lateBy_37 : decode cX9_lateBy 37 = .ok (.ireturn, 1) := by decide +kernel
theorem dX9_lateBy_38 : decode cX9_lateBy 38 = .ok (.iconst 0, 1) := by decide +kernel
theorem dX9_lateBy_39 : decode cX9_lateBy 39 = .ok (.ireturn, 1) := by decide +kernel
theorem dX9_lateBy_40 : decode cX9_lateBy 40 = .ok (.iconst 2, 1) := by decide +kernel
theorem dX9_lateBy_41 : decode cX9_lateBy 41 = .ok (.ireturn, 1) := by decide +kernel
theorem dX9_lateBy_42 : decode cX9_lateBy 42 = .ok (.iconst 1, 1) := by decide +kernel
theorem dX9_lateBy_43 : decode cX9_lateBy 43 = .ok (.ireturn, 1) := by decide +kernel
theorem dX9_isThere_0 : decode cX9_isThere 0 = .ok (.aload_n 0, 1) := by decide +kernel
theorem dX9_isThere_1 : decode cX9_isThere 1 = .ok (.bipush 20, 2) := by decide +kernel
theorem dX9_isThere_3 : decode cX9_isThere 3 = .ok (.iload_n 1, 1) := by decide +kernel
theorem dX9_isThere_4 : decode cX9_isThere 4 = .ok (.iadd, 1) := by decide +kernel
theorem dX9_isThere_5 : decode cX9_isThere 5 = .ok (.iaload, 1) := by decide +kernel
theorem dX9_isThere_6 : decode cX9_isThere 6 = .ok (.bipush (-9), 2) := by decide +kernel
theorem dX9_isThere_8 : decode cX9_isThere 8 = .ok (.if_icmp .eq 7, 3) := by decide +kernel
theorem dX9_isThere_11 : decode cX9_isThere 11 = .ok (.iconst 1, 1) := by decide +kernel
theorem dX9_isThere_12 : decode cX9_isThere 12 = .ok (.goto 4, 3) := by decide +kernel
theorem dX9_isThere_15 : decode cX9_isThere 15 = .ok (.iconst 0, 1) := by decide +kernel
theorem dX9_isThere_16 : decode cX9_isThere 16 = .ok (.ireturn, 1) := by decide +kernel
theorem dX9_there_0 : decode cX9_there 0 = .ok (.iconst 0, 1) := by decide +kernel
theorem dX9_there_1 : decode cX9_there 1 = .ok (.istore_n 2, 1) := by decide +kernel
theorem dX9_there_2 : decode cX9_there 2 = .ok (.iconst 0, 1) := by decide +kernel
theorem dX9_there_3 : decode cX9_there 3 = .ok (.istore_n 3, 1) := by decide +kernel
theorem dX9_there_4 : decode cX9_there 4 = .ok (.iload_n 3, 1) := by decide +kernel
theorem dX9_there_5 : decode cX9_there 5 = .ok (.aload_n 0, 1) := by decide +kernel
theorem dX9_there_6 : decode cX9_there 6 = .ok (.getfield 154, 3) := by decide +kernel
theorem dX9_there_9 : decode cX9_there 9 = .ok (.if_icmp .ge 27, 3) := by decide +kernel
theorem dX9_there_12 : decode cX9_there 12 = .ok (.iload_n 2, 1) := by decide +kernel
theorem dX9_there_13 : decode cX9_there 13 = .ok (.aload_n 1, 1) := by decide +kernel
theorem dX9_there_14 : decode cX9_there 14 = .ok (.iload_n 3, 1) := by decide +kernel
theorem dX9_there_15 : decode cX9_there 15 = .ok (.invokestatic 160, 3) := by decide +kernel
theorem dX9_there_18 : decode cX9_there 18 = .ok (.ifCond .eq 9, 3) := by decide +kernel
theorem dX9_there_21 : decode cX9_there 21 = .ok (.iconst 1, 1) := by decide +kernel
theorem dX9_there_22 : decode cX9_there 22 = .ok (.iload_n 3, 1) := by decide +kernel
theorem dX9_there_23 : decode cX9_there 23 = .ok (.ishl, 1) := by decide +kernel
theorem dX9_there_24 : decode cX9_there 24 = .ok (.goto 4, 3) := by decide +kernel
theorem dX9_there_27 : decode cX9_there 27 = .ok (.iconst 0, 1) := by decide +kernel
theorem dX9_there_28 : decode cX9_there 28 = .ok (.ior, 1) := by decide +kernel
theorem dX9_there_29 : decode cX9_there 29 = .ok (.istore_n 2, 1) := by decide +kernel
theorem dX9_there_30 : decode cX9_there 30 = .ok (.iinc 3 1, 3) := by decide +kernel
theorem dX9_there_33 : decode cX9_there 33 = .ok (.goto (-29), 3) := by decide +kernel
theorem dX9_there_36 : decode cX9_there 36 = .ok (.iload_n 2, 1) := by decide +kernel
theorem dX9_there_37 : decode cX9_there 37 = .ok (.ireturn, 1) := by decide +kernel
theorem dX9_windOf_0 : decode cX9_windOf 0 = .ok (.aload_n 0, 1) := by decide +kernel
theorem dX9_windOf_1 : decode cX9_windOf 1 = .ok (.getfield 36, 3) := by decide +kernel
theorem dX9_windOf_4 : decode cX9_windOf 4 = .ok (.aload_n 1, 1) := by decide +kernel
theorem dX9_windOf_5 : decode cX9_windOf 5 = .ok (.iconst 0, 1) := by decide +kernel
theorem dX9_windOf_6 : decode cX9_windOf 6 = .ok (.iaload, 1) := by decide +kernel
theorem dX9_windOf_7 : decode cX9_windOf 7 = .ok (.iconst 4, 1) := by decide +kernel
theorem dX9_windOf_8 : decode cX9_windOf 8 = .ok (.irem, 1) := by decide +kernel
theorem dX9_windOf_9 : decode cX9_windOf 9 = .ok (.iaload, 1) := by decide +kernel
theorem dX9_windOf_10 : decode cX9_windOf 10 = .ok (.ireturn, 1) := by decide +kernel
theorem dX9_wanted_0 : decode cX9_wanted 0 = .ok (.aload_n 0, 1) := by decide +kernel
theorem dX9_wanted_1 : decode cX9_wanted 1 = .ok (.getfield 33, 3) := by decide +kernel
theorem dX9_wanted_4 : decode cX9_wanted 4 = .ok (.iload_n 2, 1) := by decide +kernel
theorem dX9_wanted_5 : decode cX9_wanted 5 = .ok (.iaload, 1) := by decide +kernel
theorem dX9_wanted_6 : decode cX9_wanted 6 = .ok (.iconst 4, 1) := by decide +kernel
theorem dX9_wanted_7 : decode cX9_wanted 7 = .ok (.if_icmp .ne 16, 3) := by decide +kernel
theorem dX9_wanted_10 : decode cX9_wanted 10 = .ok (.aload_n 1, 1) := by decide +kernel
theorem dX9_wanted_11 : decode cX9_wanted 11 = .ok (.iconst 2, 1) := by decide +kernel
theorem dX9_wanted_12 : decode cX9_wanted 12 = .ok (.iload_n 2, 1) := by decide +kernel
theorem dX9_wanted_13 : decode cX9_wanted 13 = .ok (.iadd, 1) := by decide +kernel
theorem dX9_wanted_14 : decode cX9_wanted 14 = .ok (.iaload, 1) := by decide +kernel
theorem dX9_wanted_15 : decode cX9_wanted 15 = .ok (.iconst 1, 1) := by decide +kernel
theorem dX9_wanted_16 : decode cX9_wanted 16 = .ok (.iadd, 1) := by decide +kernel
theorem dX9_wanted_17 : decode cX9_wanted 17 = .ok (.bipush 10, 2) := by decide +kernel
theorem dX9_wanted_19 : decode cX9_wanted 19 = .ok (.irem, 1) := by decide +kernel
theorem dX9_wanted_20 : decode cX9_wanted 20 = .ok (.goto 8, 3) := by decide +kernel
theorem dX9_wanted_23 : decode cX9_wanted 23 = .ok (.aload_n 1, 1) := by decide +kernel
theorem dX9_wanted_24 : decode cX9_wanted 24 = .ok (.iconst 2, 1) := by decide +kernel
theorem dX9_wanted_25 : decode cX9_wanted 25 = .ok (.iload_n 2, 1) := by decide +kernel
theorem dX9_wanted_26 : decode cX9_wanted 26 = .ok (.iadd, 1) := by decide +kernel
theorem dX9_wanted_27 : decode cX9_wanted 27 = .ok (.iaload, 1) := by decide +kernel
theorem dX9_wanted_28 : decode cX9_wanted 28 = .ok (.ireturn, 1) := by decide +kernel
theorem dX9_landing_0 : decode cX9_landing 0 = .ok (.bipush (-9), 2) := by decide +kernel
theorem dX9_landing_2 : decode cX9_landing 2 = .ok (.istore_n 2, 1) := by decide +kernel
theorem dX9_landing_3 : decode cX9_landing 3 = .ok (.bipush 9, 2) := by decide +kernel
theorem dX9_landing_5 : decode cX9_landing 5 = .ok (.istore_n 3, 1) := by decide +kernel
theorem dX9_landing_6 : decode cX9_landing 6 = .ok (.iload_n 3, 1) := by decide +kernel
theorem dX9_landing_7 : decode cX9_landing 7 = .ok (.ifCond .lt 54, 3) := by decide +kernel
theorem dX9_landing_10 : decode cX9_landing 10 = .ok (.iload_n 2, 1) := by decide +kernel
theorem dX9_landing_11 : decode cX9_landing 11 = .ok (.bipush (-9), 2) := by decide +kernel
theorem dX9_landing_13 : decode cX9_landing 13 = .ok (.if_icmp .eq 16, 3) := by decide +kernel
theorem dX9_landing_16 : decode cX9_landing 16 = .ok (.iload_n 3, 1) := by decide +kernel
theorem dX9_landing_17 : decode cX9_landing 17 = .ok (.iload_n 0, 1) := by decide +kernel
theorem dX9_landing_18 : decode cX9_landing 18 = .ok (.invokestatic 164, 3) := by decide +kernel
theorem dX9_landing_21 : decode cX9_landing 21 = .ok (.iload_n 2, 1) := by decide +kernel
theorem dX9_landing_22 : decode cX9_landing 22 = .ok (.iload_n 0, 1) := by decide +kernel
theorem dX9_landing_23 : decode cX9_landing 23 = .ok (.invokestatic 164, 3) := by decide +kernel
theorem dX9_landing_26 : decode cX9_landing 26 = .ok (.if_icmp .gt 7, 3) := by decide +kernel
theorem dX9_landing_29 : decode cX9_landing 29 = .ok (.iconst 1, 1) := by decide +kernel
theorem dX9_landing_30 : decode cX9_landing 30 = .ok (.goto 4, 3) := by decide +kernel
theorem dX9_landing_33 : decode cX9_landing 33 = .ok (.iconst 0, 1) := by decide +kernel
theorem dX9_landing_34 : decode cX9_landing 34 = .ok (.istore 4, 2) := by decide +kernel
theorem dX9_landing_36 : decode cX9_landing 36 = .ok (.iload_n 1, 1) := by decide +kernel
theorem dX9_landing_37 : decode cX9_landing 37 = .ok (.iload_n 3, 1) := by decide +kernel
theorem dX9_landing_38 : decode cX9_landing 38 = .ok (.invokestatic 167, 3) := by decide +kernel
theorem dX9_landing_41 : decode cX9_landing 41 = .ok (.ifCond .ne 12, 3) := by decide +kernel
theorem dX9_landing_44 : decode cX9_landing 44 = .ok (.iload 4, 2) := by decide +kernel
theorem dX9_landing_46 : decode cX9_landing 46 = .ok (.ifCond .eq 7, 3) := by decide +kernel
theorem dX9_landing_49 : decode cX9_landing 49 = .ok (.iload_n 3, 1) := by decide +kernel
theorem dX9_landing_50 : decode cX9_landing 50 = .ok (.goto 4, 3) := by decide +kernel
theorem dX9_landing_53 : decode cX9_landing 53 = .ok (.iload_n 2, 1) := by decide +kernel
theorem dX9_landing_54 : decode cX9_landing 54 = .ok (.istore_n 2, 1) := by decide +kernel
theorem dX9_landing_55 : decode cX9_landing 55 = .ok (.iinc 3 (-1), 3) := by decide +kernel
theorem dX9_landing_58 : decode cX9_landing 58 = .ok (.goto (-52), 3) := by decide +kernel
theorem dX9_landing_61 : decode cX9_landing 61 = .ok (.iload_n 2, 1) := by decide +kernel
theorem dX9_landing_62 : decode cX9_landing 62 = .ok (.ireturn, 1) := by decide +kernel
theorem dX9_isSooner_0 : decode cX9_isSooner 0 = .ok (.aload_n 0, 1) := by decide +kernel
theorem dX9_isSooner_1 : decode cX9_isSooner 1 = .ok (.getfield 33, 3) := by decide +kernel
theorem dX9_isSooner_4 : decode cX9_isSooner 4 = .ok (.iload_n 3, 1) := by decide +kernel
theorem dX9_isSooner_5 : decode cX9_isSooner 5 = .ok (.iaload, 1) := by decide +kernel
theorem dX9_isSooner_6 : decode cX9_isSooner 6 = .ok (.invokestatic 171, 3) := by decide +kernel
theorem dX9_isSooner_9 : decode cX9_isSooner 9 = .ok (.aload_n 0, 1) := by decide +kernel
theorem dX9_isSooner_10 : decode cX9_isSooner 10 = .ok (.getfield 33, 3) := by decide +kernel
theorem dX9_isSooner_13 : decode cX9_isSooner 13 = .ok (.iload_n 2, 1) := by decide +kernel
theorem dX9_isSooner_14 : decode cX9_isSooner 14 = .ok (.iaload, 1) := by decide +kernel
theorem dX9_isSooner_15 : decode cX9_isSooner 15 = .ok (.invokestatic 171, 3) := by decide +kernel
theorem dX9_isSooner_18 : decode cX9_isSooner 18 = .ok (.isub, 1) := by decide +kernel
theorem dX9_isSooner_19 : decode cX9_isSooner 19 = .ok (.istore 4, 2) := by decide +kernel
theorem dX9_isSooner_21 : decode cX9_isSooner 21 = .ok (.aload_n 1, 1) := by decide +kernel
theorem dX9_isSooner_22 : decode cX9_isSooner 22 = .ok (.bipush 8, 2) := by decide +kernel
theorem dX9_isSooner_24 : decode cX9_isSooner 24 = .ok (.iload_n 2, 1) := by decide +kernel
theorem dX9_isSooner_25 : decode cX9_isSooner 25 = .ok (.iadd, 1) := by decide +kernel
theorem dX9_isSooner_26 : decode cX9_isSooner 26 = .ok (.iaload, 1) := by decide +kernel
theorem dX9_isSooner_27 : decode cX9_isSooner 27 = .ok (.aload_n 1, 1) := by decide +kernel
theorem dX9_isSooner_28 : decode cX9_isSooner 28 = .ok (.bipush 8, 2) := by decide +kernel
theorem dX9_isSooner_30 : decode cX9_isSooner 30 = .ok (.iload_n 3, 1) := by decide +kernel
theorem dX9_isSooner_31 : decode cX9_isSooner 31 = .ok (.iadd, 1) := by decide +kernel
theorem dX9_isSooner_32 : decode cX9_isSooner 32 = .ok (.iaload, 1) := by decide +kernel
theorem dX9_isSooner_33 : decode cX9_isSooner 33 = .ok (.isub, 1) := by decide +kernel
theorem dX9_isSooner_34 : decode cX9_isSooner 34 = .ok (.istore 5, 2) := by decide +kernel
theorem dX9_isSooner_36 : decode cX9_isSooner 36 = .ok (.iload 4, 2) := by decide +kernel
theorem dX9_isSooner_38 : decode cX9_isSooner 38 = .ok (.ifCond .gt 23, 3) := by decide +kernel
theorem dX9_isSooner_41 : decode cX9_isSooner 41 = .ok (.iload 4, 2) := by decide +kernel
theorem dX9_isSooner_43 : decode cX9_isSooner 43 = .ok (.ifCond .ne 22, 3) := by decide +kernel
theorem dX9_isSooner_46 : decode cX9_isSooner 46 = .ok (.iload 5, 2) := by decide +kernel
theorem dX9_isSooner_48 : decode cX9_isSooner 48 = .ok (.ifCond .gt 13, 3) := by decide +kernel
theorem dX9_isSooner_51 : decode cX9_isSooner 51 = .ok (.iload 5, 2) := by decide +kernel
theorem dX9_isSooner_53 : decode cX9_isSooner 53 = .ok (.ifCond .ne 12, 3) := by decide +kernel
theorem dX9_isSooner_56 : decode cX9_isSooner 56 = .ok (.iload_n 2, 1) := by decide +kernel
theorem dX9_isSooner_57 : decode cX9_isSooner 57 = .ok (.iload_n 3, 1) := by decide +kernel
theorem dX9_isSooner_58 : decode cX9_isSooner 58 = .ok (.if_icmp .ge 7, 3) := by decide +kernel
theorem dX9_isSooner_61 : decode cX9_isSooner 61 = .ok (.iconst 1, 1) := by decide +kernel
theorem dX9_isSooner_62 : decode cX9_isSooner 62 = .ok (.goto 4, 3) := by decide +kernel
theorem dX9_isSooner_65 : decode cX9_isSooner 65 = .ok (.iconst 0, 1) := by decide +kernel
theorem dX9_isSooner_66 : decode cX9_isSooner 66 = .ok (.ireturn, 1) := by decide +kernel
theorem dX9_passes_0 : decode cX9_passes 0 = .ok (.aload_n 0, 1) := by decide +kernel
theorem dX9_passes_1 : decode cX9_passes 1 = .ok (.aload_n 1, 1) := by decide +kernel
theorem dX9_passes_2 : decode cX9_passes 2 = .ok (.invokevirtual 174, 3) := by decide +kernel
theorem dX9_passes_5 : decode cX9_passes 5 = .ok (.istore_n 2, 1) := by decide +kernel
theorem dX9_passes_6 : decode cX9_passes 6 = .ok (.iconst 0, 1) := by decide +kernel
theorem dX9_passes_7 : decode cX9_passes 7 = .ok (.istore_n 3, 1) := by decide +kernel
theorem dX9_passes_8 : decode cX9_passes 8 = .ok (.iconst 0, 1) := by decide +kernel
theorem dX9_passes_9 : decode cX9_passes 9 = .ok (.istore 4, 2) := by decide +kernel
theorem dX9_passes_11 : decode cX9_passes 11 = .ok (.iconst 0, 1) := by decide +kernel
theorem dX9_passes_12 : decode cX9_passes 12 = .ok (.istore 5, 2) := by decide +kernel
theorem dX9_passes_14 : decode cX9_passes 14 = .ok (.iload 5, 2) := by decide +kernel
theorem dX9_passes_16 : decode cX9_passes 16 = .ok (.aload_n 0, 1) := by decide +kernel
theorem dX9_passes_17 : decode cX9_passes 17 = .ok (.getfield 154, 3) := by decide +kernel
theorem dX9_passes_20 : decode cX9_passes 20 = .ok (.if_icmp .ge 184, 3) := by decide +kernel
theorem dX9_passes_23 : decode cX9_passes 23 = .ok (.aload_n 1, 1) := by decide +kernel
theorem dX9_passes_24 : decode cX9_passes 24 = .ok (.iload 5, 2) := by decide +kernel
theorem dX9_passes_26 : decode cX9_passes 26 = .ok (.invokestatic 160, 3) := by decide +kernel
theorem dX9_passes_29 : decode cX9_passes 29 = .ok (.ifCond .eq 80, 3) := by decide +kernel
theorem dX9_passes_32 : decode cX9_passes 32 = .ok (.aload_n 0, 1) := by decide +kernel
theorem dX9_passes_33 : decode cX9_passes 33 = .ok (.getfield 33, 3) := by decide +kernel
theorem dX9_passes_36 : decode cX9_passes 36 = .ok (.iload 5, 2) := by decide +kernel
theorem dX9_passes_38 : decode cX9_passes 38 = .ok (.iaload, 1) := by decide +kernel
theorem dX9_passes_39 : decode cX9_passes 39 = .ok (.iload_n 2, 1) := by decide +kernel
theorem dX9_passes_40 : decode cX9_passes 40 = .ok (.invokestatic 178, 3) := by decide +kernel
theorem dX9_passes_43 : decode cX9_passes 43 = .ok (.ifCond .eq 66, 3) := by decide +kernel
theorem dX9_passes_46 : decode cX9_passes 46 = .ok (.aload_n 1, 1) := by decide +kernel
theorem dX9_passes_47 : decode cX9_passes 47 = .ok (.bipush 8, 2) := by decide +kernel
theorem dX9_passes_49 : decode cX9_passes 49 = .ok (.iload 5, 2) := by decide +kernel
theorem dX9_passes_51 : decode cX9_passes 51 = .ok (.iadd, 1) := by decide +kernel
theorem dX9_passes_52 : decode cX9_passes 52 = .ok (.dup2, 1) := by decide +kernel
theorem dX9_passes_53 : decode cX9_passes 53 = .ok (.iaload, 1) := by decide +kernel
theorem dX9_passes_54 : decode cX9_passes 54 = .ok (.aload_n 1, 1) := by decide +kernel
theorem dX9_passes_55 : decode cX9_passes 55 = .ok (.iconst 1, 1) := by decide +kernel
theorem dX9_passes_56 : decode cX9_passes 56 = .ok (.iaload, 1) := by decide +kernel
theorem dX9_passes_57 : decode cX9_passes 57 = .ok (.ifCond .ne 17, 3) := by decide +kernel
theorem dX9_passes_60 : decode cX9_passes 60 = .ok (.aload_n 1, 1) := by decide +kernel
theorem dX9_passes_61 : decode cX9_passes 61 = .ok (.bipush 8, 2) := by decide +kernel
theorem dX9_passes_63 : decode cX9_passes 63 = .ok (.iload 5, 2) := by decide +kernel
theorem dX9_passes_65 : decode cX9_passes 65 = .ok (.iadd, 1) := by decide +kernel
theorem dX9_passes_66 : decode cX9_passes 66 = .ok (.iaload, 1) := by decide +kernel
theorem dX9_passes_67 : decode cX9_passes 67 = .ok (.ifCond .le 7, 3) := by decide +kernel
theorem dX9_passes_70 : decode cX9_passes 70 = .ok (.iconst 1, 1) := by decide +kernel
theorem dX9_passes_71 : decode cX9_passes 71 = .ok (.goto 4, 3) := by decide +kernel
theorem dX9_passes_74 : decode cX9_passes 74 = .ok (.iconst 0, 1) := by decide +kernel
theorem dX9_passes_75 : decode cX9_passes 75 = .ok (.isub, 1) := by decide +kernel
theorem dX9_passes_76 : decode cX9_passes 76 = .ok (.iastore, 1) := by decide +kernel
theorem dX9_passes_77 : decode cX9_passes 77 = .ok (.aload_n 1, 1) := by decide +kernel
theorem dX9_passes_78 : decode cX9_passes 78 = .ok (.iconst 1, 1) := by decide +kernel
theorem dX9_passes_79 : decode cX9_passes 79 = .ok (.dup2, 1) := by decide +kernel
theorem dX9_passes_80 : decode cX9_passes 80 = .ok (.iaload, 1) := by decide +kernel
theorem dX9_passes_81 : decode cX9_passes 81 = .ok (.aload_n 1, 1) := by decide +kernel
theorem dX9_passes_82 : decode cX9_passes 82 = .ok (.iconst 1, 1) := by decide +kernel
theorem dX9_passes_83 : decode cX9_passes 83 = .ok (.iaload, 1) := by decide +kernel
theorem dX9_passes_84 : decode cX9_passes 84 = .ok (.ifCond .le 7, 3) := by decide +kernel
theorem dX9_passes_87 : decode cX9_passes 87 = .ok (.iconst 1, 1) := by decide +kernel
theorem dX9_passes_88 : decode cX9_passes 88 = .ok (.goto 4, 3) := by decide +kernel
theorem dX9_passes_91 : decode cX9_passes 91 = .ok (.iconst 0, 1) := by decide +kernel
theorem dX9_passes_92 : decode cX9_passes 92 = .ok (.isub, 1) := by decide +kernel
theorem dX9_passes_93 : decode cX9_passes 93 = .ok (.iastore, 1) := by decide +kernel
theorem dX9_passes_94 : decode cX9_passes 94 = .ok (.iload_n 3, 1) := by decide +kernel
theorem dX9_passes_95 : decode cX9_passes 95 = .ok (.iconst 1, 1) := by decide +kernel
theorem dX9_passes_96 : decode cX9_passes 96 = .ok (.aload_n 1, 1) := by decide +kernel
theorem dX9_passes_97 : decode cX9_passes 97 = .ok (.bipush 20, 2) := by decide +kernel
theorem dX9_passes_99 : decode cX9_passes 99 = .ok (.iload 5, 2) := by decide +kernel
theorem dX9_passes_101 : decode cX9_passes 101 = .ok (.iadd, 1) := by decide +kernel
theorem dX9_passes_102 : decode cX9_passes 102 = .ok (.iaload, 1) := by decide +kernel
theorem dX9_passes_103 : decode cX9_passes 103 = .ok (.ishl, 1) := by decide +kernel
theorem dX9_passes_104 : decode cX9_passes 104 = .ok (.ior, 1) := by decide +kernel
theorem dX9_passes_105 : decode cX9_passes 105 = .ok (.istore_n 3, 1) := by decide +kernel
theorem dX9_passes_106 : decode cX9_passes 106 = .ok (.goto 92, 3) := by decide +kernel
theorem dX9_passes_109 : decode cX9_passes 109 = .ok (.aload_n 1, 1) := by decide +kernel
theorem dX9_passes_110 : decode cX9_passes 110 = .ok (.iload 5, 2) := by decide +kernel
theorem dX9_passes_112 : decode cX9_passes 112 = .ok (.invokestatic 160, 3) := by decide +kernel
theorem dX9_passes_115 : decode cX9_passes 115 = .ok (.ifCond .eq 83, 3) := by decide +kernel
theorem dX9_passes_118 : decode cX9_passes 118 = .ok (.aload_n 0, 1) := by decide +kernel
theorem dX9_passes_119 : decode cX9_passes 119 = .ok (.getfield 33, 3) := by decide +kernel
theorem dX9_passes_122 : decode cX9_passes 122 = .ok (.iload 5, 2) := by decide +kernel
theorem dX9_passes_124 : decode cX9_passes 124 = .ok (.iaload, 1) := by decide +kernel
theorem dX9_passes_125 : decode cX9_passes 125 = .ok (.iload_n 2, 1) := by decide +kernel
theorem dX9_passes_126 : decode cX9_passes 126 = .ok (.invokestatic 181, 3) := by decide +kernel
theorem dX9_passes_129 : decode cX9_passes 129 = .ok (.istore 6, 2) := by decide +kernel
theorem dX9_passes_131 : decode cX9_passes 131 = .ok (.iload 6, 2) := by decide +kernel
theorem dX9_passes_133 : decode cX9_passes 133 = .ok (.aload_n 1, 1) := by decide +kernel
theorem dX9_passes_134 : decode cX9_passes 134 = .ok (.bipush 8, 2) := by decide +kernel
theorem dX9_passes_136 : decode cX9_passes 136 = .ok (.iload 5, 2) := by decide +kernel
theorem dX9_passes_138 : decode cX9_passes 138 = .ok (.iadd, 1) := by decide +kernel
theorem dX9_passes_139 : decode cX9_passes 139 = .ok (.iaload, 1) := by decide +kernel
theorem dX9_passes_140 : decode cX9_passes 140 = .ok (.if_icmp .le 7, 3) := by decide +kernel
theorem dX9_passes_143 : decode cX9_passes 143 = .ok (.iconst 1, 1) := by decide +kernel
theorem dX9_passes_144 : decode cX9_passes 144 = .ok (.goto 4, 3) := by decide +kernel
theorem dX9_passes_147 : decode cX9_passes 147 = .ok (.iconst 0, 1) := by decide +kernel
theorem dX9_passes_148 : decode cX9_passes 148 = .ok (.istore 7, 2) := by decide +kernel
theorem dX9_passes_150 : decode cX9_passes 150 = .ok (.aload_n 1, 1) := by decide +kernel
theorem dX9_passes_151 : decode cX9_passes 151 = .ok (.bipush 8, 2) := by decide +kernel
theorem dX9_passes_153 : decode cX9_passes 153 = .ok (.iload 5, 2) := by decide +kernel
theorem dX9_passes_155 : decode cX9_passes 155 = .ok (.iadd, 1) := by decide +kernel
theorem dX9_passes_156 : decode cX9_passes 156 = .ok (.dup2, 1) := by decide +kernel
theorem dX9_passes_157 : decode cX9_passes 157 = .ok (.iaload, 1) := by decide +kernel
theorem dX9_passes_158 : decode cX9_passes 158 = .ok (.iload 7, 2) := by decide +kernel
theorem dX9_passes_160 : decode cX9_passes 160 = .ok (.ifCond .eq 7, 3) := by decide +kernel
theorem dX9_passes_163 : decode cX9_passes 163 = .ok (.iconst 0, 1) := by decide +kernel
theorem dX9_passes_164 : decode cX9_passes 164 = .ok (.goto 5, 3) := by decide +kernel
theorem dX9_passes_167 : decode cX9_passes 167 = .ok (.iload 6, 2) := by decide +kernel
theorem dX9_passes_169 : decode cX9_passes 169 = .ok (.isub, 1) := by decide +kernel
theorem dX9_passes_170 : decode cX9_passes 170 = .ok (.iastore, 1) := by decide +kernel
theorem dX9_passes_171 : decode cX9_passes 171 = .ok (.aload_n 1, 1) := by decide +kernel
theorem dX9_passes_172 : decode cX9_passes 172 = .ok (.bipush 20, 2) := by decide +kernel
theorem dX9_passes_174 : decode cX9_passes 174 = .ok (.iload 5, 2) := by decide +kernel
theorem dX9_passes_176 : decode cX9_passes 176 = .ok (.iadd, 1) := by decide +kernel
theorem dX9_passes_177 : decode cX9_passes 177 = .ok (.bipush (-9), 2) := by decide +kernel
theorem dX9_passes_179 : decode cX9_passes 179 = .ok (.iastore, 1) := by decide +kernel
theorem dX9_passes_180 : decode cX9_passes 180 = .ok (.iload 4, 2) := by decide +kernel
theorem dX9_passes_182 : decode cX9_passes 182 = .ok (.iload 7, 2) := by decide +kernel
theorem dX9_passes_184 : decode cX9_passes 184 = .ok (.ifCond .eq 7, 3) := by decide +kernel
theorem dX9_passes_187 : decode cX9_passes 187 = .ok (.iconst 0, 1) := by decide +kernel
theorem dX9_passes_188 : decode cX9_passes 188 = .ok (.goto 7, 3) := by decide +kernel
theorem dX9_passes_191 : decode cX9_passes 191 = .ok (.iconst 1, 1) := by decide +kernel
theorem dX9_passes_192 : decode cX9_passes 192 = .ok (.iload 5, 2) := by decide +kernel
theorem dX9_passes_194 : decode cX9_passes 194 = .ok (.ishl, 1) := by decide +kernel
theorem dX9_passes_195 : decode cX9_passes 195 = .ok (.ior, 1) := by decide +kernel
theorem dX9_passes_196 : decode cX9_passes 196 = .ok (.istore 4, 2) := by decide +kernel
theorem dX9_passes_198 : decode cX9_passes 198 = .ok (.iinc 5 1, 3) := by decide +kernel
theorem dX9_passes_201 : decode cX9_passes 201 = .ok (.goto (-187), 3) := by decide +kernel
theorem dX9_passes_204 : decode cX9_passes 204 = .ok (.aload_n 0, 1) := by decide +kernel
theorem dX9_passes_205 : decode cX9_passes 205 = .ok (.iconst 0, 1) := by decide +kernel
theorem dX9_passes_206 : decode cX9_passes 206 = .ok (.putfield 184, 3) := by decide +kernel
theorem dX9_passes_209 : decode cX9_passes 209 = .ok (.iload 4, 2) := by decide +kernel
theorem dX9_passes_211 : decode cX9_passes 211 = .ok (.ifCond .eq 154, 3) := by decide +kernel
theorem dX9_passes_214 : decode cX9_passes 214 = .ok (.bipush (-9), 2) := by decide +kernel
theorem dX9_passes_216 : decode cX9_passes 216 = .ok (.istore 5, 2) := by decide +kernel
theorem dX9_passes_218 : decode cX9_passes 218 = .ok (.iconst 0, 1) := by decide +kernel
theorem dX9_passes_219 : decode cX9_passes 219 = .ok (.istore 6, 2) := by decide +kernel
theorem dX9_passes_221 : decode cX9_passes 221 = .ok (.iload 6, 2) := by decide +kernel
theorem dX9_passes_223 : decode cX9_passes 223 = .ok (.aload_n 0, 1) := by decide +kernel
theorem dX9_passes_224 : decode cX9_passes 224 = .ok (.getfield 154, 3) := by decide +kernel
theorem dX9_passes_227 : decode cX9_passes 227 = .ok (.if_icmp .ge 47, 3) := by decide +kernel
theorem dX9_passes_230 : decode cX9_passes 230 = .ok (.iload 4, 2) := by decide +kernel
theorem dX9_passes_232 : decode cX9_passes 232 = .ok (.iload 6, 2) := by decide +kernel
theorem dX9_passes_234 : decode cX9_passes 234 = .ok (.invokestatic 167, 3) := by decide +kernel
theorem dX9_passes_237 : decode cX9_passes 237 = .ok (.ifCond .eq 27, 3) := by decide +kernel
theorem dX9_passes_240 : decode cX9_passes 240 = .ok (.iload 5, 2) := by decide +kernel
theorem dX9_passes_242 : decode cX9_passes 242 = .ok (.bipush (-9), 2) := by decide +kernel
theorem dX9_passes_244 : decode cX9_passes 244 = .ok (.if_icmp .eq 15, 3) := by decide +kernel
theorem dX9_passes_247 : decode cX9_passes 247 = .ok (.aload_n 0, 1) := by decide +kernel
theorem dX9_passes_248 : decode cX9_passes 248 = .ok (.aload_n 1, 1) := by decide +kernel
theorem dX9_passes_249 : decode cX9_passes 249 = .ok (.iload 6, 2) := by decide +kernel
theorem dX9_passes_251 : decode cX9_passes 251 = .ok (.iload 5, 2) := by decide +kernel
theorem dX9_passes_253 : decode cX9_passes 253 = .ok (.invokevirtual 187, 3) := by decide +kernel
theorem dX9_passes_256 : decode cX9_passes 256 = .ok (.ifCond .eq 8, 3) := by decide +kernel
theorem dX9_passes_259 : decode cX9_passes 259 = .ok (.iload 6, 2) := by decide +kernel
theorem dX9_passes_261 : decode cX9_passes 261 = .ok (.goto 5, 3) := by decide +kernel
theorem dX9_passes_264 : decode cX9_passes 264 = .ok (.iload 5, 2) := by decide +kernel
theorem dX9_passes_266 : decode cX9_passes 266 = .ok (.istore 5, 2) := by decide +kernel
theorem dX9_passes_268 : decode cX9_passes 268 = .ok (.iinc 6 1, 3) := by decide +kernel
theorem dX9_passes_271 : decode cX9_passes 271 = .ok (.goto (-50), 3) := by decide +kernel
theorem dX9_passes_274 : decode cX9_passes 274 = .ok (.aload_n 0, 1) := by decide +kernel
theorem dX9_passes_275 : decode cX9_passes 275 = .ok (.aload_n 1, 1) := by decide +kernel
theorem dX9_passes_276 : decode cX9_passes 276 = .ok (.iload 5, 2) := by decide +kernel
theorem dX9_passes_278 : decode cX9_passes 278 = .ok (.invokevirtual 191, 3) := by decide +kernel
theorem dX9_passes_281 : decode cX9_passes 281 = .ok (.iload_n 3, 1) := by decide +kernel
theorem dX9_passes_282 : decode cX9_passes 282 = .ok (.invokestatic 195, 3) := by decide +kernel
theorem dX9_passes_285 : decode cX9_passes 285 = .ok (.istore 6, 2) := by decide +kernel
theorem dX9_passes_287 : decode cX9_passes 287 = .ok (.aload_n 1, 1) := by decide +kernel
theorem dX9_passes_288 : decode cX9_passes 288 = .ok (.bipush 20, 2) := by decide +kernel
theorem dX9_passes_290 : decode cX9_passes 290 = .ok (.iload 5, 2) := by decide +kernel
theorem dX9_passes_292 : decode cX9_passes 292 = .ok (.iadd, 1) := by decide +kernel
theorem dX9_passes_293 : decode cX9_passes 293 = .ok (.iload 6, 2) := by decide +kernel
theorem dX9_passes_295 : decode cX9_passes 295 = .ok (.iastore, 1) := by decide +kernel
theorem dX9_passes_296 : decode cX9_passes 296 = .ok (.aload_n 1, 1) := by decide +kernel
theorem dX9_passes_297 : decode cX9_passes 297 = .ok (.bipush 14, 2) := by decide +kernel
theorem dX9_passes_299 : decode cX9_passes 299 = .ok (.iload 5, 2) := by decide +kernel
theorem dX9_passes_301 : decode cX9_passes 301 = .ok (.iadd, 1) := by decide +kernel
theorem dX9_passes_302 : decode cX9_passes 302 = .ok (.dup2, 1) := by decide +kernel
theorem dX9_passes_303 : decode cX9_passes 303 = .ok (.iaload, 1) := by decide +kernel
theorem dX9_passes_304 : decode cX9_passes 304 = .ok (.aload_n 1, 1) := by decide +kernel
theorem dX9_passes_305 : decode cX9_passes 305 = .ok (.bipush 14, 2) := by decide +kernel
theorem dX9_passes_307 : decode cX9_passes 307 = .ok (.iload 5, 2) := by decide +kernel
theorem dX9_passes_309 : decode cX9_passes 309 = .ok (.iadd, 1) := by decide +kernel
theorem dX9_passes_310 : decode cX9_passes 310 = .ok (.iaload, 1) := by decide +kernel
theorem dX9_passes_311 : decode cX9_passes 311 = .ok (.bipush 9, 2) := by decide +kernel
theorem dX9_passes_313 : decode cX9_passes 313 = .ok (.if_icmp .ge 7, 3) := by decide +kernel
theorem dX9_passes_316 : decode cX9_passes 316 = .ok (.iconst 1, 1) := by decide +kernel
theorem dX9_passes_317 : decode cX9_passes 317 = .ok (.goto 4, 3) := by decide +kernel
theorem dX9_passes_320 : decode cX9_passes 320 = .ok (.iconst 0, 1) := by decide +kernel
theorem dX9_passes_321 : decode cX9_passes 321 = .ok (.iadd, 1) := by decide +kernel
theorem dX9_passes_322 : decode cX9_passes 322 = .ok (.iastore, 1) := by decide +kernel
theorem dX9_passes_323 : decode cX9_passes 323 = .ok (.iload_n 3, 1) := by decide +kernel
theorem dX9_passes_324 : decode cX9_passes 324 = .ok (.iconst 1, 1) := by decide +kernel
theorem dX9_passes_325 : decode cX9_passes 325 = .ok (.iload 6, 2) := by decide +kernel
theorem dX9_passes_327 : decode cX9_passes 327 = .ok (.ishl, 1) := by decide +kernel
theorem dX9_passes_328 : decode cX9_passes 328 = .ok (.ior, 1) := by decide +kernel
theorem dX9_passes_329 : decode cX9_passes 329 = .ok (.istore_n 3, 1) := by decide +kernel
theorem dX9_passes_330 : decode cX9_passes 330 = .ok (.iload 4, 2) := by decide +kernel
theorem dX9_passes_332 : decode cX9_passes 332 = .ok (.iconst 1, 1) := by decide +kernel
theorem dX9_passes_333 : decode cX9_passes 333 = .ok (.iload 5, 2) := by decide +kernel
theorem dX9_passes_335 : decode cX9_passes 335 = .ok (.ishl, 1) := by decide +kernel
theorem dX9_passes_336 : decode cX9_passes 336 = .ok (.iconst (-1), 1) := by decide +kernel
theorem dX9_passes_337 : decode cX9_passes 337 = .ok (.ixor, 1) := by decide +kernel
theorem dX9_passes_338 : decode cX9_passes 338 = .ok (.iand, 1) := by decide +kernel
theorem dX9_passes_339 : decode cX9_passes 339 = .ok (.istore 4, 2) := by decide +kernel
theorem dX9_passes_341 : decode cX9_passes 341 = .ok (.aload_n 0, 1) := by decide +kernel
theorem dX9_passes_342 : decode cX9_passes 342 = .ok (.getfield 51, 3) := by decide +kernel
theorem dX9_passes_345 : decode cX9_passes 345 = .ok (.aload_n 0, 1) := by decide +kernel
theorem dX9_passes_346 : decode cX9_passes 346 = .ok (.getfield 184, 3) := by decide +kernel
theorem dX9_passes_349 : decode cX9_passes 349 = .ok (.iload 5, 2) := by decide +kernel
theorem dX9_passes_351 : decode cX9_passes 351 = .ok (.iastore, 1) := by decide +kernel
theorem dX9_passes_352 : decode cX9_passes 352 = .ok (.aload_n 0, 1) := by decide +kernel
theorem dX9_passes_353 : decode cX9_passes 353 = .ok (.dup, 1) := by decide +kernel
theorem dX9_passes_354 : decode cX9_passes 354 = .ok (.getfield 184, 3) := by decide +kernel
theorem dX9_passes_357 : decode cX9_passes 357 = .ok (.iconst 1, 1) := by decide +kernel
theorem dX9_passes_358 : decode cX9_passes 358 = .ok (.iadd, 1) := by decide +kernel
theorem dX9_passes_359 : decode cX9_passes 359 = .ok (.putfield 184, 3) := by decide +kernel
theorem dX9_passes_362 : decode cX9_passes 362 = .ok (.goto (-153), 3) := by decide +kernel
theorem dX9_passes_365 : decode cX9_passes 365 = .ok (.aload_n 1, 1) := by decide +kernel
theorem dX9_passes_366 : decode cX9_passes 366 = .ok (.iconst 0, 1) := by decide +kernel
theorem dX9_passes_367 : decode cX9_passes 367 = .ok (.dup2, 1) := by decide +kernel
theorem dX9_passes_368 : decode cX9_passes 368 = .ok (.iaload, 1) := by decide +kernel
theorem dX9_passes_369 : decode cX9_passes 369 = .ok (.iconst 1, 1) := by decide +kernel
theorem dX9_passes_370 : decode cX9_passes 370 = .ok (.iadd, 1) := by decide +kernel
theorem dX9_passes_371 : decode cX9_passes 371 = .ok (.iastore, 1) := by decide +kernel
theorem dX9_passes_372 : decode cX9_passes 372 = .ok (.return_, 1) := by decide +kernel
theorem dX9_copyNow_0 : decode cX9_copyNow 0 = .ok (.iconst 0, 1) := by decide +kernel
theorem dX9_copyNow_1 : decode cX9_copyNow 1 = .ok (.istore_n 1, 1) := by decide +kernel
theorem dX9_copyNow_2 : decode cX9_copyNow 2 = .ok (.iload_n 1, 1) := by decide +kernel
theorem dX9_copyNow_3 : decode cX9_copyNow 3 = .ok (.bipush 26, 2) := by decide +kernel
theorem dX9_copyNow_5 : decode cX9_copyNow 5 = .ok (.if_icmp .ge 21, 3) := by decide +kernel
theorem dX9_copyNow_8 : decode cX9_copyNow 8 = .ok (.aload_n 0, 1) := by decide +kernel
theorem dX9_copyNow_9 : decode cX9_copyNow 9 = .ok (.getfield 42, 3) := by decide +kernel
theorem dX9_copyNow_12 : decode cX9_copyNow 12 = .ok (.iload_n 1, 1) := by decide +kernel
theorem dX9_copyNow_13 : decode cX9_copyNow 13 = .ok (.aload_n 0, 1) := by decide +kernel
theorem dX9_copyNow_14 : decode cX9_copyNow 14 = .ok (.getfield 39, 3) := by decide +kernel
theorem dX9_copyNow_17 : decode cX9_copyNow 17 = .ok (.iload_n 1, 1) := by decide +kernel
theorem dX9_copyNow_18 : decode cX9_copyNow 18 = .ok (.iaload, 1) := by decide +kernel
theorem dX9_copyNow_19 : decode cX9_copyNow 19 = .ok (.iastore, 1) := by decide +kernel
theorem dX9_copyNow_20 : decode cX9_copyNow 20 = .ok (.iinc 1 1, 3) := by decide +kernel
theorem dX9_copyNow_23 : decode cX9_copyNow 23 = .ok (.goto (-21), 3) := by decide +kernel
theorem dX9_copyNow_26 : decode cX9_copyNow 26 = .ok (.return_, 1) := by decide +kernel
theorem dX9_hutTells_0 : decode cX9_hutTells 0 = .ok (.iload_n 2, 1) := by decide +kernel
theorem dX9_hutTells_1 : decode cX9_hutTells 1 = .ok (.tableswitch 103 0 5 #[39, 46, 55, 65, 75, 85], 39) := by decide +kernel
theorem dX9_hutTells_40 : decode cX9_hutTells 40 = .ok (.aload_n 0, 1) := by decide +kernel
theorem dX9_hutTells_41 : decode cX9_hutTells 41 = .ok (.getfield 33, 3) := by decide +kernel
theorem dX9_hutTells_44 : decode cX9_hutTells 44 = .ok (.iload_n 1, 1) := by decide +kernel
theorem dX9_hutTells_45 : decode cX9_hutTells 45 = .ok (.iaload, 1) := by decide +kernel
theorem dX9_hutTells_46 : decode cX9_hutTells 46 = .ok (.ireturn, 1) := by decide +kernel
theorem dX9_hutTells_47 : decode cX9_hutTells 47 = .ok (.aload_n 0, 1) := by decide +kernel
theorem dX9_hutTells_48 : decode cX9_hutTells 48 = .ok (.getfield 39, 3) := by decide +kernel
theorem dX9_hutTells_51 : decode cX9_hutTells 51 = .ok (.iconst 2, 1) := by decide +kernel
theorem dX9_hutTells_52 : decode cX9_hutTells 52 = .ok (.iload_n 1, 1) := by decide +kernel
theorem dX9_hutTells_53 : decode cX9_hutTells 53 = .ok (.iadd, 1) := by decide +kernel
theorem dX9_hutTells_54 : decode cX9_hutTells 54 = .ok (.iaload, 1) := by decide +kernel
theorem dX9_hutTells_55 : decode cX9_hutTells 55 = .ok (.ireturn, 1) := by decide +kernel
theorem dX9_hutTells_56 : decode cX9_hutTells 56 = .ok (.aload_n 0, 1) := by decide +kernel
theorem dX9_hutTells_57 : decode cX9_hutTells 57 = .ok (.getfield 39, 3) := by decide +kernel
theorem dX9_hutTells_60 : decode cX9_hutTells 60 = .ok (.bipush 8, 2) := by decide +kernel
theorem dX9_hutTells_62 : decode cX9_hutTells 62 = .ok (.iload_n 1, 1) := by decide +kernel
theorem dX9_hutTells_63 : decode cX9_hutTells 63 = .ok (.iadd, 1) := by decide +kernel
theorem dX9_hutTells_64 : decode cX9_hutTells 64 = .ok (.iaload, 1) := by decide +kernel
theorem dX9_hutTells_65 : decode cX9_hutTells 65 = .ok (.ireturn, 1) := by decide +kernel
theorem dX9_hutTells_66 : decode cX9_hutTells 66 = .ok (.aload_n 0, 1) := by decide +kernel
theorem dX9_hutTells_67 : decode cX9_hutTells 67 = .ok (.getfield 39, 3) := by decide +kernel
theorem dX9_hutTells_70 : decode cX9_hutTells 70 = .ok (.bipush 14, 2) := by decide +kernel
theorem dX9_hutTells_72 : decode cX9_hutTells 72 = .ok (.iload_n 1, 1) := by decide +kernel
theorem dX9_hutTells_73 : decode cX9_hutTells 73 = .ok (.iadd, 1) := by decide +kernel
theorem dX9_hutTells_74 : decode cX9_hutTells 74 = .ok (.iaload, 1) := by decide +kernel
theorem dX9_hutTells_75 : decode cX9_hutTells 75 = .ok (.ireturn, 1) := by decide +kernel
theorem dX9_hutTells_76 : decode cX9_hutTells 76 = .ok (.aload_n 0, 1) := by decide +kernel
theorem dX9_hutTells_77 : decode cX9_hutTells 77 = .ok (.getfield 39, 3) := by decide +kernel
theorem dX9_hutTells_80 : decode cX9_hutTells 80 = .ok (.bipush 20, 2) := by decide +kernel
theorem dX9_hutTells_82 : decode cX9_hutTells 82 = .ok (.iload_n 1, 1) := by decide +kernel
theorem dX9_hutTells_83 : decode cX9_hutTells 83 = .ok (.iadd, 1) := by decide +kernel
theorem dX9_hutTells_84 : decode cX9_hutTells 84 = .ok (.iaload, 1) := by decide +kernel
theorem dX9_hutTells_85 : decode cX9_hutTells 85 = .ok (.ireturn, 1) := by decide +kernel
theorem dX9_hutTells_86 : decode cX9_hutTells 86 = .ok (.aload_n 0, 1) := by decide +kernel
theorem dX9_hutTells_87 : decode cX9_hutTells 87 = .ok (.getfield 33, 3) := by decide +kernel
theorem dX9_hutTells_90 : decode cX9_hutTells 90 = .ok (.iload_n 1, 1) := by decide +kernel
theorem dX9_hutTells_91 : decode cX9_hutTells 91 = .ok (.iaload, 1) := by decide +kernel
theorem dX9_hutTells_92 : decode cX9_hutTells 92 = .ok (.aload_n 0, 1) := by decide +kernel
theorem dX9_hutTells_93 : decode cX9_hutTells 93 = .ok (.aload_n 0, 1) := by decide +kernel
theorem dX9_hutTells_94 : decode cX9_hutTells 94 = .ok (.getfield 39, 3) := by decide +kernel
theorem dX9_hutTells_97 : decode cX9_hutTells 97 = .ok (.invokevirtual 174, 3) := by decide +kernel
theorem dX9_hutTells_100 : decode cX9_hutTells 100 = .ok (.invokestatic 181, 3) := by decide +kernel
theorem dX9_hutTells_103 : decode cX9_hutTells 103 = .ok (.ireturn, 1) := by decide +kernel
theorem dX9_hutTells_104 : decode cX9_hutTells 104 = .ok (.aload_n 0, 1) := by decide +kernel
theorem dX9_hutTells_105 : decode cX9_hutTells 105 = .ok (.getfield 33, 3) := by decide +kernel
theorem dX9_hutTells_108 : decode cX9_hutTells 108 = .ok (.iload_n 1, 1) := by decide +kernel
theorem dX9_hutTells_109 : decode cX9_hutTells 109 = .ok (.iaload, 1) := by decide +kernel
theorem dX9_hutTells_110 : decode cX9_hutTells 110 = .ok (.invokestatic 171, 3) := by decide +kernel
theorem dX9_hutTells_113 : decode cX9_hutTells 113 = .ok (.ireturn, 1) := by decide +kernel
theorem dX9_hut_0 : decode cX9_hut 0 = .ok (.aload_n 0, 1) := by decide +kernel
theorem dX9_hut_1 : decode cX9_hut 1 = .ok (.iload_n 1, 1) := by decide +kernel
theorem dX9_hut_2 : decode cX9_hut 2 = .ok (.invokevirtual 198, 3) := by decide +kernel
theorem dX9_hut_5 : decode cX9_hut 5 = .ok (.ifCond .eq 27, 3) := by decide +kernel
theorem dX9_hut_8 : decode cX9_hut 8 = .ok (.iload_n 2, 1) := by decide +kernel
theorem dX9_hut_9 : decode cX9_hut 9 = .ok (.iconst 0, 1) := by decide +kernel
theorem dX9_hut_10 : decode cX9_hut 10 = .ok (.bipush 6, 2) := by decide +kernel
theorem dX9_hut_12 : decode cX9_hut 12 = .ok (.invokestatic 92, 3) := by decide +kernel
theorem dX9_hut_15 : decode cX9_hut 15 = .ok (.ifCond .eq 17, 3) := by decide +kernel
theorem dX9_hut_18 : decode cX9_hut 18 = .ok (.aload_n 0, 1) := by decide +kernel
theorem dX9_hut_19 : decode cX9_hut 19 = .ok (.aload_n 0, 1) := by decide +kernel
theorem dX9_hut_20 : decode cX9_hut 20 = .ok (.iload_n 1, 1) := by decide +kernel
theorem dX9_hut_21 : decode cX9_hut 21 = .ok (.iload_n 2, 1) := by decide +kernel
theorem dX9_hut_22 : decode cX9_hut 22 = .ok (.invokevirtual 201, 3) := by decide +kernel
theorem dX9_hut_25 : decode cX9_hut 25 = .ok (.iconst 1, 1) := by decide +kernel
theorem dX9_hut_26 : decode cX9_hut 26 = .ok (.invokevirtual 114, 3) := by decide +kernel
theorem dX9_hut_29 : decode cX9_hut 29 = .ok (.goto 4, 3) := by decide +kernel
theorem dX9_hut_32 : decode cX9_hut 32 = .ok (.iconst (-1), 1) := by decide +kernel
theorem dX9_hut_33 : decode cX9_hut 33 = .ok (.ireturn, 1) := by decide +kernel
theorem dX9_atBrick_0 : decode cX9_atBrick 0 = .ok (.bipush 10, 2) := by decide +kernel
theorem dX9_atBrick_2 : decode cX9_atBrick 2 = .ok (.istore_n 2, 1) := by decide +kernel
theorem dX9_atBrick_3 : decode cX9_atBrick 3 = .ok (.iconst 0, 1) := by decide +kernel
theorem dX9_atBrick_4 : decode cX9_atBrick 4 = .ok (.istore_n 3, 1) := by decide +kernel
theorem dX9_atBrick_5 : decode cX9_atBrick 5 = .ok (.iload_n 3, 1) := by decide +kernel
theorem dX9_atBrick_6 : decode cX9_atBrick 6 = .ok (.aload_n 0, 1) := by decide +kernel
theorem dX9_atBrick_7 : decode cX9_atBrick 7 = .ok (.getfield 154, 3) := by decide +kernel
theorem dX9_atBrick_10 : decode cX9_atBrick 10 = .ok (.if_icmp .ge 28, 3) := by decide +kernel
theorem dX9_atBrick_13 : decode cX9_atBrick 13 = .ok (.aload_n 0, 1) := by decide +kernel
theorem dX9_atBrick_14 : decode cX9_atBrick 14 = .ok (.getfield 39, 3) := by decide +kernel
theorem dX9_atBrick_17 : decode cX9_atBrick 17 = .ok (.bipush 20, 2) := by decide +kernel
theorem dX9_atBrick_19 : decode cX9_atBrick 19 = .ok (.iload_n 3, 1) := by decide +kernel
theorem dX9_atBrick_20 : decode cX9_atBrick 20 = .ok (.iadd, 1) := by decide +kernel
theorem dX9_atBrick_21 : decode cX9_atBrick 21 = .ok (.iaload, 1) := by decide +kernel
theorem dX9_atBrick_22 : decode cX9_atBrick 22 = .ok (.iload_n 1, 1) := by decide +kernel
theorem dX9_atBrick_23 : decode cX9_atBrick 23 = .ok (.if_icmp .ne 7, 3) := by decide +kernel
theorem dX9_atBrick_26 : decode cX9_atBrick 26 = .ok (.iload_n 3, 1) := by decide +kernel
theorem dX9_atBrick_27 : decode cX9_atBrick 27 = .ok (.goto 4, 3) := by decide +kernel
theorem dX9_atBrick_30 : decode cX9_atBrick 30 = .ok (.iload_n 2, 1) := by decide +kernel
theorem dX9_atBrick_31 : decode cX9_atBrick 31 = .ok (.istore_n 2, 1) := by decide +kernel
theorem dX9_atBrick_32 : decode cX9_atBrick 32 = .ok (.iinc 3 1, 3) := by decide +kernel
theorem dX9_atBrick_35 : decode cX9_atBrick 35 = .ok (.goto (-30), 3) := by decide +kernel
theorem dX9_atBrick_38 : decode cX9_atBrick 38 = .ok (.iload_n 2, 1) := by decide +kernel
theorem dX9_atBrick_39 : decode cX9_atBrick 39 = .ok (.ireturn, 1) := by decide +kernel
theorem dX9_lessLate_0 : decode cX9_lessLate 0 = .ok (.iconst 0, 1) := by decide +kernel
theorem dX9_lessLate_1 : decode cX9_lessLate 1 = .ok (.istore_n 2, 1) := by decide +kernel
theorem dX9_lessLate_2 : decode cX9_lessLate 2 = .ok (.iconst 0, 1) := by decide +kernel
theorem dX9_lessLate_3 : decode cX9_lessLate 3 = .ok (.istore_n 3, 1) := by decide +kernel
theorem dX9_lessLate_4 : decode cX9_lessLate 4 = .ok (.iload_n 3, 1) := by decide +kernel
theorem dX9_lessLate_5 : decode cX9_lessLate 5 = .ok (.aload_n 0, 1) := by decide +kernel
theorem dX9_lessLate_6 : decode cX9_lessLate 6 = .ok (.getfield 154, 3) := by decide +kernel
theorem dX9_lessLate_9 : decode cX9_lessLate 9 = .ok (.if_icmp .ge 30, 3) := by decide +kernel
theorem dX9_lessLate_12 : decode cX9_lessLate 12 = .ok (.iload_n 2, 1) := by decide +kernel
theorem dX9_lessLate_13 : decode cX9_lessLate 13 = .ok (.aload_n 0, 1) := by decide +kernel
theorem dX9_lessLate_14 : decode cX9_lessLate 14 = .ok (.getfield 33, 3) := by decide +kernel
theorem dX9_lessLate_17 : decode cX9_lessLate 17 = .ok (.iload_n 3, 1) := by decide +kernel
theorem dX9_lessLate_18 : decode cX9_lessLate 18 = .ok (.iaload, 1) := by decide +kernel
theorem dX9_lessLate_19 : decode cX9_lessLate 19 = .ok (.invokestatic 171, 3) := by decide +kernel
theorem dX9_lessLate_22 : decode cX9_lessLate 22 = .ok (.iload_n 1, 1) := by decide +kernel
theorem dX9_lessLate_23 : decode cX9_lessLate 23 = .ok (.if_icmp .ge 7, 3) := by decide +kernel
theorem dX9_lessLate_26 : decode cX9_lessLate 26 = .ok (.iconst 1, 1) := by decide +kernel
theorem dX9_lessLate_27 : decode cX9_lessLate 27 = .ok (.goto 4, 3) := by decide +kernel
theorem dX9_lessLate_30 : decode cX9_lessLate 30 = .ok (.iconst 0, 1) := by decide +kernel
theorem dX9_lessLate_31 : decode cX9_lessLate 31 = .ok (.iadd, 1) := by decide +kernel
theorem dX9_lessLate_32 : decode cX9_lessLate 32 = .ok (.istore_n 2, 1) := by decide +kernel
theorem dX9_lessLate_33 : decode cX9_lessLate 33 = .ok (.iinc 3 1, 3) := by decide +kernel
theorem dX9_lessLate_36 : decode cX9_lessLate 36 = .ok (.goto (-32), 3) := by decide +kernel
theorem dX9_lessLate_39 : decode cX9_lessLate 39 = .ok (.iload_n 2, 1) := by decide +kernel
theorem dX9_lessLate_40 : decode cX9_lessLate 40 = .ok (.ireturn, 1) := by decide +kernel
theorem dX9_mark_0 : decode cX9_mark 0 = .ok (.aload_n 0, 1) := by decide +kernel
theorem dX9_mark_1 : decode cX9_mark 1 = .ok (.iload_n 1, 1) := by decide +kernel
theorem dX9_mark_2 : decode cX9_mark 2 = .ok (.invokevirtual 198, 3) := by decide +kernel
theorem dX9_mark_5 : decode cX9_mark 5 = .ok (.ifCond .eq 12, 3) := by decide +kernel
theorem dX9_mark_8 : decode cX9_mark 8 = .ok (.iload_n 2, 1) := by decide +kernel
theorem dX9_mark_9 : decode cX9_mark 9 = .ok (.iconst 1, 1) := by decide +kernel
theorem dX9_mark_10 : decode cX9_mark 10 = .ok (.iconst 5, 1) := by decide +kernel
theorem dX9_mark_11 : decode cX9_mark 11 = .ok (.invokestatic 92, 3) := by decide +kernel
theorem dX9_mark_14 : decode cX9_mark 14 = .ok (.ifCond .ne 5, 3) := by decide +kernel
theorem dX9_mark_17 : decode cX9_mark 17 = .ok (.iconst (-1), 1) := by decide +kernel
theorem dX9_mark_18 : decode cX9_mark 18 = .ok (.ireturn, 1) := by decide +kernel
theorem dX9_mark_19 : decode cX9_mark 19 = .ok (.aload_n 0, 1) := by decide +kernel
theorem dX9_mark_20 : decode cX9_mark 20 = .ok (.getfield 33, 3) := by decide +kernel
theorem dX9_mark_23 : decode cX9_mark 23 = .ok (.iload_n 1, 1) := by decide +kernel
theorem dX9_mark_24 : decode cX9_mark 24 = .ok (.iaload, 1) := by decide +kernel
theorem dX9_mark_25 : decode cX9_mark 25 = .ok (.istore_n 3, 1) := by decide +kernel
theorem dX9_mark_26 : decode cX9_mark 26 = .ok (.iload_n 3, 1) := by decide +kernel
theorem dX9_mark_27 : decode cX9_mark 27 = .ok (.iload_n 2, 1) := by decide +kernel
theorem dX9_mark_28 : decode cX9_mark 28 = .ok (.if_icmp .eq 29, 3) := by decide +kernel
theorem dX9_mark_31 : decode cX9_mark 31 = .ok (.iload_n 2, 1) := by decide +kernel
theorem dX9_mark_32 : decode cX9_mark 32 = .ok (.iconst 1, 1) := by decide +kernel
theorem dX9_mark_33 : decode cX9_mark 33 = .ok (.if_icmp .ne 8, 3) := by decide +kernel
theorem dX9_mark_36 : decode cX9_mark 36 = .ok (.iload_n 3, 1) := by decide +kernel
theorem dX9_mark_37 : decode cX9_mark 37 = .ok (.iconst 4, 1) := by decide +kernel
theorem dX9_mark_38 : decode cX9_mark 38 = .ok (.if_icmp .eq 19, 3) := by decide +kernel
theorem dX9_mark_41 : decode cX9_mark 41 = .ok (.iload_n 2, 1) := by decide +kernel
theorem dX9_mark_42 : decode cX9_mark 42 = .ok (.iconst 3, 1) := by decide +kernel
theorem dX9_mark_43 : decode cX9_mark 43 = .ok (.if_icmp .ne 8, 3) := by decide +kernel
theorem dX9_mark_46 : decode cX9_mark 46 = .ok (.iload_n 3, 1) := by decide +kernel
theorem dX9_mark_47 : decode cX9_mark 47 = .ok (.iconst 5, 1) := by decide +kernel
theorem dX9_mark_48 : decode cX9_mark 48 = .ok (.if_icmp .eq 9, 3) := by decide +kernel
theorem dX9_mark_51 : decode cX9_mark 51 = .ok (.aload_n 0, 1) := by decide +kernel
theorem dX9_mark_52 : decode cX9_mark 52 = .ok (.iconst 3, 1) := by decide +kernel
theorem dX9_mark_53 : decode cX9_mark 53 = .ok (.invokevirtual 106, 3) := by decide +kernel
theorem dX9_mark_56 : decode cX9_mark 56 = .ok (.ireturn, 1) := by decide +kernel
theorem dX9_mark_57 : decode cX9_mark 57 = .ok (.aload_n 0, 1) := by decide +kernel
theorem dX9_mark_58 : decode cX9_mark 58 = .ok (.aload_n 0, 1) := by decide +kernel
theorem dX9_mark_59 : decode cX9_mark 59 = .ok (.getfield 39, 3) := by decide +kernel
theorem dX9_mark_62 : decode cX9_mark 62 = .ok (.invokevirtual 174, 3) := by decide +kernel
theorem dX9_mark_65 : decode cX9_mark 65 = .ok (.istore 4, 2) := by decide +kernel
theorem dX9_mark_67 : decode cX9_mark 67 = .ok (.iload_n 2, 1) := by decide +kernel
theorem dX9_mark_68 : decode cX9_mark 68 = .ok (.tableswitch 84 1 4 #[32, 42, 57, 70], 32) := by decide +kernel
theorem dX9_mark_100 : decode cX9_mark 100 = .ok (.iload_n 3, 1) := by decide +kernel
theorem dX9_mark_101 : decode cX9_mark 101 = .ok (.iload 4, 2) := by decide +kernel
theorem dX9_mark_103 : decode cX9_mark 103 = .ok (.invokestatic 181, 3) := by decide +kernel
theorem dX9_mark_106 : decode cX9_mark 106 = .ok (.iload 4, 2) := by decide +kernel
theorem dX9_mark_108 : decode cX9_mark 108 = .ok (.isub, 1) := by decide +kernel
theorem dX9_mark_109 : decode cX9_mark 109 = .ok (.ireturn, 1) := by decide +kernel
theorem dX9_mark_110 : decode cX9_mark 110 = .ok (.iload_n 3, 1) := by decide +kernel
theorem dX9_mark_111 : decode cX9_mark 111 = .ok (.iload 4, 2) := by decide +kernel
theorem dX9_mark_113 : decode cX9_mark 113 = .ok (.invokestatic 178, 3) := by decide +kernel
theorem dX9_mark_116 : decode cX9_mark 116 = .ok (.ifCond .eq 7, 3) := by decide +kernel
theorem dX9_mark_119 : decode cX9_mark 119 = .ok (.iconst 1, 1) := by decide +kernel
theorem dX9_mark_120 : decode cX9_mark 120 = .ok (.goto 4, 3) := by decide +kernel
theorem dX9_mark_123 : decode cX9_mark 123 = .ok (.iconst 0, 1) := by decide +kernel
theorem dX9_mark_124 : decode cX9_mark 124 = .ok (.ireturn, 1) := by decide +kernel
theorem dX9_mark_125 : decode cX9_mark 125 = .ok (.iload 4, 2) := by decide +kernel
theorem dX9_mark_127 : decode cX9_mark 127 = .ok (.iload_n 3, 1) := by decide +kernel
theorem dX9_mark_128 : decode cX9_mark 128 = .ok (.iload 4, 2) := by decide +kernel
theorem dX9_mark_130 : decode cX9_mark 130 = .ok (.invokestatic 181, 3) := by decide +kernel
theorem dX9_mark_133 : decode cX9_mark 133 = .ok (.isub, 1) := by decide +kernel
theorem dX9_mark_134 : decode cX9_mark 134 = .ok (.bipush 10, 2) := by decide +kernel
theorem dX9_mark_136 : decode cX9_mark 136 = .ok (.iadd, 1) := by decide +kernel
theorem dX9_mark_137 : decode cX9_mark 137 = .ok (.ireturn, 1) := by decide +kernel
theorem dX9_mark_138 : decode cX9_mark 138 = .ok (.aload_n 0, 1) := by decide +kernel
theorem dX9_mark_139 : decode cX9_mark 139 = .ok (.aload_n 0, 1) := by decide +kernel
theorem dX9_mark_140 : decode cX9_mark 140 = .ok (.aload_n 0, 1) := by decide +kernel
theorem dX9_mark_141 : decode cX9_mark 141 = .ok (.getfield 39, 3) := by decide +kernel
theorem dX9_mark_144 : decode cX9_mark 144 = .ok (.iload_n 1, 1) := by decide +kernel
theorem dX9_mark_145 : decode cX9_mark 145 = .ok (.invokevirtual 191, 3) := by decide +kernel
theorem dX9_mark_148 : decode cX9_mark 148 = .ok (.invokevirtual 204, 3) := by decide +kernel
theorem dX9_mark_151 : decode cX9_mark 151 = .ok (.ireturn, 1) := by decide +kernel
theorem dX9_mark_152 : decode cX9_mark 152 = .ok (.aload_n 0, 1) := by decide +kernel
theorem dX9_mark_153 : decode cX9_mark 153 = .ok (.iload_n 3, 1) := by decide +kernel
theorem dX9_mark_154 : decode cX9_mark 154 = .ok (.invokestatic 171, 3) := by decide +kernel
theorem dX9_mark_157 : decode cX9_mark 157 = .ok (.invokevirtual 207, 3) := by decide +kernel
theorem dX9_mark_160 : decode cX9_mark 160 = .ok (.ireturn, 1) := by decide +kernel
theorem dX9_tires_0 : decode cX9_tires 0 = .ok (.aload_n 0, 1) := by decide +kernel
theorem dX9_tires_1 : decode cX9_tires 1 = .ok (.iload_n 1, 1) := by decide +kernel
theorem dX9_tires_2 : decode cX9_tires 2 = .ok (.invokevirtual 198, 3) := by decide +kernel
theorem dX9_tires_5 : decode cX9_tires 5 = .ok (.ifCond .eq 46, 3) := by decide +kernel
theorem dX9_tires_8 : decode cX9_tires 8 = .ok (.iload_n 2, 1) := by decide +kernel
theorem dX9_tires_9 : decode cX9_tires 9 = .ok (.iconst 0, 1) := by decide +kernel
theorem dX9_tires_10 : decode cX9_tires 10 = .ok (.bipush 9, 2) := by decide +kernel
theorem dX9_tires_12 : decode cX9_tires 12 = .ok (.invokestatic 92, 3) := by decide +kernel
theorem dX9_tires_15 : decode cX9_tires 15 = .ok (.ifCond .eq 36, 3) := by decide +kernel
theorem dX9_tires_18 : decode cX9_tires 18 = .ok (.aload_n 0, 1) := by decide +kernel
theorem dX9_tires_19 : decode cX9_tires 19 = .ok (.getfield 33, 3) := by decide +kernel
theorem dX9_tires_22 : decode cX9_tires 22 = .ok (.iload_n 1, 1) := by decide +kernel
theorem dX9_tires_23 : decode cX9_tires 23 = .ok (.iaload, 1) := by decide +kernel
theorem dX9_tires_24 : decode cX9_tires 24 = .ok (.iload_n 2, 1) := by decide +kernel
theorem dX9_tires_25 : decode cX9_tires 25 = .ok (.invokestatic 181, 3) := by decide +kernel
theorem dX9_tires_28 : decode cX9_tires 28 = .ok (.aload_n 0, 1) := by decide +kernel
theorem dX9_tires_29 : decode cX9_tires 29 = .ok (.getfield 33, 3) := by decide +kernel
theorem dX9_tires_32 : decode cX9_tires 32 = .ok (.iload_n 1, 1) := by decide +kernel
theorem dX9_tires_33 : decode cX9_tires 33 = .ok (.iaload, 1) := by decide +kernel
theorem dX9_tires_34 : decode cX9_tires 34 = .ok (.iload_n 2, 1) := by decide +kernel
theorem dX9_tires_35 : decode cX9_tires 35 = .ok (.invokestatic 178, 3) := by decide +kernel
theorem dX9_tires_38 : decode cX9_tires 38 = .ok (.ifCond .eq 8, 3) := by decide +kernel
theorem dX9_tires_41 : decode cX9_tires 41 = .ok (.bipush 10, 2) := by decide +kernel
theorem dX9_tires_43 : decode cX9_tires 43 = .ok (.goto 4, 3) := by decide +kernel
theorem dX9_tires_46 : decode cX9_tires 46 = .ok (.iconst 0, 1) := by decide +kernel
theorem dX9_tires_47 : decode cX9_tires 47 = .ok (.iadd, 1) := by decide +kernel
theorem dX9_tires_48 : decode cX9_tires 48 = .ok (.goto 4, 3) := by decide +kernel
theorem dX9_tires_51 : decode cX9_tires 51 = .ok (.iconst (-1), 1) := by decide +kernel
theorem dX9_tires_52 : decode cX9_tires 52 = .ok (.ireturn, 1) := by decide +kernel
theorem dX9_remember_0 : decode cX9_remember 0 = .ok (.iconst 0, 1) := by decide +kernel
theorem dX9_remember_1 : decode cX9_remember 1 = .ok (.istore_n 1, 1) := by decide +kernel
theorem dX9_remember_2 : decode cX9_remember 2 = .ok (.iload_n 1, 1) := by decide +kernel
theorem dX9_remember_3 : decode cX9_remember 3 = .ok (.bipush 26, 2) := by decide +kernel
theorem dX9_remember_5 : decode cX9_remember 5 = .ok (.if_icmp .ge 29, 3) := by decide +kernel
theorem dX9_remember_8 : decode cX9_remember 8 = .ok (.aload_n 0, 1) := by decide +kernel
theorem dX9_remember_9 : decode cX9_remember 9 = .ok (.getfield 54, 3) := by decide +kernel
theorem dX9_remember_12 : decode cX9_remember 12 = .ok (.bipush 26, 2) := by decide +kernel
theorem dX9_remember_14 : decode cX9_remember 14 = .ok (.aload_n 0, 1) := by decide +kernel
theorem dX9_remember_15 : decode cX9_remember 15 = .ok (.getfield 157, 3) := by decide +kernel
theorem dX9_remember_18 : decode cX9_remember 18 = .ok (.imul, 1) := by decide +kernel
theorem dX9_remember_19 : decode cX9_remember 19 = .ok (.iload_n 1, 1) := by decide +kernel
theorem dX9_remember_20 : decode cX9_remember 20 = .ok (.iadd, 1) := by decide +kernel
theorem dX9_remember_21 : decode cX9_remember 21 = .ok (.aload_n 0, 1) := by decide +kernel
theorem dX9_remember_22 : decode cX9_remember 22 = .ok (.getfield 39, 3) := by decide +kernel
theorem dX9_remember_25 : decode cX9_remember 25 = .ok (.iload_n 1, 1) := by decide +kernel
theorem dX9_remember_26 : decode cX9_remember 26 = .ok (.iaload, 1) := by decide +kernel
theorem dX9_remember_27 : decode cX9_remember 27 = .ok (.iastore, 1) := by decide +kernel
theorem dX9_remember_28 : decode cX9_remember 28 = .ok (.iinc 1 1, 3) := by decide +kernel
theorem dX9_remember_31 : decode cX9_remember 31 = .ok (.goto (-29), 3) := by decide +kernel
theorem dX9_remember_34 : decode cX9_remember 34 = .ok (.aload_n 0, 1) := by decide +kernel
theorem dX9_remember_35 : decode cX9_remember 35 = .ok (.dup, 1) := by decide +kernel
theorem dX9_remember_36 : decode cX9_remember 36 = .ok (.getfield 157, 3) := by decide +kernel
theorem dX9_remember_39 : decode cX9_remember 39 = .ok (.iconst 1, 1) := by decide +kernel
theorem dX9_remember_40 : decode cX9_remember 40 = .ok (.iadd, 1) := by decide +kernel
theorem dX9_remember_41 : decode cX9_remember 41 = .ok (.putfield 157, 3) := by decide +kernel
theorem dX9_remember_44 : decode cX9_remember 44 = .ok (.return_, 1) := by decide +kernel
theorem dX9_need_0 : decode cX9_need 0 = .ok (.iload_n 1, 1) := by decide +kernel
theorem dX9_need_1 : decode cX9_need 1 = .ok (.ifCond .ne 7, 3) := by decide +kernel
theorem dX9_need_4 : decode cX9_need 4 = .ok (.iconst (-1), 1) := by decide +kernel
theorem dX9_need_5 : decode cX9_need 5 = .ok (.goto 16, 3) := by decide +kernel
theorem dX9_need_8 : decode cX9_need 8 = .ok (.aload_n 0, 1) := by decide +kernel
theorem dX9_need_9 : decode cX9_need 9 = .ok (.getfield 154, 3) := by decide +kernel
theorem dX9_need_12 : decode cX9_need 12 = .ok (.ifCond .ne 8, 3) := by decide +kernel
theorem dX9_need_15 : decode cX9_need 15 = .ok (.bipush (-4), 2) := by decide +kernel
theorem dX9_need_17 : decode cX9_need 17 = .ok (.goto 4, 3) := by decide +kernel
theorem dX9_need_20 : decode cX9_need 20 = .ok (.iconst 0, 1) := by decide +kernel
theorem dX9_need_21 : decode cX9_need 21 = .ok (.ireturn, 1) := by decide +kernel
theorem dX9_winter_0 : decode cX9_winter 0 = .ok (.aload_n 0, 1) := by decide +kernel
theorem dX9_winter_1 : decode cX9_winter 1 = .ok (.getfield 154, 3) := by decide +kernel
theorem dX9_winter_4 : decode cX9_winter 4 = .ok (.ifCond .ne 6, 3) := by decide +kernel
theorem dX9_winter_7 : decode cX9_winter 7 = .ok (.bipush (-4), 2) := by decide +kernel
theorem dX9_winter_9 : decode cX9_winter 9 = .ok (.ireturn, 1) := by decide +kernel
theorem dX9_winter_10 : decode cX9_winter 10 = .ok (.aload_n 0, 1) := by decide +kernel
theorem dX9_winter_11 : decode cX9_winter 11 = .ok (.getfield 157, 3) := by decide +kernel
theorem dX9_winter_14 : decode cX9_winter 14 = .ok (.bipush 40, 2) := by decide +kernel
theorem dX9_winter_16 : decode cX9_winter 16 = .ok (.if_icmp .ne 6, 3) := by decide +kernel
theorem dX9_winter_19 : decode cX9_winter 19 = .ok (.bipush (-2), 2) := by decide +kernel
theorem dX9_winter_21 : decode cX9_winter 21 = .ok (.ireturn, 1) := by decide +kernel
theorem dX9_winter_22 : decode cX9_winter 22 = .ok (.aload_n 0, 1) := by decide +kernel
theorem dX9_winter_23 : decode cX9_winter 23 = .ok (.invokevirtual 210, 3) := by decide +kernel
theorem dX9_winter_26 : decode cX9_winter 26 = .ok (.aload_n 0, 1) := by decide +kernel
theorem dX9_winter_27 : decode cX9_winter 27 = .ok (.aload_n 0, 1) := by decide +kernel
theorem dX9_winter_28 : decode cX9_winter 28 = .ok (.getfield 39, 3) := by decide +kernel
theorem dX9_winter_31 : decode cX9_winter 31 = .ok (.invokevirtual 213, 3) := by decide +kernel
theorem dX9_winter_34 : decode cX9_winter 34 = .ok (.aload_n 0, 1) := by decide +kernel
theorem dX9_winter_35 : decode cX9_winter 35 = .ok (.aload_n 0, 1) := by decide +kernel
theorem dX9_winter_36 : decode cX9_winter 36 = .ok (.getfield 39, 3) := by decide +kernel
theorem dX9_winter_39 : decode cX9_winter 39 = .ok (.invokevirtual 217, 3) := by decide +kernel
theorem dX9_winter_42 : decode cX9_winter 42 = .ok (.invokestatic 220, 3) := by decide +kernel
theorem dX9_winter_45 : decode cX9_winter 45 = .ok (.ireturn, 1) := by decide +kernel
theorem dX9_fed_0 : decode cX9_fed 0 = .ok (.aload_n 0, 1) := by decide +kernel
theorem dX9_fed_1 : decode cX9_fed 1 = .ok (.getfield 39, 3) := by decide +kernel
theorem dX9_fed_4 : decode cX9_fed 4 = .ok (.iconst 1, 1) := by decide +kernel
theorem dX9_fed_5 : decode cX9_fed 5 = .ok (.dup2, 1) := by decide +kernel
theorem dX9_fed_6 : decode cX9_fed 6 = .ok (.iaload, 1) := by decide +kernel
theorem dX9_fed_7 : decode cX9_fed 7 = .ok (.iconst 1, 1) := by decide +kernel
theorem dX9_fed_8 : decode cX9_fed 8 = .ok (.isub, 1) := by decide +kernel
theorem dX9_fed_9 : decode cX9_fed 9 = .ok (.iastore, 1) := by decide +kernel
theorem dX9_fed_10 : decode cX9_fed 10 = .ok (.aload_n 0, 1) := by decide +kernel
theorem dX9_fed_11 : decode cX9_fed 11 = .ok (.getfield 39, 3) := by decide +kernel
theorem dX9_fed_14 : decode cX9_fed 14 = .ok (.bipush 8, 2) := by decide +kernel
theorem dX9_fed_16 : decode cX9_fed 16 = .ok (.iload_n 1, 1) := by decide +kernel
theorem dX9_fed_17 : decode cX9_fed 17 = .ok (.iadd, 1) := by decide +kernel
theorem dX9_fed_18 : decode cX9_fed 18 = .ok (.dup2, 1) := by decide +kernel
theorem dX9_fed_19 : decode cX9_fed 19 = .ok (.iaload, 1) := by decide +kernel
theorem dX9_fed_20 : decode cX9_fed 20 = .ok (.iconst 2, 1) := by decide +kernel
theorem dX9_fed_21 : decode cX9_fed 21 = .ok (.iadd, 1) := by decide +kernel
theorem dX9_fed_22 : decode cX9_fed 22 = .ok (.iastore, 1) := by decide +kernel
theorem dX9_fed_23 : decode cX9_fed 23 = .ok (.aload_n 0, 1) := by decide +kernel
theorem dX9_fed_24 : decode cX9_fed 24 = .ok (.getfield 39, 3) := by decide +kernel
theorem dX9_fed_27 : decode cX9_fed 27 = .ok (.bipush 8, 2) := by decide +kernel
theorem dX9_fed_29 : decode cX9_fed 29 = .ok (.iload_n 1, 1) := by decide +kernel
theorem dX9_fed_30 : decode cX9_fed 30 = .ok (.iadd, 1) := by decide +kernel
theorem dX9_fed_31 : decode cX9_fed 31 = .ok (.aload_n 0, 1) := by decide +kernel
theorem dX9_fed_32 : decode cX9_fed 32 = .ok (.getfield 39, 3) := by decide +kernel
theorem dX9_fed_35 : decode cX9_fed 35 = .ok (.bipush 8, 2) := by decide +kernel
theorem dX9_fed_37 : decode cX9_fed 37 = .ok (.iload_n 1, 1) := by decide +kernel
theorem dX9_fed_38 : decode cX9_fed 38 = .ok (.iadd, 1) := by decide +kernel
theorem dX9_fed_39 : decode cX9_fed 39 = .ok (.iaload, 1) := by decide +kernel
theorem dX9_fed_40 : decode cX9_fed 40 = .ok (.bipush 9, 2) := by decide +kernel
theorem dX9_fed_42 : decode cX9_fed 42 = .ok (.if_icmp .le 8, 3) := by decide +kernel
theorem dX9_fed_45 : decode cX9_fed 45 = .ok (.bipush 9, 2) := by decide +kernel
theorem dX9_fed_47 : decode cX9_fed 47 = .ok (.goto 12, 3) := by decide +kernel
theorem dX9_fed_50 : decode cX9_fed 50 = .ok (.aload_n 0, 1) := by decide +kernel
theorem dX9_fed_51 : decode cX9_fed 51 = .ok (.getfield 39, 3) := by decide +kernel
theorem dX9_fed_54 : decode cX9_fed 54 = .ok (.bipush 8, 2) := by decide +kernel
theorem dX9_fed_56 : decode cX9_fed 56 = .ok (.iload_n 1, 1) := by decide +kernel
theorem dX9_fed_57 : decode cX9_fed 57 = .ok (.iadd, 1) := by decide +kernel
theorem dX9_fed_58 : decode cX9_fed 58 = .ok (.iaload, 1) := by decide +kernel
theorem dX9_fed_59 : decode cX9_fed 59 = .ok (.iastore, 1) := by decide +kernel
theorem dX9_fed_60 : decode cX9_fed 60 = .ok (.return_, 1) := by decide +kernel
theorem dX9_feed_0 : decode cX9_feed 0 = .ok (.aload_n 0, 1) := by decide +kernel
theorem dX9_feed_1 : decode cX9_feed 1 = .ok (.iload_n 1, 1) := by decide +kernel
theorem dX9_feed_2 : decode cX9_feed 2 = .ok (.invokevirtual 198, 3) := by decide +kernel
theorem dX9_feed_5 : decode cX9_feed 5 = .ok (.ifCond .ne 5, 3) := by decide +kernel
theorem dX9_feed_8 : decode cX9_feed 8 = .ok (.iconst (-1), 1) := by decide +kernel
theorem dX9_feed_9 : decode cX9_feed 9 = .ok (.ireturn, 1) := by decide +kernel
theorem dX9_feed_10 : decode cX9_feed 10 = .ok (.aload_n 0, 1) := by decide +kernel
theorem dX9_feed_11 : decode cX9_feed 11 = .ok (.getfield 39, 3) := by decide +kernel
theorem dX9_feed_14 : decode cX9_feed 14 = .ok (.iload_n 1, 1) := by decide +kernel
theorem dX9_feed_15 : decode cX9_feed 15 = .ok (.invokestatic 160, 3) := by decide +kernel
theorem dX9_feed_18 : decode cX9_feed 18 = .ok (.ifCond .ne 6, 3) := by decide +kernel
theorem dX9_feed_21 : decode cX9_feed 21 = .ok (.bipush (-4), 2) := by decide +kernel
theorem dX9_feed_23 : decode cX9_feed 23 = .ok (.ireturn, 1) := by decide +kernel
theorem dX9_feed_24 : decode cX9_feed 24 = .ok (.aload_n 0, 1) := by decide +kernel
theorem dX9_feed_25 : decode cX9_feed 25 = .ok (.getfield 39, 3) := by decide +kernel
theorem dX9_feed_28 : decode cX9_feed 28 = .ok (.iconst 1, 1) := by decide +kernel
theorem dX9_feed_29 : decode cX9_feed 29 = .ok (.iaload, 1) := by decide +kernel
theorem dX9_feed_30 : decode cX9_feed 30 = .ok (.ifCond .ne 6, 3) := by decide +kernel
theorem dX9_feed_33 : decode cX9_feed 33 = .ok (.bipush (-6), 2) := by decide +kernel
theorem dX9_feed_35 : decode cX9_feed 35 = .ok (.ireturn, 1) := by decide +kernel
theorem dX9_feed_36 : decode cX9_feed 36 = .ok (.aload_n 0, 1) := by decide +kernel
theorem dX9_feed_37 : decode cX9_feed 37 = .ok (.getfield 157, 3) := by decide +kernel
theorem dX9_feed_40 : decode cX9_feed 40 = .ok (.bipush 40, 2) := by decide +kernel
theorem dX9_feed_42 : decode cX9_feed 42 = .ok (.if_icmp .ne 6, 3) := by decide +kernel
theorem dX9_feed_45 : decode cX9_feed 45 = .ok (.bipush (-2), 2) := by decide +kernel
theorem dX9_feed_47 : decode cX9_feed 47 = .ok (.ireturn, 1) := by decide +kernel
theorem dX9_feed_48 : decode cX9_feed 48 = .ok (.aload_n 0, 1) := by decide +kernel
theorem dX9_feed_49 : decode cX9_feed 49 = .ok (.invokevirtual 210, 3) := by decide +kernel
theorem dX9_feed_52 : decode cX9_feed 52 = .ok (.aload_n 0, 1) := by decide +kernel
theorem dX9_feed_53 : decode cX9_feed 53 = .ok (.iload_n 1, 1) := by decide +kernel
theorem dX9_feed_54 : decode cX9_feed 54 = .ok (.invokevirtual 223, 3) := by decide +kernel
theorem dX9_feed_57 : decode cX9_feed 57 = .ok (.aload_n 0, 1) := by decide +kernel
theorem dX9_feed_58 : decode cX9_feed 58 = .ok (.getfield 39, 3) := by decide +kernel
theorem dX9_feed_61 : decode cX9_feed 61 = .ok (.bipush 8, 2) := by decide +kernel
theorem dX9_feed_63 : decode cX9_feed 63 = .ok (.iload_n 1, 1) := by decide +kernel
theorem dX9_feed_64 : decode cX9_feed 64 = .ok (.iadd, 1) := by decide +kernel
theorem dX9_feed_65 : decode cX9_feed 65 = .ok (.iaload, 1) := by decide +kernel
theorem dX9_feed_66 : decode cX9_feed 66 = .ok (.ireturn, 1) := by decide +kernel
theorem dX9_sell_0 : decode cX9_sell 0 = .ok (.aload_n 0, 1) := by decide +kernel
theorem dX9_sell_1 : decode cX9_sell 1 = .ok (.iload_n 1, 1) := by decide +kernel
theorem dX9_sell_2 : decode cX9_sell 2 = .ok (.invokevirtual 198, 3) := by decide +kernel
theorem dX9_sell_5 : decode cX9_sell 5 = .ok (.ifCond .eq 16, 3) := by decide +kernel
theorem dX9_sell_8 : decode cX9_sell 8 = .ok (.aload_n 0, 1) := by decide +kernel
theorem dX9_sell_9 : decode cX9_sell 9 = .ok (.iload_n 2, 1) := by decide +kernel
theorem dX9_sell_10 : decode cX9_sell 10 = .ok (.invokevirtual 198, 3) := by decide +kernel
theorem dX9_sell_13 : decode cX9_sell 13 = .ok (.ifCond .eq 8, 3) := by decide +kernel
theorem dX9_sell_16 : decode cX9_sell 16 = .ok (.iload_n 1, 1) := by decide +kernel
theorem dX9_sell_17 : decode cX9_sell 17 = .ok (.iload_n 2, 1) := by decide +kernel
theorem dX9_sell_18 : decode cX9_sell 18 = .ok (.if_icmp .ne 5, 3) := by decide +kernel
theorem dX9_sell_21 : decode cX9_sell 21 = .ok (.iconst (-1), 1) := by decide +kernel
theorem dX9_sell_22 : decode cX9_sell 22 = .ok (.ireturn, 1) := by decide +kernel
theorem dX9_sell_23 : decode cX9_sell 23 = .ok (.aload_n 0, 1) := by decide +kernel
theorem dX9_sell_24 : decode cX9_sell 24 = .ok (.getfield 39, 3) := by decide +kernel
theorem dX9_sell_27 : decode cX9_sell 27 = .ok (.iload_n 1, 1) := by decide +kernel
theorem dX9_sell_28 : decode cX9_sell 28 = .ok (.invokestatic 160, 3) := by decide +kernel
theorem dX9_sell_31 : decode cX9_sell 31 = .ok (.ifCond .eq 14, 3) := by decide +kernel
theorem dX9_sell_34 : decode cX9_sell 34 = .ok (.aload_n 0, 1) := by decide +kernel
theorem dX9_sell_35 : decode cX9_sell 35 = .ok (.getfield 39, 3) := by decide +kernel
theorem dX9_sell_38 : decode cX9_sell 38 = .ok (.iload_n 2, 1) := by decide +kernel
theorem dX9_sell_39 : decode cX9_sell 39 = .ok (.invokestatic 160, 3) := by decide +kernel
theorem dX9_sell_42 : decode cX9_sell 42 = .ok (.ifCond .ne 6, 3) := by decide +kernel
theorem dX9_sell_45 : decode cX9_sell 45 = .ok (.bipush (-4), 2) := by decide +kernel
theorem dX9_sell_47 : decode cX9_sell 47 = .ok (.ireturn, 1) := by decide +kernel
theorem dX9_sell_48 : decode cX9_sell 48 = .ok (.aload_n 0, 1) := by decide +kernel
theorem dX9_sell_49 : decode cX9_sell 49 = .ok (.getfield 157, 3) := by decide +kernel
theorem dX9_sell_52 : decode cX9_sell 52 = .ok (.bipush 40, 2) := by decide +kernel
theorem dX9_sell_54 : decode cX9_sell 54 = .ok (.if_icmp .ne 6, 3) := by decide +kernel
theorem dX9_sell_57 : decode cX9_sell 57 = .ok (.bipush (-2), 2) := by decide +kernel
theorem dX9_sell_59 : decode cX9_sell 59 = .ok (.ireturn, 1) := by decide +kernel
theorem dX9_sell_60 : decode cX9_sell 60 = .ok (.aload_n 0, 1) := by decide +kernel
theorem dX9_sell_61 : decode cX9_sell 61 = .ok (.invokevirtual 210, 3) := by decide +kernel
theorem dX9_sell_64 : decode cX9_sell 64 = .ok (.aload_n 0, 1) := by decide +kernel
theorem dX9_sell_65 : decode cX9_sell 65 = .ok (.getfield 39, 3) := by decide +kernel
theorem dX9_sell_68 : decode cX9_sell 68 = .ok (.iconst 2, 1) := by decide +kernel
theorem dX9_sell_69 : decode cX9_sell 69 = .ok (.iload_n 1, 1) := by decide +kernel
theorem dX9_sell_70 : decode cX9_sell 70 = .ok (.iadd, 1) := by decide +kernel
theorem dX9_sell_71 : decode cX9_sell 71 = .ok (.iaload, 1) := by decide +kernel
theorem dX9_sell_72 : decode cX9_sell 72 = .ok (.istore_n 3, 1) := by decide +kernel
theorem dX9_sell_73 : decode cX9_sell 73 = .ok (.aload_n 0, 1) := by decide +kernel
theorem dX9_sell_74 : decode cX9_sell 74 = .ok (.getfield 39, 3) := by decide +kernel
theorem dX9_sell_77 : decode cX9_sell 77 = .ok (.iconst 2, 1) := by decide +kernel
theorem dX9_sell_78 : decode cX9_sell 78 = .ok (.iload_n 1, 1) := by decide +kernel
theorem dX9_sell_79 : decode cX9_sell 79 = .ok (.iadd, 1) := by decide +kernel
theorem dX9_sell_80 : decode cX9_sell 80 = .ok (.aload_n 0, 1) := by decide +kernel
theorem dX9_sell_81 : decode cX9_sell 81 = .ok (.getfield 39, 3) := by decide +kernel
theorem dX9_sell_84 : decode cX9_sell 84 = .ok (.iconst 2, 1) := by decide +kernel
theorem dX9_sell_85 : decode cX9_sell 85 = .ok (.iload_n 2, 1) := by decide +kernel
theorem dX9_sell_86 : decode cX9_sell 86 = .ok (.iadd, 1) := by decide +kernel
theorem dX9_sell_87 : decode cX9_sell 87 = .ok (.iaload, 1) := by decide +kernel
theorem dX9_sell_88 : decode cX9_sell 88 = .ok (.iastore, 1) := by decide +kernel
theorem dX9_sell_89 : decode cX9_sell 89 = .ok (.aload_n 0, 1) := by decide +kernel
theorem dX9_sell_90 : decode cX9_sell 90 = .ok (.getfield 39, 3) := by decide +kernel
theorem dX9_sell_93 : decode cX9_sell 93 = .ok (.iconst 2, 1) := by decide +kernel
theorem dX9_sell_94 : decode cX9_sell 94 = .ok (.iload_n 2, 1) := by decide +kernel
theorem dX9_sell_95 : decode cX9_sell 95 = .ok (.iadd, 1) := by decide +kernel
theorem dX9_sell_96 : decode cX9_sell 96 = .ok (.iload_n 3, 1) := by decide +kernel
theorem dX9_sell_97 : decode cX9_sell 97 = .ok (.iastore, 1) := by decide +kernel
theorem dX9_sell_98 : decode cX9_sell 98 = .ok (.aload_n 0, 1) := by decide +kernel
theorem dX9_sell_99 : decode cX9_sell 99 = .ok (.getfield 39, 3) := by decide +kernel
theorem dX9_sell_102 : decode cX9_sell 102 = .ok (.iconst 2, 1) := by decide +kernel
theorem dX9_sell_103 : decode cX9_sell 103 = .ok (.iload_n 1, 1) := by decide +kernel
theorem dX9_sell_104 : decode cX9_sell 104 = .ok (.iadd, 1) := by decide +kernel
theorem dX9_sell_105 : decode cX9_sell 105 = .ok (.iaload, 1) := by decide +kernel
theorem dX9_sell_106 : decode cX9_sell 106 = .ok (.ireturn, 1) := by decide +kernel
theorem dX9_storm_0 : decode cX9_storm 0 = .ok (.aload_n 0, 1) := by decide +kernel
theorem dX9_storm_1 : decode cX9_storm 1 = .ok (.iload_n 1, 1) := by decide +kernel
theorem dX9_storm_2 : decode cX9_storm 2 = .ok (.invokevirtual 198, 3) := by decide +kernel
theorem dX9_storm_5 : decode cX9_storm 5 = .ok (.ifCond .ne 5, 3) := by decide +kernel
theorem dX9_storm_8 : decode cX9_storm 8 = .ok (.iconst (-1), 1) := by decide +kernel
theorem dX9_storm_9 : decode cX9_storm 9 = .ok (.ireturn, 1) := by decide +kernel
theorem dX9_storm_10 : decode cX9_storm 10 = .ok (.aload_n 0, 1) := by decide +kernel
theorem dX9_storm_11 : decode cX9_storm 11 = .ok (.getfield 39, 3) := by decide +kernel
theorem dX9_storm_14 : decode cX9_storm 14 = .ok (.iload_n 1, 1) := by decide +kernel
theorem dX9_storm_15 : decode cX9_storm 15 = .ok (.invokestatic 160, 3) := by decide +kernel
theorem dX9_storm_18 : decode cX9_storm 18 = .ok (.ifCond .ne 6, 3) := by decide +kernel
theorem dX9_storm_21 : decode cX9_storm 21 = .ok (.bipush (-4), 2) := by decide +kernel
theorem dX9_storm_23 : decode cX9_storm 23 = .ok (.ireturn, 1) := by decide +kernel
theorem dX9_storm_24 : decode cX9_storm 24 = .ok (.aload_n 0, 1) := by decide +kernel
theorem dX9_storm_25 : decode cX9_storm 25 = .ok (.getfield 157, 3) := by decide +kernel
theorem dX9_storm_28 : decode cX9_storm 28 = .ok (.bipush 40, 2) := by decide +kernel
theorem dX9_storm_30 : decode cX9_storm 30 = .ok (.if_icmp .ne 6, 3) := by decide +kernel
theorem dX9_storm_33 : decode cX9_storm 33 = .ok (.bipush (-2), 2) := by decide +kernel
theorem dX9_storm_35 : decode cX9_storm 35 = .ok (.ireturn, 1) := by decide +kernel
theorem dX9_storm_36 : decode cX9_storm 36 = .ok (.aload_n 0, 1) := by decide +kernel
theorem dX9_storm_37 : decode cX9_storm 37 = .ok (.invokevirtual 210, 3) := by decide +kernel
theorem dX9_storm_40 : decode cX9_storm 40 = .ok (.aload_n 0, 1) := by decide +kernel
theorem dX9_storm_41 : decode cX9_storm 41 = .ok (.getfield 39, 3) := by decide +kernel
theorem dX9_storm_44 : decode cX9_storm 44 = .ok (.bipush 20, 2) := by decide +kernel
theorem dX9_storm_46 : decode cX9_storm 46 = .ok (.iload_n 1, 1) := by decide +kernel
theorem dX9_storm_47 : decode cX9_storm 47 = .ok (.iadd, 1) := by decide +kernel
theorem dX9_storm_48 : decode cX9_storm 48 = .ok (.bipush (-9), 2) := by decide +kernel
theorem dX9_storm_50 : decode cX9_storm 50 = .ok (.iastore, 1) := by decide +kernel
theorem dX9_storm_51 : decode cX9_storm 51 = .ok (.aload_n 0, 1) := by decide +kernel
theorem dX9_storm_52 : decode cX9_storm 52 = .ok (.aload_n 0, 1) := by decide +kernel
theorem dX9_storm_53 : decode cX9_storm 53 = .ok (.getfield 39, 3) := by decide +kernel
theorem dX9_storm_56 : decode cX9_storm 56 = .ok (.invokevirtual 217, 3) := by decide +kernel
theorem dX9_storm_59 : decode cX9_storm 59 = .ok (.invokestatic 220, 3) := by decide +kernel
theorem dX9_storm_62 : decode cX9_storm 62 = .ok (.ireturn, 1) := by decide +kernel
theorem dX9_undo_0 : decode cX9_undo 0 = .ok (.iload_n 1, 1) := by decide +kernel
theorem dX9_undo_1 : decode cX9_undo 1 = .ok (.iconst 0, 1) := by decide +kernel
theorem dX9_undo_2 : decode cX9_undo 2 = .ok (.aload_n 0, 1) := by decide +kernel
theorem dX9_undo_3 : decode cX9_undo 3 = .ok (.getfield 157, 3) := by decide +kernel
theorem dX9_undo_6 : decode cX9_undo 6 = .ok (.invokestatic 92, 3) := by decide +kernel
theorem dX9_undo_9 : decode cX9_undo 9 = .ok (.ifCond .ne 5, 3) := by decide +kernel
theorem dX9_undo_12 : decode cX9_undo 12 = .ok (.iconst (-1), 1) := by decide +kernel
theorem dX9_undo_13 : decode cX9_undo 13 = .ok (.ireturn, 1) := by decide +kernel
theorem dX9_undo_14 : decode cX9_undo 14 = .ok (.aload_n 0, 1) := by decide +kernel
theorem dX9_undo_15 : decode cX9_undo 15 = .ok (.getfield 157, 3) := by decide +kernel
theorem dX9_undo_18 : decode cX9_undo 18 = .ok (.iload_n 1, 1) := by decide +kernel
theorem dX9_undo_19 : decode cX9_undo 19 = .ok (.isub, 1) := by decide +kernel
theorem dX9_undo_20 : decode cX9_undo 20 = .ok (.istore_n 2, 1) := by decide +kernel
theorem dX9_undo_21 : decode cX9_undo 21 = .ok (.iconst 0, 1) := by decide +kernel
theorem dX9_undo_22 : decode cX9_undo 22 = .ok (.istore_n 3, 1) := by decide +kernel
theorem dX9_undo_23 : decode cX9_undo 23 = .ok (.iload_n 3, 1) := by decide +kernel
theorem dX9_undo_24 : decode cX9_undo 24 = .ok (.bipush 26, 2) := by decide +kernel
theorem dX9_undo_26 : decode cX9_undo 26 = .ok (.if_icmp .ge 30, 3) := by decide +kernel
theorem dX9_undo_29 : decode cX9_undo 29 = .ok (.iload_n 2, 1) := by decide +kernel
theorem dX9_undo_30 : decode cX9_undo 30 = .ok (.ifCond .le 26, 3) := by decide +kernel
theorem dX9_undo_33 : decode cX9_undo 33 = .ok (.aload_n 0, 1) := by decide +kernel
theorem dX9_undo_34 : decode cX9_undo 34 = .ok (.getfield 39, 3) := by decide +kernel
theorem dX9_undo_37 : decode cX9_undo 37 = .ok (.iload_n 3, 1) := by decide +kernel
theorem dX9_undo_38 : decode cX9_undo 38 = .ok (.aload_n 0, 1) := by decide +kernel
theorem dX9_undo_39 : decode cX9_undo 39 = .ok (.getfield 54, 3) := by decide +kernel
theorem dX9_undo_42 : decode cX9_undo 42 = .ok (.bipush 26, 2) := by decide +kernel
theorem dX9_undo_44 : decode cX9_undo 44 = .ok (.iload_n 1, 1) := by decide +kernel
theorem dX9_undo_45 : decode cX9_undo 45 = .ok (.imul, 1) := by decide +kernel
theorem dX9_undo_46 : decode cX9_undo 46 = .ok (.iload_n 3, 1) := by decide +kernel
theorem dX9_undo_47 : decode cX9_undo 47 = .ok (.iadd, 1) := by decide +kernel
theorem dX9_undo_48 : decode cX9_undo 48 = .ok (.iaload, 1) := by decide +kernel
theorem dX9_undo_49 : decode cX9_undo 49 = .ok (.iastore, 1) := by decide +kernel
theorem dX9_undo_50 : decode cX9_undo 50 = .ok (.iinc 3 1, 3) := by decide +kernel
theorem dX9_undo_53 : decode cX9_undo 53 = .ok (.goto (-30), 3) := by decide +kernel
theorem dX9_undo_56 : decode cX9_undo 56 = .ok (.aload_n 0, 1) := by decide +kernel
theorem dX9_undo_57 : decode cX9_undo 57 = .ok (.iload_n 1, 1) := by decide +kernel
theorem dX9_undo_58 : decode cX9_undo 58 = .ok (.putfield 157, 3) := by decide +kernel
theorem dX9_undo_61 : decode cX9_undo 61 = .ok (.iload_n 2, 1) := by decide +kernel
theorem dX9_undo_62 : decode cX9_undo 62 = .ok (.ireturn, 1) := by decide +kernel
theorem dX9_keep_0 : decode cX9_keep 0 = .ok (.iload_n 1, 1) := by decide +kernel
theorem dX9_keep_1 : decode cX9_keep 1 = .ok (.iconst 0, 1) := by decide +kernel
theorem dX9_keep_2 : decode cX9_keep 2 = .ok (.iconst 2, 1) := by decide +kernel
theorem dX9_keep_3 : decode cX9_keep 3 = .ok (.invokestatic 92, 3) := by decide +kernel
theorem dX9_keep_6 : decode cX9_keep 6 = .ok (.ifCond .ne 5, 3) := by decide +kernel
theorem dX9_keep_9 : decode cX9_keep 9 = .ok (.iconst (-1), 1) := by decide +kernel
theorem dX9_keep_10 : decode cX9_keep 10 = .ok (.ireturn, 1) := by decide +kernel
theorem dX9_keep_11 : decode cX9_keep 11 = .ok (.aload_n 0, 1) := by decide +kernel
theorem dX9_keep_12 : decode cX9_keep 12 = .ok (.getfield 154, 3) := by decide +kernel
theorem dX9_keep_15 : decode cX9_keep 15 = .ok (.ifCond .ne 6, 3) := by decide +kernel
theorem dX9_keep_18 : decode cX9_keep 18 = .ok (.bipush (-4), 2) := by decide +kernel
theorem dX9_keep_20 : decode cX9_keep 20 = .ok (.ireturn, 1) := by decide +kernel
theorem dX9_keep_21 : decode cX9_keep 21 = .ok (.aload_n 0, 1) := by decide +kernel
theorem dX9_keep_22 : decode cX9_keep 22 = .ok (.getfield 57, 3) := by decide +kernel
theorem dX9_keep_25 : decode cX9_keep 25 = .ok (.iload_n 1, 1) := by decide +kernel
theorem dX9_keep_26 : decode cX9_keep 26 = .ok (.iconst 1, 1) := by decide +kernel
theorem dX9_keep_27 : decode cX9_keep 27 = .ok (.bastore, 1) := by decide +kernel
theorem dX9_keep_28 : decode cX9_keep 28 = .ok (.aload_n 0, 1) := by decide +kernel
theorem dX9_keep_29 : decode cX9_keep 29 = .ok (.getfield 61, 3) := by decide +kernel
theorem dX9_keep_32 : decode cX9_keep 32 = .ok (.iload_n 1, 1) := by decide +kernel
theorem dX9_keep_33 : decode cX9_keep 33 = .ok (.aload_n 0, 1) := by decide +kernel
theorem dX9_keep_34 : decode cX9_keep 34 = .ok (.getfield 157, 3) := by decide +kernel
theorem dX9_keep_37 : decode cX9_keep 37 = .ok (.iastore, 1) := by decide +kernel
theorem dX9_keep_38 : decode cX9_keep 38 = .ok (.iconst 0, 1) := by decide +kernel
theorem dX9_keep_39 : decode cX9_keep 39 = .ok (.istore_n 2, 1) := by decide +kernel
theorem dX9_keep_40 : decode cX9_keep 40 = .ok (.iload_n 2, 1) := by decide +kernel
theorem dX9_keep_41 : decode cX9_keep 41 = .ok (.bipush 26, 2) := by decide +kernel
theorem dX9_keep_43 : decode cX9_keep 43 = .ok (.if_icmp .ge 26, 3) := by decide +kernel
theorem dX9_keep_46 : decode cX9_keep 46 = .ok (.aload_n 0, 1) := by decide +kernel
theorem dX9_keep_47 : decode cX9_keep 47 = .ok (.getfield 64, 3) := by decide +kernel
theorem dX9_keep_50 : decode cX9_keep 50 = .ok (.bipush 26, 2) := by decide +kernel
theorem dX9_keep_52 : decode cX9_keep 52 = .ok (.iload_n 1, 1) := by decide +kernel
theorem dX9_keep_53 : decode cX9_keep 53 = .ok (.imul, 1) := by decide +kernel
theorem dX9_keep_54 : decode cX9_keep 54 = .ok (.iload_n 2, 1) := by decide +kernel
theorem dX9_keep_55 : decode cX9_keep 55 = .ok (.iadd, 1) := by decide +kernel
theorem dX9_keep_56 : decode cX9_keep 56 = .ok (.aload_n 0, 1) := by decide +kernel
theorem dX9_keep_57 : decode cX9_keep 57 = .ok (.getfield 39, 3) := by decide +kernel
theorem dX9_keep_60 : decode cX9_keep 60 = .ok (.iload_n 2, 1) := by decide +kernel
theorem dX9_keep_61 : decode cX9_keep 61 = .ok (.iaload, 1) := by decide +kernel
theorem dX9_keep_62 : decode cX9_keep 62 = .ok (.iastore, 1) := by decide +kernel
theorem dX9_keep_63 : decode cX9_keep 63 = .ok (.iinc 2 1, 3) := by decide +kernel
theorem dX9_keep_66 : decode cX9_keep 66 = .ok (.goto (-26), 3) := by decide +kernel
theorem dX9_keep_69 : decode cX9_keep 69 = .ok (.iconst 0, 1) := by decide +kernel
theorem dX9_keep_70 : decode cX9_keep 70 = .ok (.istore_n 2, 1) := by decide +kernel
theorem dX9_keep_71 : decode cX9_keep 71 = .ok (.iload_n 2, 1) := by decide +kernel
theorem dX9_keep_72 : decode cX9_keep 72 = .ok (.bipush 26, 2) := by decide +kernel
theorem dX9_keep_74 : decode cX9_keep 74 = .ok (.aload_n 0, 1) := by decide +kernel
theorem dX9_keep_75 : decode cX9_keep 75 = .ok (.getfield 157, 3) := by decide +kernel
theorem dX9_keep_78 : decode cX9_keep 78 = .ok (.imul, 1) := by decide +kernel
theorem dX9_keep_79 : decode cX9_keep 79 = .ok (.if_icmp .ge 27, 3) := by decide +kernel
theorem dX9_keep_82 : decode cX9_keep 82 = .ok (.aload_n 0, 1) := by decide +kernel
theorem dX9_keep_83 : decode cX9_keep 83 = .ok (.getfield 67, 3) := by decide +kernel
theorem dX9_keep_86 : decode cX9_keep 86 = .ok (.sipush 1040, 3) := by decide +kernel
theorem dX9_keep_89 : decode cX9_keep 89 = .ok (.iload_n 1, 1) := by decide +kernel
theorem dX9_keep_90 : decode cX9_keep 90 = .ok (.imul, 1) := by decide +kernel
theorem dX9_keep_91 : decode cX9_keep 91 = .ok (.iload_n 2, 1) := by decide +kernel
theorem dX9_keep_92 : decode cX9_keep 92 = .ok (.iadd, 1) := by decide +kernel
theorem dX9_keep_93 : decode cX9_keep 93 = .ok (.aload_n 0, 1) := by decide +kernel
theorem dX9_keep_94 : decode cX9_keep 94 = .ok (.getfield 54, 3) := by decide +kernel
theorem dX9_keep_97 : decode cX9_keep 97 = .ok (.iload_n 2, 1) := by decide +kernel
theorem dX9_keep_98 : decode cX9_keep 98 = .ok (.iaload, 1) := by decide +kernel
theorem dX9_keep_99 : decode cX9_keep 99 = .ok (.iastore, 1) := by decide +kernel
theorem dX9_keep_100 : decode cX9_keep 100 = .ok (.iinc 2 1, 3) := by decide +kernel
theorem dX9_keep_103 : decode cX9_keep 103 = .ok (.goto (-32), 3) := by decide +kernel
theorem dX9_keep_106 : decode cX9_keep 106 = .ok (.aload_n 0, 1) := by decide +kernel
theorem dX9_keep_107 : decode cX9_keep 107 = .ok (.getfield 157, 3) := by decide +kernel
theorem dX9_keep_110 : decode cX9_keep 110 = .ok (.ireturn, 1) := by decide +kernel
theorem dX9_on_0 : decode cX9_on 0 = .ok (.iload_n 1, 1) := by decide +kernel
theorem dX9_on_1 : decode cX9_on 1 = .ok (.iconst 0, 1) := by decide +kernel
theorem dX9_on_2 : decode cX9_on 2 = .ok (.iconst 2, 1) := by decide +kernel
theorem dX9_on_3 : decode cX9_on 3 = .ok (.invokestatic 92, 3) := by decide +kernel
theorem dX9_on_6 : decode cX9_on 6 = .ok (.ifCond .ne 5, 3) := by decide +kernel
theorem dX9_on_9 : decode cX9_on 9 = .ok (.iconst (-1), 1) := by decide +kernel
theorem dX9_on_10 : decode cX9_on 10 = .ok (.ireturn, 1) := by decide +kernel
theorem dX9_on_11 : decode cX9_on 11 = .ok (.aload_n 0, 1) := by decide +kernel
theorem dX9_on_12 : decode cX9_on 12 = .ok (.getfield 57, 3) := by decide +kernel
theorem dX9_on_15 : decode cX9_on 15 = .ok (.iload_n 1, 1) := by decide +kernel
theorem dX9_on_16 : decode cX9_on 16 = .ok (.baload, 1) := by decide +kernel
theorem dX9_on_17 : decode cX9_on 17 = .ok (.ifCond .ne 9, 3) := by decide +kernel
theorem dX9_on_20 : decode cX9_on 20 = .ok (.aload_n 0, 1) := by decide +kernel
theorem dX9_on_21 : decode cX9_on 21 = .ok (.iconst 1, 1) := by decide +kernel
theorem dX9_on_22 : decode cX9_on 22 = .ok (.invokevirtual 106, 3) := by decide +kernel
theorem dX9_on_25 : decode cX9_on 25 = .ok (.ireturn, 1) := by decide +kernel
theorem dX9_on_26 : decode cX9_on 26 = .ok (.aload_n 0, 1) := by decide +kernel
theorem dX9_on_27 : decode cX9_on 27 = .ok (.aload_n 0, 1) := by decide +kernel
theorem dX9_on_28 : decode cX9_on 28 = .ok (.getfield 61, 3) := by decide +kernel
theorem dX9_on_31 : decode cX9_on 31 = .ok (.iload_n 1, 1) := by decide +kernel
theorem dX9_on_32 : decode cX9_on 32 = .ok (.iaload, 1) := by decide +kernel
theorem dX9_on_33 : decode cX9_on 33 = .ok (.putfield 157, 3) := by decide +kernel
theorem dX9_on_36 : decode cX9_on 36 = .ok (.iconst 0, 1) := by decide +kernel
theorem dX9_on_37 : decode cX9_on 37 = .ok (.istore_n 2, 1) := by decide +kernel
theorem dX9_on_38 : decode cX9_on 38 = .ok (.iload_n 2, 1) := by decide +kernel
theorem dX9_on_39 : decode cX9_on 39 = .ok (.bipush 26, 2) := by decide +kernel
theorem dX9_on_41 : decode cX9_on 41 = .ok (.if_icmp .ge 26, 3) := by decide +kernel
theorem dX9_on_44 : decode cX9_on 44 = .ok (.aload_n 0, 1) := by decide +kernel
theorem dX9_on_45 : decode cX9_on 45 = .ok (.getfield 39, 3) := by decide +kernel
theorem dX9_on_48 : decode cX9_on 48 = .ok (.iload_n 2, 1) := by decide +kernel
theorem dX9_on_49 : decode cX9_on 49 = .ok (.aload_n 0, 1) := by decide +kernel
theorem dX9_on_50 : decode cX9_on 50 = .ok (.getfield 64, 3) := by decide +kernel
theorem dX9_on_53 : decode cX9_on 53 = .ok (.bipush 26, 2) := by decide +kernel
theorem dX9_on_55 : decode cX9_on 55 = .ok (.iload_n 1, 1) := by decide +kernel
theorem dX9_on_56 : decode cX9_on 56 = .ok (.imul, 1) := by decide +kernel
theorem dX9_on_57 : decode cX9_on 57 = .ok (.iload_n 2, 1) := by decide +kernel
theorem dX9_on_58 : decode cX9_on 58 = .ok (.iadd, 1) := by decide +kernel
theorem dX9_on_59 : decode cX9_on 59 = .ok (.iaload, 1) := by decide +kernel
theorem dX9_on_60 : decode cX9_on 60 = .ok (.iastore, 1) := by decide +kernel
theorem dX9_on_61 : decode cX9_on 61 = .ok (.iinc 2 1, 3) := by decide +kernel
theorem dX9_on_64 : decode cX9_on 64 = .ok (.goto (-26), 3) := by decide +kernel
theorem dX9_on_67 : decode cX9_on 67 = .ok (.iconst 0, 1) := by decide +kernel
theorem dX9_on_68 : decode cX9_on 68 = .ok (.istore_n 2, 1) := by decide +kernel
theorem dX9_on_69 : decode cX9_on 69 = .ok (.iload_n 2, 1) := by decide +kernel
theorem dX9_on_70 : decode cX9_on 70 = .ok (.bipush 26, 2) := by decide +kernel
theorem dX9_on_72 : decode cX9_on 72 = .ok (.aload_n 0, 1) := by decide +kernel
theorem dX9_on_73 : decode cX9_on 73 = .ok (.getfield 157, 3) := by decide +kernel
theorem dX9_on_76 : decode cX9_on 76 = .ok (.imul, 1) := by decide +kernel
theorem dX9_on_77 : decode cX9_on 77 = .ok (.if_icmp .ge 27, 3) := by decide +kernel
theorem dX9_on_80 : decode cX9_on 80 = .ok (.aload_n 0, 1) := by decide +kernel
theorem dX9_on_81 : decode cX9_on 81 = .ok (.getfield 54, 3) := by decide +kernel
theorem dX9_on_84 : decode cX9_on 84 = .ok (.iload_n 2, 1) := by decide +kernel
theorem dX9_on_85 : decode cX9_on 85 = .ok (.aload_n 0, 1) := by decide +kernel
theorem dX9_on_86 : decode cX9_on 86 = .ok (.getfield 67, 3) := by decide +kernel
theorem dX9_on_89 : decode cX9_on 89 = .ok (.sipush 1040, 3) := by decide +kernel
theorem dX9_on_92 : decode cX9_on 92 = .ok (.iload_n 1, 1) := by decide +kernel
theorem dX9_on_93 : decode cX9_on 93 = .ok (.imul, 1) := by decide +kernel
theorem dX9_on_94 : decode cX9_on 94 = .ok (.iload_n 2, 1) := by decide +kernel
theorem dX9_on_95 : decode cX9_on 95 = .ok (.iadd, 1) := by decide +kernel
theorem dX9_on_96 : decode cX9_on 96 = .ok (.iaload, 1) := by decide +kernel
theorem dX9_on_97 : decode cX9_on 97 = .ok (.iastore, 1) := by decide +kernel
theorem dX9_on_98 : decode cX9_on 98 = .ok (.iinc 2 1, 3) := by decide +kernel
theorem dX9_on_101 : decode cX9_on 101 = .ok (.goto (-32), 3) := by decide +kernel
theorem dX9_on_104 : decode cX9_on 104 = .ok (.aload_n 0, 1) := by decide +kernel
theorem dX9_on_105 : decode cX9_on 105 = .ok (.getfield 157, 3) := by decide +kernel
theorem dX9_on_108 : decode cX9_on 108 = .ok (.ireturn, 1) := by decide +kernel
theorem dX9_then_0 : decode cX9_then 0 = .ok (.aload_n 0, 1) := by decide +kernel
theorem dX9_then_1 : decode cX9_then 1 = .ok (.iload_n 1, 1) := by decide +kernel
theorem dX9_then_2 : decode cX9_then 2 = .ok (.invokevirtual 198, 3) := by decide +kernel
theorem dX9_then_5 : decode cX9_then 5 = .ok (.ifCond .eq 13, 3) := by decide +kernel
theorem dX9_then_8 : decode cX9_then 8 = .ok (.iload_n 2, 1) := by decide +kernel
theorem dX9_then_9 : decode cX9_then 9 = .ok (.iconst 0, 1) := by decide +kernel
theorem dX9_then_10 : decode cX9_then 10 = .ok (.bipush 40, 2) := by decide +kernel
theorem dX9_then_12 : decode cX9_then 12 = .ok (.invokestatic 92, 3) := by decide +kernel
theorem dX9_then_15 : decode cX9_then 15 = .ok (.ifCond .ne 5, 3) := by decide +kernel
theorem dX9_then_18 : decode cX9_then 18 = .ok (.iconst (-1), 1) := by decide +kernel
theorem dX9_then_19 : decode cX9_then 19 = .ok (.ireturn, 1) := by decide +kernel
theorem dX9_then_20 : decode cX9_then 20 = .ok (.aload_n 0, 1) := by decide +kernel
theorem dX9_then_21 : decode cX9_then 21 = .ok (.invokevirtual 227, 3) := by decide +kernel
theorem dX9_then_24 : decode cX9_then 24 = .ok (.iconst 0, 1) := by decide +kernel
theorem dX9_then_25 : decode cX9_then 25 = .ok (.istore_n 3, 1) := by decide +kernel
theorem dX9_then_26 : decode cX9_then 26 = .ok (.iload_n 3, 1) := by decide +kernel
theorem dX9_then_27 : decode cX9_then 27 = .ok (.iload_n 2, 1) := by decide +kernel
theorem dX9_then_28 : decode cX9_then 28 = .ok (.if_icmp .ge 17, 3) := by decide +kernel
theorem dX9_then_31 : decode cX9_then 31 = .ok (.aload_n 0, 1) := by decide +kernel
theorem dX9_then_32 : decode cX9_then 32 = .ok (.aload_n 0, 1) := by decide +kernel
theorem dX9_then_33 : decode cX9_then 33 = .ok (.getfield 42, 3) := by decide +kernel
theorem dX9_then_36 : decode cX9_then 36 = .ok (.invokevirtual 213, 3) := by decide +kernel
theorem dX9_then_39 : decode cX9_then 39 = .ok (.iinc 3 1, 3) := by decide +kernel
theorem dX9_then_42 : decode cX9_then 42 = .ok (.goto (-16), 3) := by decide +kernel
theorem dX9_then_45 : decode cX9_then 45 = .ok (.aload_n 0, 1) := by decide +kernel
theorem dX9_then_46 : decode cX9_then 46 = .ok (.getfield 42, 3) := by decide +kernel
theorem dX9_then_49 : decode cX9_then 49 = .ok (.iload_n 1, 1) := by decide +kernel
theorem dX9_then_50 : decode cX9_then 50 = .ok (.invokestatic 160, 3) := by decide +kernel
theorem dX9_then_53 : decode cX9_then 53 = .ok (.ifCond .eq 28, 3) := by decide +kernel
theorem dX9_then_56 : decode cX9_then 56 = .ok (.aload_n 0, 1) := by decide +kernel
theorem dX9_then_57 : decode cX9_then 57 = .ok (.aload_n 0, 1) := by decide +kernel
theorem dX9_then_58 : decode cX9_then 58 = .ok (.getfield 42, 3) := by decide +kernel
theorem dX9_then_61 : decode cX9_then 61 = .ok (.bipush 8, 2) := by decide +kernel
theorem dX9_then_63 : decode cX9_then 63 = .ok (.iload_n 1, 1) := by decide +kernel
theorem dX9_then_64 : decode cX9_then 64 = .ok (.iadd, 1) := by decide +kernel
theorem dX9_then_65 : decode cX9_then 65 = .ok (.iaload, 1) := by decide +kernel
theorem dX9_then_66 : decode cX9_then 66 = .ok (.aload_n 0, 1) := by decide +kernel
theorem dX9_then_67 : decode cX9_then 67 = .ok (.getfield 42, 3) := by decide +kernel
theorem dX9_then_70 : decode cX9_then 70 = .ok (.bipush 20, 2) := by decide +kernel
theorem dX9_then_72 : decode cX9_then 72 = .ok (.iload_n 1, 1) := by decide +kernel
theorem dX9_then_73 : decode cX9_then 73 = .ok (.iadd, 1) := by decide +kernel
theorem dX9_then_74 : decode cX9_then 74 = .ok (.iaload, 1) := by decide +kernel
theorem dX9_then_75 : decode cX9_then 75 = .ok (.invokevirtual 114, 3) := by decide +kernel
theorem dX9_then_78 : decode cX9_then 78 = .ok (.goto 5, 3) := by decide +kernel
theorem dX9_then_81 : decode cX9_then 81 = .ok (.bipush (-9), 2) := by decide +kernel
theorem dX9_then_83 : decode cX9_then 83 = .ok (.ireturn, 1) := by decide +kernel
theorem dX9_lost_0 : decode cX9_lost 0 = .ok (.aload_n 0, 1) := by decide +kernel
theorem dX9_lost_1 : decode cX9_lost 1 = .ok (.iload_n 1, 1) := by decide +kernel
theorem dX9_lost_2 : decode cX9_lost 2 = .ok (.invokevirtual 198, 3) := by decide +kernel
theorem dX9_lost_5 : decode cX9_lost 5 = .ok (.ifCond .ne 5, 3) := by decide +kernel
theorem dX9_lost_8 : decode cX9_lost 8 = .ok (.iconst (-1), 1) := by decide +kernel
theorem dX9_lost_9 : decode cX9_lost 9 = .ok (.ireturn, 1) := by decide +kernel
theorem dX9_lost_10 : decode cX9_lost 10 = .ok (.aload_n 0, 1) := by decide +kernel
theorem dX9_lost_11 : decode cX9_lost 11 = .ok (.invokevirtual 227, 3) := by decide +kernel
theorem dX9_lost_14 : decode cX9_lost 14 = .ok (.iconst 0, 1) := by decide +kernel
theorem dX9_lost_15 : decode cX9_lost 15 = .ok (.istore_n 2, 1) := by decide +kernel
theorem dX9_lost_16 : decode cX9_lost 16 = .ok (.iload_n 2, 1) := by decide +kernel
theorem dX9_lost_17 : decode cX9_lost 17 = .ok (.bipush 40, 2) := by decide +kernel
theorem dX9_lost_19 : decode cX9_lost 19 = .ok (.if_icmp .gt 30, 3) := by decide +kernel
theorem dX9_lost_22 : decode cX9_lost 22 = .ok (.aload_n 0, 1) := by decide +kernel
theorem dX9_lost_23 : decode cX9_lost 23 = .ok (.getfield 42, 3) := by decide +kernel
theorem dX9_lost_26 : decode cX9_lost 26 = .ok (.iload_n 1, 1) := by decide +kernel
theorem dX9_lost_27 : decode cX9_lost 27 = .ok (.invokestatic 160, 3) := by decide +kernel
theorem dX9_lost_30 : decode cX9_lost 30 = .ok (.ifCond .ne 5, 3) := by decide +kernel
theorem dX9_lost_33 : decode cX9_lost 33 = .ok (.iload_n 2, 1) := by decide +kernel
theorem dX9_lost_34 : decode cX9_lost 34 = .ok (.ireturn, 1) := by decide +kernel
theorem dX9_lost_35 : decode cX9_lost 35 = .ok (.aload_n 0, 1) := by decide +kernel
theorem dX9_lost_36 : decode cX9_lost 36 = .ok (.aload_n 0, 1) := by decide +kernel
theorem dX9_lost_37 : decode cX9_lost 37 = .ok (.getfield 42, 3) := by decide +kernel
theorem dX9_lost_40 : decode cX9_lost 40 = .ok (.invokevirtual 213, 3) := by decide +kernel
theorem dX9_lost_43 : decode cX9_lost 43 = .ok (.iinc 2 1, 3) := by decide +kernel
theorem dX9_lost_46 : decode cX9_lost 46 = .ok (.goto (-30), 3) := by decide +kernel
theorem dX9_lost_49 : decode cX9_lost 49 = .ok (.bipush (-9), 2) := by decide +kernel
theorem dX9_lost_51 : decode cX9_lost 51 = .ok (.ireturn, 1) := by decide +kernel
theorem dX9_order_0 : decode cX9_order 0 = .ok (.aload_n 0, 1) := by decide +kernel
theorem dX9_order_1 : decode cX9_order 1 = .ok (.iload_n 1, 1) := by decide +kernel
theorem dX9_order_2 : decode cX9_order 2 = .ok (.invokestatic 102, 3) := by decide +kernel
theorem dX9_order_5 : decode cX9_order 5 = .ok (.invokevirtual 230, 3) := by decide +kernel
theorem dX9_order_8 : decode cX9_order 8 = .ok (.istore_n 2, 1) := by decide +kernel
theorem dX9_order_9 : decode cX9_order 9 = .ok (.iload_n 2, 1) := by decide +kernel
theorem dX9_order_10 : decode cX9_order 10 = .ok (.ifCond .ge 5, 3) := by decide +kernel
theorem dX9_order_13 : decode cX9_order 13 = .ok (.iload_n 2, 1) := by decide +kernel
theorem dX9_order_14 : decode cX9_order 14 = .ok (.ireturn, 1) := by decide +kernel
theorem dX9_order_15 : decode cX9_order 15 = .ok (.aload_n 0, 1) := by decide +kernel
theorem dX9_order_16 : decode cX9_order 16 = .ok (.invokevirtual 227, 3) := by decide +kernel
theorem dX9_order_19 : decode cX9_order 19 = .ok (.aload_n 0, 1) := by decide +kernel
theorem dX9_order_20 : decode cX9_order 20 = .ok (.aload_n 0, 1) := by decide +kernel
theorem dX9_order_21 : decode cX9_order 21 = .ok (.getfield 42, 3) := by decide +kernel
theorem dX9_order_24 : decode cX9_order 24 = .ok (.invokevirtual 213, 3) := by decide +kernel
theorem dX9_order_27 : decode cX9_order 27 = .ok (.aload_n 0, 1) := by decide +kernel
theorem dX9_order_28 : decode cX9_order 28 = .ok (.getfield 17, 3) := by decide +kernel
theorem dX9_order_31 : decode cX9_order 31 = .ok (.iload_n 1, 1) := by decide +kernel
theorem dX9_order_32 : decode cX9_order 32 = .ok (.aload_n 0, 1) := by decide +kernel
theorem dX9_order_33 : decode cX9_order 33 = .ok (.getfield 184, 3) := by decide +kernel
theorem dX9_order_36 : decode cX9_order 36 = .ok (.iastore, 1) := by decide +kernel
theorem dX9_order_37 : decode cX9_order 37 = .ok (.iconst 0, 1) := by decide +kernel
theorem dX9_order_38 : decode cX9_order 38 = .ok (.istore_n 3, 1) := by decide +kernel
theorem dX9_order_39 : decode cX9_order 39 = .ok (.iload_n 3, 1) := by decide +kernel
theorem dX9_order_40 : decode cX9_order 40 = .ok (.aload_n 0, 1) := by decide +kernel
theorem dX9_order_41 : decode cX9_order 41 = .ok (.getfield 184, 3) := by decide +kernel
theorem dX9_order_44 : decode cX9_order 44 = .ok (.if_icmp .ge 26, 3) := by decide +kernel
theorem dX9_order_47 : decode cX9_order 47 = .ok (.aload_n 0, 1) := by decide +kernel
theorem dX9_order_48 : decode cX9_order 48 = .ok (.getfield 20, 3) := by decide +kernel
theorem dX9_order_51 : decode cX9_order 51 = .ok (.bipush 40, 2) := by decide +kernel
theorem dX9_order_53 : decode cX9_order 53 = .ok (.iload_n 1, 1) := by decide +kernel
theorem dX9_order_54 : decode cX9_order 54 = .ok (.imul, 1) := by decide +kernel
theorem dX9_order_55 : decode cX9_order 55 = .ok (.iload_n 3, 1) := by decide +kernel
theorem dX9_order_56 : decode cX9_order 56 = .ok (.iadd, 1) := by decide +kernel
theorem dX9_order_57 : decode cX9_order 57 = .ok (.aload_n 0, 1) := by decide +kernel
theorem dX9_order_58 : decode cX9_order 58 = .ok (.getfield 51, 3) := by decide +kernel
theorem dX9_order_61 : decode cX9_order 61 = .ok (.iload_n 3, 1) := by decide +kernel
theorem dX9_order_62 : decode cX9_order 62 = .ok (.iaload, 1) := by decide +kernel
theorem dX9_order_63 : decode cX9_order 63 = .ok (.iastore, 1) := by decide +kernel
theorem dX9_order_64 : decode cX9_order 64 = .ok (.iinc 3 1, 3) := by decide +kernel
theorem dX9_order_67 : decode cX9_order 67 = .ok (.goto (-28), 3) := by decide +kernel
theorem dX9_order_70 : decode cX9_order 70 = .ok (.aload_n 0, 1) := by decide +kernel
theorem dX9_order_71 : decode cX9_order 71 = .ok (.getfield 184, 3) := by decide +kernel
theorem dX9_order_74 : decode cX9_order 74 = .ok (.ireturn, 1) := by decide +kernel
theorem dX9_least_0 : decode cX9_least 0 = .ok (.aload_n 0, 1) := by decide +kernel
theorem dX9_least_1 : decode cX9_least 1 = .ok (.iload_n 1, 1) := by decide +kernel
theorem dX9_least_2 : decode cX9_least 2 = .ok (.invokevirtual 198, 3) := by decide +kernel
theorem dX9_least_5 : decode cX9_least 5 = .ok (.ifCond .eq 13, 3) := by decide +kernel
theorem dX9_least_8 : decode cX9_least 8 = .ok (.iload_n 2, 1) := by decide +kernel
theorem dX9_least_9 : decode cX9_least 9 = .ok (.iconst 0, 1) := by decide +kernel
theorem dX9_least_10 : decode cX9_least 10 = .ok (.bipush 40, 2) := by decide +kernel
theorem dX9_least_12 : decode cX9_least 12 = .ok (.invokestatic 92, 3) := by decide +kernel
theorem dX9_least_15 : decode cX9_least 15 = .ok (.ifCond .ne 5, 3) := by decide +kernel
theorem dX9_least_18 : decode cX9_least 18 = .ok (.iconst (-1), 1) := by decide +kernel
theorem dX9_least_19 : decode cX9_least 19 = .ok (.ireturn, 1) := by decide +kernel
theorem dX9_least_20 : decode cX9_least 20 = .ok (.bipush (-9), 2) := by decide +kernel
theorem dX9_least_22 : decode cX9_least 22 = .ok (.istore_n 3, 1) := by decide +kernel
theorem dX9_least_23 : decode cX9_least 23 = .ok (.bipush 20, 2) := by decide +kernel
theorem dX9_least_25 : decode cX9_least 25 = .ok (.istore 4, 2) := by decide +kernel
theorem dX9_least_27 : decode cX9_least 27 = .ok (.iload 4, 2) := by decide +kernel
theorem dX9_least_29 : decode cX9_least 29 = .ok (.ifCond .lt 68, 3) := by decide +kernel
theorem dX9_least_32 : decode cX9_least 32 = .ok (.aload_n 0, 1) := by decide +kernel
theorem dX9_least_33 : decode cX9_least 33 = .ok (.invokevirtual 227, 3) := by decide +kernel
theorem dX9_least_36 : decode cX9_least 36 = .ok (.aload_n 0, 1) := by decide +kernel
theorem dX9_least_37 : decode cX9_least 37 = .ok (.getfield 42, 3) := by decide +kernel
theorem dX9_least_40 : decode cX9_least 40 = .ok (.bipush 8, 2) := by decide +kernel
theorem dX9_least_42 : decode cX9_least 42 = .ok (.iload_n 1, 1) := by decide +kernel
theorem dX9_least_43 : decode cX9_least 43 = .ok (.iadd, 1) := by decide +kernel
theorem dX9_least_44 : decode cX9_least 44 = .ok (.dup2, 1) := by decide +kernel
theorem dX9_least_45 : decode cX9_least 45 = .ok (.iaload, 1) := by decide +kernel
theorem dX9_least_46 : decode cX9_least 46 = .ok (.iload 4, 2) := by decide +kernel
theorem dX9_least_48 : decode cX9_least 48 = .ok (.iadd, 1) := by decide +kernel
theorem dX9_least_49 : decode cX9_least 49 = .ok (.iastore, 1) := by decide +kernel
theorem dX9_least_50 : decode cX9_least 50 = .ok (.iconst 0, 1) := by decide +kernel
theorem dX9_least_51 : decode cX9_least 51 = .ok (.istore 5, 2) := by decide +kernel
theorem dX9_least_53 : decode cX9_least 53 = .ok (.iload 5, 2) := by decide +kernel
theorem dX9_least_55 : decode cX9_least 55 = .ok (.iload_n 2, 1) := by decide +kernel
theorem dX9_least_56 : decode cX9_least 56 = .ok (.if_icmp .ge 17, 3) := by decide +kernel
theorem dX9_least_59 : decode cX9_least 59 = .ok (.aload_n 0, 1) := by decide +kernel
theorem dX9_least_60 : decode cX9_least 60 = .ok (.aload_n 0, 1) := by decide +kernel
theorem dX9_least_61 : decode cX9_least 61 = .ok (.getfield 42, 3) := by decide +kernel
theorem dX9_least_64 : decode cX9_least 64 = .ok (.invokevirtual 213, 3) := by decide +kernel
theorem dX9_least_67 : decode cX9_least 67 = .ok (.iinc 5 1, 3) := by decide +kernel
theorem dX9_least_70 : decode cX9_least 70 = .ok (.goto (-17), 3) := by decide +kernel
theorem dX9_least_73 : decode cX9_least 73 = .ok (.aload_n 0, 1) := by decide +kernel
theorem dX9_least_74 : decode cX9_least 74 = .ok (.getfield 42, 3) := by decide +kernel
theorem dX9_least_77 : decode cX9_least 77 = .ok (.iload_n 1, 1) := by decide +kernel
theorem dX9_least_78 : decode cX9_least 78 = .ok (.invokestatic 160, 3) := by decide +kernel
theorem dX9_least_81 : decode cX9_least 81 = .ok (.ifCond .eq 8, 3) := by decide +kernel
theorem dX9_least_84 : decode cX9_least 84 = .ok (.iload 4, 2) := by decide +kernel
theorem dX9_least_86 : decode cX9_least 86 = .ok (.goto 4, 3) := by decide +kernel
theorem dX9_least_89 : decode cX9_least 89 = .ok (.iload_n 3, 1) := by decide +kernel
theorem dX9_least_90 : decode cX9_least 90 = .ok (.istore_n 3, 1) := by decide +kernel
theorem dX9_least_91 : decode cX9_least 91 = .ok (.iinc 4 (-1), 3) := by decide +kernel
theorem dX9_least_94 : decode cX9_least 94 = .ok (.goto (-67), 3) := by decide +kernel
theorem dX9_least_97 : decode cX9_least 97 = .ok (.iload_n 3, 1) := by decide +kernel
theorem dX9_least_98 : decode cX9_least 98 = .ok (.ireturn, 1) := by decide +kernel
theorem dX9_flying_0 : decode cX9_flying 0 = .ok (.aload_n 0, 1) := by decide +kernel
theorem dX9_flying_1 : decode cX9_flying 1 = .ok (.getfield 33, 3) := by decide +kernel
theorem dX9_flying_4 : decode cX9_flying 4 = .ok (.iload_n 1, 1) := by decide +kernel
theorem dX9_flying_5 : decode cX9_flying 5 = .ok (.iaload, 1) := by decide +kernel
theorem dX9_flying_6 : decode cX9_flying 6 = .ok (.iconst 2, 1) := by decide +kernel
theorem dX9_flying_7 : decode cX9_flying 7 = .ok (.if_icmp .ne 14, 3) := by decide +kernel
theorem dX9_flying_10 : decode cX9_flying 10 = .ok (.aload_n 0, 1) := by decide +kernel
theorem dX9_flying_11 : decode cX9_flying 11 = .ok (.aload_n 0, 1) := by decide +kernel
theorem dX9_flying_12 : decode cX9_flying 12 = .ok (.getfield 39, 3) := by decide +kernel
theorem dX9_flying_15 : decode cX9_flying 15 = .ok (.invokevirtual 174, 3) := by decide +kernel
theorem dX9_flying_18 : decode cX9_flying 18 = .ok (.goto 20, 3) := by decide +kernel
theorem dX9_flying_21 : decode cX9_flying 21 = .ok (.aload_n 0, 1) := by decide +kernel
theorem dX9_flying_22 : decode cX9_flying 22 = .ok (.getfield 33, 3) := by decide +kernel
theorem dX9_flying_25 : decode cX9_flying 25 = .ok (.iload_n 1, 1) := by decide +kernel
theorem dX9_flying_26 : decode cX9_flying 26 = .ok (.iaload, 1) := by decide +kernel
theorem dX9_flying_27 : decode cX9_flying 27 = .ok (.aload_n 0, 1) := by decide +kernel
theorem dX9_flying_28 : decode cX9_flying 28 = .ok (.aload_n 0, 1) := by decide +kernel
theorem dX9_flying_29 : decode cX9_flying 29 = .ok (.getfield 39, 3) := by decide +kernel
theorem dX9_flying_32 : decode cX9_flying 32 = .ok (.invokevirtual 174, 3) := by decide +kernel
theorem dX9_flying_35 : decode cX9_flying 35 = .ok (.invokestatic 181, 3) := by decide +kernel
theorem dX9_flying_38 : decode cX9_flying 38 = .ok (.ireturn, 1) := by decide +kernel
theorem dX9_weakest_0 : decode cX9_weakest 0 = .ok (.iload_n 1, 1) := by decide +kernel
theorem dX9_weakest_1 : decode cX9_weakest 1 = .ok (.istore_n 3, 1) := by decide +kernel
theorem dX9_weakest_2 : decode cX9_weakest 2 = .ok (.iconst 1, 1) := by decide +kernel
theorem dX9_weakest_3 : decode cX9_weakest 3 = .ok (.istore 4, 2) := by decide +kernel
theorem dX9_weakest_5 : decode cX9_weakest 5 = .ok (.iload_n 2, 1) := by decide +kernel
theorem dX9_weakest_6 : decode cX9_weakest 6 = .ok (.iconst 1, 1) := by decide +kernel
theorem dX9_weakest_7 : decode cX9_weakest 7 = .ok (.isub, 1) := by decide +kernel
theorem dX9_weakest_8 : decode cX9_weakest 8 = .ok (.istore 5, 2) := by decide +kernel
theorem dX9_weakest_10 : decode cX9_weakest 10 = .ok (.iload 5, 2) := by decide +kernel
theorem dX9_weakest_12 : decode cX9_weakest 12 = .ok (.ifCond .lt 58, 3) := by decide +kernel
theorem dX9_weakest_15 : decode cX9_weakest 15 = .ok (.aload_n 0, 1) := by decide +kernel
theorem dX9_weakest_16 : decode cX9_weakest 16 = .ok (.getfield 70, 3) := by decide +kernel
theorem dX9_weakest_19 : decode cX9_weakest 19 = .ok (.iload 5, 2) := by decide +kernel
theorem dX9_weakest_21 : decode cX9_weakest 21 = .ok (.iload_n 3, 1) := by decide +kernel
theorem dX9_weakest_22 : decode cX9_weakest 22 = .ok (.aload_n 0, 1) := by decide +kernel
theorem dX9_weakest_23 : decode cX9_weakest 23 = .ok (.getfield 154, 3) := by decide +kernel
theorem dX9_weakest_26 : decode cX9_weakest 26 = .ok (.irem, 1) := by decide +kernel
theorem dX9_weakest_27 : decode cX9_weakest 27 = .ok (.iastore, 1) := by decide +kernel
theorem dX9_weakest_28 : decode cX9_weakest 28 = .ok (.iload 4, 2) := by decide +kernel
theorem dX9_weakest_30 : decode cX9_weakest 30 = .ok (.ifCond .eq 24, 3) := by decide +kernel
theorem dX9_weakest_33 : decode cX9_weakest 33 = .ok (.aload_n 0, 1) := by decide +kernel
theorem dX9_weakest_34 : decode cX9_weakest 34 = .ok (.getfield 39, 3) := by decide +kernel
theorem dX9_weakest_37 : decode cX9_weakest 37 = .ok (.aload_n 0, 1) := by decide +kernel
theorem dX9_weakest_38 : decode cX9_weakest 38 = .ok (.getfield 70, 3) := by decide +kernel
theorem dX9_weakest_41 : decode cX9_weakest 41 = .ok (.iload 5, 2) := by decide +kernel
theorem dX9_weakest_43 : decode cX9_weakest 43 = .ok (.iaload, 1) := by decide +kernel
theorem dX9_weakest_44 : decode cX9_weakest 44 = .ok (.invokestatic 160, 3) := by decide +kernel
theorem dX9_weakest_47 : decode cX9_weakest 47 = .ok (.ifCond .eq 7, 3) := by decide +kernel
theorem dX9_weakest_50 : decode cX9_weakest 50 = .ok (.iconst 1, 1) := by decide +kernel
theorem dX9_weakest_51 : decode cX9_weakest 51 = .ok (.goto 4, 3) := by decide +kernel
theorem dX9_weakest_54 : decode cX9_weakest 54 = .ok (.iconst 0, 1) := by decide +kernel
theorem dX9_weakest_55 : decode cX9_weakest 55 = .ok (.istore 4, 2) := by decide +kernel
theorem dX9_weakest_57 : decode cX9_weakest 57 = .ok (.iload_n 3, 1) := by decide +kernel
theorem dX9_weakest_58 : decode cX9_weakest 58 = .ok (.aload_n 0, 1) := by decide +kernel
theorem dX9_weakest_59 : decode cX9_weakest 59 = .ok (.getfield 154, 3) := by decide +kernel
theorem dX9_weakest_62 : decode cX9_weakest 62 = .ok (.idiv, 1) := by decide +kernel
theorem dX9_weakest_63 : decode cX9_weakest 63 = .ok (.istore_n 3, 1) := by decide +kernel
theorem dX9_weakest_64 : decode cX9_weakest 64 = .ok (.iinc 5 (-1), 3) := by decide +kernel
theorem dX9_weakest_67 : decode cX9_weakest 67 = .ok (.goto (-57), 3) := by decide +kernel
theorem dX9_weakest_70 : decode cX9_weakest 70 = .ok (.ldc 234, 2) := by decide +kernel
theorem dX9_weakest_72 : decode cX9_weakest 72 = .ok (.istore 5, 2) := by decide +kernel
theorem dX9_weakest_74 : decode cX9_weakest 74 = .ok (.iconst 0, 1) := by decide +kernel
theorem dX9_weakest_75 : decode cX9_weakest 75 = .ok (.istore 6, 2) := by decide +kernel
theorem dX9_weakest_77 : decode cX9_weakest 77 = .ok (.iload 6, 2) := by decide +kernel
theorem dX9_weakest_79 : decode cX9_weakest 79 = .ok (.aload_n 0, 1) := by decide +kernel
theorem dX9_weakest_80 : decode cX9_weakest 80 = .ok (.getfield 154, 3) := by decide +kernel
theorem dX9_weakest_83 : decode cX9_weakest 83 = .ok (.if_icmp .ge 118, 3) := by decide +kernel
theorem dX9_weakest_86 : decode cX9_weakest 86 = .ok (.aload_n 0, 1) := by decide +kernel
theorem dX9_weakest_87 : decode cX9_weakest 87 = .ok (.getfield 73, 3) := by decide +kernel
theorem dX9_weakest_90 : decode cX9_weakest 90 = .ok (.iload 6, 2) := by decide +kernel
theorem dX9_weakest_92 : decode cX9_weakest 92 = .ok (.aload_n 0, 1) := by decide +kernel
theorem dX9_weakest_93 : decode cX9_weakest 93 = .ok (.getfield 39, 3) := by decide +kernel
theorem dX9_weakest_96 : decode cX9_weakest 96 = .ok (.bipush 8, 2) := by decide +kernel
theorem dX9_weakest_98 : decode cX9_weakest 98 = .ok (.iload 6, 2) := by decide +kernel
theorem dX9_weakest_100 : decode cX9_weakest 100 = .ok (.iadd, 1) := by decide +kernel
theorem dX9_weakest_101 : decode cX9_weakest 101 = .ok (.iaload, 1) := by decide +kernel
theorem dX9_weakest_102 : decode cX9_weakest 102 = .ok (.iastore, 1) := by decide +kernel
theorem dX9_weakest_103 : decode cX9_weakest 103 = .ok (.iconst 0, 1) := by decide +kernel
theorem dX9_weakest_104 : decode cX9_weakest 104 = .ok (.istore 7, 2) := by decide +kernel
theorem dX9_weakest_106 : decode cX9_weakest 106 = .ok (.iload 7, 2) := by decide +kernel
theorem dX9_weakest_108 : decode cX9_weakest 108 = .ok (.iload_n 2, 1) := by decide +kernel
theorem dX9_weakest_109 : decode cX9_weakest 109 = .ok (.if_icmp .ge 48, 3) := by decide +kernel
theorem dX9_weakest_112 : decode cX9_weakest 112 = .ok (.aload_n 0, 1) := by decide +kernel
theorem dX9_weakest_113 : decode cX9_weakest 113 = .ok (.getfield 73, 3) := by decide +kernel
theorem dX9_weakest_116 : decode cX9_weakest 116 = .ok (.iload 6, 2) := by decide +kernel
theorem dX9_weakest_118 : decode cX9_weakest 118 = .ok (.dup2, 1) := by decide +kernel
theorem dX9_weakest_119 : decode cX9_weakest 119 = .ok (.iaload, 1) := by decide +kernel
theorem dX9_weakest_120 : decode cX9_weakest 120 = .ok (.aload_n 0, 1) := by decide +kernel
theorem dX9_weakest_121 : decode cX9_weakest 121 = .ok (.getfield 70, 3) := by decide +kernel
theorem dX9_weakest_124 : decode cX9_weakest 124 = .ok (.iload 7, 2) := by decide +kernel
theorem dX9_weakest_126 : decode cX9_weakest 126 = .ok (.iaload, 1) := by decide +kernel
theorem dX9_weakest_127 : decode cX9_weakest 127 = .ok (.iload 6, 2) := by decide +kernel
theorem dX9_weakest_129 : decode cX9_weakest 129 = .ok (.if_icmp .ne 12, 3) := by decide +kernel
theorem dX9_weakest_132 : decode cX9_weakest 132 = .ok (.aload_n 0, 1) := by decide +kernel
theorem dX9_weakest_133 : decode cX9_weakest 133 = .ok (.iload 6, 2) := by decide +kernel
theorem dX9_weakest_135 : decode cX9_weakest 135 = .ok (.invokevirtual 235, 3) := by decide +kernel
theorem dX9_weakest_138 : decode cX9_weakest 138 = .ok (.goto 11, 3) := by decide +kernel
theorem dX9_weakest_141 : decode cX9_weakest 141 = .ok (.aload_n 0, 1) := by decide +kernel
theorem dX9_weakest_142 : decode cX9_weakest 142 = .ok (.iload 6, 2) := by decide +kernel
theorem dX9_weakest_144 : decode cX9_weakest 144 = .ok (.invokevirtual 235, 3) := by decide +kernel
theorem dX9_weakest_147 : decode cX9_weakest 147 = .ok (.iconst 2, 1) := by decide +kernel
theorem dX9_weakest_148 : decode cX9_weakest 148 = .ok (.idiv, 1) := by decide +kernel
theorem dX9_weakest_149 : decode cX9_weakest 149 = .ok (.isub, 1) := by decide +kernel
theorem dX9_weakest_150 : decode cX9_weakest 150 = .ok (.iastore, 1) := by decide +kernel
theorem dX9_weakest_151 : decode cX9_weakest 151 = .ok (.iinc 7 1, 3) := by decide +kernel
theorem dX9_weakest_154 : decode cX9_weakest 154 = .ok (.goto (-48), 3) := by decide +kernel
theorem dX9_weakest_157 : decode cX9_weakest 157 = .ok (.aload_n 0, 1) := by decide +kernel
theorem dX9_weakest_158 : decode cX9_weakest 158 = .ok (.getfield 39, 3) := by decide +kernel
theorem dX9_weakest_161 : decode cX9_weakest 161 = .ok (.iload 6, 2) := by decide +kernel
theorem dX9_weakest_163 : decode cX9_weakest 163 = .ok (.invokestatic 160, 3) := by decide +kernel
theorem dX9_weakest_166 : decode cX9_weakest 166 = .ok (.ifCond .eq 25, 3) := by decide +kernel
theorem dX9_weakest_169 : decode cX9_weakest 169 = .ok (.aload_n 0, 1) := by decide +kernel
theorem dX9_weakest_170 : decode cX9_weakest 170 = .ok (.getfield 73, 3) := by decide +kernel
theorem dX9_weakest_173 : decode cX9_weakest 173 = .ok (.iload 6, 2) := by decide +kernel
theorem dX9_weakest_175 : decode cX9_weakest 175 = .ok (.iaload, 1) := by decide +kernel
theorem dX9_weakest_176 : decode cX9_weakest 176 = .ok (.iload 5, 2) := by decide +kernel
theorem dX9_weakest_178 : decode cX9_weakest 178 = .ok (.if_icmp .ge 13, 3) := by decide +kernel
theorem dX9_weakest_181 : decode cX9_weakest 181 = .ok (.aload_n 0, 1) := by decide +kernel
theorem dX9_weakest_182 : decode cX9_weakest 182 = .ok (.getfield 73, 3) := by decide +kernel
theorem dX9_weakest_185 : decode cX9_weakest 185 = .ok (.iload 6, 2) := by decide +kernel
theorem dX9_weakest_187 : decode cX9_weakest 187 = .ok (.iaload, 1) := by decide +kernel
theorem dX9_weakest_188 : decode cX9_weakest 188 = .ok (.goto 5, 3) := by decide +kernel
theorem dX9_weakest_191 : decode cX9_weakest 191 = .ok (.iload 5, 2) := by decide +kernel
theorem dX9_weakest_193 : decode cX9_weakest 193 = .ok (.istore 5, 2) := by decide +kernel
theorem dX9_weakest_195 : decode cX9_weakest 195 = .ok (.iinc 6 1, 3) := by decide +kernel
theorem dX9_weakest_198 : decode cX9_weakest 198 = .ok (.goto (-121), 3) := by decide +kernel
theorem dX9_weakest_201 : decode cX9_weakest 201 = .ok (.iload 4, 2) := by decide +kernel
theorem dX9_weakest_203 : decode cX9_weakest 203 = .ok (.ifCond .eq 8, 3) := by decide +kernel
theorem dX9_weakest_206 : decode cX9_weakest 206 = .ok (.iload 5, 2) := by decide +kernel
theorem dX9_weakest_208 : decode cX9_weakest 208 = .ok (.goto 5, 3) := by decide +kernel
theorem dX9_weakest_211 : decode cX9_weakest 211 = .ok (.ldc 238, 2) := by decide +kernel
theorem dX9_weakest_213 : decode cX9_weakest 213 = .ok (.ireturn, 1) := by decide +kernel
theorem dX9_vee_0 : decode cX9_vee 0 = .ok (.iload_n 1, 1) := by decide +kernel
theorem dX9_vee_1 : decode cX9_vee 1 = .ok (.iconst 0, 1) := by decide +kernel
theorem dX9_vee_2 : decode cX9_vee 2 = .ok (.iconst 4, 1) := by decide +kernel
theorem dX9_vee_3 : decode cX9_vee 3 = .ok (.invokestatic 92, 3) := by decide +kernel
theorem dX9_vee_6 : decode cX9_vee 6 = .ok (.ifCond .eq 10, 3) := by decide +kernel
theorem dX9_vee_9 : decode cX9_vee 9 = .ok (.iload_n 2, 1) := by decide +kernel
theorem dX9_vee_10 : decode cX9_vee 10 = .ok (.invokestatic 102, 3) := by decide +kernel
theorem dX9_vee_13 : decode cX9_vee 13 = .ok (.ifCond .ne 5, 3) := by decide +kernel
theorem dX9_vee_16 : decode cX9_vee 16 = .ok (.iconst (-1), 1) := by decide +kernel
theorem dX9_vee_17 : decode cX9_vee 17 = .ok (.ireturn, 1) := by decide +kernel
theorem dX9_vee_18 : decode cX9_vee 18 = .ok (.aload_n 0, 1) := by decide +kernel
theorem dX9_vee_19 : decode cX9_vee 19 = .ok (.aload_n 0, 1) := by decide +kernel
theorem dX9_vee_20 : decode cX9_vee 20 = .ok (.getfield 39, 3) := by decide +kernel
theorem dX9_vee_23 : decode cX9_vee 23 = .ok (.invokevirtual 217, 3) := by decide +kernel
theorem dX9_vee_26 : decode cX9_vee 26 = .ok (.ifCond .ne 6, 3) := by decide +kernel
theorem dX9_vee_29 : decode cX9_vee 29 = .ok (.bipush (-4), 2) := by decide +kernel
theorem dX9_vee_31 : decode cX9_vee 31 = .ok (.ireturn, 1) := by decide +kernel
theorem dX9_vee_32 : decode cX9_vee 32 = .ok (.iconst 1, 1) := by decide +kernel
theorem dX9_vee_33 : decode cX9_vee 33 = .ok (.istore_n 3, 1) := by decide +kernel
theorem dX9_vee_34 : decode cX9_vee 34 = .ok (.iconst 0, 1) := by decide +kernel
theorem dX9_vee_35 : decode cX9_vee 35 = .ok (.istore 4, 2) := by decide +kernel
theorem dX9_vee_37 : decode cX9_vee 37 = .ok (.iload 4, 2) := by decide +kernel
theorem dX9_vee_39 : decode cX9_vee 39 = .ok (.iload_n 1, 1) := by decide +kernel
theorem dX9_vee_40 : decode cX9_vee 40 = .ok (.if_icmp .ge 16, 3) := by decide +kernel
theorem dX9_vee_43 : decode cX9_vee 43 = .ok (.iload_n 3, 1) := by decide +kernel
theorem dX9_vee_44 : decode cX9_vee 44 = .ok (.aload_n 0, 1) := by decide +kernel
theorem dX9_vee_45 : decode cX9_vee 45 = .ok (.getfield 154, 3) := by decide +kernel
theorem dX9_vee_48 : decode cX9_vee 48 = .ok (.imul, 1) := by decide +kernel
theorem dX9_vee_49 : decode cX9_vee 49 = .ok (.istore_n 3, 1) := by decide +kernel
theorem dX9_vee_50 : decode cX9_vee 50 = .ok (.iinc 4 1, 3) := by decide +kernel
theorem dX9_vee_53 : decode cX9_vee 53 = .ok (.goto (-16), 3) := by decide +kernel
theorem dX9_vee_56 : decode cX9_vee 56 = .ok (.iconst 0, 1) := by decide +kernel
theorem dX9_vee_57 : decode cX9_vee 57 = .ok (.istore 4, 2) := by decide +kernel
theorem dX9_vee_59 : decode cX9_vee 59 = .ok (.ldc 238, 2) := by decide +kernel
theorem dX9_vee_61 : decode cX9_vee 61 = .ok (.istore 5, 2) := by decide +kernel
theorem dX9_vee_63 : decode cX9_vee 63 = .ok (.iconst 0, 1) := by decide +kernel
theorem dX9_vee_64 : decode cX9_vee 64 = .ok (.istore 6, 2) := by decide +kernel
theorem dX9_vee_66 : decode cX9_vee 66 = .ok (.iload 6, 2) := by decide +kernel
theorem dX9_vee_68 : decode cX9_vee 68 = .ok (.iload_n 3, 1) := by decide +kernel
theorem dX9_vee_69 : decode cX9_vee 69 = .ok (.if_icmp .ge 50, 3) := by decide +kernel
theorem dX9_vee_72 : decode cX9_vee 72 = .ok (.aload_n 0, 1) := by decide +kernel
theorem dX9_vee_73 : decode cX9_vee 73 = .ok (.iload 6, 2) := by decide +kernel
theorem dX9_vee_75 : decode cX9_vee 75 = .ok (.iload_n 1, 1) := by decide +kernel
theorem dX9_vee_76 : decode cX9_vee 76 = .ok (.invokevirtual 239, 3) := by decide +kernel
theorem dX9_vee_79 : decode cX9_vee 79 = .ok (.istore 7, 2) := by decide +kernel
theorem dX9_vee_81 : decode cX9_vee 81 = .ok (.iload 7, 2) := by decide +kernel
theorem dX9_vee_83 : decode cX9_vee 83 = .ok (.iload 5, 2) := by decide +kernel
theorem dX9_vee_85 : decode cX9_vee 85 = .ok (.if_icmp .le 8, 3) := by decide +kernel
theorem dX9_vee_88 : decode cX9_vee 88 = .ok (.iload 6, 2) := by decide +kernel
theorem dX9_vee_90 : decode cX9_vee 90 = .ok (.goto 5, 3) := by decide +kernel
theorem dX9_vee_93 : decode cX9_vee 93 = .ok (.iload 4, 2) := by decide +kernel
theorem dX9_vee_95 : decode cX9_vee 95 = .ok (.istore 4, 2) := by decide +kernel
theorem dX9_vee_97 : decode cX9_vee 97 = .ok (.iload 7, 2) := by decide +kernel
theorem dX9_vee_99 : decode cX9_vee 99 = .ok (.iload 5, 2) := by decide +kernel
theorem dX9_vee_101 : decode cX9_vee 101 = .ok (.if_icmp .le 8, 3) := by decide +kernel
theorem dX9_vee_104 : decode cX9_vee 104 = .ok (.iload 7, 2) := by decide +kernel
theorem dX9_vee_106 : decode cX9_vee 106 = .ok (.goto 5, 3) := by decide +kernel
theorem dX9_vee_109 : decode cX9_vee 109 = .ok (.iload 5, 2) := by decide +kernel
theorem dX9_vee_111 : decode cX9_vee 111 = .ok (.istore 5, 2) := by decide +kernel
theorem dX9_vee_113 : decode cX9_vee 113 = .ok (.iinc 6 1, 3) := by decide +kernel
theorem dX9_vee_116 : decode cX9_vee 116 = .ok (.goto (-50), 3) := by decide +kernel
theorem dX9_vee_119 : decode cX9_vee 119 = .ok (.aload_n 0, 1) := by decide +kernel
theorem dX9_vee_120 : decode cX9_vee 120 = .ok (.iload 4, 2) := by decide +kernel
theorem dX9_vee_122 : decode cX9_vee 122 = .ok (.iload_n 1, 1) := by decide +kernel
theorem dX9_vee_123 : decode cX9_vee 123 = .ok (.invokevirtual 239, 3) := by decide +kernel
theorem dX9_vee_126 : decode cX9_vee 126 = .ok (.pop, 1) := by decide +kernel
theorem dX9_vee_127 : decode cX9_vee 127 = .ok (.aload_n 0, 1) := by decide +kernel
theorem dX9_vee_128 : decode cX9_vee 128 = .ok (.getfield 17, 3) := by decide +kernel
theorem dX9_vee_131 : decode cX9_vee 131 = .ok (.iload_n 2, 1) := by decide +kernel
theorem dX9_vee_132 : decode cX9_vee 132 = .ok (.iload_n 1, 1) := by decide +kernel
theorem dX9_vee_133 : decode cX9_vee 133 = .ok (.iastore, 1) := by decide +kernel
theorem dX9_vee_134 : decode cX9_vee 134 = .ok (.iconst 0, 1) := by decide +kernel
theorem dX9_vee_135 : decode cX9_vee 135 = .ok (.istore 6, 2) := by decide +kernel
theorem dX9_vee_137 : decode cX9_vee 137 = .ok (.iload 6, 2) := by decide +kernel
theorem dX9_vee_139 : decode cX9_vee 139 = .ok (.iload_n 1, 1) := by decide +kernel
theorem dX9_vee_140 : decode cX9_vee 140 = .ok (.if_icmp .ge 28, 3) := by decide +kernel
theorem dX9_vee_143 : decode cX9_vee 143 = .ok (.aload_n 0, 1) := by decide +kernel
theorem dX9_vee_144 : decode cX9_vee 144 = .ok (.getfield 20, 3) := by decide +kernel
theorem dX9_vee_147 : decode cX9_vee 147 = .ok (.bipush 40, 2) := by decide +kernel
theorem dX9_vee_149 : decode cX9_vee 149 = .ok (.iload_n 2, 1) := by decide +kernel
theorem dX9_vee_150 : decode cX9_vee 150 = .ok (.imul, 1) := by decide +kernel
theorem dX9_vee_151 : decode cX9_vee 151 = .ok (.iload 6, 2) := by decide +kernel
theorem dX9_vee_153 : decode cX9_vee 153 = .ok (.iadd, 1) := by decide +kernel
theorem dX9_vee_154 : decode cX9_vee 154 = .ok (.aload_n 0, 1) := by decide +kernel
theorem dX9_vee_155 : decode cX9_vee 155 = .ok (.getfield 70, 3) := by decide +kernel
theorem dX9_vee_158 : decode cX9_vee 158 = .ok (.iload 6, 2) := by decide +kernel
theorem dX9_vee_160 : decode cX9_vee 160 = .ok (.iaload, 1) := by decide +kernel
theorem dX9_vee_161 : decode cX9_vee 161 = .ok (.iastore, 1) := by decide +kernel
theorem dX9_vee_162 : decode cX9_vee 162 = .ok (.iinc 6 1, 3) := by decide +kernel
theorem dX9_vee_165 : decode cX9_vee 165 = .ok (.goto (-28), 3) := by decide +kernel
theorem dX9_vee_168 : decode cX9_vee 168 = .ok (.iload 5, 2) := by decide +kernel
theorem dX9_vee_170 : decode cX9_vee 170 = .ok (.bipush 100, 2) := by decide +kernel
theorem dX9_vee_172 : decode cX9_vee 172 = .ok (.iadd, 1) := by decide +kernel
theorem dX9_vee_173 : decode cX9_vee 173 = .ok (.ireturn, 1) := by decide +kernel
theorem dX9_isPut_0 : decode cX9_isPut 0 = .ok (.iload_n 1, 1) := by decide +kernel
theorem dX9_isPut_1 : decode cX9_isPut 1 = .ok (.istore_n 3, 1) := by decide +kernel
theorem dX9_isPut_2 : decode cX9_isPut 2 = .ok (.iconst 0, 1) := by decide +kernel
theorem dX9_isPut_3 : decode cX9_isPut 3 = .ok (.istore 4, 2) := by decide +kernel
theorem dX9_isPut_5 : decode cX9_isPut 5 = .ok (.aload_n 0, 1) := by decide +kernel
theorem dX9_isPut_6 : decode cX9_isPut 6 = .ok (.getfield 154, 3) := by decide +kernel
theorem dX9_isPut_9 : decode cX9_isPut 9 = .ok (.iconst 1, 1) := by decide +kernel
theorem dX9_isPut_10 : decode cX9_isPut 10 = .ok (.isub, 1) := by decide +kernel
theorem dX9_isPut_11 : decode cX9_isPut 11 = .ok (.istore 5, 2) := by decide +kernel
theorem dX9_isPut_13 : decode cX9_isPut 13 = .ok (.iload 5, 2) := by decide +kernel
theorem dX9_isPut_15 : decode cX9_isPut 15 = .ok (.ifCond .lt 59, 3) := by decide +kernel
theorem dX9_isPut_18 : decode cX9_isPut 18 = .ok (.aload_n 0, 1) := by decide +kernel
theorem dX9_isPut_19 : decode cX9_isPut 19 = .ok (.getfield 79, 3) := by decide +kernel
theorem dX9_isPut_22 : decode cX9_isPut 22 = .ok (.iload 5, 2) := by decide +kernel
theorem dX9_isPut_24 : decode cX9_isPut 24 = .ok (.bipush (-9), 2) := by decide +kernel
theorem dX9_isPut_26 : decode cX9_isPut 26 = .ok (.iastore, 1) := by decide +kernel
theorem dX9_isPut_27 : decode cX9_isPut 27 = .ok (.aload_n 0, 1) := by decide +kernel
theorem dX9_isPut_28 : decode cX9_isPut 28 = .ok (.getfield 39, 3) := by decide +kernel
theorem dX9_isPut_31 : decode cX9_isPut 31 = .ok (.iload 5, 2) := by decide +kernel
theorem dX9_isPut_33 : decode cX9_isPut 33 = .ok (.invokestatic 160, 3) := by decide +kernel
theorem dX9_isPut_36 : decode cX9_isPut 36 = .ok (.ifCond .eq 32, 3) := by decide +kernel
theorem dX9_isPut_39 : decode cX9_isPut 39 = .ok (.iload 4, 2) := by decide +kernel
theorem dX9_isPut_41 : decode cX9_isPut 41 = .ok (.iconst 1, 1) := by decide +kernel
theorem dX9_isPut_42 : decode cX9_isPut 42 = .ok (.iload_n 3, 1) := by decide +kernel
theorem dX9_isPut_43 : decode cX9_isPut 43 = .ok (.iload_n 2, 1) := by decide +kernel
theorem dX9_isPut_44 : decode cX9_isPut 44 = .ok (.irem, 1) := by decide +kernel
theorem dX9_isPut_45 : decode cX9_isPut 45 = .ok (.ishl, 1) := by decide +kernel
theorem dX9_isPut_46 : decode cX9_isPut 46 = .ok (.ior, 1) := by decide +kernel
theorem dX9_isPut_47 : decode cX9_isPut 47 = .ok (.istore 4, 2) := by decide +kernel
theorem dX9_isPut_49 : decode cX9_isPut 49 = .ok (.aload_n 0, 1) := by decide +kernel
theorem dX9_isPut_50 : decode cX9_isPut 50 = .ok (.getfield 79, 3) := by decide +kernel
theorem dX9_isPut_53 : decode cX9_isPut 53 = .ok (.iload 5, 2) := by decide +kernel
theorem dX9_isPut_55 : decode cX9_isPut 55 = .ok (.aload_n 0, 1) := by decide +kernel
theorem dX9_isPut_56 : decode cX9_isPut 56 = .ok (.getfield 76, 3) := by decide +kernel
theorem dX9_isPut_59 : decode cX9_isPut 59 = .ok (.iload_n 3, 1) := by decide +kernel
theorem dX9_isPut_60 : decode cX9_isPut 60 = .ok (.iload_n 2, 1) := by decide +kernel
theorem dX9_isPut_61 : decode cX9_isPut 61 = .ok (.irem, 1) := by decide +kernel
theorem dX9_isPut_62 : decode cX9_isPut 62 = .ok (.iaload, 1) := by decide +kernel
theorem dX9_isPut_63 : decode cX9_isPut 63 = .ok (.iastore, 1) := by decide +kernel
theorem dX9_isPut_64 : decode cX9_isPut 64 = .ok (.iload_n 3, 1) := by decide +kernel
theorem dX9_isPut_65 : decode cX9_isPut 65 = .ok (.iload_n 2, 1) := by decide +kernel
theorem dX9_isPut_66 : decode cX9_isPut 66 = .ok (.idiv, 1) := by decide +kernel
theorem dX9_isPut_67 : decode cX9_isPut 67 = .ok (.istore_n 3, 1) := by decide +kernel
theorem dX9_isPut_68 : decode cX9_isPut 68 = .ok (.iinc 5 (-1), 3) := by decide +kernel
theorem dX9_isPut_71 : decode cX9_isPut 71 = .ok (.goto (-58), 3) := by decide +kernel
theorem dX9_isPut_74 : decode cX9_isPut 74 = .ok (.iload 4, 2) := by decide +kernel
theorem dX9_isPut_76 : decode cX9_isPut 76 = .ok (.invokestatic 220, 3) := by decide +kernel
theorem dX9_isPut_79 : decode cX9_isPut 79 = .ok (.iload_n 2, 1) := by decide +kernel
theorem dX9_isPut_80 : decode cX9_isPut 80 = .ok (.if_icmp .ne 7, 3) := by decide +kernel
theorem dX9_isPut_83 : decode cX9_isPut 83 = .ok (.iconst 1, 1) := by decide +kernel
theorem dX9_isPut_84 : decode cX9_isPut 84 = .ok (.goto 4, 3) := by decide +kernel
theorem dX9_isPut_87 : decode cX9_isPut 87 = .ok (.iconst 0, 1) := by decide +kernel
theorem dX9_isPut_88 : decode cX9_isPut 88 = .ok (.ireturn, 1) := by decide +kernel
theorem dX9_pairsApart_0 : decode cX9_pairsApart 0 = .ok (.iconst 0, 1) := by decide +kernel
theorem dX9_pairsApart_1 : decode cX9_pairsApart 1 = .ok (.istore_n 1, 1) := by decide +kernel
theorem dX9_pairsApart_2 : decode cX9_pairsApart 2 = .ok (.iconst 0, 1) := by decide +kernel
theorem dX9_pairsApart_3 : decode cX9_pairsApart 3 = .ok (.istore_n 2, 1) := by decide +kernel
theorem dX9_pairsApart_4 : decode cX9_pairsApart 4 = .ok (.iload_n 2, 1) := by decide +kernel
theorem dX9_pairsApart_5 : decode cX9_pairsApart 5 = .ok (.iconst 1, 1) := by decide +kernel
theorem dX9_pairsApart_6 : decode cX9_pairsApart 6 = .ok (.iadd, 1) := by decide +kernel
theorem dX9_pairsApart_7 : decode cX9_pairsApart 7 = .ok (.aload_n 0, 1) := by decide +kernel
theorem dX9_pairsApart_8 : decode cX9_pairsApart 8 = .ok (.getfield 154, 3) := by decide +kernel
theorem dX9_pairsApart_11 : decode cX9_pairsApart 11 = .ok (.if_icmp .ge 57, 3) := by decide +kernel
theorem dX9_pairsApart_14 : decode cX9_pairsApart 14 = .ok (.iload_n 1, 1) := by decide +kernel
theorem dX9_pairsApart_15 : decode cX9_pairsApart 15 = .ok (.aload_n 0, 1) := by decide +kernel
theorem dX9_pairsApart_16 : decode cX9_pairsApart 16 = .ok (.getfield 39, 3) := by decide +kernel
theorem dX9_pairsApart_19 : decode cX9_pairsApart 19 = .ok (.iload_n 2, 1) := by decide +kernel
theorem dX9_pairsApart_20 : decode cX9_pairsApart 20 = .ok (.invokestatic 160, 3) := by decide +kernel
theorem dX9_pairsApart_23 : decode cX9_pairsApart 23 = .ok (.ifCond .eq 36, 3) := by decide +kernel
theorem dX9_pairsApart_26 : decode cX9_pairsApart 26 = .ok (.aload_n 0, 1) := by decide +kernel
theorem dX9_pairsApart_27 : decode cX9_pairsApart 27 = .ok (.getfield 39, 3) := by decide +kernel
theorem dX9_pairsApart_30 : decode cX9_pairsApart 30 = .ok (.iload_n 2, 1) := by decide +kernel
theorem dX9_pairsApart_31 : decode cX9_pairsApart 31 = .ok (.iconst 1, 1) := by decide +kernel
theorem dX9_pairsApart_32 : decode cX9_pairsApart 32 = .ok (.iadd, 1) := by decide +kernel
theorem dX9_pairsApart_33 : decode cX9_pairsApart 33 = .ok (.invokestatic 160, 3) := by decide +kernel
theorem dX9_pairsApart_36 : decode cX9_pairsApart 36 = .ok (.ifCond .eq 23, 3) := by decide +kernel
theorem dX9_pairsApart_39 : decode cX9_pairsApart 39 = .ok (.aload_n 0, 1) := by decide +kernel
theorem dX9_pairsApart_40 : decode cX9_pairsApart 40 = .ok (.getfield 79, 3) := by decide +kernel
theorem dX9_pairsApart_43 : decode cX9_pairsApart 43 = .ok (.iload_n 2, 1) := by decide +kernel
theorem dX9_pairsApart_44 : decode cX9_pairsApart 44 = .ok (.iaload, 1) := by decide +kernel
theorem dX9_pairsApart_45 : decode cX9_pairsApart 45 = .ok (.aload_n 0, 1) := by decide +kernel
theorem dX9_pairsApart_46 : decode cX9_pairsApart 46 = .ok (.getfield 79, 3) := by decide +kernel
theorem dX9_pairsApart_49 : decode cX9_pairsApart 49 = .ok (.iload_n 2, 1) := by decide +kernel
theorem dX9_pairsApart_50 : decode cX9_pairsApart 50 = .ok (.iconst 1, 1) := by decide +kernel
theorem dX9_pairsApart_51 : decode cX9_pairsApart 51 = .ok (.iadd, 1) := by decide +kernel
theorem dX9_pairsApart_52 : decode cX9_pairsApart 52 = .ok (.iaload, 1) := by decide +kernel
theorem dX9_pairsApart_53 : decode cX9_pairsApart 53 = .ok (.invokestatic 164, 3) := by decide +kernel
theorem dX9_pairsApart_56 : decode cX9_pairsApart 56 = .ok (.goto 4, 3) := by decide +kernel
theorem dX9_pairsApart_59 : decode cX9_pairsApart 59 = .ok (.iconst 0, 1) := by decide +kernel
theorem dX9_pairsApart_60 : decode cX9_pairsApart 60 = .ok (.iadd, 1) := by decide +kernel
theorem dX9_pairsApart_61 : decode cX9_pairsApart 61 = .ok (.istore_n 1, 1) := by decide +kernel
theorem dX9_pairsApart_62 : decode cX9_pairsApart 62 = .ok (.iinc 2 2, 3) := by decide +kernel
theorem dX9_pairsApart_65 : decode cX9_pairsApart 65 = .ok (.goto (-61), 3) := by decide +kernel
theorem dX9_pairsApart_68 : decode cX9_pairsApart 68 = .ok (.iload_n 1, 1) := by decide +kernel
theorem dX9_pairsApart_69 : decode cX9_pairsApart 69 = .ok (.ireturn, 1) := by decide +kernel
theorem dX9_homesApart_0 : decode cX9_homesApart 0 = .ok (.iconst 0, 1) := by decide +kernel
theorem dX9_homesApart_1 : decode cX9_homesApart 1 = .ok (.istore_n 1, 1) := by decide +kernel
theorem dX9_homesApart_2 : decode cX9_homesApart 2 = .ok (.iconst 0, 1) := by decide +kernel
theorem dX9_homesApart_3 : decode cX9_homesApart 3 = .ok (.istore_n 2, 1) := by decide +kernel
theorem dX9_homesApart_4 : decode cX9_homesApart 4 = .ok (.iload_n 2, 1) := by decide +kernel
theorem dX9_homesApart_5 : decode cX9_homesApart 5 = .ok (.aload_n 0, 1) := by decide +kernel
theorem dX9_homesApart_6 : decode cX9_homesApart 6 = .ok (.getfield 154, 3) := by decide +kernel
theorem dX9_homesApart_9 : decode cX9_homesApart 9 = .ok (.if_icmp .ge 44, 3) := by decide +kernel
theorem dX9_homesApart_12 : decode cX9_homesApart 12 = .ok (.iload_n 1, 1) := by decide +kernel
theorem dX9_homesApart_13 : decode cX9_homesApart 13 = .ok (.aload_n 0, 1) := by decide +kernel
theorem dX9_homesApart_14 : decode cX9_homesApart 14 = .ok (.getfield 39, 3) := by decide +kernel
theorem dX9_homesApart_17 : decode cX9_homesApart 17 = .ok (.iload_n 2, 1) := by decide +kernel
theorem dX9_homesApart_18 : decode cX9_homesApart 18 = .ok (.invokestatic 160, 3) := by decide +kernel
theorem dX9_homesApart_21 : decode cX9_homesApart 21 = .ok (.ifCond .eq 23, 3) := by decide +kernel
theorem dX9_homesApart_24 : decode cX9_homesApart 24 = .ok (.aload_n 0, 1) := by decide +kernel
theorem dX9_homesApart_25 : decode cX9_homesApart 25 = .ok (.getfield 79, 3) := by decide +kernel
theorem dX9_homesApart_28 : decode cX9_homesApart 28 = .ok (.iload_n 2, 1) := by decide +kernel
theorem dX9_homesApart_29 : decode cX9_homesApart 29 = .ok (.iaload, 1) := by decide +kernel
theorem dX9_homesApart_30 : decode cX9_homesApart 30 = .ok (.aload_n 0, 1) := by decide +kernel
theorem dX9_homesApart_31 : decode cX9_homesApart 31 = .ok (.getfield 39, 3) := by decide +kernel
theorem dX9_homesApart_34 : decode cX9_homesApart 34 = .ok (.iconst 2, 1) := by decide +kernel
theorem dX9_homesApart_35 : decode cX9_homesApart 35 = .ok (.iload_n 2, 1) := by decide +kernel
theorem dX9_homesApart_36 : decode cX9_homesApart 36 = .ok (.iadd, 1) := by decide +kernel
theorem dX9_homesApart_37 : decode cX9_homesApart 37 = .ok (.iaload, 1) := by decide +kernel
theorem dX9_homesApart_38 : decode cX9_homesApart 38 = .ok (.invokestatic 164, 3) := by decide +kernel
theorem dX9_homesApart_41 : decode cX9_homesApart 41 = .ok (.goto 4, 3) := by decide +kernel
theorem dX9_homesApart_44 : decode cX9_homesApart 44 = .ok (.iconst 0, 1) := by decide +kernel
theorem dX9_homesApart_45 : decode cX9_homesApart 45 = .ok (.iadd, 1) := by decide +kernel
theorem dX9_homesApart_46 : decode cX9_homesApart 46 = .ok (.istore_n 1, 1) := by decide +kernel
theorem dX9_homesApart_47 : decode cX9_homesApart 47 = .ok (.iinc 2 1, 3) := by decide +kernel
theorem dX9_homesApart_50 : decode cX9_homesApart 50 = .ok (.goto (-46), 3) := by decide +kernel
theorem dX9_homesApart_53 : decode cX9_homesApart 53 = .ok (.iload_n 1, 1) := by decide +kernel
theorem dX9_homesApart_54 : decode cX9_homesApart 54 = .ok (.ireturn, 1) := by decide +kernel
theorem dX9_pairs_0 : decode cX9_pairs 0 = .ok (.iload_n 1, 1) := by decide +kernel
theorem dX9_pairs_1 : decode cX9_pairs 1 = .ok (.invokestatic 102, 3) := by decide +kernel
theorem dX9_pairs_4 : decode cX9_pairs 4 = .ok (.ifCond .ne 5, 3) := by decide +kernel
theorem dX9_pairs_7 : decode cX9_pairs 7 = .ok (.iconst (-1), 1) := by decide +kernel
theorem dX9_pairs_8 : decode cX9_pairs 8 = .ok (.ireturn, 1) := by decide +kernel
theorem dX9_pairs_9 : decode cX9_pairs 9 = .ok (.aload_n 0, 1) := by decide +kernel
theorem dX9_pairs_10 : decode cX9_pairs 10 = .ok (.aload_n 0, 1) := by decide +kernel
theorem dX9_pairs_11 : decode cX9_pairs 11 = .ok (.getfield 39, 3) := by decide +kernel
theorem dX9_pairs_14 : decode cX9_pairs 14 = .ok (.invokevirtual 217, 3) := by decide +kernel
theorem dX9_pairs_17 : decode cX9_pairs 17 = .ok (.invokestatic 220, 3) := by decide +kernel
theorem dX9_pairs_20 : decode cX9_pairs 20 = .ok (.istore_n 2, 1) := by decide +kernel
theorem dX9_pairs_21 : decode cX9_pairs 21 = .ok (.iload_n 2, 1) := by decide +kernel
theorem dX9_pairs_22 : decode cX9_pairs 22 = .ok (.ifCond .ne 6, 3) := by decide +kernel
theorem dX9_pairs_25 : decode cX9_pairs 25 = .ok (.bipush (-4), 2) := by decide +kernel
theorem dX9_pairs_27 : decode cX9_pairs 27 = .ok (.ireturn, 1) := by decide +kernel
theorem dX9_pairs_28 : decode cX9_pairs 28 = .ok (.iconst 0, 1) := by decide +kernel
theorem dX9_pairs_29 : decode cX9_pairs 29 = .ok (.istore_n 3, 1) := by decide +kernel
theorem dX9_pairs_30 : decode cX9_pairs 30 = .ok (.iconst 0, 1) := by decide +kernel
theorem dX9_pairs_31 : decode cX9_pairs 31 = .ok (.istore 4, 2) := by decide +kernel
theorem dX9_pairs_33 : decode cX9_pairs 33 = .ok (.iload 4, 2) := by decide +kernel
theorem dX9_pairs_35 : decode cX9_pairs 35 = .ok (.bipush 10, 2) := by decide +kernel
