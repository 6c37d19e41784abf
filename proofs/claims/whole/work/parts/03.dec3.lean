theorem dX9_pairs_37 : decode cX9_pairs 37 = .ok (.if_icmp .ge 31, 3) := by decide +kernel
theorem dX9_pairs_40 : decode cX9_pairs 40 = .ok (.aload_n 0, 1) := by decide +kernel
theorem dX9_pairs_41 : decode cX9_pairs 41 = .ok (.iload 4, 2) := by decide +kernel
theorem dX9_pairs_43 : decode cX9_pairs 43 = .ok (.invokevirtual 204, 3) := by decide +kernel
theorem dX9_pairs_46 : decode cX9_pairs 46 = .ok (.bipush 10, 2) := by decide +kernel
theorem dX9_pairs_48 : decode cX9_pairs 48 = .ok (.if_icmp .ge 14, 3) := by decide +kernel
theorem dX9_pairs_51 : decode cX9_pairs 51 = .ok (.aload_n 0, 1) := by decide +kernel
theorem dX9_pairs_52 : decode cX9_pairs 52 = .ok (.getfield 76, 3) := by decide +kernel
theorem dX9_pairs_55 : decode cX9_pairs 55 = .ok (.iload_n 3, 1) := by decide +kernel
theorem dX9_pairs_56 : decode cX9_pairs 56 = .ok (.iload 4, 2) := by decide +kernel
theorem dX9_pairs_58 : decode cX9_pairs 58 = .ok (.iastore, 1) := by decide +kernel
theorem dX9_pairs_59 : decode cX9_pairs 59 = .ok (.iinc 3 1, 3) := by decide +kernel
theorem dX9_pairs_62 : decode cX9_pairs 62 = .ok (.iinc 4 1, 3) := by decide +kernel
theorem dX9_pairs_65 : decode cX9_pairs 65 = .ok (.goto (-32), 3) := by decide +kernel
theorem dX9_pairs_68 : decode cX9_pairs 68 = .ok (.iconst 1, 1) := by decide +kernel
theorem dX9_pairs_69 : decode cX9_pairs 69 = .ok (.istore 4, 2) := by decide +kernel
theorem dX9_pairs_71 : decode cX9_pairs 71 = .ok (.iconst 0, 1) := by decide +kernel
theorem dX9_pairs_72 : decode cX9_pairs 72 = .ok (.istore 5, 2) := by decide +kernel
theorem dX9_pairs_74 : decode cX9_pairs 74 = .ok (.iload 5, 2) := by decide +kernel
theorem dX9_pairs_76 : decode cX9_pairs 76 = .ok (.iload_n 2, 1) := by decide +kernel
theorem dX9_pairs_77 : decode cX9_pairs 77 = .ok (.if_icmp .ge 15, 3) := by decide +kernel
theorem dX9_pairs_80 : decode cX9_pairs 80 = .ok (.iload 4, 2) := by decide +kernel
theorem dX9_pairs_82 : decode cX9_pairs 82 = .ok (.iload_n 2, 1) := by decide +kernel
theorem dX9_pairs_83 : decode cX9_pairs 83 = .ok (.imul, 1) := by decide +kernel
theorem dX9_pairs_84 : decode cX9_pairs 84 = .ok (.istore 4, 2) := by decide +kernel
theorem dX9_pairs_86 : decode cX9_pairs 86 = .ok (.iinc 5 1, 3) := by decide +kernel
theorem dX9_pairs_89 : decode cX9_pairs 89 = .ok (.goto (-15), 3) := by decide +kernel
theorem dX9_pairs_92 : decode cX9_pairs 92 = .ok (.bipush (-9), 2) := by decide +kernel
theorem dX9_pairs_94 : decode cX9_pairs 94 = .ok (.istore 5, 2) := by decide +kernel
theorem dX9_pairs_96 : decode cX9_pairs 96 = .ok (.ldc 234, 2) := by decide +kernel
theorem dX9_pairs_98 : decode cX9_pairs 98 = .ok (.istore 6, 2) := by decide +kernel
theorem dX9_pairs_100 : decode cX9_pairs 100 = .ok (.iconst 0, 1) := by decide +kernel
theorem dX9_pairs_101 : decode cX9_pairs 101 = .ok (.istore 7, 2) := by decide +kernel
theorem dX9_pairs_103 : decode cX9_pairs 103 = .ok (.iload 7, 2) := by decide +kernel
theorem dX9_pairs_105 : decode cX9_pairs 105 = .ok (.iload 4, 2) := by decide +kernel
theorem dX9_pairs_107 : decode cX9_pairs 107 = .ok (.if_icmp .ge 74, 3) := by decide +kernel
theorem dX9_pairs_110 : decode cX9_pairs 110 = .ok (.aload_n 0, 1) := by decide +kernel
theorem dX9_pairs_111 : decode cX9_pairs 111 = .ok (.iload 7, 2) := by decide +kernel
theorem dX9_pairs_113 : decode cX9_pairs 113 = .ok (.iload_n 2, 1) := by decide +kernel
theorem dX9_pairs_114 : decode cX9_pairs 114 = .ok (.invokevirtual 242, 3) := by decide +kernel
theorem dX9_pairs_117 : decode cX9_pairs 117 = .ok (.istore 8, 2) := by decide +kernel
theorem dX9_pairs_119 : decode cX9_pairs 119 = .ok (.iload 8, 2) := by decide +kernel
theorem dX9_pairs_121 : decode cX9_pairs 121 = .ok (.ifCond .eq 18, 3) := by decide +kernel
theorem dX9_pairs_124 : decode cX9_pairs 124 = .ok (.bipush 100, 2) := by decide +kernel
theorem dX9_pairs_126 : decode cX9_pairs 126 = .ok (.aload_n 0, 1) := by decide +kernel
theorem dX9_pairs_127 : decode cX9_pairs 127 = .ok (.invokevirtual 245, 3) := by decide +kernel
theorem dX9_pairs_130 : decode cX9_pairs 130 = .ok (.imul, 1) := by decide +kernel
theorem dX9_pairs_131 : decode cX9_pairs 131 = .ok (.aload_n 0, 1) := by decide +kernel
theorem dX9_pairs_132 : decode cX9_pairs 132 = .ok (.invokevirtual 249, 3) := by decide +kernel
theorem dX9_pairs_135 : decode cX9_pairs 135 = .ok (.iadd, 1) := by decide +kernel
theorem dX9_pairs_136 : decode cX9_pairs 136 = .ok (.goto 5, 3) := by decide +kernel
theorem dX9_pairs_139 : decode cX9_pairs 139 = .ok (.ldc 234, 2) := by decide +kernel
theorem dX9_pairs_141 : decode cX9_pairs 141 = .ok (.istore 9, 2) := by decide +kernel
theorem dX9_pairs_143 : decode cX9_pairs 143 = .ok (.iload 9, 2) := by decide +kernel
theorem dX9_pairs_145 : decode cX9_pairs 145 = .ok (.iload 6, 2) := by decide +kernel
theorem dX9_pairs_147 : decode cX9_pairs 147 = .ok (.if_icmp .ge 8, 3) := by decide +kernel
theorem dX9_pairs_150 : decode cX9_pairs 150 = .ok (.iload 7, 2) := by decide +kernel
theorem dX9_pairs_152 : decode cX9_pairs 152 = .ok (.goto 5, 3) := by decide +kernel
theorem dX9_pairs_155 : decode cX9_pairs 155 = .ok (.iload 5, 2) := by decide +kernel
theorem dX9_pairs_157 : decode cX9_pairs 157 = .ok (.istore 5, 2) := by decide +kernel
theorem dX9_pairs_159 : decode cX9_pairs 159 = .ok (.iload 9, 2) := by decide +kernel
theorem dX9_pairs_161 : decode cX9_pairs 161 = .ok (.iload 6, 2) := by decide +kernel
theorem dX9_pairs_163 : decode cX9_pairs 163 = .ok (.if_icmp .ge 8, 3) := by decide +kernel
theorem dX9_pairs_166 : decode cX9_pairs 166 = .ok (.iload 9, 2) := by decide +kernel
theorem dX9_pairs_168 : decode cX9_pairs 168 = .ok (.goto 5, 3) := by decide +kernel
theorem dX9_pairs_171 : decode cX9_pairs 171 = .ok (.iload 6, 2) := by decide +kernel
theorem dX9_pairs_173 : decode cX9_pairs 173 = .ok (.istore 6, 2) := by decide +kernel
theorem dX9_pairs_175 : decode cX9_pairs 175 = .ok (.iinc 7 1, 3) := by decide +kernel
theorem dX9_pairs_178 : decode cX9_pairs 178 = .ok (.goto (-75), 3) := by decide +kernel
theorem dX9_pairs_181 : decode cX9_pairs 181 = .ok (.aload_n 0, 1) := by decide +kernel
theorem dX9_pairs_182 : decode cX9_pairs 182 = .ok (.iload 5, 2) := by decide +kernel
theorem dX9_pairs_184 : decode cX9_pairs 184 = .ok (.iload_n 2, 1) := by decide +kernel
theorem dX9_pairs_185 : decode cX9_pairs 185 = .ok (.invokevirtual 242, 3) := by decide +kernel
theorem dX9_pairs_188 : decode cX9_pairs 188 = .ok (.pop, 1) := by decide +kernel
theorem dX9_pairs_189 : decode cX9_pairs 189 = .ok (.aload_n 0, 1) := by decide +kernel
theorem dX9_pairs_190 : decode cX9_pairs 190 = .ok (.getfield 17, 3) := by decide +kernel
theorem dX9_pairs_193 : decode cX9_pairs 193 = .ok (.iload_n 1, 1) := by decide +kernel
theorem dX9_pairs_194 : decode cX9_pairs 194 = .ok (.iload_n 2, 1) := by decide +kernel
theorem dX9_pairs_195 : decode cX9_pairs 195 = .ok (.iastore, 1) := by decide +kernel
theorem dX9_pairs_196 : decode cX9_pairs 196 = .ok (.iconst 0, 1) := by decide +kernel
theorem dX9_pairs_197 : decode cX9_pairs 197 = .ok (.istore 7, 2) := by decide +kernel
theorem dX9_pairs_199 : decode cX9_pairs 199 = .ok (.iconst 0, 1) := by decide +kernel
theorem dX9_pairs_200 : decode cX9_pairs 200 = .ok (.istore 8, 2) := by decide +kernel
theorem dX9_pairs_202 : decode cX9_pairs 202 = .ok (.iload 8, 2) := by decide +kernel
theorem dX9_pairs_204 : decode cX9_pairs 204 = .ok (.aload_n 0, 1) := by decide +kernel
theorem dX9_pairs_205 : decode cX9_pairs 205 = .ok (.getfield 154, 3) := by decide +kernel
theorem dX9_pairs_208 : decode cX9_pairs 208 = .ok (.if_icmp .ge 43, 3) := by decide +kernel
theorem dX9_pairs_211 : decode cX9_pairs 211 = .ok (.aload_n 0, 1) := by decide +kernel
theorem dX9_pairs_212 : decode cX9_pairs 212 = .ok (.getfield 39, 3) := by decide +kernel
theorem dX9_pairs_215 : decode cX9_pairs 215 = .ok (.iload 8, 2) := by decide +kernel
theorem dX9_pairs_217 : decode cX9_pairs 217 = .ok (.invokestatic 160, 3) := by decide +kernel
theorem dX9_pairs_220 : decode cX9_pairs 220 = .ok (.ifCond .eq 25, 3) := by decide +kernel
theorem dX9_pairs_223 : decode cX9_pairs 223 = .ok (.aload_n 0, 1) := by decide +kernel
theorem dX9_pairs_224 : decode cX9_pairs 224 = .ok (.getfield 20, 3) := by decide +kernel
theorem dX9_pairs_227 : decode cX9_pairs 227 = .ok (.bipush 40, 2) := by decide +kernel
theorem dX9_pairs_229 : decode cX9_pairs 229 = .ok (.iload_n 1, 1) := by decide +kernel
theorem dX9_pairs_230 : decode cX9_pairs 230 = .ok (.imul, 1) := by decide +kernel
theorem dX9_pairs_231 : decode cX9_pairs 231 = .ok (.iload 7, 2) := by decide +kernel
theorem dX9_pairs_233 : decode cX9_pairs 233 = .ok (.iadd, 1) := by decide +kernel
theorem dX9_pairs_234 : decode cX9_pairs 234 = .ok (.aload_n 0, 1) := by decide +kernel
theorem dX9_pairs_235 : decode cX9_pairs 235 = .ok (.getfield 79, 3) := by decide +kernel
theorem dX9_pairs_238 : decode cX9_pairs 238 = .ok (.iload 8, 2) := by decide +kernel
theorem dX9_pairs_240 : decode cX9_pairs 240 = .ok (.iaload, 1) := by decide +kernel
theorem dX9_pairs_241 : decode cX9_pairs 241 = .ok (.iastore, 1) := by decide +kernel
theorem dX9_pairs_242 : decode cX9_pairs 242 = .ok (.iinc 7 1, 3) := by decide +kernel
theorem dX9_pairs_245 : decode cX9_pairs 245 = .ok (.iinc 8 1, 3) := by decide +kernel
theorem dX9_pairs_248 : decode cX9_pairs 248 = .ok (.goto (-46), 3) := by decide +kernel
theorem dX9_pairs_251 : decode cX9_pairs 251 = .ok (.aload_n 0, 1) := by decide +kernel
theorem dX9_pairs_252 : decode cX9_pairs 252 = .ok (.iload 6, 2) := by decide +kernel
theorem dX9_pairs_254 : decode cX9_pairs 254 = .ok (.bipush 100, 2) := by decide +kernel
theorem dX9_pairs_256 : decode cX9_pairs 256 = .ok (.irem, 1) := by decide +kernel
theorem dX9_pairs_257 : decode cX9_pairs 257 = .ok (.iload 6, 2) := by decide +kernel
theorem dX9_pairs_259 : decode cX9_pairs 259 = .ok (.bipush 100, 2) := by decide +kernel
theorem dX9_pairs_261 : decode cX9_pairs 261 = .ok (.idiv, 1) := by decide +kernel
theorem dX9_pairs_262 : decode cX9_pairs 262 = .ok (.invokevirtual 114, 3) := by decide +kernel
theorem dX9_pairs_265 : decode cX9_pairs 265 = .ok (.ireturn, 1) := by decide +kernel
theorem dX9_needPairs_0 : decode cX9_needPairs 0 = .ok (.aload_n 0, 1) := by decide +kernel
theorem dX9_needPairs_1 : decode cX9_needPairs 1 = .ok (.iload_n 1, 1) := by decide +kernel
theorem dX9_needPairs_2 : decode cX9_needPairs 2 = .ok (.invokevirtual 198, 3) := by decide +kernel
theorem dX9_needPairs_5 : decode cX9_needPairs 5 = .ok (.ifCond .eq 10, 3) := by decide +kernel
theorem dX9_needPairs_8 : decode cX9_needPairs 8 = .ok (.iload_n 2, 1) := by decide +kernel
theorem dX9_needPairs_9 : decode cX9_needPairs 9 = .ok (.invokestatic 102, 3) := by decide +kernel
theorem dX9_needPairs_12 : decode cX9_needPairs 12 = .ok (.ifCond .ne 5, 3) := by decide +kernel
theorem dX9_needPairs_15 : decode cX9_needPairs 15 = .ok (.iconst (-1), 1) := by decide +kernel
theorem dX9_needPairs_16 : decode cX9_needPairs 16 = .ok (.ireturn, 1) := by decide +kernel
theorem dX9_needPairs_17 : decode cX9_needPairs 17 = .ok (.aload_n 0, 1) := by decide +kernel
theorem dX9_needPairs_18 : decode cX9_needPairs 18 = .ok (.getfield 17, 3) := by decide +kernel
theorem dX9_needPairs_21 : decode cX9_needPairs 21 = .ok (.iload_n 2, 1) := by decide +kernel
theorem dX9_needPairs_22 : decode cX9_needPairs 22 = .ok (.iaload, 1) := by decide +kernel
theorem dX9_needPairs_23 : decode cX9_needPairs 23 = .ok (.ifCond .ge 9, 3) := by decide +kernel
theorem dX9_needPairs_26 : decode cX9_needPairs 26 = .ok (.aload_n 0, 1) := by decide +kernel
theorem dX9_needPairs_27 : decode cX9_needPairs 27 = .ok (.iconst 1, 1) := by decide +kernel
theorem dX9_needPairs_28 : decode cX9_needPairs 28 = .ok (.invokevirtual 106, 3) := by decide +kernel
theorem dX9_needPairs_31 : decode cX9_needPairs 31 = .ok (.ireturn, 1) := by decide +kernel
theorem dX9_needPairs_32 : decode cX9_needPairs 32 = .ok (.aload_n 0, 1) := by decide +kernel
theorem dX9_needPairs_33 : decode cX9_needPairs 33 = .ok (.getfield 17, 3) := by decide +kernel
theorem dX9_needPairs_36 : decode cX9_needPairs 36 = .ok (.iload_n 2, 1) := by decide +kernel
theorem dX9_needPairs_37 : decode cX9_needPairs 37 = .ok (.iaload, 1) := by decide +kernel
theorem dX9_needPairs_38 : decode cX9_needPairs 38 = .ok (.iconst 2, 1) := by decide +kernel
theorem dX9_needPairs_39 : decode cX9_needPairs 39 = .ok (.irem, 1) := by decide +kernel
theorem dX9_needPairs_40 : decode cX9_needPairs 40 = .ok (.ifCond .eq 9, 3) := by decide +kernel
theorem dX9_needPairs_43 : decode cX9_needPairs 43 = .ok (.aload_n 0, 1) := by decide +kernel
theorem dX9_needPairs_44 : decode cX9_needPairs 44 = .ok (.iconst 5, 1) := by decide +kernel
theorem dX9_needPairs_45 : decode cX9_needPairs 45 = .ok (.invokevirtual 106, 3) := by decide +kernel
theorem dX9_needPairs_48 : decode cX9_needPairs 48 = .ok (.ireturn, 1) := by decide +kernel
theorem dX9_needPairs_49 : decode cX9_needPairs 49 = .ok (.iconst 1, 1) := by decide +kernel
theorem dX9_needPairs_50 : decode cX9_needPairs 50 = .ok (.istore_n 3, 1) := by decide +kernel
theorem dX9_needPairs_51 : decode cX9_needPairs 51 = .ok (.iconst 0, 1) := by decide +kernel
theorem dX9_needPairs_52 : decode cX9_needPairs 52 = .ok (.istore 4, 2) := by decide +kernel
theorem dX9_needPairs_54 : decode cX9_needPairs 54 = .ok (.iload 4, 2) := by decide +kernel
theorem dX9_needPairs_56 : decode cX9_needPairs 56 = .ok (.aload_n 0, 1) := by decide +kernel
theorem dX9_needPairs_57 : decode cX9_needPairs 57 = .ok (.getfield 17, 3) := by decide +kernel
theorem dX9_needPairs_60 : decode cX9_needPairs 60 = .ok (.iload_n 2, 1) := by decide +kernel
theorem dX9_needPairs_61 : decode cX9_needPairs 61 = .ok (.iaload, 1) := by decide +kernel
theorem dX9_needPairs_62 : decode cX9_needPairs 62 = .ok (.if_icmp .ge 53, 3) := by decide +kernel
theorem dX9_needPairs_65 : decode cX9_needPairs 65 = .ok (.iload_n 3, 1) := by decide +kernel
theorem dX9_needPairs_66 : decode cX9_needPairs 66 = .ok (.ifCond .eq 41, 3) := by decide +kernel
theorem dX9_needPairs_69 : decode cX9_needPairs 69 = .ok (.aload_n 0, 1) := by decide +kernel
theorem dX9_needPairs_70 : decode cX9_needPairs 70 = .ok (.iload_n 2, 1) := by decide +kernel
theorem dX9_needPairs_71 : decode cX9_needPairs 71 = .ok (.iload 4, 2) := by decide +kernel
theorem dX9_needPairs_73 : decode cX9_needPairs 73 = .ok (.invokevirtual 110, 3) := by decide +kernel
theorem dX9_needPairs_76 : decode cX9_needPairs 76 = .ok (.iconst 0, 1) := by decide +kernel
theorem dX9_needPairs_77 : decode cX9_needPairs 77 = .ok (.bipush 9, 2) := by decide +kernel
theorem dX9_needPairs_79 : decode cX9_needPairs 79 = .ok (.invokestatic 92, 3) := by decide +kernel
theorem dX9_needPairs_82 : decode cX9_needPairs 82 = .ok (.ifCond .eq 25, 3) := by decide +kernel
theorem dX9_needPairs_85 : decode cX9_needPairs 85 = .ok (.aload_n 0, 1) := by decide +kernel
theorem dX9_needPairs_86 : decode cX9_needPairs 86 = .ok (.iload_n 2, 1) := by decide +kernel
theorem dX9_needPairs_87 : decode cX9_needPairs 87 = .ok (.iload 4, 2) := by decide +kernel
theorem dX9_needPairs_89 : decode cX9_needPairs 89 = .ok (.iconst 1, 1) := by decide +kernel
theorem dX9_needPairs_90 : decode cX9_needPairs 90 = .ok (.iadd, 1) := by decide +kernel
theorem dX9_needPairs_91 : decode cX9_needPairs 91 = .ok (.invokevirtual 110, 3) := by decide +kernel
theorem dX9_needPairs_94 : decode cX9_needPairs 94 = .ok (.iconst 0, 1) := by decide +kernel
theorem dX9_needPairs_95 : decode cX9_needPairs 95 = .ok (.bipush 11, 2) := by decide +kernel
theorem dX9_needPairs_97 : decode cX9_needPairs 97 = .ok (.invokestatic 92, 3) := by decide +kernel
theorem dX9_needPairs_100 : decode cX9_needPairs 100 = .ok (.ifCond .eq 7, 3) := by decide +kernel
theorem dX9_needPairs_103 : decode cX9_needPairs 103 = .ok (.iconst 1, 1) := by decide +kernel
theorem dX9_needPairs_104 : decode cX9_needPairs 104 = .ok (.goto 4, 3) := by decide +kernel
theorem dX9_needPairs_107 : decode cX9_needPairs 107 = .ok (.iconst 0, 1) := by decide +kernel
theorem dX9_needPairs_108 : decode cX9_needPairs 108 = .ok (.istore_n 3, 1) := by decide +kernel
theorem dX9_needPairs_109 : decode cX9_needPairs 109 = .ok (.iinc 4 2, 3) := by decide +kernel
theorem dX9_needPairs_112 : decode cX9_needPairs 112 = .ok (.goto (-58), 3) := by decide +kernel
theorem dX9_needPairs_115 : decode cX9_needPairs 115 = .ok (.iload_n 3, 1) := by decide +kernel
theorem dX9_needPairs_116 : decode cX9_needPairs 116 = .ok (.ifCond .eq 7, 3) := by decide +kernel
theorem dX9_needPairs_119 : decode cX9_needPairs 119 = .ok (.iconst 0, 1) := by decide +kernel
theorem dX9_needPairs_120 : decode cX9_needPairs 120 = .ok (.goto 8, 3) := by decide +kernel
theorem dX9_needPairs_123 : decode cX9_needPairs 123 = .ok (.aload_n 0, 1) := by decide +kernel
theorem dX9_needPairs_124 : decode cX9_needPairs 124 = .ok (.iconst 3, 1) := by decide +kernel
theorem dX9_needPairs_125 : decode cX9_needPairs 125 = .ok (.invokevirtual 106, 3) := by decide +kernel
theorem dX9_needPairs_128 : decode cX9_needPairs 128 = .ok (.ireturn, 1) := by decide +kernel
theorem dX9_kindSet_0 : decode cX9_kindSet 0 = .ok (.iconst 0, 1) := by decide +kernel
theorem dX9_kindSet_1 : decode cX9_kindSet 1 = .ok (.istore_n 2, 1) := by decide +kernel
theorem dX9_kindSet_2 : decode cX9_kindSet 2 = .ok (.iconst 0, 1) := by decide +kernel
theorem dX9_kindSet_3 : decode cX9_kindSet 3 = .ok (.istore_n 3, 1) := by decide +kernel
theorem dX9_kindSet_4 : decode cX9_kindSet 4 = .ok (.iload_n 3, 1) := by decide +kernel
theorem dX9_kindSet_5 : decode cX9_kindSet 5 = .ok (.iconst 5, 1) := by decide +kernel
theorem dX9_kindSet_6 : decode cX9_kindSet 6 = .ok (.if_icmp .gt 82, 3) := by decide +kernel
theorem dX9_kindSet_9 : decode cX9_kindSet 9 = .ok (.iconst 1, 1) := by decide +kernel
theorem dX9_kindSet_10 : decode cX9_kindSet 10 = .ok (.istore 4, 2) := by decide +kernel
theorem dX9_kindSet_12 : decode cX9_kindSet 12 = .ok (.iconst 0, 1) := by decide +kernel
theorem dX9_kindSet_13 : decode cX9_kindSet 13 = .ok (.istore 5, 2) := by decide +kernel
theorem dX9_kindSet_15 : decode cX9_kindSet 15 = .ok (.iload 5, 2) := by decide +kernel
theorem dX9_kindSet_17 : decode cX9_kindSet 17 = .ok (.aload_n 0, 1) := by decide +kernel
theorem dX9_kindSet_18 : decode cX9_kindSet 18 = .ok (.getfield 17, 3) := by decide +kernel
theorem dX9_kindSet_21 : decode cX9_kindSet 21 = .ok (.iload_n 1, 1) := by decide +kernel
theorem dX9_kindSet_22 : decode cX9_kindSet 22 = .ok (.iaload, 1) := by decide +kernel
theorem dX9_kindSet_23 : decode cX9_kindSet 23 = .ok (.if_icmp .ge 44, 3) := by decide +kernel
theorem dX9_kindSet_26 : decode cX9_kindSet 26 = .ok (.iload 4, 2) := by decide +kernel
theorem dX9_kindSet_28 : decode cX9_kindSet 28 = .ok (.ifCond .eq 30, 3) := by decide +kernel
theorem dX9_kindSet_31 : decode cX9_kindSet 31 = .ok (.iload_n 3, 1) := by decide +kernel
theorem dX9_kindSet_32 : decode cX9_kindSet 32 = .ok (.aload_n 0, 1) := by decide +kernel
theorem dX9_kindSet_33 : decode cX9_kindSet 33 = .ok (.iload_n 1, 1) := by decide +kernel
theorem dX9_kindSet_34 : decode cX9_kindSet 34 = .ok (.iload 5, 2) := by decide +kernel
theorem dX9_kindSet_36 : decode cX9_kindSet 36 = .ok (.invokevirtual 110, 3) := by decide +kernel
theorem dX9_kindSet_39 : decode cX9_kindSet 39 = .ok (.invokestatic 181, 3) := by decide +kernel
theorem dX9_kindSet_42 : decode cX9_kindSet 42 = .ok (.aload_n 0, 1) := by decide +kernel
theorem dX9_kindSet_43 : decode cX9_kindSet 43 = .ok (.iload_n 1, 1) := by decide +kernel
theorem dX9_kindSet_44 : decode cX9_kindSet 44 = .ok (.iload 5, 2) := by decide +kernel
theorem dX9_kindSet_46 : decode cX9_kindSet 46 = .ok (.iconst 1, 1) := by decide +kernel
theorem dX9_kindSet_47 : decode cX9_kindSet 47 = .ok (.iadd, 1) := by decide +kernel
theorem dX9_kindSet_48 : decode cX9_kindSet 48 = .ok (.invokevirtual 110, 3) := by decide +kernel
theorem dX9_kindSet_51 : decode cX9_kindSet 51 = .ok (.if_icmp .ne 7, 3) := by decide +kernel
theorem dX9_kindSet_54 : decode cX9_kindSet 54 = .ok (.iconst 1, 1) := by decide +kernel
theorem dX9_kindSet_55 : decode cX9_kindSet 55 = .ok (.goto 4, 3) := by decide +kernel
theorem dX9_kindSet_58 : decode cX9_kindSet 58 = .ok (.iconst 0, 1) := by decide +kernel
theorem dX9_kindSet_59 : decode cX9_kindSet 59 = .ok (.istore 4, 2) := by decide +kernel
theorem dX9_kindSet_61 : decode cX9_kindSet 61 = .ok (.iinc 5 2, 3) := by decide +kernel
theorem dX9_kindSet_64 : decode cX9_kindSet 64 = .ok (.goto (-49), 3) := by decide +kernel
theorem dX9_kindSet_67 : decode cX9_kindSet 67 = .ok (.iload_n 2, 1) := by decide +kernel
theorem dX9_kindSet_68 : decode cX9_kindSet 68 = .ok (.iload 4, 2) := by decide +kernel
theorem dX9_kindSet_70 : decode cX9_kindSet 70 = .ok (.ifCond .eq 9, 3) := by decide +kernel
theorem dX9_kindSet_73 : decode cX9_kindSet 73 = .ok (.iconst 1, 1) := by decide +kernel
theorem dX9_kindSet_74 : decode cX9_kindSet 74 = .ok (.iload_n 3, 1) := by decide +kernel
theorem dX9_kindSet_75 : decode cX9_kindSet 75 = .ok (.ishl, 1) := by decide +kernel
theorem dX9_kindSet_76 : decode cX9_kindSet 76 = .ok (.goto 4, 3) := by decide +kernel
theorem dX9_kindSet_79 : decode cX9_kindSet 79 = .ok (.iconst 0, 1) := by decide +kernel
theorem dX9_kindSet_80 : decode cX9_kindSet 80 = .ok (.ior, 1) := by decide +kernel
theorem dX9_kindSet_81 : decode cX9_kindSet 81 = .ok (.istore_n 2, 1) := by decide +kernel
theorem dX9_kindSet_82 : decode cX9_kindSet 82 = .ok (.iinc 3 1, 3) := by decide +kernel
theorem dX9_kindSet_85 : decode cX9_kindSet 85 = .ok (.goto (-81), 3) := by decide +kernel
theorem dX9_kindSet_88 : decode cX9_kindSet 88 = .ok (.iload_n 2, 1) := by decide +kernel
theorem dX9_kindSet_89 : decode cX9_kindSet 89 = .ok (.ireturn, 1) := by decide +kernel
theorem dX9_kinds_0 : decode cX9_kinds 0 = .ok (.aload_n 0, 1) := by decide +kernel
theorem dX9_kinds_1 : decode cX9_kinds 1 = .ok (.iload_n 1, 1) := by decide +kernel
theorem dX9_kinds_2 : decode cX9_kinds 2 = .ok (.iload_n 2, 1) := by decide +kernel
theorem dX9_kinds_3 : decode cX9_kinds 3 = .ok (.invokevirtual 252, 3) := by decide +kernel
theorem dX9_kinds_6 : decode cX9_kinds 6 = .ok (.istore_n 3, 1) := by decide +kernel
theorem dX9_kinds_7 : decode cX9_kinds 7 = .ok (.iload_n 3, 1) := by decide +kernel
theorem dX9_kinds_8 : decode cX9_kinds 8 = .ok (.ifCond .ge 7, 3) := by decide +kernel
theorem dX9_kinds_11 : decode cX9_kinds 11 = .ok (.iload_n 3, 1) := by decide +kernel
theorem dX9_kinds_12 : decode cX9_kinds 12 = .ok (.goto 8, 3) := by decide +kernel
theorem dX9_kinds_15 : decode cX9_kinds 15 = .ok (.aload_n 0, 1) := by decide +kernel
theorem dX9_kinds_16 : decode cX9_kinds 16 = .ok (.iload_n 2, 1) := by decide +kernel
theorem dX9_kinds_17 : decode cX9_kinds 17 = .ok (.invokevirtual 255, 3) := by decide +kernel
theorem dX9_kinds_20 : decode cX9_kinds 20 = .ok (.ireturn, 1) := by decide +kernel
theorem dX9_alike_0 : decode cX9_alike 0 = .ok (.iconst 0, 1) := by decide +kernel
theorem dX9_alike_1 : decode cX9_alike 1 = .ok (.istore_n 2, 1) := by decide +kernel
theorem dX9_alike_2 : decode cX9_alike 2 = .ok (.iconst 0, 1) := by decide +kernel
theorem dX9_alike_3 : decode cX9_alike 3 = .ok (.istore_n 3, 1) := by decide +kernel
theorem dX9_alike_4 : decode cX9_alike 4 = .ok (.iload_n 3, 1) := by decide +kernel
theorem dX9_alike_5 : decode cX9_alike 5 = .ok (.bipush 12, 2) := by decide +kernel
theorem dX9_alike_7 : decode cX9_alike 7 = .ok (.if_icmp .ge 69, 3) := by decide +kernel
theorem dX9_alike_10 : decode cX9_alike 10 = .ok (.iconst 0, 1) := by decide +kernel
theorem dX9_alike_11 : decode cX9_alike 11 = .ok (.istore 4, 2) := by decide +kernel
theorem dX9_alike_13 : decode cX9_alike 13 = .ok (.iconst 0, 1) := by decide +kernel
theorem dX9_alike_14 : decode cX9_alike 14 = .ok (.istore 5, 2) := by decide +kernel
theorem dX9_alike_16 : decode cX9_alike 16 = .ok (.iload 5, 2) := by decide +kernel
theorem dX9_alike_18 : decode cX9_alike 18 = .ok (.iconst 5, 1) := by decide +kernel
theorem dX9_alike_19 : decode cX9_alike 19 = .ok (.if_icmp .gt 38, 3) := by decide +kernel
theorem dX9_alike_22 : decode cX9_alike 22 = .ok (.iload 4, 2) := by decide +kernel
theorem dX9_alike_24 : decode cX9_alike 24 = .ok (.iload_n 0, 1) := by decide +kernel
theorem dX9_alike_25 : decode cX9_alike 25 = .ok (.iload 5, 2) := by decide +kernel
theorem dX9_alike_27 : decode cX9_alike 27 = .ok (.invokestatic 167, 3) := by decide +kernel
theorem dX9_alike_30 : decode cX9_alike 30 = .ok (.ifCond .eq 17, 3) := by decide +kernel
theorem dX9_alike_33 : decode cX9_alike 33 = .ok (.iload 5, 2) := by decide +kernel
theorem dX9_alike_35 : decode cX9_alike 35 = .ok (.iload_n 1, 1) := by decide +kernel
theorem dX9_alike_36 : decode cX9_alike 36 = .ok (.invokestatic 181, 3) := by decide +kernel
theorem dX9_alike_39 : decode cX9_alike 39 = .ok (.iload_n 3, 1) := by decide +kernel
theorem dX9_alike_40 : decode cX9_alike 40 = .ok (.if_icmp .ne 7, 3) := by decide +kernel
theorem dX9_alike_43 : decode cX9_alike 43 = .ok (.iconst 1, 1) := by decide +kernel
theorem dX9_alike_44 : decode cX9_alike 44 = .ok (.goto 4, 3) := by decide +kernel
theorem dX9_alike_47 : decode cX9_alike 47 = .ok (.iconst 0, 1) := by decide +kernel
theorem dX9_alike_48 : decode cX9_alike 48 = .ok (.iadd, 1) := by decide +kernel
theorem dX9_alike_49 : decode cX9_alike 49 = .ok (.istore 4, 2) := by decide +kernel
theorem dX9_alike_51 : decode cX9_alike 51 = .ok (.iinc 5 1, 3) := by decide +kernel
theorem dX9_alike_54 : decode cX9_alike 54 = .ok (.goto (-38), 3) := by decide +kernel
theorem dX9_alike_57 : decode cX9_alike 57 = .ok (.iload 4, 2) := by decide +kernel
theorem dX9_alike_59 : decode cX9_alike 59 = .ok (.iload_n 2, 1) := by decide +kernel
theorem dX9_alike_60 : decode cX9_alike 60 = .ok (.if_icmp .le 8, 3) := by decide +kernel
theorem dX9_alike_63 : decode cX9_alike 63 = .ok (.iload 4, 2) := by decide +kernel
theorem dX9_alike_65 : decode cX9_alike 65 = .ok (.goto 4, 3) := by decide +kernel
theorem dX9_alike_68 : decode cX9_alike 68 = .ok (.iload_n 2, 1) := by decide +kernel
theorem dX9_alike_69 : decode cX9_alike 69 = .ok (.istore_n 2, 1) := by decide +kernel
theorem dX9_alike_70 : decode cX9_alike 70 = .ok (.iinc 3 1, 3) := by decide +kernel
theorem dX9_alike_73 : decode cX9_alike 73 = .ok (.goto (-69), 3) := by decide +kernel
theorem dX9_alike_76 : decode cX9_alike 76 = .ok (.iload_n 2, 1) := by decide +kernel
theorem dX9_alike_77 : decode cX9_alike 77 = .ok (.ireturn, 1) := by decide +kernel
theorem dX9_test_0 : decode cX9_test 0 = .ok (.aload_n 0, 1) := by decide +kernel
theorem dX9_test_1 : decode cX9_test 1 = .ok (.iload_n 1, 1) := by decide +kernel
theorem dX9_test_2 : decode cX9_test 2 = .ok (.iload_n 2, 1) := by decide +kernel
theorem dX9_test_3 : decode cX9_test 3 = .ok (.invokevirtual 252, 3) := by decide +kernel
theorem dX9_test_6 : decode cX9_test 6 = .ok (.istore_n 3, 1) := by decide +kernel
theorem dX9_test_7 : decode cX9_test 7 = .ok (.iload_n 3, 1) := by decide +kernel
theorem dX9_test_8 : decode cX9_test 8 = .ok (.ifCond .ge 5, 3) := by decide +kernel
theorem dX9_test_11 : decode cX9_test 11 = .ok (.iload_n 3, 1) := by decide +kernel
theorem dX9_test_12 : decode cX9_test 12 = .ok (.ireturn, 1) := by decide +kernel
theorem dX9_test_13 : decode cX9_test 13 = .ok (.aload_n 0, 1) := by decide +kernel
theorem dX9_test_14 : decode cX9_test 14 = .ok (.iload_n 2, 1) := by decide +kernel
theorem dX9_test_15 : decode cX9_test 15 = .ok (.invokevirtual 255, 3) := by decide +kernel
theorem dX9_test_18 : decode cX9_test 18 = .ok (.istore 4, 2) := by decide +kernel
theorem dX9_test_20 : decode cX9_test 20 = .ok (.iload 4, 2) := by decide +kernel
theorem dX9_test_22 : decode cX9_test 22 = .ok (.ifCond .ne 6, 3) := by decide +kernel
theorem dX9_test_25 : decode cX9_test 25 = .ok (.bipush (-9), 2) := by decide +kernel
theorem dX9_test_27 : decode cX9_test 27 = .ok (.ireturn, 1) := by decide +kernel
theorem dX9_test_28 : decode cX9_test 28 = .ok (.iconst 0, 1) := by decide +kernel
theorem dX9_test_29 : decode cX9_test 29 = .ok (.istore 5, 2) := by decide +kernel
theorem dX9_test_31 : decode cX9_test 31 = .ok (.ldc 234, 2) := by decide +kernel
theorem dX9_test_33 : decode cX9_test 33 = .ok (.istore 6, 2) := by decide +kernel
theorem dX9_test_35 : decode cX9_test 35 = .ok (.iconst 0, 1) := by decide +kernel
theorem dX9_test_36 : decode cX9_test 36 = .ok (.istore 7, 2) := by decide +kernel
theorem dX9_test_38 : decode cX9_test 38 = .ok (.iload 7, 2) := by decide +kernel
theorem dX9_test_40 : decode cX9_test 40 = .ok (.bipush 10, 2) := by decide +kernel
theorem dX9_test_42 : decode cX9_test 42 = .ok (.if_icmp .ge 50, 3) := by decide +kernel
theorem dX9_test_45 : decode cX9_test 45 = .ok (.iload 4, 2) := by decide +kernel
theorem dX9_test_47 : decode cX9_test 47 = .ok (.iload 7, 2) := by decide +kernel
theorem dX9_test_49 : decode cX9_test 49 = .ok (.invokestatic 258, 3) := by decide +kernel
theorem dX9_test_52 : decode cX9_test 52 = .ok (.istore 8, 2) := by decide +kernel
theorem dX9_test_54 : decode cX9_test 54 = .ok (.iload 8, 2) := by decide +kernel
theorem dX9_test_56 : decode cX9_test 56 = .ok (.iload 6, 2) := by decide +kernel
theorem dX9_test_58 : decode cX9_test 58 = .ok (.if_icmp .ge 8, 3) := by decide +kernel
theorem dX9_test_61 : decode cX9_test 61 = .ok (.iload 7, 2) := by decide +kernel
theorem dX9_test_63 : decode cX9_test 63 = .ok (.goto 5, 3) := by decide +kernel
theorem dX9_test_66 : decode cX9_test 66 = .ok (.iload 5, 2) := by decide +kernel
theorem dX9_test_68 : decode cX9_test 68 = .ok (.istore 5, 2) := by decide +kernel
theorem dX9_test_70 : decode cX9_test 70 = .ok (.iload 8, 2) := by decide +kernel
theorem dX9_test_72 : decode cX9_test 72 = .ok (.iload 6, 2) := by decide +kernel
theorem dX9_test_74 : decode cX9_test 74 = .ok (.if_icmp .ge 8, 3) := by decide +kernel
theorem dX9_test_77 : decode cX9_test 77 = .ok (.iload 8, 2) := by decide +kernel
theorem dX9_test_79 : decode cX9_test 79 = .ok (.goto 5, 3) := by decide +kernel
theorem dX9_test_82 : decode cX9_test 82 = .ok (.iload 6, 2) := by decide +kernel
theorem dX9_test_84 : decode cX9_test 84 = .ok (.istore 6, 2) := by decide +kernel
theorem dX9_test_86 : decode cX9_test 86 = .ok (.iinc 7 1, 3) := by decide +kernel
theorem dX9_test_89 : decode cX9_test 89 = .ok (.goto (-51), 3) := by decide +kernel
theorem dX9_test_92 : decode cX9_test 92 = .ok (.aload_n 0, 1) := by decide +kernel
theorem dX9_test_93 : decode cX9_test 93 = .ok (.iload 6, 2) := by decide +kernel
theorem dX9_test_95 : decode cX9_test 95 = .ok (.iload 5, 2) := by decide +kernel
theorem dX9_test_97 : decode cX9_test 97 = .ok (.invokevirtual 114, 3) := by decide +kernel
theorem dX9_test_100 : decode cX9_test 100 = .ok (.ireturn, 1) := by decide +kernel
theorem dX9_flown_0 : decode cX9_flown 0 = .ok (.aload_n 0, 1) := by decide +kernel
theorem dX9_flown_1 : decode cX9_flown 1 = .ok (.iload_n 1, 1) := by decide +kernel
theorem dX9_flown_2 : decode cX9_flown 2 = .ok (.invokevirtual 198, 3) := by decide +kernel
theorem dX9_flown_5 : decode cX9_flown 5 = .ok (.ifCond .eq 22, 3) := by decide +kernel
theorem dX9_flown_8 : decode cX9_flown 8 = .ok (.iload_n 2, 1) := by decide +kernel
theorem dX9_flown_9 : decode cX9_flown 9 = .ok (.iconst 0, 1) := by decide +kernel
theorem dX9_flown_10 : decode cX9_flown 10 = .ok (.iconst 4, 1) := by decide +kernel
theorem dX9_flown_11 : decode cX9_flown 11 = .ok (.invokestatic 92, 3) := by decide +kernel
theorem dX9_flown_14 : decode cX9_flown 14 = .ok (.ifCond .eq 13, 3) := by decide +kernel
theorem dX9_flown_17 : decode cX9_flown 17 = .ok (.iload_n 3, 1) := by decide +kernel
theorem dX9_flown_18 : decode cX9_flown 18 = .ok (.iconst 0, 1) := by decide +kernel
theorem dX9_flown_19 : decode cX9_flown 19 = .ok (.bipush 40, 2) := by decide +kernel
theorem dX9_flown_21 : decode cX9_flown 21 = .ok (.invokestatic 92, 3) := by decide +kernel
theorem dX9_flown_24 : decode cX9_flown 24 = .ok (.ifCond .ne 5, 3) := by decide +kernel
theorem dX9_flown_27 : decode cX9_flown 27 = .ok (.iconst (-1), 1) := by decide +kernel
theorem dX9_flown_28 : decode cX9_flown 28 = .ok (.ireturn, 1) := by decide +kernel
theorem dX9_flown_29 : decode cX9_flown 29 = .ok (.iconst 1, 1) := by decide +kernel
theorem dX9_flown_30 : decode cX9_flown 30 = .ok (.istore 4, 2) := by decide +kernel
theorem dX9_flown_32 : decode cX9_flown 32 = .ok (.iconst 0, 1) := by decide +kernel
theorem dX9_flown_33 : decode cX9_flown 33 = .ok (.istore 5, 2) := by decide +kernel
theorem dX9_flown_35 : decode cX9_flown 35 = .ok (.iload 5, 2) := by decide +kernel
theorem dX9_flown_37 : decode cX9_flown 37 = .ok (.iload_n 2, 1) := by decide +kernel
theorem dX9_flown_38 : decode cX9_flown 38 = .ok (.if_icmp .ge 16, 3) := by decide +kernel
theorem dX9_flown_41 : decode cX9_flown 41 = .ok (.iload 4, 2) := by decide +kernel
theorem dX9_flown_43 : decode cX9_flown 43 = .ok (.bipush 10, 2) := by decide +kernel
theorem dX9_flown_45 : decode cX9_flown 45 = .ok (.imul, 1) := by decide +kernel
theorem dX9_flown_46 : decode cX9_flown 46 = .ok (.istore 4, 2) := by decide +kernel
theorem dX9_flown_48 : decode cX9_flown 48 = .ok (.iinc 5 1, 3) := by decide +kernel
theorem dX9_flown_51 : decode cX9_flown 51 = .ok (.goto (-16), 3) := by decide +kernel
theorem dX9_flown_54 : decode cX9_flown 54 = .ok (.iconst 0, 1) := by decide +kernel
theorem dX9_flown_55 : decode cX9_flown 55 = .ok (.istore 5, 2) := by decide +kernel
theorem dX9_flown_57 : decode cX9_flown 57 = .ok (.bipush (-9), 2) := by decide +kernel
theorem dX9_flown_59 : decode cX9_flown 59 = .ok (.istore 6, 2) := by decide +kernel
theorem dX9_flown_61 : decode cX9_flown 61 = .ok (.iconst 0, 1) := by decide +kernel
theorem dX9_flown_62 : decode cX9_flown 62 = .ok (.istore 7, 2) := by decide +kernel
theorem dX9_flown_64 : decode cX9_flown 64 = .ok (.iload 7, 2) := by decide +kernel
theorem dX9_flown_66 : decode cX9_flown 66 = .ok (.iload 4, 2) := by decide +kernel
theorem dX9_flown_68 : decode cX9_flown 68 = .ok (.if_icmp .ge 93, 3) := by decide +kernel
theorem dX9_flown_71 : decode cX9_flown 71 = .ok (.iconst 0, 1) := by decide +kernel
theorem dX9_flown_72 : decode cX9_flown 72 = .ok (.istore 8, 2) := by decide +kernel
theorem dX9_flown_74 : decode cX9_flown 74 = .ok (.iload 7, 2) := by decide +kernel
theorem dX9_flown_76 : decode cX9_flown 76 = .ok (.istore 9, 2) := by decide +kernel
theorem dX9_flown_78 : decode cX9_flown 78 = .ok (.iconst 0, 1) := by decide +kernel
theorem dX9_flown_79 : decode cX9_flown 79 = .ok (.istore 10, 2) := by decide +kernel
theorem dX9_flown_81 : decode cX9_flown 81 = .ok (.iload 10, 2) := by decide +kernel
theorem dX9_flown_83 : decode cX9_flown 83 = .ok (.iload_n 2, 1) := by decide +kernel
theorem dX9_flown_84 : decode cX9_flown 84 = .ok (.if_icmp .ge 35, 3) := by decide +kernel
theorem dX9_flown_87 : decode cX9_flown 87 = .ok (.iload 8, 2) := by decide +kernel
theorem dX9_flown_89 : decode cX9_flown 89 = .ok (.aload_n 0, 1) := by decide +kernel
theorem dX9_flown_90 : decode cX9_flown 90 = .ok (.getfield 33, 3) := by decide +kernel
theorem dX9_flown_93 : decode cX9_flown 93 = .ok (.iload_n 1, 1) := by decide +kernel
theorem dX9_flown_94 : decode cX9_flown 94 = .ok (.iaload, 1) := by decide +kernel
theorem dX9_flown_95 : decode cX9_flown 95 = .ok (.iload 9, 2) := by decide +kernel
theorem dX9_flown_97 : decode cX9_flown 97 = .ok (.bipush 10, 2) := by decide +kernel
theorem dX9_flown_99 : decode cX9_flown 99 = .ok (.irem, 1) := by decide +kernel
theorem dX9_flown_100 : decode cX9_flown 100 = .ok (.invokestatic 181, 3) := by decide +kernel
theorem dX9_flown_103 : decode cX9_flown 103 = .ok (.iadd, 1) := by decide +kernel
theorem dX9_flown_104 : decode cX9_flown 104 = .ok (.istore 8, 2) := by decide +kernel
theorem dX9_flown_106 : decode cX9_flown 106 = .ok (.iload 9, 2) := by decide +kernel
theorem dX9_flown_108 : decode cX9_flown 108 = .ok (.bipush 10, 2) := by decide +kernel
theorem dX9_flown_110 : decode cX9_flown 110 = .ok (.idiv, 1) := by decide +kernel
theorem dX9_flown_111 : decode cX9_flown 111 = .ok (.istore 9, 2) := by decide +kernel
theorem dX9_flown_113 : decode cX9_flown 113 = .ok (.iinc 10 1, 3) := by decide +kernel
theorem dX9_flown_116 : decode cX9_flown 116 = .ok (.goto (-35), 3) := by decide +kernel
theorem dX9_flown_119 : decode cX9_flown 119 = .ok (.iload 8, 2) := by decide +kernel
theorem dX9_flown_121 : decode cX9_flown 121 = .ok (.iload_n 3, 1) := by decide +kernel
theorem dX9_flown_122 : decode cX9_flown 122 = .ok (.if_icmp .ne 13, 3) := by decide +kernel
theorem dX9_flown_125 : decode cX9_flown 125 = .ok (.iload 5, 2) := by decide +kernel
theorem dX9_flown_127 : decode cX9_flown 127 = .ok (.ifCond .ne 8, 3) := by decide +kernel
theorem dX9_flown_130 : decode cX9_flown 130 = .ok (.iload 7, 2) := by decide +kernel
theorem dX9_flown_132 : decode cX9_flown 132 = .ok (.goto 5, 3) := by decide +kernel
theorem dX9_flown_135 : decode cX9_flown 135 = .ok (.iload 6, 2) := by decide +kernel
theorem dX9_flown_137 : decode cX9_flown 137 = .ok (.istore 6, 2) := by decide +kernel
theorem dX9_flown_139 : decode cX9_flown 139 = .ok (.iload 5, 2) := by decide +kernel
theorem dX9_flown_141 : decode cX9_flown 141 = .ok (.iload 8, 2) := by decide +kernel
theorem dX9_flown_143 : decode cX9_flown 143 = .ok (.iload_n 3, 1) := by decide +kernel
theorem dX9_flown_144 : decode cX9_flown 144 = .ok (.if_icmp .ne 7, 3) := by decide +kernel
theorem dX9_flown_147 : decode cX9_flown 147 = .ok (.iconst 1, 1) := by decide +kernel
theorem dX9_flown_148 : decode cX9_flown 148 = .ok (.goto 4, 3) := by decide +kernel
theorem dX9_flown_151 : decode cX9_flown 151 = .ok (.iconst 0, 1) := by decide +kernel
theorem dX9_flown_152 : decode cX9_flown 152 = .ok (.iadd, 1) := by decide +kernel
theorem dX9_flown_153 : decode cX9_flown 153 = .ok (.istore 5, 2) := by decide +kernel
theorem dX9_flown_155 : decode cX9_flown 155 = .ok (.iinc 7 1, 3) := by decide +kernel
theorem dX9_flown_158 : decode cX9_flown 158 = .ok (.goto (-94), 3) := by decide +kernel
theorem dX9_flown_161 : decode cX9_flown 161 = .ok (.iload 5, 2) := by decide +kernel
theorem dX9_flown_163 : decode cX9_flown 163 = .ok (.ifCond .ne 8, 3) := by decide +kernel
theorem dX9_flown_166 : decode cX9_flown 166 = .ok (.bipush (-9), 2) := by decide +kernel
theorem dX9_flown_168 : decode cX9_flown 168 = .ok (.goto 11, 3) := by decide +kernel
theorem dX9_flown_171 : decode cX9_flown 171 = .ok (.aload_n 0, 1) := by decide +kernel
theorem dX9_flown_172 : decode cX9_flown 172 = .ok (.iload 6, 2) := by decide +kernel
theorem dX9_flown_174 : decode cX9_flown 174 = .ok (.iload 5, 2) := by decide +kernel
theorem dX9_flown_176 : decode cX9_flown 176 = .ok (.invokevirtual 114, 3) := by decide +kernel
theorem dX9_flown_179 : decode cX9_flown 179 = .ok (.ireturn, 1) := by decide +kernel
theorem dX9_lured_0 : decode cX9_lured 0 = .ok (.bipush (-9), 2) := by decide +kernel
theorem dX9_lured_2 : decode cX9_lured 2 = .ok (.istore_n 3, 1) := by decide +kernel
theorem dX9_lured_3 : decode cX9_lured 3 = .ok (.iconst 0, 1) := by decide +kernel
theorem dX9_lured_4 : decode cX9_lured 4 = .ok (.istore 4, 2) := by decide +kernel
theorem dX9_lured_6 : decode cX9_lured 6 = .ok (.iconst 0, 1) := by decide +kernel
theorem dX9_lured_7 : decode cX9_lured 7 = .ok (.istore 5, 2) := by decide +kernel
theorem dX9_lured_9 : decode cX9_lured 9 = .ok (.iload 5, 2) := by decide +kernel
theorem dX9_lured_11 : decode cX9_lured 11 = .ok (.aload_n 0, 1) := by decide +kernel
theorem dX9_lured_12 : decode cX9_lured 12 = .ok (.getfield 154, 3) := by decide +kernel
theorem dX9_lured_15 : decode cX9_lured 15 = .ok (.if_icmp .ge 122, 3) := by decide +kernel
theorem dX9_lured_18 : decode cX9_lured 18 = .ok (.iload_n 1, 1) := by decide +kernel
theorem dX9_lured_19 : decode cX9_lured 19 = .ok (.iload 5, 2) := by decide +kernel
theorem dX9_lured_21 : decode cX9_lured 21 = .ok (.invokestatic 167, 3) := by decide +kernel
theorem dX9_lured_24 : decode cX9_lured 24 = .ok (.ifCond .eq 107, 3) := by decide +kernel
theorem dX9_lured_27 : decode cX9_lured 27 = .ok (.aload_n 0, 1) := by decide +kernel
theorem dX9_lured_28 : decode cX9_lured 28 = .ok (.getfield 82, 3) := by decide +kernel
theorem dX9_lured_31 : decode cX9_lured 31 = .ok (.iload_n 1, 1) := by decide +kernel
theorem dX9_lured_32 : decode cX9_lured 32 = .ok (.iconst 1, 1) := by decide +kernel
theorem dX9_lured_33 : decode cX9_lured 33 = .ok (.iload 5, 2) := by decide +kernel
theorem dX9_lured_35 : decode cX9_lured 35 = .ok (.ishl, 1) := by decide +kernel
theorem dX9_lured_36 : decode cX9_lured 36 = .ok (.iconst (-1), 1) := by decide +kernel
theorem dX9_lured_37 : decode cX9_lured 37 = .ok (.ixor, 1) := by decide +kernel
theorem dX9_lured_38 : decode cX9_lured 38 = .ok (.iand, 1) := by decide +kernel
theorem dX9_lured_39 : decode cX9_lured 39 = .ok (.iaload, 1) := by decide +kernel
theorem dX9_lured_40 : decode cX9_lured 40 = .ok (.iload_n 2, 1) := by decide +kernel
theorem dX9_lured_41 : decode cX9_lured 41 = .ok (.ifCond .eq 16, 3) := by decide +kernel
theorem dX9_lured_44 : decode cX9_lured 44 = .ok (.aload_n 0, 1) := by decide +kernel
theorem dX9_lured_45 : decode cX9_lured 45 = .ok (.getfield 39, 3) := by decide +kernel
theorem dX9_lured_48 : decode cX9_lured 48 = .ok (.bipush 8, 2) := by decide +kernel
theorem dX9_lured_50 : decode cX9_lured 50 = .ok (.iload 5, 2) := by decide +kernel
theorem dX9_lured_52 : decode cX9_lured 52 = .ok (.iadd, 1) := by decide +kernel
theorem dX9_lured_53 : decode cX9_lured 53 = .ok (.iaload, 1) := by decide +kernel
theorem dX9_lured_54 : decode cX9_lured 54 = .ok (.goto 14, 3) := by decide +kernel
theorem dX9_lured_57 : decode cX9_lured 57 = .ok (.aload_n 0, 1) := by decide +kernel
theorem dX9_lured_58 : decode cX9_lured 58 = .ok (.getfield 39, 3) := by decide +kernel
theorem dX9_lured_61 : decode cX9_lured 61 = .ok (.bipush 8, 2) := by decide +kernel
theorem dX9_lured_63 : decode cX9_lured 63 = .ok (.iload 5, 2) := by decide +kernel
theorem dX9_lured_65 : decode cX9_lured 65 = .ok (.iadd, 1) := by decide +kernel
theorem dX9_lured_66 : decode cX9_lured 66 = .ok (.iaload, 1) := by decide +kernel
theorem dX9_lured_67 : decode cX9_lured 67 = .ok (.ineg, 1) := by decide +kernel
theorem dX9_lured_68 : decode cX9_lured 68 = .ok (.iadd, 1) := by decide +kernel
theorem dX9_lured_69 : decode cX9_lured 69 = .ok (.istore 6, 2) := by decide +kernel
theorem dX9_lured_71 : decode cX9_lured 71 = .ok (.iload_n 3, 1) := by decide +kernel
theorem dX9_lured_72 : decode cX9_lured 72 = .ok (.bipush (-9), 2) := by decide +kernel
theorem dX9_lured_74 : decode cX9_lured 74 = .ok (.if_icmp .eq 24, 3) := by decide +kernel
theorem dX9_lured_77 : decode cX9_lured 77 = .ok (.iload_n 2, 1) := by decide +kernel
theorem dX9_lured_78 : decode cX9_lured 78 = .ok (.ifCond .eq 13, 3) := by decide +kernel
theorem dX9_lured_81 : decode cX9_lured 81 = .ok (.iload 6, 2) := by decide +kernel
theorem dX9_lured_83 : decode cX9_lured 83 = .ok (.iload 4, 2) := by decide +kernel
theorem dX9_lured_85 : decode cX9_lured 85 = .ok (.if_icmp .le 17, 3) := by decide +kernel
theorem dX9_lured_88 : decode cX9_lured 88 = .ok (.goto 10, 3) := by decide +kernel
theorem dX9_lured_91 : decode cX9_lured 91 = .ok (.iload 6, 2) := by decide +kernel
theorem dX9_lured_93 : decode cX9_lured 93 = .ok (.iload 4, 2) := by decide +kernel
theorem dX9_lured_95 : decode cX9_lured 95 = .ok (.if_icmp .ge 7, 3) := by decide +kernel
theorem dX9_lured_98 : decode cX9_lured 98 = .ok (.iconst 1, 1) := by decide +kernel
theorem dX9_lured_99 : decode cX9_lured 99 = .ok (.goto 4, 3) := by decide +kernel
theorem dX9_lured_102 : decode cX9_lured 102 = .ok (.iconst 0, 1) := by decide +kernel
theorem dX9_lured_103 : decode cX9_lured 103 = .ok (.istore 7, 2) := by decide +kernel
theorem dX9_lured_105 : decode cX9_lured 105 = .ok (.iload 7, 2) := by decide +kernel
theorem dX9_lured_107 : decode cX9_lured 107 = .ok (.ifCond .eq 8, 3) := by decide +kernel
theorem dX9_lured_110 : decode cX9_lured 110 = .ok (.iload 6, 2) := by decide +kernel
theorem dX9_lured_112 : decode cX9_lured 112 = .ok (.goto 5, 3) := by decide +kernel
theorem dX9_lured_115 : decode cX9_lured 115 = .ok (.iload 4, 2) := by decide +kernel
theorem dX9_lured_117 : decode cX9_lured 117 = .ok (.istore 4, 2) := by decide +kernel
theorem dX9_lured_119 : decode cX9_lured 119 = .ok (.iload 7, 2) := by decide +kernel
theorem dX9_lured_121 : decode cX9_lured 121 = .ok (.ifCond .eq 8, 3) := by decide +kernel
theorem dX9_lured_124 : decode cX9_lured 124 = .ok (.iload 5, 2) := by decide +kernel
theorem dX9_lured_126 : decode cX9_lured 126 = .ok (.goto 4, 3) := by decide +kernel
theorem dX9_lured_129 : decode cX9_lured 129 = .ok (.iload_n 3, 1) := by decide +kernel
theorem dX9_lured_130 : decode cX9_lured 130 = .ok (.istore_n 3, 1) := by decide +kernel
theorem dX9_lured_131 : decode cX9_lured 131 = .ok (.iinc 5 1, 3) := by decide +kernel
theorem dX9_lured_134 : decode cX9_lured 134 = .ok (.goto (-125), 3) := by decide +kernel
theorem dX9_lured_137 : decode cX9_lured 137 = .ok (.iload_n 3, 1) := by decide +kernel
theorem dX9_lured_138 : decode cX9_lured 138 = .ok (.bipush (-9), 2) := by decide +kernel
theorem dX9_lured_140 : decode cX9_lured 140 = .ok (.if_icmp .ne 12, 3) := by decide +kernel
theorem dX9_lured_143 : decode cX9_lured 143 = .ok (.aload_n 0, 1) := by decide +kernel
theorem dX9_lured_144 : decode cX9_lured 144 = .ok (.getfield 82, 3) := by decide +kernel
theorem dX9_lured_147 : decode cX9_lured 147 = .ok (.iload_n 1, 1) := by decide +kernel
theorem dX9_lured_148 : decode cX9_lured 148 = .ok (.iaload, 1) := by decide +kernel
theorem dX9_lured_149 : decode cX9_lured 149 = .ok (.goto 5, 3) := by decide +kernel
theorem dX9_lured_152 : decode cX9_lured 152 = .ok (.iload 4, 2) := by decide +kernel
theorem dX9_lured_154 : decode cX9_lured 154 = .ok (.ireturn, 1) := by decide +kernel
theorem dX9_duel_0 : decode cX9_duel 0 = .ok (.iload_n 1, 1) := by decide +kernel
theorem dX9_duel_1 : decode cX9_duel 1 = .ok (.iconst 0, 1) := by decide +kernel
theorem dX9_duel_2 : decode cX9_duel 2 = .ok (.bipush 6, 2) := by decide +kernel
theorem dX9_duel_4 : decode cX9_duel 4 = .ok (.invokestatic 92, 3) := by decide +kernel
theorem dX9_duel_7 : decode cX9_duel 7 = .ok (.ifCond .ne 5, 3) := by decide +kernel
theorem dX9_duel_10 : decode cX9_duel 10 = .ok (.iconst (-1), 1) := by decide +kernel
theorem dX9_duel_11 : decode cX9_duel 11 = .ok (.ireturn, 1) := by decide +kernel
theorem dX9_duel_12 : decode cX9_duel 12 = .ok (.aload_n 0, 1) := by decide +kernel
theorem dX9_duel_13 : decode cX9_duel 13 = .ok (.aload_n 0, 1) := by decide +kernel
theorem dX9_duel_14 : decode cX9_duel 14 = .ok (.getfield 39, 3) := by decide +kernel
theorem dX9_duel_17 : decode cX9_duel 17 = .ok (.invokevirtual 217, 3) := by decide +kernel
theorem dX9_duel_20 : decode cX9_duel 20 = .ok (.ifCond .ne 6, 3) := by decide +kernel
theorem dX9_duel_23 : decode cX9_duel 23 = .ok (.bipush (-4), 2) := by decide +kernel
theorem dX9_duel_25 : decode cX9_duel 25 = .ok (.ireturn, 1) := by decide +kernel
theorem dX9_duel_26 : decode cX9_duel 26 = .ok (.iconst 0, 1) := by decide +kernel
theorem dX9_duel_27 : decode cX9_duel 27 = .ok (.istore_n 2, 1) := by decide +kernel
theorem dX9_duel_28 : decode cX9_duel 28 = .ok (.iload_n 2, 1) := by decide +kernel
theorem dX9_duel_29 : decode cX9_duel 29 = .ok (.iconst 1, 1) := by decide +kernel
theorem dX9_duel_30 : decode cX9_duel 30 = .ok (.aload_n 0, 1) := by decide +kernel
theorem dX9_duel_31 : decode cX9_duel 31 = .ok (.getfield 154, 3) := by decide +kernel
theorem dX9_duel_34 : decode cX9_duel 34 = .ok (.ishl, 1) := by decide +kernel
theorem dX9_duel_35 : decode cX9_duel 35 = .ok (.if_icmp .ge 16, 3) := by decide +kernel
theorem dX9_duel_38 : decode cX9_duel 38 = .ok (.aload_n 0, 1) := by decide +kernel
theorem dX9_duel_39 : decode cX9_duel 39 = .ok (.getfield 82, 3) := by decide +kernel
theorem dX9_duel_42 : decode cX9_duel 42 = .ok (.iload_n 2, 1) := by decide +kernel
theorem dX9_duel_43 : decode cX9_duel 43 = .ok (.iconst 0, 1) := by decide +kernel
theorem dX9_duel_44 : decode cX9_duel 44 = .ok (.iastore, 1) := by decide +kernel
theorem dX9_duel_45 : decode cX9_duel 45 = .ok (.iinc 2 1, 3) := by decide +kernel
theorem dX9_duel_48 : decode cX9_duel 48 = .ok (.goto (-20), 3) := by decide +kernel
theorem dX9_duel_51 : decode cX9_duel 51 = .ok (.iload_n 1, 1) := by decide +kernel
theorem dX9_duel_52 : decode cX9_duel 52 = .ok (.iconst 1, 1) := by decide +kernel
theorem dX9_duel_53 : decode cX9_duel 53 = .ok (.isub, 1) := by decide +kernel
theorem dX9_duel_54 : decode cX9_duel 54 = .ok (.istore_n 2, 1) := by decide +kernel
theorem dX9_duel_55 : decode cX9_duel 55 = .ok (.iload_n 2, 1) := by decide +kernel
theorem dX9_duel_56 : decode cX9_duel 56 = .ok (.ifCond .lt 79, 3) := by decide +kernel
theorem dX9_duel_59 : decode cX9_duel 59 = .ok (.iconst 0, 1) := by decide +kernel
theorem dX9_duel_60 : decode cX9_duel 60 = .ok (.istore_n 3, 1) := by decide +kernel
theorem dX9_duel_61 : decode cX9_duel 61 = .ok (.iload_n 3, 1) := by decide +kernel
theorem dX9_duel_62 : decode cX9_duel 62 = .ok (.iconst 1, 1) := by decide +kernel
theorem dX9_duel_63 : decode cX9_duel 63 = .ok (.aload_n 0, 1) := by decide +kernel
theorem dX9_duel_64 : decode cX9_duel 64 = .ok (.getfield 154, 3) := by decide +kernel
theorem dX9_duel_67 : decode cX9_duel 67 = .ok (.ishl, 1) := by decide +kernel
theorem dX9_duel_68 : decode cX9_duel 68 = .ok (.if_icmp .ge 31, 3) := by decide +kernel
theorem dX9_duel_71 : decode cX9_duel 71 = .ok (.aload_n 0, 1) := by decide +kernel
theorem dX9_duel_72 : decode cX9_duel 72 = .ok (.getfield 85, 3) := by decide +kernel
theorem dX9_duel_75 : decode cX9_duel 75 = .ok (.iload_n 3, 1) := by decide +kernel
theorem dX9_duel_76 : decode cX9_duel 76 = .ok (.aload_n 0, 1) := by decide +kernel
theorem dX9_duel_77 : decode cX9_duel 77 = .ok (.iload_n 3, 1) := by decide +kernel
theorem dX9_duel_78 : decode cX9_duel 78 = .ok (.iload_n 2, 1) := by decide +kernel
theorem dX9_duel_79 : decode cX9_duel 79 = .ok (.iconst 2, 1) := by decide +kernel
theorem dX9_duel_80 : decode cX9_duel 80 = .ok (.irem, 1) := by decide +kernel
theorem dX9_duel_81 : decode cX9_duel 81 = .ok (.ifCond .ne 7, 3) := by decide +kernel
theorem dX9_duel_84 : decode cX9_duel 84 = .ok (.iconst 1, 1) := by decide +kernel
theorem dX9_duel_85 : decode cX9_duel 85 = .ok (.goto 4, 3) := by decide +kernel
theorem dX9_duel_88 : decode cX9_duel 88 = .ok (.iconst 0, 1) := by decide +kernel
theorem dX9_duel_89 : decode cX9_duel 89 = .ok (.invokevirtual 261, 3) := by decide +kernel
theorem dX9_duel_92 : decode cX9_duel 92 = .ok (.iastore, 1) := by decide +kernel
theorem dX9_duel_93 : decode cX9_duel 93 = .ok (.iinc 3 1, 3) := by decide +kernel
theorem dX9_duel_96 : decode cX9_duel 96 = .ok (.goto (-35), 3) := by decide +kernel
theorem dX9_duel_99 : decode cX9_duel 99 = .ok (.iconst 0, 1) := by decide +kernel
theorem dX9_duel_100 : decode cX9_duel 100 = .ok (.istore_n 3, 1) := by decide +kernel
theorem dX9_duel_101 : decode cX9_duel 101 = .ok (.iload_n 3, 1) := by decide +kernel
theorem dX9_duel_102 : decode cX9_duel 102 = .ok (.iconst 1, 1) := by decide +kernel
theorem dX9_duel_103 : decode cX9_duel 103 = .ok (.aload_n 0, 1) := by decide +kernel
theorem dX9_duel_104 : decode cX9_duel 104 = .ok (.getfield 154, 3) := by decide +kernel
theorem dX9_duel_107 : decode cX9_duel 107 = .ok (.ishl, 1) := by decide +kernel
theorem dX9_duel_108 : decode cX9_duel 108 = .ok (.if_icmp .ge 21, 3) := by decide +kernel
theorem dX9_duel_111 : decode cX9_duel 111 = .ok (.aload_n 0, 1) := by decide +kernel
theorem dX9_duel_112 : decode cX9_duel 112 = .ok (.getfield 82, 3) := by decide +kernel
theorem dX9_duel_115 : decode cX9_duel 115 = .ok (.iload_n 3, 1) := by decide +kernel
theorem dX9_duel_116 : decode cX9_duel 116 = .ok (.aload_n 0, 1) := by decide +kernel
theorem dX9_duel_117 : decode cX9_duel 117 = .ok (.getfield 85, 3) := by decide +kernel
theorem dX9_duel_120 : decode cX9_duel 120 = .ok (.iload_n 3, 1) := by decide +kernel
theorem dX9_duel_121 : decode cX9_duel 121 = .ok (.iaload, 1) := by decide +kernel
theorem dX9_duel_122 : decode cX9_duel 122 = .ok (.iastore, 1) := by decide +kernel
theorem dX9_duel_123 : decode cX9_duel 123 = .ok (.iinc 3 1, 3) := by decide +kernel
theorem dX9_duel_126 : decode cX9_duel 126 = .ok (.goto (-25), 3) := by decide +kernel
theorem dX9_duel_129 : decode cX9_duel 129 = .ok (.iinc 2 (-1), 3) := by decide +kernel
theorem dX9_duel_132 : decode cX9_duel 132 = .ok (.goto (-77), 3) := by decide +kernel
theorem dX9_duel_135 : decode cX9_duel 135 = .ok (.aload_n 0, 1) := by decide +kernel
theorem dX9_duel_136 : decode cX9_duel 136 = .ok (.getfield 82, 3) := by decide +kernel
theorem dX9_duel_139 : decode cX9_duel 139 = .ok (.aload_n 0, 1) := by decide +kernel
theorem dX9_duel_140 : decode cX9_duel 140 = .ok (.aload_n 0, 1) := by decide +kernel
theorem dX9_duel_141 : decode cX9_duel 141 = .ok (.getfield 39, 3) := by decide +kernel
theorem dX9_duel_144 : decode cX9_duel 144 = .ok (.invokevirtual 217, 3) := by decide +kernel
theorem dX9_duel_147 : decode cX9_duel 147 = .ok (.iaload, 1) := by decide +kernel
theorem dX9_duel_148 : decode cX9_duel 148 = .ok (.bipush 100, 2) := by decide +kernel
theorem dX9_duel_150 : decode cX9_duel 150 = .ok (.iadd, 1) := by decide +kernel
theorem dX9_duel_151 : decode cX9_duel 151 = .ok (.ireturn, 1) := by decide +kernel
theorem dX9_layParts_0 : decode cX9_layParts 0 = .ok (.aload_n 0, 1) := by decide +kernel
theorem dX9_layParts_1 : decode cX9_layParts 1 = .ok (.invokevirtual 227, 3) := by decide +kernel
theorem dX9_layParts_4 : decode cX9_layParts 4 = .ok (.aload_n 0, 1) := by decide +kernel
theorem dX9_layParts_5 : decode cX9_layParts 5 = .ok (.aload_n 0, 1) := by decide +kernel
theorem dX9_layParts_6 : decode cX9_layParts 6 = .ok (.getfield 42, 3) := by decide +kernel
theorem dX9_layParts_9 : decode cX9_layParts 9 = .ok (.invokevirtual 213, 3) := by decide +kernel
theorem dX9_layParts_12 : decode cX9_layParts 12 = .ok (.aload_n 0, 1) := by decide +kernel
theorem dX9_layParts_13 : decode cX9_layParts 13 = .ok (.aload_n 0, 1) := by decide +kernel
theorem dX9_layParts_14 : decode cX9_layParts 14 = .ok (.getfield 42, 3) := by decide +kernel
theorem dX9_layParts_17 : decode cX9_layParts 17 = .ok (.invokevirtual 217, 3) := by decide +kernel
theorem dX9_layParts_20 : decode cX9_layParts 20 = .ok (.istore_n 3, 1) := by decide +kernel
theorem dX9_layParts_21 : decode cX9_layParts 21 = .ok (.aload_n 0, 1) := by decide +kernel
theorem dX9_layParts_22 : decode cX9_layParts 22 = .ok (.lconst 1, 1) := by decide +kernel
theorem dX9_layParts_23 : decode cX9_layParts 23 = .ok (.putfield 265, 3) := by decide +kernel
theorem dX9_layParts_26 : decode cX9_layParts 26 = .ok (.aload_n 0, 1) := by decide +kernel
theorem dX9_layParts_27 : decode cX9_layParts 27 = .ok (.lconst 0, 1) := by decide +kernel
theorem dX9_layParts_28 : decode cX9_layParts 28 = .ok (.putfield 268, 3) := by decide +kernel
theorem dX9_layParts_31 : decode cX9_layParts 31 = .ok (.aload_n 0, 1) := by decide +kernel
theorem dX9_layParts_32 : decode cX9_layParts 32 = .ok (.lconst 0, 1) := by decide +kernel
theorem dX9_layParts_33 : decode cX9_layParts 33 = .ok (.putfield 271, 3) := by decide +kernel
theorem dX9_layParts_36 : decode cX9_layParts 36 = .ok (.iconst 0, 1) := by decide +kernel
theorem dX9_layParts_37 : decode cX9_layParts 37 = .ok (.istore 4, 2) := by decide +kernel
theorem dX9_layParts_39 : decode cX9_layParts 39 = .ok (.iload 4, 2) := by decide +kernel
theorem dX9_layParts_41 : decode cX9_layParts 41 = .ok (.iload_n 3, 1) := by decide +kernel
theorem dX9_layParts_42 : decode cX9_layParts 42 = .ok (.invokestatic 220, 3) := by decide +kernel
theorem dX9_layParts_45 : decode cX9_layParts 45 = .ok (.if_icmp .ge 21, 3) := by decide +kernel
theorem dX9_layParts_48 : decode cX9_layParts 48 = .ok (.aload_n 0, 1) := by decide +kernel
theorem dX9_layParts_49 : decode cX9_layParts 49 = .ok (.dup, 1) := by decide +kernel
theorem dX9_layParts_50 : decode cX9_layParts 50 = .ok (.getfield 265, 3) := by decide +kernel
theorem dX9_layParts_53 : decode cX9_layParts 53 = .ok (.ldc2_w 274, 3) := by decide +kernel
theorem dX9_layParts_56 : decode cX9_layParts 56 = .ok (.lmul, 1) := by decide +kernel
theorem dX9_layParts_57 : decode cX9_layParts 57 = .ok (.putfield 265, 3) := by decide +kernel
theorem dX9_layParts_60 : decode cX9_layParts 60 = .ok (.iinc 4 1, 3) := by decide +kernel
theorem dX9_layParts_63 : decode cX9_layParts 63 = .ok (.goto (-24), 3) := by decide +kernel
theorem dX9_layParts_66 : decode cX9_layParts 66 = .ok (.iconst 0, 1) := by decide +kernel
theorem dX9_layParts_67 : decode cX9_layParts 67 = .ok (.istore 4, 2) := by decide +kernel
theorem dX9_layParts_69 : decode cX9_layParts 69 = .ok (.iload 4, 2) := by decide +kernel
theorem dX9_layParts_71 : decode cX9_layParts 71 = .ok (.iload_n 3, 1) := by decide +kernel
theorem dX9_layParts_72 : decode cX9_layParts 72 = .ok (.if_icmp .gt 161, 3) := by decide +kernel
theorem dX9_layParts_75 : decode cX9_layParts 75 = .ok (.iload 4, 2) := by decide +kernel
theorem dX9_layParts_77 : decode cX9_layParts 77 = .ok (.iload_n 3, 1) := by decide +kernel
theorem dX9_layParts_78 : decode cX9_layParts 78 = .ok (.iconst (-1), 1) := by decide +kernel
theorem dX9_layParts_79 : decode cX9_layParts 79 = .ok (.ixor, 1) := by decide +kernel
theorem dX9_layParts_80 : decode cX9_layParts 80 = .ok (.iand, 1) := by decide +kernel
theorem dX9_layParts_81 : decode cX9_layParts 81 = .ok (.ifCond .ne 146, 3) := by decide +kernel
theorem dX9_layParts_84 : decode cX9_layParts 84 = .ok (.lconst 1, 1) := by decide +kernel
theorem dX9_layParts_85 : decode cX9_layParts 85 = .ok (.lstore 5, 2) := by decide +kernel
theorem dX9_layParts_87 : decode cX9_layParts 87 = .ok (.iconst 0, 1) := by decide +kernel
theorem dX9_layParts_88 : decode cX9_layParts 88 = .ok (.istore 7, 2) := by decide +kernel
theorem dX9_layParts_90 : decode cX9_layParts 90 = .ok (.iconst 0, 1) := by decide +kernel
theorem dX9_layParts_91 : decode cX9_layParts 91 = .ok (.istore 8, 2) := by decide +kernel
theorem dX9_layParts_93 : decode cX9_layParts 93 = .ok (.iload 8, 2) := by decide +kernel
theorem dX9_layParts_95 : decode cX9_layParts 95 = .ok (.aload_n 0, 1) := by decide +kernel
theorem dX9_layParts_96 : decode cX9_layParts 96 = .ok (.getfield 154, 3) := by decide +kernel
theorem dX9_layParts_99 : decode cX9_layParts 99 = .ok (.if_icmp .ge 89, 3) := by decide +kernel
theorem dX9_layParts_102 : decode cX9_layParts 102 = .ok (.lload 5, 2) := by decide +kernel
theorem dX9_layParts_104 : decode cX9_layParts 104 = .ok (.iload_n 3, 1) := by decide +kernel
theorem dX9_layParts_105 : decode cX9_layParts 105 = .ok (.iload 8, 2) := by decide +kernel
theorem dX9_layParts_107 : decode cX9_layParts 107 = .ok (.invokestatic 167, 3) := by decide +kernel
theorem dX9_layParts_110 : decode cX9_layParts 110 = .ok (.ifCond .ne 7, 3) := by decide +kernel
theorem dX9_layParts_113 : decode cX9_layParts 113 = .ok (.lconst 1, 1) := by decide +kernel
theorem dX9_layParts_114 : decode cX9_layParts 114 = .ok (.goto 23, 3) := by decide +kernel
theorem dX9_layParts_117 : decode cX9_layParts 117 = .ok (.iload 4, 2) := by decide +kernel
theorem dX9_layParts_119 : decode cX9_layParts 119 = .ok (.iload 8, 2) := by decide +kernel
theorem dX9_layParts_121 : decode cX9_layParts 121 = .ok (.invokestatic 167, 3) := by decide +kernel
theorem dX9_layParts_124 : decode cX9_layParts 124 = .ok (.ifCond .eq 11, 3) := by decide +kernel
theorem dX9_layParts_127 : decode cX9_layParts 127 = .ok (.bipush 12, 2) := by decide +kernel
theorem dX9_layParts_129 : decode cX9_layParts 129 = .ok (.iload_n 2, 1) := by decide +kernel
theorem dX9_layParts_130 : decode cX9_layParts 130 = .ok (.isub, 1) := by decide +kernel
theorem dX9_layParts_131 : decode cX9_layParts 131 = .ok (.i2l, 1) := by decide +kernel
theorem dX9_layParts_132 : decode cX9_layParts 132 = .ok (.goto 5, 3) := by decide +kernel
theorem dX9_layParts_135 : decode cX9_layParts 135 = .ok (.iload_n 2, 1) := by decide +kernel
theorem dX9_layParts_136 : decode cX9_layParts 136 = .ok (.i2l, 1) := by decide +kernel
theorem dX9_layParts_137 : decode cX9_layParts 137 = .ok (.lmul, 1) := by decide +kernel
theorem dX9_layParts_138 : decode cX9_layParts 138 = .ok (.lstore 5, 2) := by decide +kernel
theorem dX9_layParts_140 : decode cX9_layParts 140 = .ok (.iload 4, 2) := by decide +kernel
theorem dX9_layParts_142 : decode cX9_layParts 142 = .ok (.iload 8, 2) := by decide +kernel
theorem dX9_layParts_144 : decode cX9_layParts 144 = .ok (.invokestatic 167, 3) := by decide +kernel
theorem dX9_layParts_147 : decode cX9_layParts 147 = .ok (.ifCond .eq 31, 3) := by decide +kernel
theorem dX9_layParts_150 : decode cX9_layParts 150 = .ok (.aload_n 0, 1) := by decide +kernel
theorem dX9_layParts_151 : decode cX9_layParts 151 = .ok (.getfield 42, 3) := by decide +kernel
theorem dX9_layParts_154 : decode cX9_layParts 154 = .ok (.bipush 8, 2) := by decide +kernel
theorem dX9_layParts_156 : decode cX9_layParts 156 = .ok (.iload 8, 2) := by decide +kernel
theorem dX9_layParts_158 : decode cX9_layParts 158 = .ok (.iadd, 1) := by decide +kernel
theorem dX9_layParts_159 : decode cX9_layParts 159 = .ok (.iaload, 1) := by decide +kernel
theorem dX9_layParts_160 : decode cX9_layParts 160 = .ok (.iload 7, 2) := by decide +kernel
theorem dX9_layParts_162 : decode cX9_layParts 162 = .ok (.if_icmp .le 16, 3) := by decide +kernel
theorem dX9_layParts_165 : decode cX9_layParts 165 = .ok (.aload_n 0, 1) := by decide +kernel
theorem dX9_layParts_166 : decode cX9_layParts 166 = .ok (.getfield 42, 3) := by decide +kernel
theorem dX9_layParts_169 : decode cX9_layParts 169 = .ok (.bipush 8, 2) := by decide +kernel
theorem dX9_layParts_171 : decode cX9_layParts 171 = .ok (.iload 8, 2) := by decide +kernel
theorem dX9_layParts_173 : decode cX9_layParts 173 = .ok (.iadd, 1) := by decide +kernel
theorem dX9_layParts_174 : decode cX9_layParts 174 = .ok (.iaload, 1) := by decide +kernel
theorem dX9_layParts_175 : decode cX9_layParts 175 = .ok (.goto 5, 3) := by decide +kernel
theorem dX9_layParts_178 : decode cX9_layParts 178 = .ok (.iload 7, 2) := by decide +kernel
theorem dX9_layParts_180 : decode cX9_layParts 180 = .ok (.istore 7, 2) := by decide +kernel
theorem dX9_layParts_182 : decode cX9_layParts 182 = .ok (.iinc 8 1, 3) := by decide +kernel
theorem dX9_layParts_185 : decode cX9_layParts 185 = .ok (.goto (-92), 3) := by decide +kernel
theorem dX9_layParts_188 : decode cX9_layParts 188 = .ok (.aload_n 0, 1) := by decide +kernel
theorem dX9_layParts_189 : decode cX9_layParts 189 = .ok (.dup, 1) := by decide +kernel
theorem dX9_layParts_190 : decode cX9_layParts 190 = .ok (.getfield 268, 3) := by decide +kernel
theorem dX9_layParts_193 : decode cX9_layParts 193 = .ok (.iload 4, 2) := by decide +kernel
theorem dX9_layParts_195 : decode cX9_layParts 195 = .ok (.invokestatic 220, 3) := by decide +kernel
theorem dX9_layParts_198 : decode cX9_layParts 198 = .ok (.iload_n 1, 1) := by decide +kernel
theorem dX9_layParts_199 : decode cX9_layParts 199 = .ok (.if_icmp .lt 8, 3) := by decide +kernel
theorem dX9_layParts_202 : decode cX9_layParts 202 = .ok (.lload 5, 2) := by decide +kernel
theorem dX9_layParts_204 : decode cX9_layParts 204 = .ok (.goto 4, 3) := by decide +kernel
theorem dX9_layParts_207 : decode cX9_layParts 207 = .ok (.lconst 0, 1) := by decide +kernel
theorem dX9_layParts_208 : decode cX9_layParts 208 = .ok (.ladd, 1) := by decide +kernel
theorem dX9_layParts_209 : decode cX9_layParts 209 = .ok (.putfield 268, 3) := by decide +kernel
theorem dX9_layParts_212 : decode cX9_layParts 212 = .ok (.aload_n 0, 1) := by decide +kernel
theorem dX9_layParts_213 : decode cX9_layParts 213 = .ok (.dup, 1) := by decide +kernel
theorem dX9_layParts_214 : decode cX9_layParts 214 = .ok (.getfield 271, 3) := by decide +kernel
theorem dX9_layParts_217 : decode cX9_layParts 217 = .ok (.lload 5, 2) := by decide +kernel
theorem dX9_layParts_219 : decode cX9_layParts 219 = .ok (.iload 7, 2) := by decide +kernel
theorem dX9_layParts_221 : decode cX9_layParts 221 = .ok (.i2l, 1) := by decide +kernel
theorem dX9_layParts_222 : decode cX9_layParts 222 = .ok (.lmul, 1) := by decide +kernel
theorem dX9_layParts_223 : decode cX9_layParts 223 = .ok (.ladd, 1) := by decide +kernel
theorem dX9_layParts_224 : decode cX9_layParts 224 = .ok (.putfield 271, 3) := by decide +kernel
theorem dX9_layParts_227 : decode cX9_layParts 227 = .ok (.iinc 4 1, 3) := by decide +kernel
theorem dX9_layParts_230 : decode cX9_layParts 230 = .ok (.goto (-161), 3) := by decide +kernel
theorem dX9_layParts_233 : decode cX9_layParts 233 = .ok (.return_, 1) := by decide +kernel
theorem dX9_odds_0 : decode cX9_odds 0 = .ok (.aload_n 0, 1) := by decide +kernel
theorem dX9_odds_1 : decode cX9_odds 1 = .ok (.iload_n 1, 1) := by decide +kernel
theorem dX9_odds_2 : decode cX9_odds 2 = .ok (.iconst 0, 1) := by decide +kernel
theorem dX9_odds_3 : decode cX9_odds 3 = .ok (.bipush 6, 2) := by decide +kernel
theorem dX9_odds_5 : decode cX9_odds 5 = .ok (.invokestatic 92, 3) := by decide +kernel
theorem dX9_odds_8 : decode cX9_odds 8 = .ok (.ifCond .eq 17, 3) := by decide +kernel
theorem dX9_odds_11 : decode cX9_odds 11 = .ok (.iload_n 2, 1) := by decide +kernel
theorem dX9_odds_12 : decode cX9_odds 12 = .ok (.iconst 0, 1) := by decide +kernel
theorem dX9_odds_13 : decode cX9_odds 13 = .ok (.bipush 12, 2) := by decide +kernel
theorem dX9_odds_15 : decode cX9_odds 15 = .ok (.invokestatic 92, 3) := by decide +kernel
theorem dX9_odds_18 : decode cX9_odds 18 = .ok (.ifCond .eq 7, 3) := by decide +kernel
theorem dX9_odds_21 : decode cX9_odds 21 = .ok (.iconst 1, 1) := by decide +kernel
theorem dX9_odds_22 : decode cX9_odds 22 = .ok (.goto 4, 3) := by decide +kernel
theorem dX9_odds_25 : decode cX9_odds 25 = .ok (.iconst 0, 1) := by decide +kernel
theorem dX9_odds_26 : decode cX9_odds 26 = .ok (.invokevirtual 230, 3) := by decide +kernel
theorem dX9_odds_29 : decode cX9_odds 29 = .ok (.istore_n 3, 1) := by decide +kernel
theorem dX9_odds_30 : decode cX9_odds 30 = .ok (.iload_n 3, 1) := by decide +kernel
theorem dX9_odds_31 : decode cX9_odds 31 = .ok (.ifCond .ge 5, 3) := by decide +kernel
theorem dX9_odds_34 : decode cX9_odds 34 = .ok (.iload_n 3, 1) := by decide +kernel
theorem dX9_odds_35 : decode cX9_odds 35 = .ok (.ireturn, 1) := by decide +kernel
theorem dX9_odds_36 : decode cX9_odds 36 = .ok (.aload_n 0, 1) := by decide +kernel
theorem dX9_odds_37 : decode cX9_odds 37 = .ok (.iload_n 1, 1) := by decide +kernel
theorem dX9_odds_38 : decode cX9_odds 38 = .ok (.iload_n 2, 1) := by decide +kernel
theorem dX9_odds_39 : decode cX9_odds 39 = .ok (.invokevirtual 276, 3) := by decide +kernel
theorem dX9_odds_42 : decode cX9_odds 42 = .ok (.aload_n 0, 1) := by decide +kernel
theorem dX9_odds_43 : decode cX9_odds 43 = .ok (.aload_n 0, 1) := by decide +kernel
theorem dX9_odds_44 : decode cX9_odds 44 = .ok (.getfield 268, 3) := by decide +kernel
theorem dX9_odds_47 : decode cX9_odds 47 = .ok (.aload_n 0, 1) := by decide +kernel
theorem dX9_odds_48 : decode cX9_odds 48 = .ok (.getfield 265, 3) := by decide +kernel
theorem dX9_odds_51 : decode cX9_odds 51 = .ok (.invokevirtual 280, 3) := by decide +kernel
theorem dX9_odds_54 : decode cX9_odds 54 = .ok (.ireturn, 1) := by decide +kernel
theorem dX9_mid_0 : decode cX9_mid 0 = .ok (.aload_n 0, 1) := by decide +kernel
theorem dX9_mid_1 : decode cX9_mid 1 = .ok (.iload_n 1, 1) := by decide +kernel
theorem dX9_mid_2 : decode cX9_mid 2 = .ok (.iconst 0, 1) := by decide +kernel
theorem dX9_mid_3 : decode cX9_mid 3 = .ok (.bipush 12, 2) := by decide +kernel
theorem dX9_mid_5 : decode cX9_mid 5 = .ok (.invokestatic 92, 3) := by decide +kernel
theorem dX9_mid_8 : decode cX9_mid 8 = .ok (.invokevirtual 230, 3) := by decide +kernel
theorem dX9_mid_11 : decode cX9_mid 11 = .ok (.istore_n 2, 1) := by decide +kernel
theorem dX9_mid_12 : decode cX9_mid 12 = .ok (.iload_n 2, 1) := by decide +kernel
theorem dX9_mid_13 : decode cX9_mid 13 = .ok (.ifCond .ge 5, 3) := by decide +kernel
theorem dX9_mid_16 : decode cX9_mid 16 = .ok (.iload_n 2, 1) := by decide +kernel
theorem dX9_mid_17 : decode cX9_mid 17 = .ok (.ireturn, 1) := by decide +kernel
theorem dX9_mid_18 : decode cX9_mid 18 = .ok (.aload_n 0, 1) := by decide +kernel
theorem dX9_mid_19 : decode cX9_mid 19 = .ok (.iconst 0, 1) := by decide +kernel
theorem dX9_mid_20 : decode cX9_mid 20 = .ok (.iload_n 1, 1) := by decide +kernel
theorem dX9_mid_21 : decode cX9_mid 21 = .ok (.invokevirtual 276, 3) := by decide +kernel
theorem dX9_mid_24 : decode cX9_mid 24 = .ok (.aload_n 0, 1) := by decide +kernel
theorem dX9_mid_25 : decode cX9_mid 25 = .ok (.aload_n 0, 1) := by decide +kernel
theorem dX9_mid_26 : decode cX9_mid 26 = .ok (.getfield 271, 3) := by decide +kernel
theorem dX9_mid_29 : decode cX9_mid 29 = .ok (.aload_n 0, 1) := by decide +kernel
theorem dX9_mid_30 : decode cX9_mid 30 = .ok (.getfield 265, 3) := by decide +kernel
theorem dX9_mid_33 : decode cX9_mid 33 = .ok (.invokevirtual 280, 3) := by decide +kernel
theorem dX9_mid_36 : decode cX9_mid 36 = .ok (.ireturn, 1) := by decide +kernel
theorem dX9_lots_0 : decode cX9_lots 0 = .ok (.aload_n 0, 1) := by decide +kernel
theorem dX9_lots_1 : decode cX9_lots 1 = .ok (.iload_n 1, 1) := by decide +kernel
theorem dX9_lots_2 : decode cX9_lots 2 = .ok (.iconst 1, 1) := by decide +kernel
theorem dX9_lots_3 : decode cX9_lots 3 = .ok (.bipush 20, 2) := by decide +kernel
theorem dX9_lots_5 : decode cX9_lots 5 = .ok (.invokestatic 92, 3) := by decide +kernel
theorem dX9_lots_8 : decode cX9_lots 8 = .ok (.ifCond .eq 18, 3) := by decide +kernel
theorem dX9_lots_11 : decode cX9_lots 11 = .ok (.iload_n 2, 1) := by decide +kernel
theorem dX9_lots_12 : decode cX9_lots 12 = .ok (.iconst 1, 1) := by decide +kernel
theorem dX9_lots_13 : decode cX9_lots 13 = .ok (.ldc_w 284, 3) := by decide +kernel
theorem dX9_lots_16 : decode cX9_lots 16 = .ok (.invokestatic 92, 3) := by decide +kernel
theorem dX9_lots_19 : decode cX9_lots 19 = .ok (.ifCond .eq 7, 3) := by decide +kernel
theorem dX9_lots_22 : decode cX9_lots 22 = .ok (.iconst 1, 1) := by decide +kernel
theorem dX9_lots_23 : decode cX9_lots 23 = .ok (.goto 4, 3) := by decide +kernel
theorem dX9_lots_26 : decode cX9_lots 26 = .ok (.iconst 0, 1) := by decide +kernel
theorem dX9_lots_27 : decode cX9_lots 27 = .ok (.invokevirtual 230, 3) := by decide +kernel
theorem dX9_lots_30 : decode cX9_lots 30 = .ok (.istore_n 3, 1) := by decide +kernel
theorem dX9_lots_31 : decode cX9_lots 31 = .ok (.iload_n 3, 1) := by decide +kernel
theorem dX9_lots_32 : decode cX9_lots 32 = .ok (.ifCond .ge 5, 3) := by decide +kernel
theorem dX9_lots_35 : decode cX9_lots 35 = .ok (.iload_n 3, 1) := by decide +kernel
theorem dX9_lots_36 : decode cX9_lots 36 = .ok (.ireturn, 1) := by decide +kernel
theorem dX9_lots_37 : decode cX9_lots 37 = .ok (.aload_n 0, 1) := by decide +kernel
theorem dX9_lots_38 : decode cX9_lots 38 = .ok (.getfield 157, 3) := by decide +kernel
theorem dX9_lots_41 : decode cX9_lots 41 = .ok (.iload_n 1, 1) := by decide +kernel
theorem dX9_lots_42 : decode cX9_lots 42 = .ok (.iadd, 1) := by decide +kernel
theorem dX9_lots_43 : decode cX9_lots 43 = .ok (.bipush 40, 2) := by decide +kernel
theorem dX9_lots_45 : decode cX9_lots 45 = .ok (.if_icmp .le 6, 3) := by decide +kernel
theorem dX9_lots_48 : decode cX9_lots 48 = .ok (.bipush (-2), 2) := by decide +kernel
theorem dX9_lots_50 : decode cX9_lots 50 = .ok (.ireturn, 1) := by decide +kernel
theorem dX9_lots_51 : decode cX9_lots 51 = .ok (.iload_n 2, 1) := by decide +kernel
theorem dX9_lots_52 : decode cX9_lots 52 = .ok (.i2l, 1) := by decide +kernel
theorem dX9_lots_53 : decode cX9_lots 53 = .ok (.lstore 4, 2) := by decide +kernel
theorem dX9_lots_55 : decode cX9_lots 55 = .ok (.iconst 0, 1) := by decide +kernel
theorem dX9_lots_56 : decode cX9_lots 56 = .ok (.istore 6, 2) := by decide +kernel
theorem dX9_lots_58 : decode cX9_lots 58 = .ok (.iload 6, 2) := by decide +kernel
theorem dX9_lots_60 : decode cX9_lots 60 = .ok (.iload_n 1, 1) := by decide +kernel
theorem dX9_lots_61 : decode cX9_lots 61 = .ok (.if_icmp .ge 89, 3) := by decide +kernel
theorem dX9_lots_64 : decode cX9_lots 64 = .ok (.ldc2_w 285, 3) := by decide +kernel
theorem dX9_lots_67 : decode cX9_lots 67 = .ok (.lload 4, 2) := by decide +kernel
theorem dX9_lots_69 : decode cX9_lots 69 = .ok (.lmul, 1) := by decide +kernel
theorem dX9_lots_70 : decode cX9_lots 70 = .ok (.ldc2_w 287, 3) := by decide +kernel
theorem dX9_lots_73 : decode cX9_lots 73 = .ok (.lrem, 1) := by decide +kernel
theorem dX9_lots_74 : decode cX9_lots 74 = .ok (.lstore 4, 2) := by decide +kernel
theorem dX9_lots_76 : decode cX9_lots 76 = .ok (.lload 4, 2) := by decide +kernel
theorem dX9_lots_78 : decode cX9_lots 78 = .ok (.ldc2_w 289, 3) := by decide +kernel
theorem dX9_lots_81 : decode cX9_lots 81 = .ok (.ldiv, 1) := by decide +kernel
theorem dX9_lots_82 : decode cX9_lots 82 = .ok (.aload_n 0, 1) := by decide +kernel
theorem dX9_lots_83 : decode cX9_lots 83 = .ok (.getfield 154, 3) := by decide +kernel
theorem dX9_lots_86 : decode cX9_lots 86 = .ok (.i2l, 1) := by decide +kernel
theorem dX9_lots_87 : decode cX9_lots 87 = .ok (.lrem, 1) := by decide +kernel
theorem dX9_lots_88 : decode cX9_lots 88 = .ok (.l2i, 1) := by decide +kernel
theorem dX9_lots_89 : decode cX9_lots 89 = .ok (.istore 7, 2) := by decide +kernel
theorem dX9_lots_91 : decode cX9_lots 91 = .ok (.aload_n 0, 1) := by decide +kernel
theorem dX9_lots_92 : decode cX9_lots 92 = .ok (.invokevirtual 210, 3) := by decide +kernel
theorem dX9_lots_95 : decode cX9_lots 95 = .ok (.lload 4, 2) := by decide +kernel
theorem dX9_lots_97 : decode cX9_lots 97 = .ok (.ldc2_w 291, 3) := by decide +kernel
theorem dX9_lots_100 : decode cX9_lots 100 = .ok (.lrem, 1) := by decide +kernel
theorem dX9_lots_101 : decode cX9_lots 101 = .ok (.lconst 0, 1) := by decide +kernel
theorem dX9_lots_102 : decode cX9_lots 102 = .ok (.lcmp, 1) := by decide +kernel
theorem dX9_lots_103 : decode cX9_lots 103 = .ok (.ifCond .ne 33, 3) := by decide +kernel
theorem dX9_lots_106 : decode cX9_lots 106 = .ok (.aload_n 0, 1) := by decide +kernel
theorem dX9_lots_107 : decode cX9_lots 107 = .ok (.getfield 39, 3) := by decide +kernel
theorem dX9_lots_110 : decode cX9_lots 110 = .ok (.iload 7, 2) := by decide +kernel
theorem dX9_lots_112 : decode cX9_lots 112 = .ok (.invokestatic 160, 3) := by decide +kernel
theorem dX9_lots_115 : decode cX9_lots 115 = .ok (.ifCond .eq 21, 3) := by decide +kernel
theorem dX9_lots_118 : decode cX9_lots 118 = .ok (.aload_n 0, 1) := by decide +kernel
theorem dX9_lots_119 : decode cX9_lots 119 = .ok (.getfield 39, 3) := by decide +kernel
theorem dX9_lots_122 : decode cX9_lots 122 = .ok (.iconst 1, 1) := by decide +kernel
theorem dX9_lots_123 : decode cX9_lots 123 = .ok (.iaload, 1) := by decide +kernel
theorem dX9_lots_124 : decode cX9_lots 124 = .ok (.ifCond .le 12, 3) := by decide +kernel
theorem dX9_lots_127 : decode cX9_lots 127 = .ok (.aload_n 0, 1) := by decide +kernel
theorem dX9_lots_128 : decode cX9_lots 128 = .ok (.iload 7, 2) := by decide +kernel
theorem dX9_lots_130 : decode cX9_lots 130 = .ok (.invokevirtual 223, 3) := by decide +kernel
theorem dX9_lots_133 : decode cX9_lots 133 = .ok (.goto 11, 3) := by decide +kernel
theorem dX9_lots_136 : decode cX9_lots 136 = .ok (.aload_n 0, 1) := by decide +kernel
theorem dX9_lots_137 : decode cX9_lots 137 = .ok (.aload_n 0, 1) := by decide +kernel
theorem dX9_lots_138 : decode cX9_lots 138 = .ok (.getfield 39, 3) := by decide +kernel
theorem dX9_lots_141 : decode cX9_lots 141 = .ok (.invokevirtual 213, 3) := by decide +kernel
theorem dX9_lots_144 : decode cX9_lots 144 = .ok (.iinc 6 1, 3) := by decide +kernel
theorem dX9_lots_147 : decode cX9_lots 147 = .ok (.goto (-89), 3) := by decide +kernel
theorem dX9_lots_150 : decode cX9_lots 150 = .ok (.aload_n 0, 1) := by decide +kernel
theorem dX9_lots_151 : decode cX9_lots 151 = .ok (.aload_n 0, 1) := by decide +kernel
theorem dX9_lots_152 : decode cX9_lots 152 = .ok (.getfield 39, 3) := by decide +kernel
theorem dX9_lots_155 : decode cX9_lots 155 = .ok (.invokevirtual 217, 3) := by decide +kernel
theorem dX9_lots_158 : decode cX9_lots 158 = .ok (.invokestatic 220, 3) := by decide +kernel
theorem dX9_lots_161 : decode cX9_lots 161 = .ok (.ireturn, 1) := by decide +kernel
theorem dX9_strongOf_0 : decode cX9_strongOf 0 = .ok (.iconst 0, 1) := by decide +kernel
theorem dX9_strongOf_1 : decode cX9_strongOf 1 = .ok (.istore_n 1, 1) := by decide +kernel
theorem dX9_strongOf_2 : decode cX9_strongOf 2 = .ok (.iconst 0, 1) := by decide +kernel
theorem dX9_strongOf_3 : decode cX9_strongOf 3 = .ok (.istore_n 2, 1) := by decide +kernel
theorem dX9_strongOf_4 : decode cX9_strongOf 4 = .ok (.iload_n 2, 1) := by decide +kernel
theorem dX9_strongOf_5 : decode cX9_strongOf 5 = .ok (.aload_n 0, 1) := by decide +kernel
theorem dX9_strongOf_6 : decode cX9_strongOf 6 = .ok (.getfield 154, 3) := by decide +kernel
theorem dX9_strongOf_9 : decode cX9_strongOf 9 = .ok (.if_icmp .ge 36, 3) := by decide +kernel
theorem dX9_strongOf_12 : decode cX9_strongOf 12 = .ok (.iload_n 1, 1) := by decide +kernel
theorem dX9_strongOf_13 : decode cX9_strongOf 13 = .ok (.aload_n 0, 1) := by decide +kernel
theorem dX9_strongOf_14 : decode cX9_strongOf 14 = .ok (.getfield 39, 3) := by decide +kernel
theorem dX9_strongOf_17 : decode cX9_strongOf 17 = .ok (.iload_n 2, 1) := by decide +kernel
theorem dX9_strongOf_18 : decode cX9_strongOf 18 = .ok (.invokestatic 160, 3) := by decide +kernel
theorem dX9_strongOf_21 : decode cX9_strongOf 21 = .ok (.ifCond .eq 15, 3) := by decide +kernel
theorem dX9_strongOf_24 : decode cX9_strongOf 24 = .ok (.aload_n 0, 1) := by decide +kernel
theorem dX9_strongOf_25 : decode cX9_strongOf 25 = .ok (.getfield 39, 3) := by decide +kernel
theorem dX9_strongOf_28 : decode cX9_strongOf 28 = .ok (.bipush 8, 2) := by decide +kernel
theorem dX9_strongOf_30 : decode cX9_strongOf 30 = .ok (.iload_n 2, 1) := by decide +kernel
theorem dX9_strongOf_31 : decode cX9_strongOf 31 = .ok (.iadd, 1) := by decide +kernel
theorem dX9_strongOf_32 : decode cX9_strongOf 32 = .ok (.iaload, 1) := by decide +kernel
theorem dX9_strongOf_33 : decode cX9_strongOf 33 = .ok (.goto 4, 3) := by decide +kernel
theorem dX9_strongOf_36 : decode cX9_strongOf 36 = .ok (.iconst 0, 1) := by decide +kernel
theorem dX9_strongOf_37 : decode cX9_strongOf 37 = .ok (.iadd, 1) := by decide +kernel
theorem dX9_strongOf_38 : decode cX9_strongOf 38 = .ok (.istore_n 1, 1) := by decide +kernel
theorem dX9_strongOf_39 : decode cX9_strongOf 39 = .ok (.iinc 2 1, 3) := by decide +kernel
theorem dX9_strongOf_42 : decode cX9_strongOf 42 = .ok (.goto (-38), 3) := by decide +kernel
theorem dX9_strongOf_45 : decode cX9_strongOf 45 = .ok (.iload_n 1, 1) := by decide +kernel
theorem dX9_strongOf_46 : decode cX9_strongOf 46 = .ok (.ireturn, 1) := by decide +kernel
theorem dX9_homeOf_0 : decode cX9_homeOf 0 = .ok (.iconst 0, 1) := by decide +kernel
theorem dX9_homeOf_1 : decode cX9_homeOf 1 = .ok (.istore_n 1, 1) := by decide +kernel
theorem dX9_homeOf_2 : decode cX9_homeOf 2 = .ok (.iconst 0, 1) := by decide +kernel
theorem dX9_homeOf_3 : decode cX9_homeOf 3 = .ok (.istore_n 2, 1) := by decide +kernel
theorem dX9_homeOf_4 : decode cX9_homeOf 4 = .ok (.iload_n 2, 1) := by decide +kernel
theorem dX9_homeOf_5 : decode cX9_homeOf 5 = .ok (.aload_n 0, 1) := by decide +kernel
theorem dX9_homeOf_6 : decode cX9_homeOf 6 = .ok (.getfield 154, 3) := by decide +kernel
theorem dX9_homeOf_9 : decode cX9_homeOf 9 = .ok (.if_icmp .ge 39, 3) := by decide +kernel
theorem dX9_homeOf_12 : decode cX9_homeOf 12 = .ok (.iload_n 1, 1) := by decide +kernel
theorem dX9_homeOf_13 : decode cX9_homeOf 13 = .ok (.aload_n 0, 1) := by decide +kernel
theorem dX9_homeOf_14 : decode cX9_homeOf 14 = .ok (.getfield 39, 3) := by decide +kernel
theorem dX9_homeOf_17 : decode cX9_homeOf 17 = .ok (.bipush 20, 2) := by decide +kernel
theorem dX9_homeOf_19 : decode cX9_homeOf 19 = .ok (.iload_n 2, 1) := by decide +kernel
theorem dX9_homeOf_20 : decode cX9_homeOf 20 = .ok (.iadd, 1) := by decide +kernel
theorem dX9_homeOf_21 : decode cX9_homeOf 21 = .ok (.iaload, 1) := by decide +kernel
theorem dX9_homeOf_22 : decode cX9_homeOf 22 = .ok (.aload_n 0, 1) := by decide +kernel
theorem dX9_homeOf_23 : decode cX9_homeOf 23 = .ok (.getfield 39, 3) := by decide +kernel
theorem dX9_homeOf_26 : decode cX9_homeOf 26 = .ok (.iconst 2, 1) := by decide +kernel
theorem dX9_homeOf_27 : decode cX9_homeOf 27 = .ok (.iload_n 2, 1) := by decide +kernel
theorem dX9_homeOf_28 : decode cX9_homeOf 28 = .ok (.iadd, 1) := by decide +kernel
theorem dX9_homeOf_29 : decode cX9_homeOf 29 = .ok (.iaload, 1) := by decide +kernel
theorem dX9_homeOf_30 : decode cX9_homeOf 30 = .ok (.if_icmp .ne 9, 3) := by decide +kernel
theorem dX9_homeOf_33 : decode cX9_homeOf 33 = .ok (.iconst 1, 1) := by decide +kernel
theorem dX9_homeOf_34 : decode cX9_homeOf 34 = .ok (.iload_n 2, 1) := by decide +kernel
theorem dX9_homeOf_35 : decode cX9_homeOf 35 = .ok (.ishl, 1) := by decide +kernel
theorem dX9_homeOf_36 : decode cX9_homeOf 36 = .ok (.goto 4, 3) := by decide +kernel
theorem dX9_homeOf_39 : decode cX9_homeOf 39 = .ok (.iconst 0, 1) := by decide +kernel
theorem dX9_homeOf_40 : decode cX9_homeOf 40 = .ok (.ior, 1) := by decide +kernel
theorem dX9_homeOf_41 : decode cX9_homeOf 41 = .ok (.istore_n 1, 1) := by decide +kernel
theorem dX9_homeOf_42 : decode cX9_homeOf 42 = .ok (.iinc 2 1, 3) := by decide +kernel
theorem dX9_homeOf_45 : decode cX9_homeOf 45 = .ok (.goto (-41), 3) := by decide +kernel
theorem dX9_homeOf_48 : decode cX9_homeOf 48 = .ok (.iload_n 1, 1) := by decide +kernel
theorem dX9_homeOf_49 : decode cX9_homeOf 49 = .ok (.ireturn, 1) := by decide +kernel
theorem dX9_counted_0 : decode cX9_counted 0 = .ok (.iconst 0, 1) := by decide +kernel
theorem dX9_counted_1 : decode cX9_counted 1 = .ok (.istore_n 2, 1) := by decide +kernel
theorem dX9_counted_2 : decode cX9_counted 2 = .ok (.iconst 0, 1) := by decide +kernel
theorem dX9_counted_3 : decode cX9_counted 3 = .ok (.istore_n 3, 1) := by decide +kernel
theorem dX9_counted_4 : decode cX9_counted 4 = .ok (.iload_n 3, 1) := by decide +kernel
theorem dX9_counted_5 : decode cX9_counted 5 = .ok (.aload_n 0, 1) := by decide +kernel
theorem dX9_counted_6 : decode cX9_counted 6 = .ok (.getfield 154, 3) := by decide +kernel
theorem dX9_counted_9 : decode cX9_counted 9 = .ok (.if_icmp .ge 43, 3) := by decide +kernel
theorem dX9_counted_12 : decode cX9_counted 12 = .ok (.iload_n 2, 1) := by decide +kernel
theorem dX9_counted_13 : decode cX9_counted 13 = .ok (.iload_n 1, 1) := by decide +kernel
theorem dX9_counted_14 : decode cX9_counted 14 = .ok (.bipush 7, 2) := by decide +kernel
theorem dX9_counted_16 : decode cX9_counted 16 = .ok (.if_icmp .ne 27, 3) := by decide +kernel
theorem dX9_counted_19 : decode cX9_counted 19 = .ok (.aload_n 0, 1) := by decide +kernel
theorem dX9_counted_20 : decode cX9_counted 20 = .ok (.getfield 33, 3) := by decide +kernel
theorem dX9_counted_23 : decode cX9_counted 23 = .ok (.iload_n 3, 1) := by decide +kernel
theorem dX9_counted_24 : decode cX9_counted 24 = .ok (.iaload, 1) := by decide +kernel
theorem dX9_counted_25 : decode cX9_counted 25 = .ok (.iconst 3, 1) := by decide +kernel
theorem dX9_counted_26 : decode cX9_counted 26 = .ok (.if_icmp .eq 13, 3) := by decide +kernel
theorem dX9_counted_29 : decode cX9_counted 29 = .ok (.aload_n 0, 1) := by decide +kernel
theorem dX9_counted_30 : decode cX9_counted 30 = .ok (.getfield 33, 3) := by decide +kernel
theorem dX9_counted_33 : decode cX9_counted 33 = .ok (.iload_n 3, 1) := by decide +kernel
theorem dX9_counted_34 : decode cX9_counted 34 = .ok (.iaload, 1) := by decide +kernel
theorem dX9_counted_35 : decode cX9_counted 35 = .ok (.iconst 5, 1) := by decide +kernel
theorem dX9_counted_36 : decode cX9_counted 36 = .ok (.if_icmp .ne 7, 3) := by decide +kernel
theorem dX9_counted_39 : decode cX9_counted 39 = .ok (.iconst 1, 1) := by decide +kernel
theorem dX9_counted_40 : decode cX9_counted 40 = .ok (.goto 4, 3) := by decide +kernel
theorem dX9_counted_43 : decode cX9_counted 43 = .ok (.iconst 0, 1) := by decide +kernel
theorem dX9_counted_44 : decode cX9_counted 44 = .ok (.iadd, 1) := by decide +kernel
theorem dX9_counted_45 : decode cX9_counted 45 = .ok (.istore_n 2, 1) := by decide +kernel
theorem dX9_counted_46 : decode cX9_counted 46 = .ok (.iinc 3 1, 3) := by decide +kernel
theorem dX9_counted_49 : decode cX9_counted 49 = .ok (.goto (-45), 3) := by decide +kernel
theorem dX9_counted_52 : decode cX9_counted 52 = .ok (.iconst 0, 1) := by decide +kernel
theorem dX9_counted_53 : decode cX9_counted 53 = .ok (.istore_n 3, 1) := by decide +kernel
theorem dX9_counted_54 : decode cX9_counted 54 = .ok (.iload_n 3, 1) := by decide +kernel
theorem dX9_counted_55 : decode cX9_counted 55 = .ok (.bipush 6, 2) := by decide +kernel
theorem dX9_counted_57 : decode cX9_counted 57 = .ok (.if_icmp .ge 32, 3) := by decide +kernel
theorem dX9_counted_60 : decode cX9_counted 60 = .ok (.iload_n 2, 1) := by decide +kernel
theorem dX9_counted_61 : decode cX9_counted 61 = .ok (.iload_n 1, 1) := by decide +kernel
theorem dX9_counted_62 : decode cX9_counted 62 = .ok (.bipush 8, 2) := by decide +kernel
theorem dX9_counted_64 : decode cX9_counted 64 = .ok (.if_icmp .ne 16, 3) := by decide +kernel
theorem dX9_counted_67 : decode cX9_counted 67 = .ok (.aload_n 0, 1) := by decide +kernel
theorem dX9_counted_68 : decode cX9_counted 68 = .ok (.getfield 17, 3) := by decide +kernel
theorem dX9_counted_71 : decode cX9_counted 71 = .ok (.iload_n 3, 1) := by decide +kernel
theorem dX9_counted_72 : decode cX9_counted 72 = .ok (.iaload, 1) := by decide +kernel
theorem dX9_counted_73 : decode cX9_counted 73 = .ok (.ifCond .lt 7, 3) := by decide +kernel
theorem dX9_counted_76 : decode cX9_counted 76 = .ok (.iconst 1, 1) := by decide +kernel
theorem dX9_counted_77 : decode cX9_counted 77 = .ok (.goto 4, 3) := by decide +kernel
theorem dX9_counted_80 : decode cX9_counted 80 = .ok (.iconst 0, 1) := by decide +kernel
theorem dX9_counted_81 : decode cX9_counted 81 = .ok (.iadd, 1) := by decide +kernel
theorem dX9_counted_82 : decode cX9_counted 82 = .ok (.istore_n 2, 1) := by decide +kernel
theorem dX9_counted_83 : decode cX9_counted 83 = .ok (.iinc 3 1, 3) := by decide +kernel
theorem dX9_counted_86 : decode cX9_counted 86 = .ok (.goto (-32), 3) := by decide +kernel
theorem dX9_counted_89 : decode cX9_counted 89 = .ok (.iconst 0, 1) := by decide +kernel
theorem dX9_counted_90 : decode cX9_counted 90 = .ok (.istore_n 3, 1) := by decide +kernel
theorem dX9_counted_91 : decode cX9_counted 91 = .ok (.iload_n 3, 1) := by decide +kernel
theorem dX9_counted_92 : decode cX9_counted 92 = .ok (.iconst 4, 1) := by decide +kernel
theorem dX9_counted_93 : decode cX9_counted 93 = .ok (.if_icmp .ge 32, 3) := by decide +kernel
theorem dX9_counted_96 : decode cX9_counted 96 = .ok (.iload_n 2, 1) := by decide +kernel
theorem dX9_counted_97 : decode cX9_counted 97 = .ok (.iload_n 1, 1) := by decide +kernel
theorem dX9_counted_98 : decode cX9_counted 98 = .ok (.bipush 9, 2) := by decide +kernel
theorem dX9_counted_100 : decode cX9_counted 100 = .ok (.if_icmp .ne 16, 3) := by decide +kernel
theorem dX9_counted_103 : decode cX9_counted 103 = .ok (.aload_n 0, 1) := by decide +kernel
theorem dX9_counted_104 : decode cX9_counted 104 = .ok (.getfield 26, 3) := by decide +kernel
theorem dX9_counted_107 : decode cX9_counted 107 = .ok (.iload_n 3, 1) := by decide +kernel
theorem dX9_counted_108 : decode cX9_counted 108 = .ok (.iaload, 1) := by decide +kernel
theorem dX9_counted_109 : decode cX9_counted 109 = .ok (.ifCond .lt 7, 3) := by decide +kernel
theorem dX9_counted_112 : decode cX9_counted 112 = .ok (.iconst 1, 1) := by decide +kernel
theorem dX9_counted_113 : decode cX9_counted 113 = .ok (.goto 4, 3) := by decide +kernel
theorem dX9_counted_116 : decode cX9_counted 116 = .ok (.iconst 0, 1) := by decide +kernel
theorem dX9_counted_117 : decode cX9_counted 117 = .ok (.iadd, 1) := by decide +kernel
theorem dX9_counted_118 : decode cX9_counted 118 = .ok (.istore_n 2, 1) := by decide +kernel
theorem dX9_counted_119 : decode cX9_counted 119 = .ok (.iinc 3 1, 3) := by decide +kernel
theorem dX9_counted_122 : decode cX9_counted 122 = .ok (.goto (-31), 3) := by decide +kernel
theorem dX9_counted_125 : decode cX9_counted 125 = .ok (.iconst 0, 1) := by decide +kernel
theorem dX9_counted_126 : decode cX9_counted 126 = .ok (.istore_n 3, 1) := by decide +kernel
theorem dX9_counted_127 : decode cX9_counted 127 = .ok (.iload_n 3, 1) := by decide +kernel
theorem dX9_counted_128 : decode cX9_counted 128 = .ok (.iconst 3, 1) := by decide +kernel
theorem dX9_counted_129 : decode cX9_counted 129 = .ok (.if_icmp .ge 32, 3) := by decide +kernel
theorem dX9_counted_132 : decode cX9_counted 132 = .ok (.iload_n 2, 1) := by decide +kernel
theorem dX9_counted_133 : decode cX9_counted 133 = .ok (.iload_n 1, 1) := by decide +kernel
theorem dX9_counted_134 : decode cX9_counted 134 = .ok (.bipush 10, 2) := by decide +kernel
theorem dX9_counted_136 : decode cX9_counted 136 = .ok (.if_icmp .ne 16, 3) := by decide +kernel
theorem dX9_counted_139 : decode cX9_counted 139 = .ok (.aload_n 0, 1) := by decide +kernel
theorem dX9_counted_140 : decode cX9_counted 140 = .ok (.getfield 57, 3) := by decide +kernel
theorem dX9_counted_143 : decode cX9_counted 143 = .ok (.iload_n 3, 1) := by decide +kernel
theorem dX9_counted_144 : decode cX9_counted 144 = .ok (.baload, 1) := by decide +kernel
theorem dX9_counted_145 : decode cX9_counted 145 = .ok (.ifCond .eq 7, 3) := by decide +kernel
theorem dX9_counted_148 : decode cX9_counted 148 = .ok (.iconst 1, 1) := by decide +kernel
theorem dX9_counted_149 : decode cX9_counted 149 = .ok (.goto 4, 3) := by decide +kernel
theorem dX9_counted_152 : decode cX9_counted 152 = .ok (.iconst 0, 1) := by decide +kernel
theorem dX9_counted_153 : decode cX9_counted 153 = .ok (.iadd, 1) := by decide +kernel
theorem dX9_counted_154 : decode cX9_counted 154 = .ok (.istore_n 2, 1) := by decide +kernel
theorem dX9_counted_155 : decode cX9_counted 155 = .ok (.iinc 3 1, 3) := by decide +kernel
theorem dX9_counted_158 : decode cX9_counted 158 = .ok (.goto (-31), 3) := by decide +kernel
theorem dX9_counted_161 : decode cX9_counted 161 = .ok (.iload_n 1, 1) := by decide +kernel
theorem dX9_counted_162 : decode cX9_counted 162 = .ok (.tableswitch 85 0 6 #[42, 47, 54, 59, 66, 75, 80], 42) := by decide +kernel
theorem dX9_counted_204 : decode cX9_counted 204 = .ok (.aload_n 0, 1) := by decide +kernel
theorem dX9_counted_205 : decode cX9_counted 205 = .ok (.getfield 154, 3) := by decide +kernel
theorem dX9_counted_208 : decode cX9_counted 208 = .ok (.ireturn, 1) := by decide +kernel
theorem dX9_counted_209 : decode cX9_counted 209 = .ok (.aload_n 0, 1) := by decide +kernel
theorem dX9_counted_210 : decode cX9_counted 210 = .ok (.getfield 39, 3) := by decide +kernel
theorem dX9_counted_213 : decode cX9_counted 213 = .ok (.iconst 0, 1) := by decide +kernel
theorem dX9_counted_214 : decode cX9_counted 214 = .ok (.iaload, 1) := by decide +kernel
theorem dX9_counted_215 : decode cX9_counted 215 = .ok (.ireturn, 1) := by decide +kernel
theorem dX9_counted_216 : decode cX9_counted 216 = .ok (.aload_n 0, 1) := by decide +kernel
theorem dX9_counted_217 : decode cX9_counted 217 = .ok (.getfield 157, 3) := by decide +kernel
theorem dX9_counted_220 : decode cX9_counted 220 = .ok (.ireturn, 1) := by decide +kernel
theorem dX9_counted_221 : decode cX9_counted 221 = .ok (.aload_n 0, 1) := by decide +kernel
theorem dX9_counted_222 : decode cX9_counted 222 = .ok (.getfield 39, 3) := by decide +kernel
theorem dX9_counted_225 : decode cX9_counted 225 = .ok (.iconst 1, 1) := by decide +kernel
theorem dX9_counted_226 : decode cX9_counted 226 = .ok (.iaload, 1) := by decide +kernel
theorem dX9_counted_227 : decode cX9_counted 227 = .ok (.ireturn, 1) := by decide +kernel
theorem dX9_counted_228 : decode cX9_counted 228 = .ok (.aload_n 0, 1) := by decide +kernel
theorem dX9_counted_229 : decode cX9_counted 229 = .ok (.aload_n 0, 1) := by decide +kernel
theorem dX9_counted_230 : decode cX9_counted 230 = .ok (.getfield 39, 3) := by decide +kernel
theorem dX9_counted_233 : decode cX9_counted 233 = .ok (.invokevirtual 217, 3) := by decide +kernel
theorem dX9_counted_236 : decode cX9_counted 236 = .ok (.ireturn, 1) := by decide +kernel
theorem dX9_counted_237 : decode cX9_counted 237 = .ok (.aload_n 0, 1) := by decide +kernel
theorem dX9_counted_238 : decode cX9_counted 238 = .ok (.invokevirtual 293, 3) := by decide +kernel
theorem dX9_counted_241 : decode cX9_counted 241 = .ok (.ireturn, 1) := by decide +kernel
theorem dX9_counted_242 : decode cX9_counted 242 = .ok (.aload_n 0, 1) := by decide +kernel
theorem dX9_counted_243 : decode cX9_counted 243 = .ok (.invokevirtual 296, 3) := by decide +kernel
theorem dX9_counted_246 : decode cX9_counted 246 = .ok (.ireturn, 1) := by decide +kernel
theorem dX9_counted_247 : decode cX9_counted 247 = .ok (.iload_n 2, 1) := by decide +kernel
theorem dX9_counted_248 : decode cX9_counted 248 = .ok (.ireturn, 1) := by decide +kernel
theorem dX9_count_0 : decode cX9_count 0 = .ok (.iload_n 1, 1) := by decide +kernel
theorem dX9_count_1 : decode cX9_count 1 = .ok (.iconst 0, 1) := by decide +kernel
theorem dX9_count_2 : decode cX9_count 2 = .ok (.bipush 10, 2) := by decide +kernel
theorem dX9_count_4 : decode cX9_count 4 = .ok (.invokestatic 92, 3) := by decide +kernel
theorem dX9_count_7 : decode cX9_count 7 = .ok (.ifCond .eq 11, 3) := by decide +kernel
theorem dX9_count_10 : decode cX9_count 10 = .ok (.aload_n 0, 1) := by decide +kernel
theorem dX9_count_11 : decode cX9_count 11 = .ok (.iload_n 1, 1) := by decide +kernel
theorem dX9_count_12 : decode cX9_count 12 = .ok (.invokevirtual 299, 3) := by decide +kernel
theorem dX9_count_15 : decode cX9_count 15 = .ok (.goto 4, 3) := by decide +kernel
theorem dX9_count_18 : decode cX9_count 18 = .ok (.iconst (-1), 1) := by decide +kernel
theorem dX9_count_19 : decode cX9_count 19 = .ok (.ireturn, 1) := by decide +kernel
theorem dX9_mix_0 : decode cX9_mix 0 = .ok (.aload_n 0, 1) := by decide +kernel
theorem dX9_mix_1 : decode cX9_mix 1 = .ok (.ldc2_w 302, 3) := by decide +kernel
theorem dX9_mix_4 : decode cX9_mix 4 = .ok (.aload_n 0, 1) := by decide +kernel
theorem dX9_mix_5 : decode cX9_mix 5 = .ok (.getfield 304, 3) := by decide +kernel
theorem dX9_mix_8 : decode cX9_mix 8 = .ok (.lmul, 1) := by decide +kernel
theorem dX9_mix_9 : decode cX9_mix 9 = .ok (.lload_n 1, 1) := by decide +kernel
theorem dX9_mix_10 : decode cX9_mix 10 = .ok (.ladd, 1) := by decide +kernel
theorem dX9_mix_11 : decode cX9_mix 11 = .ok (.putfield 304, 3) := by decide +kernel
theorem dX9_mix_14 : decode cX9_mix 14 = .ok (.return_, 1) := by decide +kernel
theorem dX9_mixFront_0 : decode cX9_mixFront 0 = .ok (.iconst 0, 1) := by decide +kernel
theorem dX9_mixFront_1 : decode cX9_mixFront 1 = .ok (.istore_n 1, 1) := by decide +kernel
theorem dX9_mixFront_2 : decode cX9_mixFront 2 = .ok (.iload_n 1, 1) := by decide +kernel
theorem dX9_mixFront_3 : decode cX9_mixFront 3 = .ok (.aload_n 0, 1) := by decide +kernel
theorem dX9_mixFront_4 : decode cX9_mixFront 4 = .ok (.getfield 154, 3) := by decide +kernel
theorem dX9_mixFront_7 : decode cX9_mixFront 7 = .ok (.if_icmp .ge 34, 3) := by decide +kernel
theorem dX9_mixFront_10 : decode cX9_mixFront 10 = .ok (.iconst 0, 1) := by decide +kernel
theorem dX9_mixFront_11 : decode cX9_mixFront 11 = .ok (.istore_n 2, 1) := by decide +kernel
theorem dX9_mixFront_12 : decode cX9_mixFront 12 = .ok (.iload_n 2, 1) := by decide +kernel
theorem dX9_mixFront_13 : decode cX9_mixFront 13 = .ok (.bipush 7, 2) := by decide +kernel
theorem dX9_mixFront_15 : decode cX9_mixFront 15 = .ok (.if_icmp .ge 20, 3) := by decide +kernel
theorem dX9_mixFront_18 : decode cX9_mixFront 18 = .ok (.aload_n 0, 1) := by decide +kernel
theorem dX9_mixFront_19 : decode cX9_mixFront 19 = .ok (.aload_n 0, 1) := by decide +kernel
theorem dX9_mixFront_20 : decode cX9_mixFront 20 = .ok (.iload_n 1, 1) := by decide +kernel
theorem dX9_mixFront_21 : decode cX9_mixFront 21 = .ok (.iload_n 2, 1) := by decide +kernel
theorem dX9_mixFront_22 : decode cX9_mixFront 22 = .ok (.invokevirtual 201, 3) := by decide +kernel
theorem dX9_mixFront_25 : decode cX9_mixFront 25 = .ok (.i2l, 1) := by decide +kernel
theorem dX9_mixFront_26 : decode cX9_mixFront 26 = .ok (.invokevirtual 307, 3) := by decide +kernel
theorem dX9_mixFront_29 : decode cX9_mixFront 29 = .ok (.iinc 2 1, 3) := by decide +kernel
theorem dX9_mixFront_32 : decode cX9_mixFront 32 = .ok (.goto (-20), 3) := by decide +kernel
theorem dX9_mixFront_35 : decode cX9_mixFront 35 = .ok (.iinc 1 1, 3) := by decide +kernel
theorem dX9_mixFront_38 : decode cX9_mixFront 38 = .ok (.goto (-36), 3) := by decide +kernel
theorem dX9_mixFront_41 : decode cX9_mixFront 41 = .ok (.iconst 0, 1) := by decide +kernel
theorem dX9_mixFront_42 : decode cX9_mixFront 42 = .ok (.istore_n 1, 1) := by decide +kernel
theorem dX9_mixFront_43 : decode cX9_mixFront 43 = .ok (.iload_n 1, 1) := by decide +kernel
theorem dX9_mixFront_44 : decode cX9_mixFront 44 = .ok (.iconst 3, 1) := by decide +kernel
theorem dX9_mixFront_45 : decode cX9_mixFront 45 = .ok (.if_icmp .ge 35, 3) := by decide +kernel
theorem dX9_mixFront_48 : decode cX9_mixFront 48 = .ok (.aload_n 0, 1) := by decide +kernel
theorem dX9_mixFront_49 : decode cX9_mixFront 49 = .ok (.aload_n 0, 1) := by decide +kernel
theorem dX9_mixFront_50 : decode cX9_mixFront 50 = .ok (.getfield 57, 3) := by decide +kernel
theorem dX9_mixFront_53 : decode cX9_mixFront 53 = .ok (.iload_n 1, 1) := by decide +kernel
theorem dX9_mixFront_54 : decode cX9_mixFront 54 = .ok (.baload, 1) := by decide +kernel
theorem dX9_mixFront_55 : decode cX9_mixFront 55 = .ok (.ifCond .eq 13, 3) := by decide +kernel
theorem dX9_mixFront_58 : decode cX9_mixFront 58 = .ok (.aload_n 0, 1) := by decide +kernel
theorem dX9_mixFront_59 : decode cX9_mixFront 59 = .ok (.getfield 61, 3) := by decide +kernel
theorem dX9_mixFront_62 : decode cX9_mixFront 62 = .ok (.iload_n 1, 1) := by decide +kernel
theorem dX9_mixFront_63 : decode cX9_mixFront 63 = .ok (.iaload, 1) := by decide +kernel
theorem dX9_mixFront_64 : decode cX9_mixFront 64 = .ok (.i2l, 1) := by decide +kernel
theorem dX9_mixFront_65 : decode cX9_mixFront 65 = .ok (.goto 6, 3) := by decide +kernel
theorem dX9_mixFront_68 : decode cX9_mixFront 68 = .ok (.ldc2_w 311, 3) := by decide +kernel
theorem dX9_mixFront_71 : decode cX9_mixFront 71 = .ok (.invokevirtual 307, 3) := by decide +kernel
theorem dX9_mixFront_74 : decode cX9_mixFront 74 = .ok (.iinc 1 1, 3) := by decide +kernel
theorem dX9_mixFront_77 : decode cX9_mixFront 77 = .ok (.goto (-34), 3) := by decide +kernel
theorem dX9_mixFront_80 : decode cX9_mixFront 80 = .ok (.return_, 1) := by decide +kernel
theorem dX9_digest_0 : decode cX9_digest 0 = .ok (.aload_n 0, 1) := by decide +kernel
theorem dX9_digest_1 : decode cX9_digest 1 = .ok (.ldc2_w 313, 3) := by decide +kernel
theorem dX9_digest_4 : decode cX9_digest 4 = .ok (.putfield 304, 3) := by decide +kernel
theorem dX9_digest_7 : decode cX9_digest 7 = .ok (.iconst 0, 1) := by decide +kernel
theorem dX9_digest_8 : decode cX9_digest 8 = .ok (.istore_n 1, 1) := by decide +kernel
theorem dX9_digest_9 : decode cX9_digest 9 = .ok (.iload_n 1, 1) := by decide +kernel
theorem dX9_digest_10 : decode cX9_digest 10 = .ok (.bipush 11, 2) := by decide +kernel
theorem dX9_digest_12 : decode cX9_digest 12 = .ok (.if_icmp .ge 19, 3) := by decide +kernel
theorem dX9_digest_15 : decode cX9_digest 15 = .ok (.aload_n 0, 1) := by decide +kernel
theorem dX9_digest_16 : decode cX9_digest 16 = .ok (.aload_n 0, 1) := by decide +kernel
theorem dX9_digest_17 : decode cX9_digest 17 = .ok (.iload_n 1, 1) := by decide +kernel
theorem dX9_digest_18 : decode cX9_digest 18 = .ok (.invokevirtual 299, 3) := by decide +kernel
theorem dX9_digest_21 : decode cX9_digest 21 = .ok (.i2l, 1) := by decide +kernel
theorem dX9_digest_22 : decode cX9_digest 22 = .ok (.invokevirtual 307, 3) := by decide +kernel
theorem dX9_digest_25 : decode cX9_digest 25 = .ok (.iinc 1 1, 3) := by decide +kernel
theorem dX9_digest_28 : decode cX9_digest 28 = .ok (.goto (-19), 3) := by decide +kernel
theorem dX9_digest_31 : decode cX9_digest 31 = .ok (.aload_n 0, 1) := by decide +kernel
theorem dX9_digest_32 : decode cX9_digest 32 = .ok (.invokevirtual 315, 3) := by decide +kernel
theorem dX9_digest_35 : decode cX9_digest 35 = .ok (.iconst 0, 1) := by decide +kernel
theorem dX9_digest_36 : decode cX9_digest 36 = .ok (.istore_n 1, 1) := by decide +kernel
theorem dX9_digest_37 : decode cX9_digest 37 = .ok (.iload_n 1, 1) := by decide +kernel
theorem dX9_digest_38 : decode cX9_digest 38 = .ok (.bipush 6, 2) := by decide +kernel
theorem dX9_digest_40 : decode cX9_digest 40 = .ok (.if_icmp .ge 49, 3) := by decide +kernel
theorem dX9_digest_43 : decode cX9_digest 43 = .ok (.aload_n 0, 1) := by decide +kernel
theorem dX9_digest_44 : decode cX9_digest 44 = .ok (.aload_n 0, 1) := by decide +kernel
theorem dX9_digest_45 : decode cX9_digest 45 = .ok (.getfield 17, 3) := by decide +kernel
theorem dX9_digest_48 : decode cX9_digest 48 = .ok (.iload_n 1, 1) := by decide +kernel
theorem dX9_digest_49 : decode cX9_digest 49 = .ok (.iaload, 1) := by decide +kernel
theorem dX9_digest_50 : decode cX9_digest 50 = .ok (.i2l, 1) := by decide +kernel
theorem dX9_digest_51 : decode cX9_digest 51 = .ok (.invokevirtual 307, 3) := by decide +kernel
theorem dX9_digest_54 : decode cX9_digest 54 = .ok (.iconst 0, 1) := by decide +kernel
theorem dX9_digest_55 : decode cX9_digest 55 = .ok (.istore_n 2, 1) := by decide +kernel
theorem dX9_digest_56 : decode cX9_digest 56 = .ok (.iload_n 2, 1) := by decide +kernel
theorem dX9_digest_57 : decode cX9_digest 57 = .ok (.aload_n 0, 1) := by decide +kernel
theorem dX9_digest_58 : decode cX9_digest 58 = .ok (.getfield 17, 3) := by decide +kernel
theorem dX9_digest_61 : decode cX9_digest 61 = .ok (.iload_n 1, 1) := by decide +kernel
theorem dX9_digest_62 : decode cX9_digest 62 = .ok (.iaload, 1) := by decide +kernel
theorem dX9_digest_63 : decode cX9_digest 63 = .ok (.if_icmp .ge 20, 3) := by decide +kernel
theorem dX9_digest_66 : decode cX9_digest 66 = .ok (.aload_n 0, 1) := by decide +kernel
theorem dX9_digest_67 : decode cX9_digest 67 = .ok (.aload_n 0, 1) := by decide +kernel
theorem dX9_digest_68 : decode cX9_digest 68 = .ok (.iload_n 1, 1) := by decide +kernel
theorem dX9_digest_69 : decode cX9_digest 69 = .ok (.iload_n 2, 1) := by decide +kernel
theorem dX9_digest_70 : decode cX9_digest 70 = .ok (.invokevirtual 110, 3) := by decide +kernel
theorem dX9_digest_73 : decode cX9_digest 73 = .ok (.i2l, 1) := by decide +kernel
theorem dX9_digest_74 : decode cX9_digest 74 = .ok (.invokevirtual 307, 3) := by decide +kernel
theorem dX9_digest_77 : decode cX9_digest 77 = .ok (.iinc 2 1, 3) := by decide +kernel
theorem dX9_digest_80 : decode cX9_digest 80 = .ok (.goto (-24), 3) := by decide +kernel
theorem dX9_digest_83 : decode cX9_digest 83 = .ok (.iinc 1 1, 3) := by decide +kernel
theorem dX9_digest_86 : decode cX9_digest 86 = .ok (.goto (-49), 3) := by decide +kernel
theorem dX9_digest_89 : decode cX9_digest 89 = .ok (.iconst 0, 1) := by decide +kernel
theorem dX9_digest_90 : decode cX9_digest 90 = .ok (.istore_n 1, 1) := by decide +kernel
theorem dX9_digest_91 : decode cX9_digest 91 = .ok (.iload_n 1, 1) := by decide +kernel
theorem dX9_digest_92 : decode cX9_digest 92 = .ok (.iconst 4, 1) := by decide +kernel
theorem dX9_digest_93 : decode cX9_digest 93 = .ok (.if_icmp .ge 49, 3) := by decide +kernel
theorem dX9_digest_96 : decode cX9_digest 96 = .ok (.aload_n 0, 1) := by decide +kernel
theorem dX9_digest_97 : decode cX9_digest 97 = .ok (.aload_n 0, 1) := by decide +kernel
theorem dX9_digest_98 : decode cX9_digest 98 = .ok (.getfield 26, 3) := by decide +kernel
theorem dX9_digest_101 : decode cX9_digest 101 = .ok (.iload_n 1, 1) := by decide +kernel
theorem dX9_digest_102 : decode cX9_digest 102 = .ok (.iaload, 1) := by decide +kernel
theorem dX9_digest_103 : decode cX9_digest 103 = .ok (.i2l, 1) := by decide +kernel
theorem dX9_digest_104 : decode cX9_digest 104 = .ok (.invokevirtual 307, 3) := by decide +kernel
theorem dX9_digest_107 : decode cX9_digest 107 = .ok (.iconst 0, 1) := by decide +kernel
theorem dX9_digest_108 : decode cX9_digest 108 = .ok (.istore_n 2, 1) := by decide +kernel
theorem dX9_digest_109 : decode cX9_digest 109 = .ok (.iload_n 2, 1) := by decide +kernel
theorem dX9_digest_110 : decode cX9_digest 110 = .ok (.aload_n 0, 1) := by decide +kernel
theorem dX9_digest_111 : decode cX9_digest 111 = .ok (.getfield 26, 3) := by decide +kernel
theorem dX9_digest_114 : decode cX9_digest 114 = .ok (.iload_n 1, 1) := by decide +kernel
theorem dX9_digest_115 : decode cX9_digest 115 = .ok (.iaload, 1) := by decide +kernel
theorem dX9_digest_116 : decode cX9_digest 116 = .ok (.if_icmp .ge 20, 3) := by decide +kernel
theorem dX9_digest_119 : decode cX9_digest 119 = .ok (.aload_n 0, 1) := by decide +kernel
theorem dX9_digest_120 : decode cX9_digest 120 = .ok (.aload_n 0, 1) := by decide +kernel
theorem dX9_digest_121 : decode cX9_digest 121 = .ok (.iload_n 1, 1) := by decide +kernel
theorem dX9_digest_122 : decode cX9_digest 122 = .ok (.iload_n 2, 1) := by decide +kernel
theorem dX9_digest_123 : decode cX9_digest 123 = .ok (.invokevirtual 123, 3) := by decide +kernel
theorem dX9_digest_126 : decode cX9_digest 126 = .ok (.i2l, 1) := by decide +kernel
theorem dX9_digest_127 : decode cX9_digest 127 = .ok (.invokevirtual 307, 3) := by decide +kernel
theorem dX9_digest_130 : decode cX9_digest 130 = .ok (.iinc 2 1, 3) := by decide +kernel
theorem dX9_digest_133 : decode cX9_digest 133 = .ok (.goto (-24), 3) := by decide +kernel
theorem dX9_digest_136 : decode cX9_digest 136 = .ok (.iinc 1 1, 3) := by decide +kernel
theorem dX9_digest_139 : decode cX9_digest 139 = .ok (.goto (-48), 3) := by decide +kernel
theorem dX9_digest_142 : decode cX9_digest 142 = .ok (.aload_n 0, 1) := by decide +kernel
theorem dX9_digest_143 : decode cX9_digest 143 = .ok (.getfield 304, 3) := by decide +kernel
theorem dX9_digest_146 : decode cX9_digest 146 = .ok (.lreturn, 1) := by decide +kernel
theorem dJ6_bitCount_0f7a4_0 : decode cJ6_bitCount_0f7a4 0 = .ok (.iload_n 0, 1) := by decide +kernel
theorem dJ6_bitCount_0f7a4_1 : decode cJ6_bitCount_0f7a4 1 = .ok (.iload_n 0, 1) := by decide +kernel
theorem dJ6_bitCount_0f7a4_2 : decode cJ6_bitCount_0f7a4 2 = .ok (.iconst 1, 1) := by decide +kernel
theorem dJ6_bitCount_0f7a4_3 : decode cJ6_bitCount_0f7a4 3 = .ok (.iushr, 1) := by decide +kernel
theorem dJ6_bitCount_0f7a4_4 : decode cJ6_bitCount_0f7a4 4 = .ok (.ldc_w 265, 3) := by decide +kernel
theorem dJ6_bitCount_0f7a4_7 : decode cJ6_bitCount_0f7a4 7 = .ok (.iand, 1) := by decide +kernel
theorem dJ6_bitCount_0f7a4_8 : decode cJ6_bitCount_0f7a4 8 = .ok (.isub, 1) := by decide +kernel
theorem dJ6_bitCount_0f7a4_9 : decode cJ6_bitCount_0f7a4 9 = .ok (.istore_n 0, 1) := by decide +kernel
theorem dJ6_bitCount_0f7a4_10 : decode cJ6_bitCount_0f7a4 10 = .ok (.iload_n 0, 1) := by decide +kernel
theorem dJ6_bitCount_0f7a4_11 : decode cJ6_bitCount_0f7a4 11 = .ok (.ldc_w 266, 3) := by decide +kernel
theorem dJ6_bitCount_0f7a4_14 : decode cJ6_bitCount_0f7a4 14 = .ok (.iand, 1) := by decide +kernel
theorem dJ6_bitCount_0f7a4_15 : decode cJ6_bitCount_0f7a4 15 = .ok (.iload_n 0, 1) := by decide +kernel
theorem dJ6_bitCount_0f7a4_16 : decode cJ6_bitCount_0f7a4 16 = .ok (.iconst 2, 1) := by decide +kernel
theorem dJ6_bitCount_0f7a4_17 : decode cJ6_bitCount_0f7a4 17 = .ok (.iushr, 1) := by decide +kernel
theorem dJ6_bitCount_0f7a4_18 : decode cJ6_bitCount_0f7a4 18 = .ok (.ldc_w 266, 3) := by decide +kernel
theorem dJ6_bitCount_0f7a4_21 : decode cJ6_bitCount_0f7a4 21 = .ok (.iand, 1) := by decide +kernel
theorem dJ6_bitCount_0f7a4_22 : decode cJ6_bitCount_0f7a4 22 = .ok (.iadd, 1) := by decide +kernel
theorem dJ6_bitCount_0f7a4_23 : decode cJ6_bitCount_0f7a4 23 = .ok (.istore_n 0, 1) := by decide +kernel
theorem dJ6_bitCount_0f7a4_24 : decode cJ6_bitCount_0f7a4 24 = .ok (.iload_n 0, 1) := by decide +kernel
theorem dJ6_bitCount_0f7a4_25 : decode cJ6_bitCount_0f7a4 25 = .ok (.iload_n 0, 1) := by decide +kernel
theorem dJ6_bitCount_0f7a4_26 : decode cJ6_bitCount_0f7a4 26 = .ok (.iconst 4, 1) := by decide +kernel
theorem dJ6_bitCount_0f7a4_27 : decode cJ6_bitCount_0f7a4 27 = .ok (.iushr, 1) := by decide +kernel
theorem dJ6_bitCount_0f7a4_28 : decode cJ6_bitCount_0f7a4 28 = .ok (.iadd, 1) := by decide +kernel
theorem dJ6_bitCount_0f7a4_29 : decode cJ6_bitCount_0f7a4 29 = .ok (.ldc_w 267, 3) := by decide +kernel
theorem dJ6_bitCount_0f7a4_32 : decode cJ6_bitCount_0f7a4 32 = .ok (.iand, 1) := by decide +kernel
theorem dJ6_bitCount_0f7a4_33 : decode cJ6_bitCount_0f7a4 33 = .ok (.istore_n 0, 1) := by decide +kernel
theorem dJ6_bitCount_0f7a4_34 : decode cJ6_bitCount_0f7a4 34 = .ok (.iload_n 0, 1) := by decide +kernel
theorem dJ6_bitCount_0f7a4_35 : decode cJ6_bitCount_0f7a4 35 = .ok (.iload_n 0, 1) := by decide +kernel
theorem dJ6_bitCount_0f7a4_36 : decode cJ6_bitCount_0f7a4 36 = .ok (.bipush 8, 2) := by decide +kernel
theorem dJ6_bitCount_0f7a4_38 : decode cJ6_bitCount_0f7a4 38 = .ok (.iushr, 1) := by decide +kernel
theorem dJ6_bitCount_0f7a4_39 : decode cJ6_bitCount_0f7a4 39 = .ok (.iadd, 1) := by decide +kernel
theorem dJ6_bitCount_0f7a4_40 : decode cJ6_bitCount_0f7a4 40 = .ok (.istore_n 0, 1) := by decide +kernel
theorem dJ6_bitCount_0f7a4_41 : decode cJ6_bitCount_0f7a4 41 = .ok (.iload_n 0, 1) := by decide +kernel
theorem dJ6_bitCount_0f7a4_42 : decode cJ6_bitCount_0f7a4 42 = .ok (.iload_n 0, 1) := by decide +kernel
theorem dJ6_bitCount_0f7a4_43 : decode cJ6_bitCount_0f7a4 43 = .ok (.bipush 16, 2) := by decide +kernel
theorem dJ6_bitCount_0f7a4_45 : decode cJ6_bitCount_0f7a4 45 = .ok (.iushr, 1) := by decide +kernel
theorem dJ6_bitCount_0f7a4_46 : decode cJ6_bitCount_0f7a4 46 = .ok (.iadd, 1) := by decide +kernel
theorem dJ6_bitCount_0f7a4_47 : decode cJ6_bitCount_0f7a4 47 = .ok (.istore_n 0, 1) := by decide +kernel
theorem dJ6_bitCount_0f7a4_48 : decode cJ6_bitCount_0f7a4 48 = .ok (.iload_n 0, 1) := by decide +kernel
theorem dJ6_bitCount_0f7a4_49 : decode cJ6_bitCount_0f7a4 49 = .ok (.bipush 63, 2) := by decide +kernel
theorem dJ6_bitCount_0f7a4_51 : decode cJ6_bitCount_0f7a4 51 = .ok (.iand, 1) := by decide +kernel
theorem dJ6_bitCount_0f7a4_52 : decode cJ6_bitCount_0f7a4 52 = .ok (.ireturn, 1) := by decide +kernel
theorem dJ9_floorMod_7cf53_0 : decode cJ9_floorMod_7cf53 0 = .ok (.iload_n 0, 1) := by decide +kernel
theorem dJ9_floorMod_7cf53_1 : decode cJ9_floorMod_7cf53 1 = .ok (.iload_n 1, 1) := by decide +kernel
theorem dJ9_floorMod_7cf53_2 : decode cJ9_floorMod_7cf53 2 = .ok (.irem, 1) := by decide +kernel
theorem dJ9_floorMod_7cf53_3 : decode cJ9_floorMod_7cf53 3 = .ok (.istore_n 2, 1) := by decide +kernel
theorem dJ9_floorMod_7cf53_4 : decode cJ9_floorMod_7cf53 4 = .ok (.iload_n 0, 1) := by decide +kernel
theorem dJ9_floorMod_7cf53_5 : decode cJ9_floorMod_7cf53 5 = .ok (.iload_n 1, 1) := by decide +kernel
theorem dJ9_floorMod_7cf53_6 : decode cJ9_floorMod_7cf53 6 = .ok (.ixor, 1) := by decide +kernel
theorem dJ9_floorMod_7cf53_7 : decode cJ9_floorMod_7cf53 7 = .ok (.ifCond .ge 11, 3) := by decide +kernel
theorem dJ9_floorMod_7cf53_10 : decode cJ9_floorMod_7cf53 10 = .ok (.iload_n 2, 1) := by decide +kernel
theorem dJ9_floorMod_7cf53_11 : decode cJ9_floorMod_7cf53 11 = .ok (.ifCond .eq 7, 3) := by decide +kernel
theorem dJ9_floorMod_7cf53_14 : decode cJ9_floorMod_7cf53 14 = .ok (.iload_n 2, 1) := by decide +kernel
theorem dJ9_floorMod_7cf53_15 : decode cJ9_floorMod_7cf53 15 = .ok (.iload_n 1, 1) := by decide +kernel
theorem dJ9_floorMod_7cf53_16 : decode cJ9_floorMod_7cf53 16 = .ok (.iadd, 1) := by decide +kernel
theorem dJ9_floorMod_7cf53_17 : decode cJ9_floorMod_7cf53 17 = .ok (.ireturn, 1) := by decide +kernel
theorem dJ9_floorMod_7cf53_18 : decode cJ9_floorMod_7cf53 18 = .ok (.iload_n 2, 1) := by decide +kernel
theorem dJ9_floorMod_7cf53_19 : decode cJ9_floorMod_7cf53 19 = .ok (.ireturn, 1) := by decide +kernel
theorem dJ9_abs_0f7a4_0 : decode cJ9_abs_0f7a4 0 = .ok (.iload_n 0, 1) := by decide +kernel
theorem dJ9_abs_0f7a4_1 : decode cJ9_abs_0f7a4 1 = .ok (.ifCond .ge 8, 3) := by decide +kernel
theorem dJ9_abs_0f7a4_4 : decode cJ9_abs_0f7a4 4 = .ok (.iload_n 0, 1) := by decide +kernel
theorem dJ9_abs_0f7a4_5 : decode cJ9_abs_0f7a4 5 = .ok (.ineg, 1) := by decide +kernel
theorem dJ9_abs_0f7a4_6 : decode cJ9_abs_0f7a4 6 = .ok (.goto 4, 3) := by decide +kernel
theorem dJ9_abs_0f7a4_9 : decode cJ9_abs_0f7a4 9 = .ok (.iload_n 0, 1) := by decide +kernel
theorem dJ9_abs_0f7a4_10 : decode cJ9_abs_0f7a4 10 = .ok (.ireturn, 1) := by decide +kernel
theorem dJ9_max_7cf53_0 : decode cJ9_max_7cf53 0 = .ok (.iload_n 0, 1) := by decide +kernel
theorem dJ9_max_7cf53_1 : decode cJ9_max_7cf53 1 = .ok (.iload_n 1, 1) := by decide +kernel
theorem dJ9_max_7cf53_2 : decode cJ9_max_7cf53 2 = .ok (.if_icmp .lt 7, 3) := by decide +kernel
theorem dJ9_max_7cf53_5 : decode cJ9_max_7cf53 5 = .ok (.iload_n 0, 1) := by decide +kernel
theorem dJ9_max_7cf53_6 : decode cJ9_max_7cf53 6 = .ok (.goto 4, 3) := by decide +kernel
theorem dJ9_max_7cf53_9 : decode cJ9_max_7cf53 9 = .ok (.iload_n 1, 1) := by decide +kernel
theorem dJ9_max_7cf53_10 : decode cJ9_max_7cf53 10 = .ok (.ireturn, 1) := by decide +kernel
theorem dJ9_min_7cf53_0 : decode cJ9_min_7cf53 0 = .ok (.iload_n 0, 1) := by decide +kernel
theorem dJ9_min_7cf53_1 : decode cJ9_min_7cf53 1 = .ok (.iload_n 1, 1) := by decide +kernel
theorem dJ9_min_7cf53_2 : decode cJ9_min_7cf53 2 = .ok (.if_icmp .gt 7, 3) := by decide +kernel
theorem dJ9_min_7cf53_5 : decode cJ9_min_7cf53 5 = .ok (.iload_n 0, 1) := by decide +kernel
theorem dJ9_min_7cf53_6 : decode cJ9_min_7cf53 6 = .ok (.goto 4, 3) := by decide +kernel
theorem dJ9_min_7cf53_9 : decode cJ9_min_7cf53 9 = .ok (.iload_n 1, 1) := by decide +kernel
theorem dJ9_min_7cf53_10 : decode cJ9_min_7cf53 10 = .ok (.ireturn, 1) := by decide +kernel
theorem dL_law_0 : decode cL_law 0 = .ok (.new 7, 3) := by decide +kernel
theorem dL_law_3 : decode cL_law 3 = .ok (.dup, 1) := by decide +kernel
theorem dL_law_4 : decode cL_law 4 = .ok (.invokespecial 9, 3) := by decide +kernel
theorem dL_law_7 : decode cL_law 7 = .ok (.astore_n 1, 1) := by decide +kernel
theorem dL_law_8 : decode cL_law 8 = .ok (.new 10, 3) := by decide +kernel
theorem dL_law_11 : decode cL_law 11 = .ok (.dup, 1) := by decide +kernel
theorem dL_law_12 : decode cL_law 12 = .ok (.invokespecial 12, 3) := by decide +kernel
theorem dL_law_15 : decode cL_law 15 = .ok (.astore_n 2, 1) := by decide +kernel
theorem dL_law_16 : decode cL_law 16 = .ok (.iconst 0, 1) := by decide +kernel
theorem dL_law_17 : decode cL_law 17 = .ok (.istore_n 3, 1) := by decide +kernel
theorem dL_law_18 : decode cL_law 18 = .ok (.iload_n 3, 1) := by decide +kernel
theorem dL_law_19 : decode cL_law 19 = .ok (.aload_n 0, 1) := by decide +kernel
theorem dL_law_20 : decode cL_law 20 = .ok (.arraylength, 1) := by decide +kernel
theorem dL_law_21 : decode cL_law 21 = .ok (.bipush 6, 2) := by decide +kernel
theorem dL_law_23 : decode cL_law 23 = .ok (.isub, 1) := by decide +kernel
theorem dL_law_24 : decode cL_law 24 = .ok (.if_icmp .gt 1293, 3) := by decide +kernel
theorem dL_law_27 : decode cL_law 27 = .ok (.aload_n 0, 1) := by decide +kernel
theorem dL_law_28 : decode cL_law 28 = .ok (.iload_n 3, 1) := by decide +kernel
theorem dL_law_29 : decode cL_law 29 = .ok (.iaload, 1) := by decide +kernel
theorem dL_law_30 : decode cL_law 30 = .ok (.bipush 63, 2) := by decide +kernel
theorem dL_law_32 : decode cL_law 32 = .ok (.iand, 1) := by decide +kernel
theorem dL_law_33 : decode cL_law 33 = .ok (.tableswitch 1278 0 39 #[175, 208, 251, 284, 307, 370, 393, 426, 469, 492, 515, 548, 581, 614, 627, 650, 683, 706, 729, 752, 775, 808, 831, 854, 887, 920, 943, 976, 1009, 1052, 1075, 1108, 1131, 1164, 1177, 1191, 1205, 1228, 1241, 1264], 175) := by decide +kernel
theorem dL_law_208 : decode cL_law 208 = .ok (.aload_n 1, 1) := by decide +kernel
theorem dL_law_209 : decode cL_law 209 = .ok (.aload_n 0, 1) := by decide +kernel
theorem dL_law_210 : decode cL_law 210 = .ok (.iload_n 3, 1) := by decide +kernel
theorem dL_law_211 : decode cL_law 211 = .ok (.iconst 1, 1) := by decide +kernel
theorem dL_law_212 : decode cL_law 212 = .ok (.iadd, 1) := by decide +kernel
theorem dL_law_213 : decode cL_law 213 = .ok (.iaload, 1) := by decide +kernel
theorem dL_law_214 : decode cL_law 214 = .ok (.aload_n 0, 1) := by decide +kernel
theorem dL_law_215 : decode cL_law 215 = .ok (.iload_n 3, 1) := by decide +kernel
theorem dL_law_216 : decode cL_law 216 = .ok (.iconst 2, 1) := by decide +kernel
theorem dL_law_217 : decode cL_law 217 = .ok (.iadd, 1) := by decide +kernel
theorem dL_law_218 : decode cL_law 218 = .ok (.iaload, 1) := by decide +kernel
theorem dL_law_219 : decode cL_law 219 = .ok (.invokevirtual 13, 3) := by decide +kernel
theorem dL_law_222 : decode cL_law 222 = .ok (.aload_n 2, 1) := by decide +kernel
theorem dL_law_223 : decode cL_law 223 = .ok (.aload_n 0, 1) := by decide +kernel
theorem dL_law_224 : decode cL_law 224 = .ok (.iload_n 3, 1) := by decide +kernel
theorem dL_law_225 : decode cL_law 225 = .ok (.iconst 1, 1) := by decide +kernel
theorem dL_law_226 : decode cL_law 226 = .ok (.iadd, 1) := by decide +kernel
theorem dL_law_227 : decode cL_law 227 = .ok (.iaload, 1) := by decide +kernel
theorem dL_law_228 : decode cL_law 228 = .ok (.aload_n 0, 1) := by decide +kernel
theorem dL_law_229 : decode cL_law 229 = .ok (.iload_n 3, 1) := by decide +kernel
theorem dL_law_230 : decode cL_law 230 = .ok (.iconst 2, 1) := by decide +kernel
theorem dL_law_231 : decode cL_law 231 = .ok (.iadd, 1) := by decide +kernel
theorem dL_law_232 : decode cL_law 232 = .ok (.iaload, 1) := by decide +kernel
theorem dL_law_233 : decode cL_law 233 = .ok (.invokevirtual 17, 3) := by decide +kernel
theorem dL_law_236 : decode cL_law 236 = .ok (.if_icmp .eq 1075, 3) := by decide +kernel
theorem dL_law_239 : decode cL_law 239 = .ok (.iconst 0, 1) := by decide +kernel
theorem dL_law_240 : decode cL_law 240 = .ok (.ireturn, 1) := by decide +kernel
theorem dL_law_241 : decode cL_law 241 = .ok (.aload_n 1, 1) := by decide +kernel
theorem dL_law_242 : decode cL_law 242 = .ok (.aload_n 0, 1) := by decide +kernel
theorem dL_law_243 : decode cL_law 243 = .ok (.iload_n 3, 1) := by decide +kernel
theorem dL_law_244 : decode cL_law 244 = .ok (.iconst 1, 1) := by decide +kernel
theorem dL_law_245 : decode cL_law 245 = .ok (.iadd, 1) := by decide +kernel
theorem dL_law_246 : decode cL_law 246 = .ok (.iaload, 1) := by decide +kernel
theorem dL_law_247 : decode cL_law 247 = .ok (.aload_n 0, 1) := by decide +kernel
theorem dL_law_248 : decode cL_law 248 = .ok (.iload_n 3, 1) := by decide +kernel
theorem dL_law_249 : decode cL_law 249 = .ok (.iconst 2, 1) := by decide +kernel
theorem dL_law_250 : decode cL_law 250 = .ok (.iadd, 1) := by decide +kernel
theorem dL_law_251 : decode cL_law 251 = .ok (.iaload, 1) := by decide +kernel
theorem dL_law_252 : decode cL_law 252 = .ok (.aload_n 0, 1) := by decide +kernel
theorem dL_law_253 : decode cL_law 253 = .ok (.iload_n 3, 1) := by decide +kernel
theorem dL_law_254 : decode cL_law 254 = .ok (.iconst 3, 1) := by decide +kernel
theorem dL_law_255 : decode cL_law 255 = .ok (.iadd, 1) := by decide +kernel
theorem dL_law_256 : decode cL_law 256 = .ok (.iaload, 1) := by decide +kernel
theorem dL_law_257 : decode cL_law 257 = .ok (.invokevirtual 18, 3) := by decide +kernel
theorem dL_law_260 : decode cL_law 260 = .ok (.aload_n 2, 1) := by decide +kernel
theorem dL_law_261 : decode cL_law 261 = .ok (.aload_n 0, 1) := by decide +kernel
theorem dL_law_262 : decode cL_law 262 = .ok (.iload_n 3, 1) := by decide +kernel
theorem dL_law_263 : decode cL_law 263 = .ok (.iconst 1, 1) := by decide +kernel
theorem dL_law_264 : decode cL_law 264 = .ok (.iadd, 1) := by decide +kernel
theorem dL_law_265 : decode cL_law 265 = .ok (.iaload, 1) := by decide +kernel
theorem dL_law_266 : decode cL_law 266 = .ok (.aload_n 0, 1) := by decide +kernel
theorem dL_law_267 : decode cL_law 267 = .ok (.iload_n 3, 1) := by decide +kernel
theorem dL_law_268 : decode cL_law 268 = .ok (.iconst 2, 1) := by decide +kernel
theorem dL_law_269 : decode cL_law 269 = .ok (.iadd, 1) := by decide +kernel
theorem dL_law_270 : decode cL_law 270 = .ok (.iaload, 1) := by decide +kernel
theorem dL_law_271 : decode cL_law 271 = .ok (.aload_n 0, 1) := by decide +kernel
theorem dL_law_272 : decode cL_law 272 = .ok (.iload_n 3, 1) := by decide +kernel
theorem dL_law_273 : decode cL_law 273 = .ok (.iconst 3, 1) := by decide +kernel
theorem dL_law_274 : decode cL_law 274 = .ok (.iadd, 1) := by decide +kernel
theorem dL_law_275 : decode cL_law 275 = .ok (.iaload, 1) := by decide +kernel
theorem dL_law_276 : decode cL_law 276 = .ok (.invokevirtual 22, 3) := by decide +kernel
theorem dL_law_279 : decode cL_law 279 = .ok (.if_icmp .eq 1032, 3) := by decide +kernel
theorem dL_law_282 : decode cL_law 282 = .ok (.iconst 0, 1) := by decide +kernel
theorem dL_law_283 : decode cL_law 283 = .ok (.ireturn, 1) := by decide +kernel
theorem dL_law_284 : decode cL_law 284 = .ok (.aload_n 1, 1) := by decide +kernel
theorem dL_law_285 : decode cL_law 285 = .ok (.aload_n 0, 1) := by decide +kernel
theorem dL_law_286 : decode cL_law 286 = .ok (.iload_n 3, 1) := by decide +kernel
theorem dL_law_287 : decode cL_law 287 = .ok (.iconst 1, 1) := by decide +kernel
theorem dL_law_288 : decode cL_law 288 = .ok (.iadd, 1) := by decide +kernel
theorem dL_law_289 : decode cL_law 289 = .ok (.iaload, 1) := by decide +kernel
theorem dL_law_290 : decode cL_law 290 = .ok (.aload_n 0, 1) := by decide +kernel
theorem dL_law_291 : decode cL_law 291 = .ok (.iload_n 3, 1) := by decide +kernel
theorem dL_law_292 : decode cL_law 292 = .ok (.iconst 2, 1) := by decide +kernel
theorem dL_law_293 : decode cL_law 293 = .ok (.iadd, 1) := by decide +kernel
theorem dL_law_294 : decode cL_law 294 = .ok (.iaload, 1) := by decide +kernel
theorem dL_law_295 : decode cL_law 295 = .ok (.invokevirtual 23, 3) := by decide +kernel
theorem dL_law_298 : decode cL_law 298 = .ok (.aload_n 2, 1) := by decide +kernel
theorem dL_law_299 : decode cL_law 299 = .ok (.aload_n 0, 1) := by decide +kernel
theorem dL_law_300 : decode cL_law 300 = .ok (.iload_n 3, 1) := by decide +kernel
theorem dL_law_301 : decode cL_law 301 = .ok (.iconst 1, 1) := by decide +kernel
theorem dL_law_302 : decode cL_law 302 = .ok (.iadd, 1) := by decide +kernel
theorem dL_law_303 : decode cL_law 303 = .ok (.iaload, 1) := by decide +kernel
theorem dL_law_304 : decode cL_law 304 = .ok (.aload_n 0, 1) := by decide +kernel
theorem dL_law_305 : decode cL_law 305 = .ok (.iload_n 3, 1) := by decide +kernel
theorem dL_law_306 : decode cL_law 306 = .ok (.iconst 2, 1) := by decide +kernel
theorem dL_law_307 : decode cL_law 307 = .ok (.iadd, 1) := by decide +kernel
theorem dL_law_308 : decode cL_law 308 = .ok (.iaload, 1) := by decide +kernel
theorem dL_law_309 : decode cL_law 309 = .ok (.invokevirtual 26, 3) := by decide +kernel
theorem dL_law_312 : decode cL_law 312 = .ok (.if_icmp .eq 999, 3) := by decide +kernel
theorem dL_law_315 : decode cL_law 315 = .ok (.iconst 0, 1) := by decide +kernel
theorem dL_law_316 : decode cL_law 316 = .ok (.ireturn, 1) := by decide +kernel
theorem dL_law_317 : decode cL_law 317 = .ok (.aload_n 1, 1) := by decide +kernel
theorem dL_law_318 : decode cL_law 318 = .ok (.aload_n 0, 1) := by decide +kernel
theorem dL_law_319 : decode cL_law 319 = .ok (.iload_n 3, 1) := by decide +kernel
theorem dL_law_320 : decode cL_law 320 = .ok (.iconst 1, 1) := by decide +kernel
theorem dL_law_321 : decode cL_law 321 = .ok (.iadd, 1) := by decide +kernel
theorem dL_law_322 : decode cL_law 322 = .ok (.iaload, 1) := by decide +kernel
theorem dL_law_323 : decode cL_law 323 = .ok (.invokevirtual 27, 3) := by decide +kernel
theorem dL_law_326 : decode cL_law 326 = .ok (.aload_n 2, 1) := by decide +kernel
theorem dL_law_327 : decode cL_law 327 = .ok (.aload_n 0, 1) := by decide +kernel
theorem dL_law_328 : decode cL_law 328 = .ok (.iload_n 3, 1) := by decide +kernel
theorem dL_law_329 : decode cL_law 329 = .ok (.iconst 1, 1) := by decide +kernel
theorem dL_law_330 : decode cL_law 330 = .ok (.iadd, 1) := by decide +kernel
theorem dL_law_331 : decode cL_law 331 = .ok (.iaload, 1) := by decide +kernel
theorem dL_law_332 : decode cL_law 332 = .ok (.invokevirtual 31, 3) := by decide +kernel
theorem dL_law_335 : decode cL_law 335 = .ok (.if_icmp .eq 976, 3) := by decide +kernel
theorem dL_law_338 : decode cL_law 338 = .ok (.iconst 0, 1) := by decide +kernel
theorem dL_law_339 : decode cL_law 339 = .ok (.ireturn, 1) := by decide +kernel
theorem dL_law_340 : decode cL_law 340 = .ok (.aload_n 1, 1) := by decide +kernel
theorem dL_law_341 : decode cL_law 341 = .ok (.aload_n 0, 1) := by decide +kernel
theorem dL_law_342 : decode cL_law 342 = .ok (.iload_n 3, 1) := by decide +kernel
theorem dL_law_343 : decode cL_law 343 = .ok (.iconst 1, 1) := by decide +kernel
theorem dL_law_344 : decode cL_law 344 = .ok (.iadd, 1) := by decide +kernel
theorem dL_law_345 : decode cL_law 345 = .ok (.iaload, 1) := by decide +kernel
theorem dL_law_346 : decode cL_law 346 = .ok (.aload_n 0, 1) := by decide +kernel
theorem dL_law_347 : decode cL_law 347 = .ok (.iload_n 3, 1) := by decide +kernel
theorem dL_law_348 : decode cL_law 348 = .ok (.iconst 2, 1) := by decide +kernel
theorem dL_law_349 : decode cL_law 349 = .ok (.iadd, 1) := by decide +kernel
theorem dL_law_350 : decode cL_law 350 = .ok (.iaload, 1) := by decide +kernel
theorem dL_law_351 : decode cL_law 351 = .ok (.aload_n 0, 1) := by decide +kernel
theorem dL_law_352 : decode cL_law 352 = .ok (.iload_n 3, 1) := by decide +kernel
theorem dL_law_353 : decode cL_law 353 = .ok (.iconst 3, 1) := by decide +kernel
theorem dL_law_354 : decode cL_law 354 = .ok (.iadd, 1) := by decide +kernel
theorem dL_law_355 : decode cL_law 355 = .ok (.iaload, 1) := by decide +kernel
theorem dL_law_356 : decode cL_law 356 = .ok (.aload_n 0, 1) := by decide +kernel
theorem dL_law_357 : decode cL_law 357 = .ok (.iload_n 3, 1) := by decide +kernel
theorem dL_law_358 : decode cL_law 358 = .ok (.iconst 4, 1) := by decide +kernel
theorem dL_law_359 : decode cL_law 359 = .ok (.iadd, 1) := by decide +kernel
theorem dL_law_360 : decode cL_law 360 = .ok (.iaload, 1) := by decide +kernel
theorem dL_law_361 : decode cL_law 361 = .ok (.aload_n 0, 1) := by decide +kernel
theorem dL_law_362 : decode cL_law 362 = .ok (.iload_n 3, 1) := by decide +kernel
theorem dL_law_363 : decode cL_law 363 = .ok (.iconst 5, 1) := by decide +kernel
theorem dL_law_364 : decode cL_law 364 = .ok (.iadd, 1) := by decide +kernel
theorem dL_law_365 : decode cL_law 365 = .ok (.iaload, 1) := by decide +kernel
theorem dL_law_366 : decode cL_law 366 = .ok (.invokevirtual 32, 3) := by decide +kernel
theorem dL_law_369 : decode cL_law 369 = .ok (.aload_n 2, 1) := by decide +kernel
theorem dL_law_370 : decode cL_law 370 = .ok (.aload_n 0, 1) := by decide +kernel
theorem dL_law_371 : decode cL_law 371 = .ok (.iload_n 3, 1) := by decide +kernel
theorem dL_law_372 : decode cL_law 372 = .ok (.iconst 1, 1) := by decide +kernel
theorem dL_law_373 : decode cL_law 373 = .ok (.iadd, 1) := by decide +kernel
theorem dL_law_374 : decode cL_law 374 = .ok (.iaload, 1) := by decide +kernel
theorem dL_law_375 : decode cL_law 375 = .ok (.aload_n 0, 1) := by decide +kernel
theorem dL_law_376 : decode cL_law 376 = .ok (.iload_n 3, 1) := by decide +kernel
theorem dL_law_377 : decode cL_law 377 = .ok (.iconst 2, 1) := by decide +kernel
theorem dL_law_378 : decode cL_law 378 = .ok (.iadd, 1) := by decide +kernel
theorem dL_law_379 : decode cL_law 379 = .ok (.iaload, 1) := by decide +kernel
theorem dL_law_380 : decode cL_law 380 = .ok (.aload_n 0, 1) := by decide +kernel
theorem dL_law_381 : decode cL_law 381 = .ok (.iload_n 3, 1) := by decide +kernel
theorem dL_law_382 : decode cL_law 382 = .ok (.iconst 3, 1) := by decide +kernel
theorem dL_law_383 : decode cL_law 383 = .ok (.iadd, 1) := by decide +kernel
theorem dL_law_384 : decode cL_law 384 = .ok (.iaload, 1) := by decide +kernel
theorem dL_law_385 : decode cL_law 385 = .ok (.aload_n 0, 1) := by decide +kernel
theorem dL_law_386 : decode cL_law 386 = .ok (.iload_n 3, 1) := by decide +kernel
theorem dL_law_387 : decode cL_law 387 = .ok (.iconst 4, 1) := by decide +kernel
theorem dL_law_388 : decode cL_law 388 = .ok (.iadd, 1) := by decide +kernel
theorem dL_law_389 : decode cL_law 389 = .ok (.iaload, 1) := by decide +kernel
theorem dL_law_390 : decode cL_law 390 = .ok (.aload_n 0, 1) := by decide +kernel
theorem dL_law_391 : decode cL_law 391 = .ok (.iload_n 3, 1) := by decide +kernel
theorem dL_law_392 : decode cL_law 392 = .ok (.iconst 5, 1) := by decide +kernel
theorem dL_law_393 : decode cL_law 393 = .ok (.iadd, 1) := by decide +kernel
theorem dL_law_394 : decode cL_law 394 = .ok (.iaload, 1) := by decide +kernel
theorem dL_law_395 : decode cL_law 395 = .ok (.invokevirtual 36, 3) := by decide +kernel
theorem dL_law_398 : decode cL_law 398 = .ok (.if_icmp .eq 913, 3) := by decide +kernel
theorem dL_law_401 : decode cL_law 401 = .ok (.iconst 0, 1) := by decide +kernel
theorem dL_law_402 : decode cL_law 402 = .ok (.ireturn, 1) := by decide +kernel
theorem dL_law_403 : decode cL_law 403 = .ok (.aload_n 1, 1) := by decide +kernel
theorem dL_law_404 : decode cL_law 404 = .ok (.aload_n 0, 1) := by decide +kernel
theorem dL_law_405 : decode cL_law 405 = .ok (.iload_n 3, 1) := by decide +kernel
theorem dL_law_406 : decode cL_law 406 = .ok (.iconst 1, 1) := by decide +kernel
theorem dL_law_407 : decode cL_law 407 = .ok (.iadd, 1) := by decide +kernel
theorem dL_law_408 : decode cL_law 408 = .ok (.iaload, 1) := by decide +kernel
theorem dL_law_409 : decode cL_law 409 = .ok (.invokevirtual 37, 3) := by decide +kernel
theorem dL_law_412 : decode cL_law 412 = .ok (.aload_n 2, 1) := by decide +kernel
theorem dL_law_413 : decode cL_law 413 = .ok (.aload_n 0, 1) := by decide +kernel
theorem dL_law_414 : decode cL_law 414 = .ok (.iload_n 3, 1) := by decide +kernel
theorem dL_law_415 : decode cL_law 415 = .ok (.iconst 1, 1) := by decide +kernel
theorem dL_law_416 : decode cL_law 416 = .ok (.iadd, 1) := by decide +kernel
theorem dL_law_417 : decode cL_law 417 = .ok (.iaload, 1) := by decide +kernel
theorem dL_law_418 : decode cL_law 418 = .ok (.invokevirtual 40, 3) := by decide +kernel
theorem dL_law_421 : decode cL_law 421 = .ok (.if_icmp .eq 890, 3) := by decide +kernel
theorem dL_law_424 : decode cL_law 424 = .ok (.iconst 0, 1) := by decide +kernel
theorem dL_law_425 : decode cL_law 425 = .ok (.ireturn, 1) := by decide +kernel
theorem dL_law_426 : decode cL_law 426 = .ok (.aload_n 1, 1) := by decide +kernel
theorem dL_law_427 : decode cL_law 427 = .ok (.aload_n 0, 1) := by decide +kernel
theorem dL_law_428 : decode cL_law 428 = .ok (.iload_n 3, 1) := by decide +kernel
theorem dL_law_429 : decode cL_law 429 = .ok (.iconst 1, 1) := by decide +kernel
theorem dL_law_430 : decode cL_law 430 = .ok (.iadd, 1) := by decide +kernel
theorem dL_law_431 : decode cL_law 431 = .ok (.iaload, 1) := by decide +kernel
theorem dL_law_432 : decode cL_law 432 = .ok (.aload_n 0, 1) := by decide +kernel
theorem dL_law_433 : decode cL_law 433 = .ok (.iload_n 3, 1) := by decide +kernel
theorem dL_law_434 : decode cL_law 434 = .ok (.iconst 2, 1) := by decide +kernel
theorem dL_law_435 : decode cL_law 435 = .ok (.iadd, 1) := by decide +kernel
theorem dL_law_436 : decode cL_law 436 = .ok (.iaload, 1) := by decide +kernel
theorem dL_law_437 : decode cL_law 437 = .ok (.invokevirtual 41, 3) := by decide +kernel
theorem dL_law_440 : decode cL_law 440 = .ok (.aload_n 2, 1) := by decide +kernel
theorem dL_law_441 : decode cL_law 441 = .ok (.aload_n 0, 1) := by decide +kernel
theorem dL_law_442 : decode cL_law 442 = .ok (.iload_n 3, 1) := by decide +kernel
theorem dL_law_443 : decode cL_law 443 = .ok (.iconst 1, 1) := by decide +kernel
theorem dL_law_444 : decode cL_law 444 = .ok (.iadd, 1) := by decide +kernel
theorem dL_law_445 : decode cL_law 445 = .ok (.iaload, 1) := by decide +kernel
theorem dL_law_446 : decode cL_law 446 = .ok (.aload_n 0, 1) := by decide +kernel
theorem dL_law_447 : decode cL_law 447 = .ok (.iload_n 3, 1) := by decide +kernel
theorem dL_law_448 : decode cL_law 448 = .ok (.iconst 2, 1) := by decide +kernel
theorem dL_law_449 : decode cL_law 449 = .ok (.iadd, 1) := by decide +kernel
theorem dL_law_450 : decode cL_law 450 = .ok (.iaload, 1) := by decide +kernel
theorem dL_law_451 : decode cL_law 451 = .ok (.invokevirtual 44, 3) := by decide +kernel
theorem dL_law_454 : decode cL_law 454 = .ok (.if_icmp .eq 857, 3) := by decide +kernel
theorem dL_law_457 : decode cL_law 457 = .ok (.iconst 0, 1) := by decide +kernel
theorem dL_law_458 : decode cL_law 458 = .ok (.ireturn, 1) := by decide +kernel
theorem dL_law_459 : decode cL_law 459 = .ok (.aload_n 1, 1) := by decide +kernel
theorem dL_law_460 : decode cL_law 460 = .ok (.aload_n 0, 1) := by decide +kernel
theorem dL_law_461 : decode cL_law 461 = .ok (.iload_n 3, 1) := by decide +kernel
theorem dL_law_462 : decode cL_law 462 = .ok (.iconst 1, 1) := by decide +kernel
theorem dL_law_463 : decode cL_law 463 = .ok (.iadd, 1) := by decide +kernel
theorem dL_law_464 : decode cL_law 464 = .ok (.iaload, 1) := by decide +kernel
theorem dL_law_465 : decode cL_law 465 = .ok (.aload_n 0, 1) := by decide +kernel
theorem dL_law_466 : decode cL_law 466 = .ok (.iload_n 3, 1) := by decide +kernel
theorem dL_law_467 : decode cL_law 467 = .ok (.iconst 2, 1) := by decide +kernel
theorem dL_law_468 : decode cL_law 468 = .ok (.iadd, 1) := by decide +kernel
theorem dL_law_469 : decode cL_law 469 = .ok (.iaload, 1) := by decide +kernel
theorem dL_law_470 : decode cL_law 470 = .ok (.aload_n 0, 1) := by decide +kernel
theorem dL_law_471 : decode cL_law 471 = .ok (.iload_n 3, 1) := by decide +kernel
theorem dL_law_472 : decode cL_law 472 = .ok (.iconst 3, 1) := by decide +kernel
theorem dL_law_473 : decode cL_law 473 = .ok (.iadd, 1) := by decide +kernel
theorem dL_law_474 : decode cL_law 474 = .ok (.iaload, 1) := by decide +kernel
theorem dL_law_475 : decode cL_law 475 = .ok (.invokevirtual 45, 3) := by decide +kernel
theorem dL_law_478 : decode cL_law 478 = .ok (.aload_n 2, 1) := by decide +kernel
theorem dL_law_479 : decode cL_law 479 = .ok (.aload_n 0, 1) := by decide +kernel
theorem dL_law_480 : decode cL_law 480 = .ok (.iload_n 3, 1) := by decide +kernel
theorem dL_law_481 : decode cL_law 481 = .ok (.iconst 1, 1) := by decide +kernel
theorem dL_law_482 : decode cL_law 482 = .ok (.iadd, 1) := by decide +kernel
theorem dL_law_483 : decode cL_law 483 = .ok (.iaload, 1) := by decide +kernel
theorem dL_law_484 : decode cL_law 484 = .ok (.aload_n 0, 1) := by decide +kernel
theorem dL_law_485 : decode cL_law 485 = .ok (.iload_n 3, 1) := by decide +kernel
theorem dL_law_486 : decode cL_law 486 = .ok (.iconst 2, 1) := by decide +kernel
theorem dL_law_487 : decode cL_law 487 = .ok (.iadd, 1) := by decide +kernel
theorem dL_law_488 : decode cL_law 488 = .ok (.iaload, 1) := by decide +kernel
theorem dL_law_489 : decode cL_law 489 = .ok (.aload_n 0, 1) := by decide +kernel
theorem dL_law_490 : decode cL_law 490 = .ok (.iload_n 3, 1) := by decide +kernel
theorem dL_law_491 : decode cL_law 491 = .ok (.iconst 3, 1) := by decide +kernel
theorem dL_law_492 : decode cL_law 492 = .ok (.iadd, 1) := by decide +kernel
theorem dL_law_493 : decode cL_law 493 = .ok (.iaload, 1) := by decide +kernel
theorem dL_law_494 : decode cL_law 494 = .ok (.invokevirtual 48, 3) := by decide +kernel
theorem dL_law_497 : decode cL_law 497 = .ok (.if_icmp .eq 814, 3) := by decide +kernel
theorem dL_law_500 : decode cL_law 500 = .ok (.iconst 0, 1) := by decide +kernel
theorem dL_law_501 : decode cL_law 501 = .ok (.ireturn, 1) := by decide +kernel
theorem dL_law_502 : decode cL_law 502 = .ok (.aload_n 1, 1) := by decide +kernel
theorem dL_law_503 : decode cL_law 503 = .ok (.aload_n 0, 1) := by decide +kernel
theorem dL_law_504 : decode cL_law 504 = .ok (.iload_n 3, 1) := by decide +kernel
theorem dL_law_505 : decode cL_law 505 = .ok (.iconst 1, 1) := by decide +kernel
theorem dL_law_506 : decode cL_law 506 = .ok (.iadd, 1) := by decide +kernel
theorem dL_law_507 : decode cL_law 507 = .ok (.iaload, 1) := by decide +kernel
theorem dL_law_508 : decode cL_law 508 = .ok (.invokevirtual 49, 3) := by decide +kernel
theorem dL_law_511 : decode cL_law 511 = .ok (.aload_n 2, 1) := by decide +kernel
theorem dL_law_512 : decode cL_law 512 = .ok (.aload_n 0, 1) := by decide +kernel
theorem dL_law_513 : decode cL_law 513 = .ok (.iload_n 3, 1) := by decide +kernel
theorem dL_law_514 : decode cL_law 514 = .ok (.iconst 1, 1) := by decide +kernel
theorem dL_law_515 : decode cL_law 515 = .ok (.iadd, 1) := by decide +kernel
theorem dL_law_516 : decode cL_law 516 = .ok (.iaload, 1) := by decide +kernel
theorem dL_law_517 : decode cL_law 517 = .ok (.invokevirtual 52, 3) := by decide +kernel
theorem dL_law_520 : decode cL_law 520 = .ok (.if_icmp .eq 791, 3) := by decide +kernel
theorem dL_law_523 : decode cL_law 523 = .ok (.iconst 0, 1) := by decide +kernel
theorem dL_law_524 : decode cL_law 524 = .ok (.ireturn, 1) := by decide +kernel
theorem dL_law_525 : decode cL_law 525 = .ok (.aload_n 1, 1) := by decide +kernel
theorem dL_law_526 : decode cL_law 526 = .ok (.aload_n 0, 1) := by decide +kernel
theorem dL_law_527 : decode cL_law 527 = .ok (.iload_n 3, 1) := by decide +kernel
theorem dL_law_528 : decode cL_law 528 = .ok (.iconst 1, 1) := by decide +kernel
theorem dL_law_529 : decode cL_law 529 = .ok (.iadd, 1) := by decide +kernel
theorem dL_law_530 : decode cL_law 530 = .ok (.iaload, 1) := by decide +kernel
theorem dL_law_531 : decode cL_law 531 = .ok (.invokevirtual 53, 3) := by decide +kernel
theorem dL_law_534 : decode cL_law 534 = .ok (.aload_n 2, 1) := by decide +kernel
theorem dL_law_535 : decode cL_law 535 = .ok (.aload_n 0, 1) := by decide +kernel
theorem dL_law_536 : decode cL_law 536 = .ok (.iload_n 3, 1) := by decide +kernel
theorem dL_law_537 : decode cL_law 537 = .ok (.iconst 1, 1) := by decide +kernel
theorem dL_law_538 : decode cL_law 538 = .ok (.iadd, 1) := by decide +kernel
theorem dL_law_539 : decode cL_law 539 = .ok (.iaload, 1) := by decide +kernel
theorem dL_law_540 : decode cL_law 540 = .ok (.invokevirtual 56, 3) := by decide +kernel
theorem dL_law_543 : decode cL_law 543 = .ok (.if_icmp .eq 768, 3) := by decide +kernel
theorem dL_law_546 : decode cL_law 546 = .ok (.iconst 0, 1) := by decide +kernel
theorem dL_law_547 : decode cL_law 547 = .ok (.ireturn, 1) := by decide +kernel
theorem dL_law_548 : decode cL_law 548 = .ok (.aload_n 1, 1) := by decide +kernel
theorem dL_law_549 : decode cL_law 549 = .ok (.aload_n 0, 1) := by decide +kernel
theorem dL_law_550 : decode cL_law 550 = .ok (.iload_n 3, 1) := by decide +kernel
theorem dL_law_551 : decode cL_law 551 = .ok (.iconst 1, 1) := by decide +kernel
theorem dL_law_552 : decode cL_law 552 = .ok (.iadd, 1) := by decide +kernel
theorem dL_law_553 : decode cL_law 553 = .ok (.iaload, 1) := by decide +kernel
theorem dL_law_554 : decode cL_law 554 = .ok (.aload_n 0, 1) := by decide +kernel
theorem dL_law_555 : decode cL_law 555 = .ok (.iload_n 3, 1) := by decide +kernel
theorem dL_law_556 : decode cL_law 556 = .ok (.iconst 2, 1) := by decide +kernel
theorem dL_law_557 : decode cL_law 557 = .ok (.iadd, 1) := by decide +kernel
theorem dL_law_558 : decode cL_law 558 = .ok (.iaload, 1) := by decide +kernel
theorem dL_law_559 : decode cL_law 559 = .ok (.invokevirtual 57, 3) := by decide +kernel
theorem dL_law_562 : decode cL_law 562 = .ok (.aload_n 2, 1) := by decide +kernel
theorem dL_law_563 : decode cL_law 563 = .ok (.aload_n 0, 1) := by decide +kernel
theorem dL_law_564 : decode cL_law 564 = .ok (.iload_n 3, 1) := by decide +kernel
theorem dL_law_565 : decode cL_law 565 = .ok (.iconst 1, 1) := by decide +kernel
theorem dL_law_566 : decode cL_law 566 = .ok (.iadd, 1) := by decide +kernel
theorem dL_law_567 : decode cL_law 567 = .ok (.iaload, 1) := by decide +kernel
theorem dL_law_568 : decode cL_law 568 = .ok (.aload_n 0, 1) := by decide +kernel
theorem dL_law_569 : decode cL_law 569 = .ok (.iload_n 3, 1) := by decide +kernel
theorem dL_law_570 : decode cL_law 570 = .ok (.iconst 2, 1) := by decide +kernel
theorem dL_law_571 : decode cL_law 571 = .ok (.iadd, 1) := by decide +kernel
theorem dL_law_572 : decode cL_law 572 = .ok (.iaload, 1) := by decide +kernel
theorem dL_law_573 : decode cL_law 573 = .ok (.invokevirtual 60, 3) := by decide +kernel
theorem dL_law_576 : decode cL_law 576 = .ok (.if_icmp .eq 735, 3) := by decide +kernel
theorem dL_law_579 : decode cL_law 579 = .ok (.iconst 0, 1) := by decide +kernel
theorem dL_law_580 : decode cL_law 580 = .ok (.ireturn, 1) := by decide +kernel
theorem dL_law_581 : decode cL_law 581 = .ok (.aload_n 1, 1) := by decide +kernel
theorem dL_law_582 : decode cL_law 582 = .ok (.aload_n 0, 1) := by decide +kernel
theorem dL_law_583 : decode cL_law 583 = .ok (.iload_n 3, 1) := by decide +kernel
theorem dL_law_584 : decode cL_law 584 = .ok (.iconst 1, 1) := by decide +kernel
theorem dL_law_585 : decode cL_law 585 = .ok (.iadd, 1) := by decide +kernel
theorem dL_law_586 : decode cL_law 586 = .ok (.iaload, 1) := by decide +kernel
theorem dL_law_587 : decode cL_law 587 = .ok (.aload_n 0, 1) := by decide +kernel
theorem dL_law_588 : decode cL_law 588 = .ok (.iload_n 3, 1) := by decide +kernel
theorem dL_law_589 : decode cL_law 589 = .ok (.iconst 2, 1) := by decide +kernel
theorem dL_law_590 : decode cL_law 590 = .ok (.iadd, 1) := by decide +kernel
theorem dL_law_591 : decode cL_law 591 = .ok (.iaload, 1) := by decide +kernel
theorem dL_law_592 : decode cL_law 592 = .ok (.invokevirtual 61, 3) := by decide +kernel
theorem dL_law_595 : decode cL_law 595 = .ok (.aload_n 2, 1) := by decide +kernel
theorem dL_law_596 : decode cL_law 596 = .ok (.aload_n 0, 1) := by decide +kernel
theorem dL_law_597 : decode cL_law 597 = .ok (.iload_n 3, 1) := by decide +kernel
theorem dL_law_598 : decode cL_law 598 = .ok (.iconst 1, 1) := by decide +kernel
theorem dL_law_599 : decode cL_law 599 = .ok (.iadd, 1) := by decide +kernel
theorem dL_law_600 : decode cL_law 600 = .ok (.iaload, 1) := by decide +kernel
theorem dL_law_601 : decode cL_law 601 = .ok (.aload_n 0, 1) := by decide +kernel
theorem dL_law_602 : decode cL_law 602 = .ok (.iload_n 3, 1) := by decide +kernel
theorem dL_law_603 : decode cL_law 603 = .ok (.iconst 2, 1) := by decide +kernel
theorem dL_law_604 : decode cL_law 604 = .ok (.iadd, 1) := by decide +kernel
theorem dL_law_605 : decode cL_law 605 = .ok (.iaload, 1) := by decide +kernel
theorem dL_law_606 : decode cL_law 606 = .ok (.invokevirtual 64, 3) := by decide +kernel
theorem dL_law_609 : decode cL_law 609 = .ok (.if_icmp .eq 702, 3) := by decide +kernel
theorem dL_law_612 : decode cL_law 612 = .ok (.iconst 0, 1) := by decide +kernel
theorem dL_law_613 : decode cL_law 613 = .ok (.ireturn, 1) := by decide +kernel
theorem dL_law_614 : decode cL_law 614 = .ok (.aload_n 1, 1) := by decide +kernel
theorem dL_law_615 : decode cL_law 615 = .ok (.aload_n 0, 1) := by decide +kernel
theorem dL_law_616 : decode cL_law 616 = .ok (.iload_n 3, 1) := by decide +kernel
theorem dL_law_617 : decode cL_law 617 = .ok (.iconst 1, 1) := by decide +kernel
theorem dL_law_618 : decode cL_law 618 = .ok (.iadd, 1) := by decide +kernel
theorem dL_law_619 : decode cL_law 619 = .ok (.iaload, 1) := by decide +kernel
theorem dL_law_620 : decode cL_law 620 = .ok (.aload_n 0, 1) := by decide +kernel
theorem dL_law_621 : decode cL_law 621 = .ok (.iload_n 3, 1) := by decide +kernel
theorem dL_law_622 : decode cL_law 622 = .ok (.iconst 2, 1) := by decide +kernel
theorem dL_law_623 : decode cL_law 623 = .ok (.iadd, 1) := by decide +kernel
theorem dL_law_624 : decode cL_law 624 = .ok (.iaload, 1) := by decide +kernel
theorem dL_law_625 : decode cL_law 625 = .ok (.invokevirtual 65, 3) := by decide +kernel
theorem dL_law_628 : decode cL_law 628 = .ok (.aload_n 2, 1) := by decide +kernel
theorem dL_law_629 : decode cL_law 629 = .ok (.aload_n 0, 1) := by decide +kernel
theorem dL_law_630 : decode cL_law 630 = .ok (.iload_n 3, 1) := by decide +kernel
theorem dL_law_631 : decode cL_law 631 = .ok (.iconst 1, 1) := by decide +kernel
theorem dL_law_632 : decode cL_law 632 = .ok (.iadd, 1) := by decide +kernel
theorem dL_law_633 : decode cL_law 633 = .ok (.iaload, 1) := by decide +kernel
theorem dL_law_634 : decode cL_law 634 = .ok (.aload_n 0, 1) := by decide +kernel
theorem dL_law_635 : decode cL_law 635 = .ok (.iload_n 3, 1) := by decide +kernel
theorem dL_law_636 : decode cL_law 636 = .ok (.iconst 2, 1) := by decide +kernel
theorem dL_law_637 : decode cL_law 637 = .ok (.iadd, 1) := by decide +kernel
theorem dL_law_638 : decode cL_law 638 = .ok (.iaload, 1) := by decide +kernel
theorem dL_law_639 : decode cL_law 639 = .ok (.invokevirtual 68, 3) := by decide +kernel
theorem dL_law_642 : decode cL_law 642 = .ok (.if_icmp .eq 669, 3) := by decide +kernel
theorem dL_law_645 : decode cL_law 645 = .ok (.iconst 0, 1) := by decide +kernel
theorem dL_law_646 : decode cL_law 646 = .ok (.ireturn, 1) := by decide +kernel
theorem dL_law_647 : decode cL_law 647 = .ok (.aload_n 1, 1) := by decide +kernel
theorem dL_law_648 : decode cL_law 648 = .ok (.invokevirtual 69, 3) := by decide +kernel
theorem dL_law_651 : decode cL_law 651 = .ok (.aload_n 2, 1) := by decide +kernel
theorem dL_law_652 : decode cL_law 652 = .ok (.invokevirtual 73, 3) := by decide +kernel
theorem dL_law_655 : decode cL_law 655 = .ok (.if_icmp .eq 656, 3) := by decide +kernel
theorem dL_law_658 : decode cL_law 658 = .ok (.iconst 0, 1) := by decide +kernel
theorem dL_law_659 : decode cL_law 659 = .ok (.ireturn, 1) := by decide +kernel
theorem dL_law_660 : decode cL_law 660 = .ok (.aload_n 1, 1) := by decide +kernel
theorem dL_law_661 : decode cL_law 661 = .ok (.aload_n 0, 1) := by decide +kernel
theorem dL_law_662 : decode cL_law 662 = .ok (.iload_n 3, 1) := by decide +kernel
theorem dL_law_663 : decode cL_law 663 = .ok (.iconst 1, 1) := by decide +kernel
theorem dL_law_664 : decode cL_law 664 = .ok (.iadd, 1) := by decide +kernel
theorem dL_law_665 : decode cL_law 665 = .ok (.iaload, 1) := by decide +kernel
theorem dL_law_666 : decode cL_law 666 = .ok (.invokevirtual 74, 3) := by decide +kernel
theorem dL_law_669 : decode cL_law 669 = .ok (.aload_n 2, 1) := by decide +kernel
theorem dL_law_670 : decode cL_law 670 = .ok (.aload_n 0, 1) := by decide +kernel
theorem dL_law_671 : decode cL_law 671 = .ok (.iload_n 3, 1) := by decide +kernel
theorem dL_law_672 : decode cL_law 672 = .ok (.iconst 1, 1) := by decide +kernel
theorem dL_law_673 : decode cL_law 673 = .ok (.iadd, 1) := by decide +kernel
theorem dL_law_674 : decode cL_law 674 = .ok (.iaload, 1) := by decide +kernel
theorem dL_law_675 : decode cL_law 675 = .ok (.invokevirtual 77, 3) := by decide +kernel
theorem dL_law_678 : decode cL_law 678 = .ok (.if_icmp .eq 633, 3) := by decide +kernel
theorem dL_law_681 : decode cL_law 681 = .ok (.iconst 0, 1) := by decide +kernel
theorem dL_law_682 : decode cL_law 682 = .ok (.ireturn, 1) := by decide +kernel
theorem dL_law_683 : decode cL_law 683 = .ok (.aload_n 1, 1) := by decide +kernel
theorem dL_law_684 : decode cL_law 684 = .ok (.aload_n 0, 1) := by decide +kernel
theorem dL_law_685 : decode cL_law 685 = .ok (.iload_n 3, 1) := by decide +kernel
theorem dL_law_686 : decode cL_law 686 = .ok (.iconst 1, 1) := by decide +kernel
theorem dL_law_687 : decode cL_law 687 = .ok (.iadd, 1) := by decide +kernel
theorem dL_law_688 : decode cL_law 688 = .ok (.iaload, 1) := by decide +kernel
theorem dL_law_689 : decode cL_law 689 = .ok (.aload_n 0, 1) := by decide +kernel
theorem dL_law_690 : decode cL_law 690 = .ok (.iload_n 3, 1) := by decide +kernel
theorem dL_law_691 : decode cL_law 691 = .ok (.iconst 2, 1) := by decide +kernel
theorem dL_law_692 : decode cL_law 692 = .ok (.iadd, 1) := by decide +kernel
theorem dL_law_693 : decode cL_law 693 = .ok (.iaload, 1) := by decide +kernel
theorem dL_law_694 : decode cL_law 694 = .ok (.invokevirtual 78, 3) := by decide +kernel
theorem dL_law_697 : decode cL_law 697 = .ok (.aload_n 2, 1) := by decide +kernel
theorem dL_law_698 : decode cL_law 698 = .ok (.aload_n 0, 1) := by decide +kernel
theorem dL_law_699 : decode cL_law 699 = .ok (.iload_n 3, 1) := by decide +kernel
theorem dL_law_700 : decode cL_law 700 = .ok (.iconst 1, 1) := by decide +kernel
theorem dL_law_701 : decode cL_law 701 = .ok (.iadd, 1) := by decide +kernel
theorem dL_law_702 : decode cL_law 702 = .ok (.iaload, 1) := by decide +kernel
theorem dL_law_703 : decode cL_law 703 = .ok (.aload_n 0, 1) := by decide +kernel
theorem dL_law_704 : decode cL_law 704 = .ok (.iload_n 3, 1) := by decide +kernel
theorem dL_law_705 : decode cL_law 705 = .ok (.iconst 2, 1) := by decide +kernel
theorem dL_law_706 : decode cL_law 706 = .ok (.iadd, 1) := by decide +kernel
theorem dL_law_707 : decode cL_law 707 = .ok (.iaload, 1) := by decide +kernel
theorem dL_law_708 : decode cL_law 708 = .ok (.invokevirtual 81, 3) := by decide +kernel
theorem dL_law_711 : decode cL_law 711 = .ok (.if_icmp .eq 600, 3) := by decide +kernel
theorem dL_law_714 : decode cL_law 714 = .ok (.iconst 0, 1) := by decide +kernel
theorem dL_law_715 : decode cL_law 715 = .ok (.ireturn, 1) := by decide +kernel
theorem dL_law_716 : decode cL_law 716 = .ok (.aload_n 1, 1) := by decide +kernel
theorem dL_law_717 : decode cL_law 717 = .ok (.aload_n 0, 1) := by decide +kernel
theorem dL_law_718 : decode cL_law 718 = .ok (.iload_n 3, 1) := by decide +kernel
theorem dL_law_719 : decode cL_law 719 = .ok (.iconst 1, 1) := by decide +kernel
theorem dL_law_720 : decode cL_law 720 = .ok (.iadd, 1) := by decide +kernel
theorem dL_law_721 : decode cL_law 721 = .ok (.iaload, 1) := by decide +kernel
theorem dL_law_722 : decode cL_law 722 = .ok (.invokevirtual 82, 3) := by decide +kernel
theorem dL_law_725 : decode cL_law 725 = .ok (.aload_n 2, 1) := by decide +kernel
theorem dL_law_726 : decode cL_law 726 = .ok (.aload_n 0, 1) := by decide +kernel
theorem dL_law_727 : decode cL_law 727 = .ok (.iload_n 3, 1) := by decide +kernel
theorem dL_law_728 : decode cL_law 728 = .ok (.iconst 1, 1) := by decide +kernel
theorem dL_law_729 : decode cL_law 729 = .ok (.iadd, 1) := by decide +kernel
theorem dL_law_730 : decode cL_law 730 = .ok (.iaload, 1) := by decide +kernel
theorem dL_law_731 : decode cL_law 731 = .ok (.invokevirtual 85, 3) := by decide +kernel
theorem dL_law_734 : decode cL_law 734 = .ok (.if_icmp .eq 577, 3) := by decide +kernel
theorem dL_law_737 : decode cL_law 737 = .ok (.iconst 0, 1) := by decide +kernel
theorem dL_law_738 : decode cL_law 738 = .ok (.ireturn, 1) := by decide +kernel
theorem dL_law_739 : decode cL_law 739 = .ok (.aload_n 1, 1) := by decide +kernel
theorem dL_law_740 : decode cL_law 740 = .ok (.aload_n 0, 1) := by decide +kernel
theorem dL_law_741 : decode cL_law 741 = .ok (.iload_n 3, 1) := by decide +kernel
theorem dL_law_742 : decode cL_law 742 = .ok (.iconst 1, 1) := by decide +kernel
theorem dL_law_743 : decode cL_law 743 = .ok (.iadd, 1) := by decide +kernel
theorem dL_law_744 : decode cL_law 744 = .ok (.iaload, 1) := by decide +kernel
theorem dL_law_745 : decode cL_law 745 = .ok (.invokevirtual 86, 3) := by decide +kernel
theorem dL_law_748 : decode cL_law 748 = .ok (.aload_n 2, 1) := by decide +kernel
theorem dL_law_749 : decode cL_law 749 = .ok (.aload_n 0, 1) := by decide +kernel
theorem dL_law_750 : decode cL_law 750 = .ok (.iload_n 3, 1) := by decide +kernel
theorem dL_law_751 : decode cL_law 751 = .ok (.iconst 1, 1) := by decide +kernel
theorem dL_law_752 : decode cL_law 752 = .ok (.iadd, 1) := by decide +kernel
theorem dL_law_753 : decode cL_law 753 = .ok (.iaload, 1) := by decide +kernel
theorem dL_law_754 : decode cL_law 754 = .ok (.invokevirtual 89, 3) := by decide +kernel
theorem dL_law_757 : decode cL_law 757 = .ok (.if_icmp .eq 554, 3) := by decide +kernel
theorem dL_law_760 : decode cL_law 760 = .ok (.iconst 0, 1) := by decide +kernel
theorem dL_law_761 : decode cL_law 761 = .ok (.ireturn, 1) := by decide +kernel
theorem dL_law_762 : decode cL_law 762 = .ok (.aload_n 1, 1) := by decide +kernel
theorem dL_law_763 : decode cL_law 763 = .ok (.aload_n 0, 1) := by decide +kernel
theorem dL_law_764 : decode cL_law 764 = .ok (.iload_n 3, 1) := by decide +kernel
theorem dL_law_765 : decode cL_law 765 = .ok (.iconst 1, 1) := by decide +kernel
theorem dL_law_766 : decode cL_law 766 = .ok (.iadd, 1) := by decide +kernel
theorem dL_law_767 : decode cL_law 767 = .ok (.iaload, 1) := by decide +kernel
theorem dL_law_768 : decode cL_law 768 = .ok (.invokevirtual 90, 3) := by decide +kernel
theorem dL_law_771 : decode cL_law 771 = .ok (.aload_n 2, 1) := by decide +kernel
theorem dL_law_772 : decode cL_law 772 = .ok (.aload_n 0, 1) := by decide +kernel
theorem dL_law_773 : decode cL_law 773 = .ok (.iload_n 3, 1) := by decide +kernel
theorem dL_law_774 : decode cL_law 774 = .ok (.iconst 1, 1) := by decide +kernel
theorem dL_law_775 : decode cL_law 775 = .ok (.iadd, 1) := by decide +kernel
theorem dL_law_776 : decode cL_law 776 = .ok (.iaload, 1) := by decide +kernel
theorem dL_law_777 : decode cL_law 777 = .ok (.invokevirtual 93, 3) := by decide +kernel
theorem dL_law_780 : decode cL_law 780 = .ok (.if_icmp .eq 531, 3) := by decide +kernel
theorem dL_law_783 : decode cL_law 783 = .ok (.iconst 0, 1) := by decide +kernel
theorem dL_law_784 : decode cL_law 784 = .ok (.ireturn, 1) := by decide +kernel
theorem dL_law_785 : decode cL_law 785 = .ok (.aload_n 1, 1) := by decide +kernel
theorem dL_law_786 : decode cL_law 786 = .ok (.aload_n 0, 1) := by decide +kernel
theorem dL_law_787 : decode cL_law 787 = .ok (.iload_n 3, 1) := by decide +kernel
theorem dL_law_788 : decode cL_law 788 = .ok (.iconst 1, 1) := by decide +kernel
theorem dL_law_789 : decode cL_law 789 = .ok (.iadd, 1) := by decide +kernel
theorem dL_law_790 : decode cL_law 790 = .ok (.iaload, 1) := by decide +kernel
theorem dL_law_791 : decode cL_law 791 = .ok (.invokevirtual 94, 3) := by decide +kernel
theorem dL_law_794 : decode cL_law 794 = .ok (.aload_n 2, 1) := by decide +kernel
theorem dL_law_795 : decode cL_law 795 = .ok (.aload_n 0, 1) := by decide +kernel
theorem dL_law_796 : decode cL_law 796 = .ok (.iload_n 3, 1) := by decide +kernel
theorem dL_law_797 : decode cL_law 797 = .ok (.iconst 1, 1) := by decide +kernel
theorem dL_law_798 : decode cL_law 798 = .ok (.iadd, 1) := by decide +kernel
theorem dL_law_799 : decode cL_law 799 = .ok (.iaload, 1) := by decide +kernel
theorem dL_law_800 : decode cL_law 800 = .ok (.invokevirtual 97, 3) := by decide +kernel
theorem dL_law_803 : decode cL_law 803 = .ok (.if_icmp .eq 508, 3) := by decide +kernel
theorem dL_law_806 : decode cL_law 806 = .ok (.iconst 0, 1) := by decide +kernel
theorem dL_law_807 : decode cL_law 807 = .ok (.ireturn, 1) := by decide +kernel
theorem dL_law_808 : decode cL_law 808 = .ok (.aload_n 1, 1) := by decide +kernel
theorem dL_law_809 : decode cL_law 809 = .ok (.aload_n 0, 1) := by decide +kernel
theorem dL_law_810 : decode cL_law 810 = .ok (.iload_n 3, 1) := by decide +kernel
theorem dL_law_811 : decode cL_law 811 = .ok (.iconst 1, 1) := by decide +kernel
theorem dL_law_812 : decode cL_law 812 = .ok (.iadd, 1) := by decide +kernel
theorem dL_law_813 : decode cL_law 813 = .ok (.iaload, 1) := by decide +kernel
theorem dL_law_814 : decode cL_law 814 = .ok (.aload_n 0, 1) := by decide +kernel
theorem dL_law_815 : decode cL_law 815 = .ok (.iload_n 3, 1) := by decide +kernel
theorem dL_law_816 : decode cL_law 816 = .ok (.iconst 2, 1) := by decide +kernel
theorem dL_law_817 : decode cL_law 817 = .ok (.iadd, 1) := by decide +kernel
theorem dL_law_818 : decode cL_law 818 = .ok (.iaload, 1) := by decide +kernel
theorem dL_law_819 : decode cL_law 819 = .ok (.invokevirtual 98, 3) := by decide +kernel
theorem dL_law_822 : decode cL_law 822 = .ok (.aload_n 2, 1) := by decide +kernel
theorem dL_law_823 : decode cL_law 823 = .ok (.aload_n 0, 1) := by decide +kernel
theorem dL_law_824 : decode cL_law 824 = .ok (.iload_n 3, 1) := by decide +kernel
theorem dL_law_825 : decode cL_law 825 = .ok (.iconst 1, 1) := by decide +kernel
theorem dL_law_826 : decode cL_law 826 = .ok (.iadd, 1) := by decide +kernel
theorem dL_law_827 : decode cL_law 827 = .ok (.iaload, 1) := by decide +kernel
theorem dL_law_828 : decode cL_law 828 = .ok (.aload_n 0, 1) := by decide +kernel
theorem dL_law_829 : decode cL_law 829 = .ok (.iload_n 3, 1) := by decide +kernel
theorem dL_law_830 : decode cL_law 830 = .ok (.iconst 2, 1) := by decide +kernel
theorem dL_law_831 : decode cL_law 831 = .ok (.iadd, 1) := by decide +kernel
theorem dL_law_832 : decode cL_law 832 = .ok (.iaload, 1) := by decide +kernel
theorem dL_law_833 : decode cL_law 833 = .ok (.invokevirtual 101, 3) := by decide +kernel
theorem dL_law_836 : decode cL_law 836 = .ok (.if_icmp .eq 475, 3) := by decide +kernel
theorem dL_law_839 : decode cL_law 839 = .ok (.iconst 0, 1) := by decide +kernel
theorem dL_law_840 : decode cL_law 840 = .ok (.ireturn, 1) := by decide +kernel
theorem dL_law_841 : decode cL_law 841 = .ok (.aload_n 1, 1) := by decide +kernel
theorem dL_law_842 : decode cL_law 842 = .ok (.aload_n 0, 1) := by decide +kernel
theorem dL_law_843 : decode cL_law 843 = .ok (.iload_n 3, 1) := by decide +kernel
theorem dL_law_844 : decode cL_law 844 = .ok (.iconst 1, 1) := by decide +kernel
theorem dL_law_845 : decode cL_law 845 = .ok (.iadd, 1) := by decide +kernel
theorem dL_law_846 : decode cL_law 846 = .ok (.iaload, 1) := by decide +kernel
theorem dL_law_847 : decode cL_law 847 = .ok (.invokevirtual 102, 3) := by decide +kernel
theorem dL_law_850 : decode cL_law 850 = .ok (.aload_n 2, 1) := by decide +kernel
theorem dL_law_851 : decode cL_law 851 = .ok (.aload_n 0, 1) := by decide +kernel
theorem dL_law_852 : decode cL_law 852 = .ok (.iload_n 3, 1) := by decide +kernel
theorem dL_law_853 : decode cL_law 853 = .ok (.iconst 1, 1) := by decide +kernel
theorem dL_law_854 : decode cL_law 854 = .ok (.iadd, 1) := by decide +kernel
theorem dL_law_855 : decode cL_law 855 = .ok (.iaload, 1) := by decide +kernel
theorem dL_law_856 : decode cL_law 856 = .ok (.invokevirtual 105, 3) := by decide +kernel
theorem dL_law_859 : decode cL_law 859 = .ok (.if_icmp .eq 452, 3) := by decide +kernel
theorem dL_law_862 : decode cL_law 862 = .ok (.iconst 0, 1) := by decide +kernel
theorem dL_law_863 : decode cL_law 863 = .ok (.ireturn, 1) := by decide +kernel
theorem dL_law_864 : decode cL_law 864 = .ok (.aload_n 1, 1) := by decide +kernel
theorem dL_law_865 : decode cL_law 865 = .ok (.aload_n 0, 1) := by decide +kernel
theorem dL_law_866 : decode cL_law 866 = .ok (.iload_n 3, 1) := by decide +kernel
theorem dL_law_867 : decode cL_law 867 = .ok (.iconst 1, 1) := by decide +kernel
theorem dL_law_868 : decode cL_law 868 = .ok (.iadd, 1) := by decide +kernel
theorem dL_law_869 : decode cL_law 869 = .ok (.iaload, 1) := by decide +kernel
theorem dL_law_870 : decode cL_law 870 = .ok (.invokevirtual 106, 3) := by decide +kernel
theorem dL_law_873 : decode cL_law 873 = .ok (.aload_n 2, 1) := by decide +kernel
theorem dL_law_874 : decode cL_law 874 = .ok (.aload_n 0, 1) := by decide +kernel
theorem dL_law_875 : decode cL_law 875 = .ok (.iload_n 3, 1) := by decide +kernel
theorem dL_law_876 : decode cL_law 876 = .ok (.iconst 1, 1) := by decide +kernel
theorem dL_law_877 : decode cL_law 877 = .ok (.iadd, 1) := by decide +kernel
theorem dL_law_878 : decode cL_law 878 = .ok (.iaload, 1) := by decide +kernel
theorem dL_law_879 : decode cL_law 879 = .ok (.invokevirtual 109, 3) := by decide +kernel
theorem dL_law_882 : decode cL_law 882 = .ok (.if_icmp .eq 429, 3) := by decide +kernel
theorem dL_law_885 : decode cL_law 885 = .ok (.iconst 0, 1) := by decide +kernel
theorem dL_law_886 : decode cL_law 886 = .ok (.ireturn, 1) := by decide +kernel
theorem dL_law_887 : decode cL_law 887 = .ok (.aload_n 1, 1) := by decide +kernel
theorem dL_law_888 : decode cL_law 888 = .ok (.aload_n 0, 1) := by decide +kernel
theorem dL_law_889 : decode cL_law 889 = .ok (.iload_n 3, 1) := by decide +kernel
theorem dL_law_890 : decode cL_law 890 = .ok (.iconst 1, 1) := by decide +kernel
theorem dL_law_891 : decode cL_law 891 = .ok (.iadd, 1) := by decide +kernel
theorem dL_law_892 : decode cL_law 892 = .ok (.iaload, 1) := by decide +kernel
theorem dL_law_893 : decode cL_law 893 = .ok (.aload_n 0, 1) := by decide +kernel
theorem dL_law_894 : decode cL_law 894 = .ok (.iload_n 3, 1) := by decide +kernel
theorem dL_law_895 : decode cL_law 895 = .ok (.iconst 2, 1) := by decide +kernel
theorem dL_law_896 : decode cL_law 896 = .ok (.iadd, 1) := by decide +kernel
theorem dL_law_897 : decode cL_law 897 = .ok (.iaload, 1) := by decide +kernel
theorem dL_law_898 : decode cL_law 898 = .ok (.invokevirtual 110, 3) := by decide +kernel
theorem dL_law_901 : decode cL_law 901 = .ok (.aload_n 2, 1) := by decide +kernel
theorem dL_law_902 : decode cL_law 902 = .ok (.aload_n 0, 1) := by decide +kernel
theorem dL_law_903 : decode cL_law 903 = .ok (.iload_n 3, 1) := by decide +kernel
theorem dL_law_904 : decode cL_law 904 = .ok (.iconst 1, 1) := by decide +kernel
theorem dL_law_905 : decode cL_law 905 = .ok (.iadd, 1) := by decide +kernel
theorem dL_law_906 : decode cL_law 906 = .ok (.iaload, 1) := by decide +kernel
theorem dL_law_907 : decode cL_law 907 = .ok (.aload_n 0, 1) := by decide +kernel
theorem dL_law_908 : decode cL_law 908 = .ok (.iload_n 3, 1) := by decide +kernel
theorem dL_law_909 : decode cL_law 909 = .ok (.iconst 2, 1) := by decide +kernel
theorem dL_law_910 : decode cL_law 910 = .ok (.iadd, 1) := by decide +kernel
theorem dL_law_911 : decode cL_law 911 = .ok (.iaload, 1) := by decide +kernel
theorem dL_law_912 : decode cL_law 912 = .ok (.invokevirtual 113, 3) := by decide +kernel
theorem dL_law_915 : decode cL_law 915 = .ok (.if_icmp .eq 396, 3) := by decide +kernel
theorem dL_law_918 : decode cL_law 918 = .ok (.iconst 0, 1) := by decide +kernel
theorem dL_law_919 : decode cL_law 919 = .ok (.ireturn, 1) := by decide +kernel
theorem dL_law_920 : decode cL_law 920 = .ok (.aload_n 1, 1) := by decide +kernel
theorem dL_law_921 : decode cL_law 921 = .ok (.aload_n 0, 1) := by decide +kernel
theorem dL_law_922 : decode cL_law 922 = .ok (.iload_n 3, 1) := by decide +kernel
theorem dL_law_923 : decode cL_law 923 = .ok (.iconst 1, 1) := by decide +kernel
theorem dL_law_924 : decode cL_law 924 = .ok (.iadd, 1) := by decide +kernel
theorem dL_law_925 : decode cL_law 925 = .ok (.iaload, 1) := by decide +kernel
theorem dL_law_926 : decode cL_law 926 = .ok (.aload_n 0, 1) := by decide +kernel
theorem dL_law_927 : decode cL_law 927 = .ok (.iload_n 3, 1) := by decide +kernel
theorem dL_law_928 : decode cL_law 928 = .ok (.iconst 2, 1) := by decide +kernel
theorem dL_law_929 : decode cL_law 929 = .ok (.iadd, 1) := by decide +kernel
theorem dL_law_930 : decode cL_law 930 = .ok (.iaload, 1) := by decide +kernel
theorem dL_law_931 : decode cL_law 931 = .ok (.invokevirtual 114, 3) := by decide +kernel
theorem dL_law_934 : decode cL_law 934 = .ok (.aload_n 2, 1) := by decide +kernel
theorem dL_law_935 : decode cL_law 935 = .ok (.aload_n 0, 1) := by decide +kernel
theorem dL_law_936 : decode cL_law 936 = .ok (.iload_n 3, 1) := by decide +kernel
theorem dL_law_937 : decode cL_law 937 = .ok (.iconst 1, 1) := by decide +kernel
theorem dL_law_938 : decode cL_law 938 = .ok (.iadd, 1) := by decide +kernel
theorem dL_law_939 : decode cL_law 939 = .ok (.iaload, 1) := by decide +kernel
theorem dL_law_940 : decode cL_law 940 = .ok (.aload_n 0, 1) := by decide +kernel
theorem dL_law_941 : decode cL_law 941 = .ok (.iload_n 3, 1) := by decide +kernel
theorem dL_law_942 : decode cL_law 942 = .ok (.iconst 2, 1) := by decide +kernel
theorem dL_law_943 : decode cL_law 943 = .ok (.iadd, 1) := by decide +kernel
theorem dL_law_944 : decode cL_law 944 = .ok (.iaload, 1) := by decide +kernel
theorem dL_law_945 : decode cL_law 945 = .ok (.invokevirtual 117, 3) := by decide +kernel
theorem dL_law_948 : decode cL_law 948 = .ok (.if_icmp .eq 363, 3) := by decide +kernel
theorem dL_law_951 : decode cL_law 951 = .ok (.iconst 0, 1) := by decide +kernel
theorem dL_law_952 : decode cL_law 952 = .ok (.ireturn, 1) := by decide +kernel
theorem dL_law_953 : decode cL_law 953 = .ok (.aload_n 1, 1) := by decide +kernel
theorem dL_law_954 : decode cL_law 954 = .ok (.aload_n 0, 1) := by decide +kernel
theorem dL_law_955 : decode cL_law 955 = .ok (.iload_n 3, 1) := by decide +kernel
theorem dL_law_956 : decode cL_law 956 = .ok (.iconst 1, 1) := by decide +kernel
theorem dL_law_957 : decode cL_law 957 = .ok (.iadd, 1) := by decide +kernel
theorem dL_law_958 : decode cL_law 958 = .ok (.iaload, 1) := by decide +kernel
theorem dL_law_959 : decode cL_law 959 = .ok (.invokevirtual 118, 3) := by decide +kernel
theorem dL_law_962 : decode cL_law 962 = .ok (.aload_n 2, 1) := by decide +kernel
theorem dL_law_963 : decode cL_law 963 = .ok (.aload_n 0, 1) := by decide +kernel
theorem dL_law_964 : decode cL_law 964 = .ok (.iload_n 3, 1) := by decide +kernel
theorem dL_law_965 : decode cL_law 965 = .ok (.iconst 1, 1) := by decide +kernel
theorem dL_law_966 : decode cL_law 966 = .ok (.iadd, 1) := by decide +kernel
theorem dL_law_967 : decode cL_law 967 = .ok (.iaload, 1) := by decide +kernel
theorem dL_law_968 : decode cL_law 968 = .ok (.invokevirtual 121, 3) := by decide +kernel
theorem dL_law_971 : decode cL_law 971 = .ok (.if_icmp .eq 340, 3) := by decide +kernel
theorem dL_law_974 : decode cL_law 974 = .ok (.iconst 0, 1) := by decide +kernel
theorem dL_law_975 : decode cL_law 975 = .ok (.ireturn, 1) := by decide +kernel
theorem dL_law_976 : decode cL_law 976 = .ok (.aload_n 1, 1) := by decide +kernel
theorem dL_law_977 : decode cL_law 977 = .ok (.aload_n 0, 1) := by decide +kernel
theorem dL_law_978 : decode cL_law 978 = .ok (.iload_n 3, 1) := by decide +kernel
theorem dL_law_979 : decode cL_law 979 = .ok (.iconst 1, 1) := by decide +kernel
theorem dL_law_980 : decode cL_law 980 = .ok (.iadd, 1) := by decide +kernel
theorem dL_law_981 : decode cL_law 981 = .ok (.iaload, 1) := by decide +kernel
theorem dL_law_982 : decode cL_law 982 = .ok (.aload_n 0, 1) := by decide +kernel
theorem dL_law_983 : decode cL_law 983 = .ok (.iload_n 3, 1) := by decide +kernel
theorem dL_law_984 : decode cL_law 984 = .ok (.iconst 2, 1) := by decide +kernel
theorem dL_law_985 : decode cL_law 985 = .ok (.iadd, 1) := by decide +kernel
theorem dL_law_986 : decode cL_law 986 = .ok (.iaload, 1) := by decide +kernel
theorem dL_law_987 : decode cL_law 987 = .ok (.invokevirtual 122, 3) := by decide +kernel
theorem dL_law_990 : decode cL_law 990 = .ok (.aload_n 2, 1) := by decide +kernel
theorem dL_law_991 : decode cL_law 991 = .ok (.aload_n 0, 1) := by decide +kernel
theorem dL_law_992 : decode cL_law 992 = .ok (.iload_n 3, 1) := by decide +kernel
theorem dL_law_993 : decode cL_law 993 = .ok (.iconst 1, 1) := by decide +kernel
theorem dL_law_994 : decode cL_law 994 = .ok (.iadd, 1) := by decide +kernel
theorem dL_law_995 : decode cL_law 995 = .ok (.iaload, 1) := by decide +kernel
theorem dL_law_996 : decode cL_law 996 = .ok (.aload_n 0, 1) := by decide +kernel
theorem dL_law_997 : decode cL_law 997 = .ok (.iload_n 3, 1) := by decide +kernel
theorem dL_law_998 : decode cL_law 998 = .ok (.iconst 2, 1) := by decide +kernel
theorem dL_law_999 : decode cL_law 999 = .ok (.iadd, 1) := by decide +kernel
theorem dL_law_1000 : decode cL_law 1000 = .ok (.iaload, 1) := by decide +kernel
theorem dL_law_1001 : decode cL_law 1001 = .ok (.invokevirtual 125, 3) := by decide +kernel
theorem dL_law_1004 : decode cL_law 1004 = .ok (.if_icmp .eq 307, 3) := by decide +kernel
theorem dL_law_1007 : decode cL_law 1007 = .ok (.iconst 0, 1) := by decide +kernel
theorem dL_law_1008 : decode cL_law 1008 = .ok (.ireturn, 1) := by decide +kernel
theorem dL_law_1009 : decode cL_law 1009 = .ok (.aload_n 1, 1) := by decide +kernel
theorem dL_law_1010 : decode cL_law 1010 = .ok (.aload_n 0, 1) := by decide +kernel
theorem dL_law_1011 : decode cL_law 1011 = .ok (.iload_n 3, 1) := by decide +kernel
theorem dL_law_1012 : decode cL_law 1012 = .ok (.iconst 1, 1) := by decide +kernel
theorem dL_law_1013 : decode cL_law 1013 = .ok (.iadd, 1) := by decide +kernel
theorem dL_law_1014 : decode cL_law 1014 = .ok (.iaload, 1) := by decide +kernel
theorem dL_law_1015 : decode cL_law 1015 = .ok (.aload_n 0, 1) := by decide +kernel
theorem dL_law_1016 : decode cL_law 1016 = .ok (.iload_n 3, 1) := by decide +kernel
theorem dL_law_1017 : decode cL_law 1017 = .ok (.iconst 2, 1) := by decide +kernel
theorem dL_law_1018 : decode cL_law 1018 = .ok (.iadd, 1) := by decide +kernel
theorem dL_law_1019 : decode cL_law 1019 = .ok (.iaload, 1) := by decide +kernel
theorem dL_law_1020 : decode cL_law 1020 = .ok (.invokevirtual 126, 3) := by decide +kernel
theorem dL_law_1023 : decode cL_law 1023 = .ok (.aload_n 2, 1) := by decide +kernel
theorem dL_law_1024 : decode cL_law 1024 = .ok (.aload_n 0, 1) := by decide +kernel
theorem dL_law_1025 : decode cL_law 1025 = .ok (.iload_n 3, 1) := by decide +kernel
theorem dL_law_1026 : decode cL_law 1026 = .ok (.iconst 1, 1) := by decide +kernel
theorem dL_law_1027 : decode cL_law 1027 = .ok (.iadd, 1) := by decide +kernel
theorem dL_law_1028 : decode cL_law 1028 = .ok (.iaload, 1) := by decide +kernel
theorem dL_law_1029 : decode cL_law 1029 = .ok (.aload_n 0, 1) := by decide +kernel
theorem dL_law_1030 : decode cL_law 1030 = .ok (.iload_n 3, 1) := by decide +kernel
theorem dL_law_1031 : decode cL_law 1031 = .ok (.iconst 2, 1) := by decide +kernel
theorem dL_law_1032 : decode cL_law 1032 = .ok (.iadd, 1) := by decide +kernel
theorem dL_law_1033 : decode cL_law 1033 = .ok (.iaload, 1) := by decide +kernel
theorem dL_law_1034 : decode cL_law 1034 = .ok (.invokevirtual 129, 3) := by decide +kernel
theorem dL_law_1037 : decode cL_law 1037 = .ok (.if_icmp .eq 274, 3) := by decide +kernel
theorem dL_law_1040 : decode cL_law 1040 = .ok (.iconst 0, 1) := by decide +kernel
theorem dL_law_1041 : decode cL_law 1041 = .ok (.ireturn, 1) := by decide +kernel
theorem dL_law_1042 : decode cL_law 1042 = .ok (.aload_n 1, 1) := by decide +kernel
theorem dL_law_1043 : decode cL_law 1043 = .ok (.aload_n 0, 1) := by decide +kernel
theorem dL_law_1044 : decode cL_law 1044 = .ok (.iload_n 3, 1) := by decide +kernel
theorem dL_law_1045 : decode cL_law 1045 = .ok (.iconst 1, 1) := by decide +kernel
theorem dL_law_1046 : decode cL_law 1046 = .ok (.iadd, 1) := by decide +kernel
theorem dL_law_1047 : decode cL_law 1047 = .ok (.iaload, 1) := by decide +kernel
theorem dL_law_1048 : decode cL_law 1048 = .ok (.aload_n 0, 1) := by decide +kernel
theorem dL_law_1049 : decode cL_law 1049 = .ok (.iload_n 3, 1) := by decide +kernel
theorem dL_law_1050 : decode cL_law 1050 = .ok (.iconst 2, 1) := by decide +kernel
theorem dL_law_1051 : decode cL_law 1051 = .ok (.iadd, 1) := by decide +kernel
theorem dL_law_1052 : decode cL_law 1052 = .ok (.iaload, 1) := by decide +kernel
theorem dL_law_1053 : decode cL_law 1053 = .ok (.aload_n 0, 1) := by decide +kernel
theorem dL_law_1054 : decode cL_law 1054 = .ok (.iload_n 3, 1) := by decide +kernel
theorem dL_law_1055 : decode cL_law 1055 = .ok (.iconst 3, 1) := by decide +kernel
theorem dL_law_1056 : decode cL_law 1056 = .ok (.iadd, 1) := by decide +kernel
theorem dL_law_1057 : decode cL_law 1057 = .ok (.iaload, 1) := by decide +kernel
theorem dL_law_1058 : decode cL_law 1058 = .ok (.invokevirtual 130, 3) := by decide +kernel
theorem dL_law_1061 : decode cL_law 1061 = .ok (.aload_n 2, 1) := by decide +kernel
theorem dL_law_1062 : decode cL_law 1062 = .ok (.aload_n 0, 1) := by decide +kernel
theorem dL_law_1063 : decode cL_law 1063 = .ok (.iload_n 3, 1) := by decide +kernel
theorem dL_law_1064 : decode cL_law 1064 = .ok (.iconst 1, 1) := by decide +kernel
theorem dL_law_1065 : decode cL_law 1065 = .ok (.iadd, 1) := by decide +kernel
theorem dL_law_1066 : decode cL_law 1066 = .ok (.iaload, 1) := by decide +kernel
theorem dL_law_1067 : decode cL_law 1067 = .ok (.aload_n 0, 1) := by decide +kernel
theorem dL_law_1068 : decode cL_law 1068 = .ok (.iload_n 3, 1) := by decide +kernel
theorem dL_law_1069 : decode cL_law 1069 = .ok (.iconst 2, 1) := by decide +kernel
theorem dL_law_1070 : decode cL_law 1070 = .ok (.iadd, 1) := by decide +kernel
theorem dL_law_1071 : decode cL_law 1071 = .ok (.iaload, 1) := by decide +kernel
theorem dL_law_1072 : decode cL_law 1072 = .ok (.aload_n 0, 1) := by decide +kernel
theorem dL_law_1073 : decode cL_law 1073 = .ok (.iload_n 3, 1) := by decide +kernel
theorem dL_law_1074 : decode cL_law 1074 = .ok (.iconst 3, 1) := by decide +kernel
theorem dL_law_1075 : decode cL_law 1075 = .ok (.iadd, 1) := by decide +kernel
theorem dL_law_1076 : decode cL_law 1076 = .ok (.iaload, 1) := by decide +kernel
theorem dL_law_1077 : decode cL_law 1077 = .ok (.invokevirtual 133, 3) := by decide +kernel
theorem dL_law_1080 : decode cL_law 1080 = .ok (.if_icmp .eq 231, 3) := by decide +kernel
theorem dL_law_1083 : decode cL_law 1083 = .ok (.iconst 0, 1) := by decide +kernel
theorem dL_law_1084 : decode cL_law 1084 = .ok (.ireturn, 1) := by decide +kernel
theorem dL_law_1085 : decode cL_law 1085 = .ok (.aload_n 1, 1) := by decide +kernel
theorem dL_law_1086 : decode cL_law 1086 = .ok (.aload_n 0, 1) := by decide +kernel
theorem dL_law_1087 : decode cL_law 1087 = .ok (.iload_n 3, 1) := by decide +kernel
theorem dL_law_1088 : decode cL_law 1088 = .ok (.iconst 1, 1) := by decide +kernel
theorem dL_law_1089 : decode cL_law 1089 = .ok (.iadd, 1) := by decide +kernel
theorem dL_law_1090 : decode cL_law 1090 = .ok (.iaload, 1) := by decide +kernel
theorem dL_law_1091 : decode cL_law 1091 = .ok (.invokevirtual 134, 3) := by decide +kernel
theorem dL_law_1094 : decode cL_law 1094 = .ok (.aload_n 2, 1) := by decide +kernel
theorem dL_law_1095 : decode cL_law 1095 = .ok (.aload_n 0, 1) := by decide +kernel
theorem dL_law_1096 : decode cL_law 1096 = .ok (.iload_n 3, 1) := by decide +kernel
theorem dL_law_1097 : decode cL_law 1097 = .ok (.iconst 1, 1) := by decide +kernel
theorem dL_law_1098 : decode cL_law 1098 = .ok (.iadd, 1) := by decide +kernel
theorem dL_law_1099 : decode cL_law 1099 = .ok (.iaload, 1) := by decide +kernel
theorem dL_law_1100 : decode cL_law 1100 = .ok (.invokevirtual 137, 3) := by decide +kernel
theorem dL_law_1103 : decode cL_law 1103 = .ok (.if_icmp .eq 208, 3) := by decide +kernel
theorem dL_law_1106 : decode cL_law 1106 = .ok (.iconst 0, 1) := by decide +kernel
theorem dL_law_1107 : decode cL_law 1107 = .ok (.ireturn, 1) := by decide +kernel
theorem dL_law_1108 : decode cL_law 1108 = .ok (.aload_n 1, 1) := by decide +kernel
theorem dL_law_1109 : decode cL_law 1109 = .ok (.aload_n 0, 1) := by decide +kernel
theorem dL_law_1110 : decode cL_law 1110 = .ok (.iload_n 3, 1) := by decide +kernel
theorem dL_law_1111 : decode cL_law 1111 = .ok (.iconst 1, 1) := by decide +kernel
theorem dL_law_1112 : decode cL_law 1112 = .ok (.iadd, 1) := by decide +kernel
theorem dL_law_1113 : decode cL_law 1113 = .ok (.iaload, 1) := by decide +kernel
theorem dL_law_1114 : decode cL_law 1114 = .ok (.aload_n 0, 1) := by decide +kernel
theorem dL_law_1115 : decode cL_law 1115 = .ok (.iload_n 3, 1) := by decide +kernel
theorem dL_law_1116 : decode cL_law 1116 = .ok (.iconst 2, 1) := by decide +kernel
theorem dL_law_1117 : decode cL_law 1117 = .ok (.iadd, 1) := by decide +kernel
theorem dL_law_1118 : decode cL_law 1118 = .ok (.iaload, 1) := by decide +kernel
theorem dL_law_1119 : decode cL_law 1119 = .ok (.invokevirtual 138, 3) := by decide +kernel
theorem dL_law_1122 : decode cL_law 1122 = .ok (.aload_n 2, 1) := by decide +kernel
theorem dL_law_1123 : decode cL_law 1123 = .ok (.aload_n 0, 1) := by decide +kernel
theorem dL_law_1124 : decode cL_law 1124 = .ok (.iload_n 3, 1) := by decide +kernel
theorem dL_law_1125 : decode cL_law 1125 = .ok (.iconst 1, 1) := by decide +kernel
theorem dL_law_1126 : decode cL_law 1126 = .ok (.iadd, 1) := by decide +kernel
theorem dL_law_1127 : decode cL_law 1127 = .ok (.iaload, 1) := by decide +kernel
theorem dL_law_1128 : decode cL_law 1128 = .ok (.aload_n 0, 1) := by decide +kernel
theorem dL_law_1129 : decode cL_law 1129 = .ok (.iload_n 3, 1) := by decide +kernel
theorem dL_law_1130 : decode cL_law 1130 = .ok (.iconst 2, 1) := by decide +kernel
theorem dL_law_1131 : decode cL_law 1131 = .ok (.iadd, 1) := by decide +kernel
theorem dL_law_1132 : decode cL_law 1132 = .ok (.iaload, 1) := by decide +kernel
theorem dL_law_1133 : decode cL_law 1133 = .ok (.invokevirtual 141, 3) := by decide +kernel
theorem dL_law_1136 : decode cL_law 1136 = .ok (.if_icmp .eq 175, 3) := by decide +kernel
theorem dL_law_1139 : decode cL_law 1139 = .ok (.iconst 0, 1) := by decide +kernel
theorem dL_law_1140 : decode cL_law 1140 = .ok (.ireturn, 1) := by decide +kernel
theorem dL_law_1141 : decode cL_law 1141 = .ok (.aload_n 1, 1) := by decide +kernel
theorem dL_law_1142 : decode cL_law 1142 = .ok (.aload_n 0, 1) := by decide +kernel
theorem dL_law_1143 : decode cL_law 1143 = .ok (.iload_n 3, 1) := by decide +kernel
theorem dL_law_1144 : decode cL_law 1144 = .ok (.iconst 1, 1) := by decide +kernel
theorem dL_law_1145 : decode cL_law 1145 = .ok (.iadd, 1) := by decide +kernel
theorem dL_law_1146 : decode cL_law 1146 = .ok (.iaload, 1) := by decide +kernel
theorem dL_law_1147 : decode cL_law 1147 = .ok (.invokevirtual 142, 3) := by decide +kernel
theorem dL_law_1150 : decode cL_law 1150 = .ok (.aload_n 2, 1) := by decide +kernel
theorem dL_law_1151 : decode cL_law 1151 = .ok (.aload_n 0, 1) := by decide +kernel
theorem dL_law_1152 : decode cL_law 1152 = .ok (.iload_n 3, 1) := by decide +kernel
theorem dL_law_1153 : decode cL_law 1153 = .ok (.iconst 1, 1) := by decide +kernel
theorem dL_law_1154 : decode cL_law 1154 = .ok (.iadd, 1) := by decide +kernel
theorem dL_law_1155 : decode cL_law 1155 = .ok (.iaload, 1) := by decide +kernel
theorem dL_law_1156 : decode cL_law 1156 = .ok (.invokevirtual 145, 3) := by decide +kernel
theorem dL_law_1159 : decode cL_law 1159 = .ok (.if_icmp .eq 152, 3) := by decide +kernel
theorem dL_law_1162 : decode cL_law 1162 = .ok (.iconst 0, 1) := by decide +kernel
theorem dL_law_1163 : decode cL_law 1163 = .ok (.ireturn, 1) := by decide +kernel
theorem dL_law_1164 : decode cL_law 1164 = .ok (.aload_n 1, 1) := by decide +kernel
theorem dL_law_1165 : decode cL_law 1165 = .ok (.aload_n 0, 1) := by decide +kernel
theorem dL_law_1166 : decode cL_law 1166 = .ok (.iload_n 3, 1) := by decide +kernel
theorem dL_law_1167 : decode cL_law 1167 = .ok (.iconst 1, 1) := by decide +kernel
theorem dL_law_1168 : decode cL_law 1168 = .ok (.iadd, 1) := by decide +kernel
theorem dL_law_1169 : decode cL_law 1169 = .ok (.iaload, 1) := by decide +kernel
theorem dL_law_1170 : decode cL_law 1170 = .ok (.aload_n 0, 1) := by decide +kernel
theorem dL_law_1171 : decode cL_law 1171 = .ok (.iload_n 3, 1) := by decide +kernel
theorem dL_law_1172 : decode cL_law 1172 = .ok (.iconst 2, 1) := by decide +kernel
theorem dL_law_1173 : decode cL_law 1173 = .ok (.iadd, 1) := by decide +kernel
theorem dL_law_1174 : decode cL_law 1174 = .ok (.iaload, 1) := by decide +kernel
theorem dL_law_1175 : decode cL_law 1175 = .ok (.invokevirtual 146, 3) := by decide +kernel
theorem dL_law_1178 : decode cL_law 1178 = .ok (.aload_n 2, 1) := by decide +kernel
theorem dL_law_1179 : decode cL_law 1179 = .ok (.aload_n 0, 1) := by decide +kernel
theorem dL_law_1180 : decode cL_law 1180 = .ok (.iload_n 3, 1) := by decide +kernel
theorem dL_law_1181 : decode cL_law 1181 = .ok (.iconst 1, 1) := by decide +kernel
theorem dL_law_1182 : decode cL_law 1182 = .ok (.iadd, 1) := by decide +kernel
theorem dL_law_1183 : decode cL_law 1183 = .ok (.iaload, 1) := by decide +kernel
theorem dL_law_1184 : decode cL_law 1184 = .ok (.aload_n 0, 1) := by decide +kernel
theorem dL_law_1185 : decode cL_law 1185 = .ok (.iload_n 3, 1) := by decide +kernel
theorem dL_law_1186 : decode cL_law 1186 = .ok (.iconst 2, 1) := by decide +kernel
theorem dL_law_1187 : decode cL_law 1187 = .ok (.iadd, 1) := by decide +kernel
theorem dL_law_1188 : decode cL_law 1188 = .ok (.iaload, 1) := by decide +kernel
theorem dL_law_1189 : decode cL_law 1189 = .ok (.invokevirtual 149, 3) := by decide +kernel
theorem dL_law_1192 : decode cL_law 1192 = .ok (.if_icmp .eq 119, 3) := by decide +kernel
theorem dL_law_1195 : decode cL_law 1195 = .ok (.iconst 0, 1) := by decide +kernel
theorem dL_law_1196 : decode cL_law 1196 = .ok (.ireturn, 1) := by decide +kernel
theorem dL_law_1197 : decode cL_law 1197 = .ok (.aload_n 1, 1) := by decide +kernel
theorem dL_law_1198 : decode cL_law 1198 = .ok (.invokevirtual 150, 3) := by decide +kernel
theorem dL_law_1201 : decode cL_law 1201 = .ok (.aload_n 2, 1) := by decide +kernel
theorem dL_law_1202 : decode cL_law 1202 = .ok (.invokevirtual 153, 3) := by decide +kernel
theorem dL_law_1205 : decode cL_law 1205 = .ok (.if_icmp .eq 106, 3) := by decide +kernel
theorem dL_law_1208 : decode cL_law 1208 = .ok (.iconst 0, 1) := by decide +kernel
theorem dL_law_1209 : decode cL_law 1209 = .ok (.ireturn, 1) := by decide +kernel
theorem dL_law_1210 : decode cL_law 1210 = .ok (.aload_n 1, 1) := by decide +kernel
theorem dL_law_1211 : decode cL_law 1211 = .ok (.invokevirtual 154, 3) := by decide +kernel
theorem dL_law_1214 : decode cL_law 1214 = .ok (.aload_n 2, 1) := by decide +kernel
theorem dL_law_1215 : decode cL_law 1215 = .ok (.invokevirtual 158, 3) := by decide +kernel
theorem dL_law_1218 : decode cL_law 1218 = .ok (.lcmp, 1) := by decide +kernel
theorem dL_law_1219 : decode cL_law 1219 = .ok (.ifCond .eq 92, 3) := by decide +kernel
theorem dL_law_1222 : decode cL_law 1222 = .ok (.iconst 0, 1) := by decide +kernel
theorem dL_law_1223 : decode cL_law 1223 = .ok (.ireturn, 1) := by decide +kernel
theorem dL_law_1224 : decode cL_law 1224 = .ok (.aload_n 1, 1) := by decide +kernel
theorem dL_law_1225 : decode cL_law 1225 = .ok (.invokevirtual 159, 3) := by decide +kernel
theorem dL_law_1228 : decode cL_law 1228 = .ok (.aload_n 2, 1) := by decide +kernel
theorem dL_law_1229 : decode cL_law 1229 = .ok (.invokevirtual 162, 3) := by decide +kernel
theorem dL_law_1232 : decode cL_law 1232 = .ok (.lcmp, 1) := by decide +kernel
theorem dL_law_1233 : decode cL_law 1233 = .ok (.ifCond .eq 78, 3) := by decide +kernel
theorem dL_law_1236 : decode cL_law 1236 = .ok (.iconst 0, 1) := by decide +kernel
theorem dL_law_1237 : decode cL_law 1237 = .ok (.ireturn, 1) := by decide +kernel
theorem dL_law_1238 : decode cL_law 1238 = .ok (.aload_n 1, 1) := by decide +kernel
theorem dL_law_1239 : decode cL_law 1239 = .ok (.aload_n 0, 1) := by decide +kernel
theorem dL_law_1240 : decode cL_law 1240 = .ok (.iload_n 3, 1) := by decide +kernel
theorem dL_law_1241 : decode cL_law 1241 = .ok (.iconst 1, 1) := by decide +kernel
theorem dL_law_1242 : decode cL_law 1242 = .ok (.iadd, 1) := by decide +kernel
theorem dL_law_1243 : decode cL_law 1243 = .ok (.iaload, 1) := by decide +kernel
theorem dL_law_1244 : decode cL_law 1244 = .ok (.invokevirtual 163, 3) := by decide +kernel
theorem dL_law_1247 : decode cL_law 1247 = .ok (.aload_n 2, 1) := by decide +kernel
theorem dL_law_1248 : decode cL_law 1248 = .ok (.aload_n 0, 1) := by decide +kernel
theorem dL_law_1249 : decode cL_law 1249 = .ok (.iload_n 3, 1) := by decide +kernel
theorem dL_law_1250 : decode cL_law 1250 = .ok (.iconst 1, 1) := by decide +kernel
theorem dL_law_1251 : decode cL_law 1251 = .ok (.iadd, 1) := by decide +kernel
theorem dL_law_1252 : decode cL_law 1252 = .ok (.iaload, 1) := by decide +kernel
theorem dL_law_1253 : decode cL_law 1253 = .ok (.invokevirtual 166, 3) := by decide +kernel
theorem dL_law_1256 : decode cL_law 1256 = .ok (.if_icmp .eq 55, 3) := by decide +kernel
theorem dL_law_1259 : decode cL_law 1259 = .ok (.iconst 0, 1) := by decide +kernel
theorem dL_law_1260 : decode cL_law 1260 = .ok (.ireturn, 1) := by decide +kernel
theorem dL_law_1261 : decode cL_law 1261 = .ok (.aload_n 1, 1) := by decide +kernel
theorem dL_law_1262 : decode cL_law 1262 = .ok (.invokevirtual 167, 3) := by decide +kernel
theorem dL_law_1265 : decode cL_law 1265 = .ok (.aload_n 2, 1) := by decide +kernel
theorem dL_law_1266 : decode cL_law 1266 = .ok (.invokevirtual 170, 3) := by decide +kernel
theorem dL_law_1269 : decode cL_law 1269 = .ok (.if_icmp .eq 42, 3) := by decide +kernel
theorem dL_law_1272 : decode cL_law 1272 = .ok (.iconst 0, 1) := by decide +kernel
theorem dL_law_1273 : decode cL_law 1273 = .ok (.ireturn, 1) := by decide +kernel
theorem dL_law_1274 : decode cL_law 1274 = .ok (.aload_n 1, 1) := by decide +kernel
theorem dL_law_1275 : decode cL_law 1275 = .ok (.aload_n 0, 1) := by decide +kernel
theorem dL_law_1276 : decode cL_law 1276 = .ok (.iload_n 3, 1) := by decide +kernel
theorem dL_law_1277 : decode cL_law 1277 = .ok (.iconst 1, 1) := by decide +kernel
theorem dL_law_1278 : decode cL_law 1278 = .ok (.iadd, 1) := by decide +kernel
theorem dL_law_1279 : decode cL_law 1279 = .ok (.iaload, 1) := by decide +kernel
theorem dL_law_1280 : decode cL_law 1280 = .ok (.invokevirtual 171, 3) := by decide +kernel
theorem dL_law_1283 : decode cL_law 1283 = .ok (.aload_n 2, 1) := by decide +kernel
theorem dL_law_1284 : decode cL_law 1284 = .ok (.aload_n 0, 1) := by decide +kernel
theorem dL_law_1285 : decode cL_law 1285 = .ok (.iload_n 3, 1) := by decide +kernel
theorem dL_law_1286 : decode cL_law 1286 = .ok (.iconst 1, 1) := by decide +kernel
theorem dL_law_1287 : decode cL_law 1287 = .ok (.iadd, 1) := by decide +kernel
theorem dL_law_1288 : decode cL_law 1288 = .ok (.iaload, 1) := by decide +kernel
theorem dL_law_1289 : decode cL_law 1289 = .ok (.invokevirtual 174, 3) := by decide +kernel
theorem dL_law_1292 : decode cL_law 1292 = .ok (.if_icmp .eq 19, 3) := by decide +kernel
theorem dL_law_1295 : decode cL_law 1295 = .ok (.iconst 0, 1) := by decide +kernel
theorem dL_law_1296 : decode cL_law 1296 = .ok (.ireturn, 1) := by decide +kernel
theorem dL_law_1297 : decode cL_law 1297 = .ok (.aload_n 1, 1) := by decide +kernel
theorem dL_law_1298 : decode cL_law 1298 = .ok (.invokevirtual 175, 3) := by decide +kernel
theorem dL_law_1301 : decode cL_law 1301 = .ok (.aload_n 2, 1) := by decide +kernel
theorem dL_law_1302 : decode cL_law 1302 = .ok (.invokevirtual 178, 3) := by decide +kernel
theorem dL_law_1305 : decode cL_law 1305 = .ok (.lcmp, 1) := by decide +kernel
theorem dL_law_1306 : decode cL_law 1306 = .ok (.ifCond .eq 5, 3) := by decide +kernel
theorem dL_law_1309 : decode cL_law 1309 = .ok (.iconst 0, 1) := by decide +kernel
theorem dL_law_1310 : decode cL_law 1310 = .ok (.ireturn, 1) := by decide +kernel
theorem dL_law_1311 : decode cL_law 1311 = .ok (.iinc 3 6, 3) := by decide +kernel
theorem dL_law_1314 : decode cL_law 1314 = .ok (.goto (-1296), 3) := by decide +kernel
theorem dL_law_1317 : decode cL_law 1317 = .ok (.iconst 1, 1) := by decide +kernel
theorem dL_law_1318 : decode cL_law 1318 = .ok (.ireturn, 1) := by decide +kernel
