theorem dX11_put__12 : decode cX11_put_ 12 = .ok (.lload_n 2, 1) := by decide +kernel
theorem dX11_put__13 : decode cX11_put_ 13 = .ok (.lastore, 1) := by decide +kernel
theorem dX11_put__14 : decode cX11_put_ 14 = .ok (.return_, 1) := by decide +kernel
theorem dL_cell_0 : decode cL_cell 0 = .ok (.ldc 7, 2) := by decide +kernel
theorem dL_cell_2 : decode cL_cell 2 = .ok (.iload_n 1, 1) := by decide +kernel
theorem dL_cell_3 : decode cL_cell 3 = .ok (.aload_n 0, 1) := by decide +kernel
theorem dL_cell_4 : decode cL_cell 4 = .ok (.arraylength, 1) := by decide +kernel
theorem dL_cell_5 : decode cL_cell 5 = .ok (.if_icmp .ge 9, 3) := by decide +kernel
theorem dL_cell_8 : decode cL_cell 8 = .ok (.aload_n 0, 1) := by decide +kernel
theorem dL_cell_9 : decode cL_cell 9 = .ok (.iload_n 1, 1) := by decide +kernel
theorem dL_cell_10 : decode cL_cell 10 = .ok (.iaload, 1) := by decide +kernel
theorem dL_cell_11 : decode cL_cell 11 = .ok (.goto 4, 3) := by decide +kernel
theorem dL_cell_14 : decode cL_cell 14 = .ok (.iconst 0, 1) := by decide +kernel
theorem dL_cell_15 : decode cL_cell 15 = .ok (.sipush 1009, 3) := by decide +kernel
theorem dL_cell_18 : decode cL_cell 18 = .ok (.iload_n 1, 1) := by decide +kernel
theorem dL_cell_19 : decode cL_cell 19 = .ok (.imul, 1) := by decide +kernel
theorem dL_cell_20 : decode cL_cell 20 = .ok (.iadd, 1) := by decide +kernel
theorem dL_cell_21 : decode cL_cell 21 = .ok (.imul, 1) := by decide +kernel
theorem dL_cell_22 : decode cL_cell 22 = .ok (.sipush 12345, 3) := by decide +kernel
theorem dL_cell_25 : decode cL_cell 25 = .ok (.iadd, 1) := by decide +kernel
theorem dL_cell_26 : decode cL_cell 26 = .ok (.istore_n 2, 1) := by decide +kernel
theorem dL_cell_27 : decode cL_cell 27 = .ok (.iload_n 2, 1) := by decide +kernel
theorem dL_cell_28 : decode cL_cell 28 = .ok (.iload_n 2, 1) := by decide +kernel
theorem dL_cell_29 : decode cL_cell 29 = .ok (.bipush 13, 2) := by decide +kernel
theorem dL_cell_31 : decode cL_cell 31 = .ok (.iushr, 1) := by decide +kernel
theorem dL_cell_32 : decode cL_cell 32 = .ok (.ixor, 1) := by decide +kernel
theorem dL_cell_33 : decode cL_cell 33 = .ok (.ldc 8, 2) := by decide +kernel
theorem dL_cell_35 : decode cL_cell 35 = .ok (.imul, 1) := by decide +kernel
theorem dL_cell_36 : decode cL_cell 36 = .ok (.istore_n 2, 1) := by decide +kernel
theorem dL_cell_37 : decode cL_cell 37 = .ok (.iload_n 2, 1) := by decide +kernel
theorem dL_cell_38 : decode cL_cell 38 = .ok (.iload_n 2, 1) := by decide +kernel
theorem dL_cell_39 : decode cL_cell 39 = .ok (.bipush 16, 2) := by decide +kernel
theorem dL_cell_41 : decode cL_cell 41 = .ok (.iushr, 1) := by decide +kernel
theorem dL_cell_42 : decode cL_cell 42 = .ok (.ixor, 1) := by decide +kernel
theorem dL_cell_43 : decode cL_cell 43 = .ok (.ireturn, 1) := by decide +kernel
theorem dL_say_0 : decode cL_say 0 = .ok (.aload_n 0, 1) := by decide +kernel
theorem dL_say_1 : decode cL_say 1 = .ok (.iconst 1, 1) := by decide +kernel
theorem dL_say_2 : decode cL_say 2 = .ok (.iload_n 1, 1) := by decide +kernel
theorem dL_say_3 : decode cL_say 3 = .ok (.i2l, 1) := by decide +kernel
theorem dL_say_4 : decode cL_say 4 = .ok (.invokevirtual 9, 3) := by decide +kernel
theorem dL_say_7 : decode cL_say 7 = .ok (.ireturn, 1) := by decide +kernel
theorem dL_stir_0 : decode cL_stir 0 = .ok (.ldc 7, 2) := by decide +kernel
theorem dL_stir_2 : decode cL_stir 2 = .ok (.aload_n 0, 1) := by decide +kernel
theorem dL_stir_3 : decode cL_stir 3 = .ok (.iload_n 1, 1) := by decide +kernel
theorem dL_stir_4 : decode cL_stir 4 = .ok (.iconst 1, 1) := by decide +kernel
theorem dL_stir_5 : decode cL_stir 5 = .ok (.iadd, 1) := by decide +kernel
theorem dL_stir_6 : decode cL_stir 6 = .ok (.iload_n 2, 1) := by decide +kernel
theorem dL_stir_7 : decode cL_stir 7 = .ok (.iconst 3, 1) := by decide +kernel
theorem dL_stir_8 : decode cL_stir 8 = .ok (.idiv, 1) := by decide +kernel
theorem dL_stir_9 : decode cL_stir 9 = .ok (.iadd, 1) := by decide +kernel
theorem dL_stir_10 : decode cL_stir 10 = .ok (.invokestatic 15, 3) := by decide +kernel
theorem dL_stir_13 : decode cL_stir 13 = .ok (.bipush 31, 2) := by decide +kernel
theorem dL_stir_15 : decode cL_stir 15 = .ok (.aload_n 0, 1) := by decide +kernel
theorem dL_stir_16 : decode cL_stir 16 = .ok (.iload_n 1, 1) := by decide +kernel
theorem dL_stir_17 : decode cL_stir 17 = .ok (.iconst 2, 1) := by decide +kernel
theorem dL_stir_18 : decode cL_stir 18 = .ok (.iadd, 1) := by decide +kernel
theorem dL_stir_19 : decode cL_stir 19 = .ok (.iload_n 2, 1) := by decide +kernel
theorem dL_stir_20 : decode cL_stir 20 = .ok (.iconst 3, 1) := by decide +kernel
theorem dL_stir_21 : decode cL_stir 21 = .ok (.irem, 1) := by decide +kernel
theorem dL_stir_22 : decode cL_stir 22 = .ok (.iadd, 1) := by decide +kernel
theorem dL_stir_23 : decode cL_stir 23 = .ok (.invokestatic 15, 3) := by decide +kernel
theorem dL_stir_26 : decode cL_stir 26 = .ok (.imul, 1) := by decide +kernel
theorem dL_stir_27 : decode cL_stir 27 = .ok (.iadd, 1) := by decide +kernel
theorem dL_stir_28 : decode cL_stir 28 = .ok (.sipush 1009, 3) := by decide +kernel
theorem dL_stir_31 : decode cL_stir 31 = .ok (.iload_n 2, 1) := by decide +kernel
theorem dL_stir_32 : decode cL_stir 32 = .ok (.imul, 1) := by decide +kernel
theorem dL_stir_33 : decode cL_stir 33 = .ok (.iadd, 1) := by decide +kernel
theorem dL_stir_34 : decode cL_stir 34 = .ok (.imul, 1) := by decide +kernel
theorem dL_stir_35 : decode cL_stir 35 = .ok (.sipush 12345, 3) := by decide +kernel
theorem dL_stir_38 : decode cL_stir 38 = .ok (.iadd, 1) := by decide +kernel
theorem dL_stir_39 : decode cL_stir 39 = .ok (.istore_n 3, 1) := by decide +kernel
theorem dL_stir_40 : decode cL_stir 40 = .ok (.iload_n 3, 1) := by decide +kernel
theorem dL_stir_41 : decode cL_stir 41 = .ok (.iload_n 3, 1) := by decide +kernel
theorem dL_stir_42 : decode cL_stir 42 = .ok (.bipush 13, 2) := by decide +kernel
theorem dL_stir_44 : decode cL_stir 44 = .ok (.iushr, 1) := by decide +kernel
theorem dL_stir_45 : decode cL_stir 45 = .ok (.ixor, 1) := by decide +kernel
theorem dL_stir_46 : decode cL_stir 46 = .ok (.ldc 8, 2) := by decide +kernel
theorem dL_stir_48 : decode cL_stir 48 = .ok (.imul, 1) := by decide +kernel
theorem dL_stir_49 : decode cL_stir 49 = .ok (.istore_n 3, 1) := by decide +kernel
theorem dL_stir_50 : decode cL_stir 50 = .ok (.iload_n 3, 1) := by decide +kernel
theorem dL_stir_51 : decode cL_stir 51 = .ok (.bipush 16, 2) := by decide +kernel
theorem dL_stir_53 : decode cL_stir 53 = .ok (.iushr, 1) := by decide +kernel
theorem dL_stir_54 : decode cL_stir 54 = .ok (.bipush 63, 2) := by decide +kernel
theorem dL_stir_56 : decode cL_stir 56 = .ok (.iand, 1) := by decide +kernel
theorem dL_stir_57 : decode cL_stir 57 = .ok (.ireturn, 1) := by decide +kernel
theorem dL_sentence_0 : decode cL_sentence 0 = .ok (.iconst 1, 1) := by decide +kernel
theorem dL_sentence_1 : decode cL_sentence 1 = .ok (.aload_n 2, 1) := by decide +kernel
theorem dL_sentence_2 : decode cL_sentence 2 = .ok (.iload_n 3, 1) := by decide +kernel
theorem dL_sentence_3 : decode cL_sentence 3 = .ok (.invokestatic 15, 3) := by decide +kernel
theorem dL_sentence_6 : decode cL_sentence 6 = .ok (.bipush 7, 2) := by decide +kernel
theorem dL_sentence_8 : decode cL_sentence 8 = .ok (.iand, 1) := by decide +kernel
theorem dL_sentence_9 : decode cL_sentence 9 = .ok (.iadd, 1) := by decide +kernel
theorem dL_sentence_10 : decode cL_sentence 10 = .ok (.aload_n 2, 1) := by decide +kernel
theorem dL_sentence_11 : decode cL_sentence 11 = .ok (.iload_n 3, 1) := by decide +kernel
theorem dL_sentence_12 : decode cL_sentence 12 = .ok (.invokestatic 15, 3) := by decide +kernel
theorem dL_sentence_15 : decode cL_sentence 15 = .ok (.iconst 3, 1) := by decide +kernel
theorem dL_sentence_16 : decode cL_sentence 16 = .ok (.ishr, 1) := by decide +kernel
theorem dL_sentence_17 : decode cL_sentence 17 = .ok (.iconst 3, 1) := by decide +kernel
theorem dL_sentence_18 : decode cL_sentence 18 = .ok (.iand, 1) := by decide +kernel
theorem dL_sentence_19 : decode cL_sentence 19 = .ok (.iadd, 1) := by decide +kernel
theorem dL_sentence_20 : decode cL_sentence 20 = .ok (.istore 4, 2) := by decide +kernel
theorem dL_sentence_22 : decode cL_sentence 22 = .ok (.iconst 0, 1) := by decide +kernel
theorem dL_sentence_23 : decode cL_sentence 23 = .ok (.istore 5, 2) := by decide +kernel
theorem dL_sentence_25 : decode cL_sentence 25 = .ok (.iconst 0, 1) := by decide +kernel
theorem dL_sentence_26 : decode cL_sentence 26 = .ok (.istore 6, 2) := by decide +kernel
theorem dL_sentence_28 : decode cL_sentence 28 = .ok (.iconst 0, 1) := by decide +kernel
theorem dL_sentence_29 : decode cL_sentence 29 = .ok (.istore 7, 2) := by decide +kernel
theorem dL_sentence_31 : decode cL_sentence 31 = .ok (.iload 7, 2) := by decide +kernel
theorem dL_sentence_33 : decode cL_sentence 33 = .ok (.ifCond .eq 15, 3) := by decide +kernel
theorem dL_sentence_36 : decode cL_sentence 36 = .ok (.iload 6, 2) := by decide +kernel
theorem dL_sentence_38 : decode cL_sentence 38 = .ok (.ifCond .gt 10, 3) := by decide +kernel
theorem dL_sentence_41 : decode cL_sentence 41 = .ok (.iload 5, 2) := by decide +kernel
theorem dL_sentence_43 : decode cL_sentence 43 = .ok (.iload 4, 2) := by decide +kernel
theorem dL_sentence_45 : decode cL_sentence 45 = .ok (.if_icmp .ge 251, 3) := by decide +kernel
theorem dL_sentence_48 : decode cL_sentence 48 = .ok (.aload_n 2, 1) := by decide +kernel
theorem dL_sentence_49 : decode cL_sentence 49 = .ok (.iload_n 3, 1) := by decide +kernel
theorem dL_sentence_50 : decode cL_sentence 50 = .ok (.iload 5, 2) := by decide +kernel
theorem dL_sentence_52 : decode cL_sentence 52 = .ok (.invokestatic 21, 3) := by decide +kernel
theorem dL_sentence_55 : decode cL_sentence 55 = .ok (.istore 8, 2) := by decide +kernel
theorem dL_sentence_57 : decode cL_sentence 57 = .ok (.iload 5, 2) := by decide +kernel
theorem dL_sentence_59 : decode cL_sentence 59 = .ok (.iload 6, 2) := by decide +kernel
theorem dL_sentence_61 : decode cL_sentence 61 = .ok (.iadd, 1) := by decide +kernel
theorem dL_sentence_62 : decode cL_sentence 62 = .ok (.iload 7, 2) := by decide +kernel
theorem dL_sentence_64 : decode cL_sentence 64 = .ok (.ifCond .eq 7, 3) := by decide +kernel
theorem dL_sentence_67 : decode cL_sentence 67 = .ok (.iconst 0, 1) := by decide +kernel
theorem dL_sentence_68 : decode cL_sentence 68 = .ok (.goto 4, 3) := by decide +kernel
theorem dL_sentence_71 : decode cL_sentence 71 = .ok (.iconst 1, 1) := by decide +kernel
theorem dL_sentence_72 : decode cL_sentence 72 = .ok (.iadd, 1) := by decide +kernel
theorem dL_sentence_73 : decode cL_sentence 73 = .ok (.iload 4, 2) := by decide +kernel
theorem dL_sentence_75 : decode cL_sentence 75 = .ok (.if_icmp .lt 7, 3) := by decide +kernel
theorem dL_sentence_78 : decode cL_sentence 78 = .ok (.iconst 1, 1) := by decide +kernel
theorem dL_sentence_79 : decode cL_sentence 79 = .ok (.goto 4, 3) := by decide +kernel
theorem dL_sentence_82 : decode cL_sentence 82 = .ok (.iconst 0, 1) := by decide +kernel
theorem dL_sentence_83 : decode cL_sentence 83 = .ok (.istore 9, 2) := by decide +kernel
theorem dL_sentence_85 : decode cL_sentence 85 = .ok (.iload 7, 2) := by decide +kernel
theorem dL_sentence_87 : decode cL_sentence 87 = .ok (.ifCond .eq 86, 3) := by decide +kernel
theorem dL_sentence_90 : decode cL_sentence 90 = .ok (.iload 6, 2) := by decide +kernel
theorem dL_sentence_92 : decode cL_sentence 92 = .ok (.ifCond .le 20, 3) := by decide +kernel
theorem dL_sentence_95 : decode cL_sentence 95 = .ok (.iload 9, 2) := by decide +kernel
theorem dL_sentence_97 : decode cL_sentence 97 = .ok (.ifCond .ne 10, 3) := by decide +kernel
theorem dL_sentence_100 : decode cL_sentence 100 = .ok (.iload 8, 2) := by decide +kernel
theorem dL_sentence_102 : decode cL_sentence 102 = .ok (.iconst 3, 1) := by decide +kernel
theorem dL_sentence_103 : decode cL_sentence 103 = .ok (.iand, 1) := by decide +kernel
theorem dL_sentence_104 : decode cL_sentence 104 = .ok (.ifCond .ne 8, 3) := by decide +kernel
theorem dL_sentence_107 : decode cL_sentence 107 = .ok (.bipush 41, 2) := by decide +kernel
theorem dL_sentence_109 : decode cL_sentence 109 = .ok (.goto 49, 3) := by decide +kernel
theorem dL_sentence_112 : decode cL_sentence 112 = .ok (.iload 8, 2) := by decide +kernel
theorem dL_sentence_114 : decode cL_sentence 114 = .ok (.iconst 2, 1) := by decide +kernel
theorem dL_sentence_115 : decode cL_sentence 115 = .ok (.ishr, 1) := by decide +kernel
theorem dL_sentence_116 : decode cL_sentence 116 = .ok (.iconst 3, 1) := by decide +kernel
theorem dL_sentence_117 : decode cL_sentence 117 = .ok (.iand, 1) := by decide +kernel
theorem dL_sentence_118 : decode cL_sentence 118 = .ok (.ifCond .ne 8, 3) := by decide +kernel
theorem dL_sentence_121 : decode cL_sentence 121 = .ok (.bipush 38, 2) := by decide +kernel
theorem dL_sentence_123 : decode cL_sentence 123 = .ok (.goto 35, 3) := by decide +kernel
theorem dL_sentence_126 : decode cL_sentence 126 = .ok (.iload 8, 2) := by decide +kernel
theorem dL_sentence_128 : decode cL_sentence 128 = .ok (.iconst 2, 1) := by decide +kernel
theorem dL_sentence_129 : decode cL_sentence 129 = .ok (.ishr, 1) := by decide +kernel
theorem dL_sentence_130 : decode cL_sentence 130 = .ok (.iconst 3, 1) := by decide +kernel
theorem dL_sentence_131 : decode cL_sentence 131 = .ok (.iand, 1) := by decide +kernel
theorem dL_sentence_132 : decode cL_sentence 132 = .ok (.iconst 1, 1) := by decide +kernel
theorem dL_sentence_133 : decode cL_sentence 133 = .ok (.if_icmp .ne 8, 3) := by decide +kernel
theorem dL_sentence_136 : decode cL_sentence 136 = .ok (.bipush 124, 2) := by decide +kernel
theorem dL_sentence_138 : decode cL_sentence 138 = .ok (.goto 20, 3) := by decide +kernel
theorem dL_sentence_141 : decode cL_sentence 141 = .ok (.iload 8, 2) := by decide +kernel
theorem dL_sentence_143 : decode cL_sentence 143 = .ok (.iconst 2, 1) := by decide +kernel
theorem dL_sentence_144 : decode cL_sentence 144 = .ok (.ishr, 1) := by decide +kernel
theorem dL_sentence_145 : decode cL_sentence 145 = .ok (.iconst 3, 1) := by decide +kernel
theorem dL_sentence_146 : decode cL_sentence 146 = .ok (.iand, 1) := by decide +kernel
theorem dL_sentence_147 : decode cL_sentence 147 = .ok (.iconst 2, 1) := by decide +kernel
theorem dL_sentence_148 : decode cL_sentence 148 = .ok (.if_icmp .ne 8, 3) := by decide +kernel
theorem dL_sentence_151 : decode cL_sentence 151 = .ok (.bipush 62, 2) := by decide +kernel
theorem dL_sentence_153 : decode cL_sentence 153 = .ok (.goto 5, 3) := by decide +kernel
theorem dL_sentence_156 : decode cL_sentence 156 = .ok (.bipush 45, 2) := by decide +kernel
theorem dL_sentence_158 : decode cL_sentence 158 = .ok (.istore 10, 2) := by decide +kernel
theorem dL_sentence_160 : decode cL_sentence 160 = .ok (.iload 9, 2) := by decide +kernel
theorem dL_sentence_162 : decode cL_sentence 162 = .ok (.ifCond .eq 66, 3) := by decide +kernel
theorem dL_sentence_165 : decode cL_sentence 165 = .ok (.iload 6, 2) := by decide +kernel
theorem dL_sentence_167 : decode cL_sentence 167 = .ok (.ifCond .ne 61, 3) := by decide +kernel
theorem dL_sentence_170 : decode cL_sentence 170 = .ok (.goto 126, 3) := by decide +kernel
theorem dL_sentence_173 : decode cL_sentence 173 = .ok (.iload 9, 2) := by decide +kernel
theorem dL_sentence_175 : decode cL_sentence 175 = .ok (.ifCond .ne 11, 3) := by decide +kernel
theorem dL_sentence_178 : decode cL_sentence 178 = .ok (.iload 8, 2) := by decide +kernel
theorem dL_sentence_180 : decode cL_sentence 180 = .ok (.iconst 3, 1) := by decide +kernel
theorem dL_sentence_181 : decode cL_sentence 181 = .ok (.iand, 1) := by decide +kernel
theorem dL_sentence_182 : decode cL_sentence 182 = .ok (.iconst 1, 1) := by decide +kernel
theorem dL_sentence_183 : decode cL_sentence 183 = .ok (.if_icmp .le 18, 3) := by decide +kernel
theorem dL_sentence_186 : decode cL_sentence 186 = .ok (.bipush 97, 2) := by decide +kernel
theorem dL_sentence_188 : decode cL_sentence 188 = .ok (.iload 8, 2) := by decide +kernel
theorem dL_sentence_190 : decode cL_sentence 190 = .ok (.iconst 2, 1) := by decide +kernel
theorem dL_sentence_191 : decode cL_sentence 191 = .ok (.ishr, 1) := by decide +kernel
theorem dL_sentence_192 : decode cL_sentence 192 = .ok (.bipush 7, 2) := by decide +kernel
theorem dL_sentence_194 : decode cL_sentence 194 = .ok (.iand, 1) := by decide +kernel
theorem dL_sentence_195 : decode cL_sentence 195 = .ok (.iconst 5, 1) := by decide +kernel
theorem dL_sentence_196 : decode cL_sentence 196 = .ok (.irem, 1) := by decide +kernel
theorem dL_sentence_197 : decode cL_sentence 197 = .ok (.iadd, 1) := by decide +kernel
theorem dL_sentence_198 : decode cL_sentence 198 = .ok (.goto 28, 3) := by decide +kernel
theorem dL_sentence_201 : decode cL_sentence 201 = .ok (.iload 8, 2) := by decide +kernel
theorem dL_sentence_203 : decode cL_sentence 203 = .ok (.iconst 3, 1) := by decide +kernel
theorem dL_sentence_204 : decode cL_sentence 204 = .ok (.iand, 1) := by decide +kernel
theorem dL_sentence_205 : decode cL_sentence 205 = .ok (.ifCond .ne 8, 3) := by decide +kernel
theorem dL_sentence_208 : decode cL_sentence 208 = .ok (.bipush 33, 2) := by decide +kernel
theorem dL_sentence_210 : decode cL_sentence 210 = .ok (.goto 16, 3) := by decide +kernel
theorem dL_sentence_213 : decode cL_sentence 213 = .ok (.iload 6, 2) := by decide +kernel
theorem dL_sentence_215 : decode cL_sentence 215 = .ok (.iconst 2, 1) := by decide +kernel
theorem dL_sentence_216 : decode cL_sentence 216 = .ok (.if_icmp .ge 8, 3) := by decide +kernel
theorem dL_sentence_219 : decode cL_sentence 219 = .ok (.bipush 40, 2) := by decide +kernel
theorem dL_sentence_221 : decode cL_sentence 221 = .ok (.goto 5, 3) := by decide +kernel
theorem dL_sentence_224 : decode cL_sentence 224 = .ok (.bipush 99, 2) := by decide +kernel
theorem dL_sentence_226 : decode cL_sentence 226 = .ok (.istore 10, 2) := by decide +kernel
theorem dL_sentence_228 : decode cL_sentence 228 = .ok (.iload 6, 2) := by decide +kernel
theorem dL_sentence_230 : decode cL_sentence 230 = .ok (.iload 10, 2) := by decide +kernel
theorem dL_sentence_232 : decode cL_sentence 232 = .ok (.bipush 40, 2) := by decide +kernel
theorem dL_sentence_234 : decode cL_sentence 234 = .ok (.if_icmp .ne 7, 3) := by decide +kernel
theorem dL_sentence_237 : decode cL_sentence 237 = .ok (.iconst 1, 1) := by decide +kernel
theorem dL_sentence_238 : decode cL_sentence 238 = .ok (.goto 15, 3) := by decide +kernel
theorem dL_sentence_241 : decode cL_sentence 241 = .ok (.iload 10, 2) := by decide +kernel
theorem dL_sentence_243 : decode cL_sentence 243 = .ok (.bipush 41, 2) := by decide +kernel
theorem dL_sentence_245 : decode cL_sentence 245 = .ok (.if_icmp .ne 7, 3) := by decide +kernel
theorem dL_sentence_248 : decode cL_sentence 248 = .ok (.iconst (-1), 1) := by decide +kernel
theorem dL_sentence_249 : decode cL_sentence 249 = .ok (.goto 4, 3) := by decide +kernel
theorem dL_sentence_252 : decode cL_sentence 252 = .ok (.iconst 0, 1) := by decide +kernel
theorem dL_sentence_253 : decode cL_sentence 253 = .ok (.iadd, 1) := by decide +kernel
theorem dL_sentence_254 : decode cL_sentence 254 = .ok (.istore 6, 2) := by decide +kernel
theorem dL_sentence_256 : decode cL_sentence 256 = .ok (.iload 10, 2) := by decide +kernel
theorem dL_sentence_258 : decode cL_sentence 258 = .ok (.bipush 41, 2) := by decide +kernel
theorem dL_sentence_260 : decode cL_sentence 260 = .ok (.if_icmp .eq 17, 3) := by decide +kernel
theorem dL_sentence_263 : decode cL_sentence 263 = .ok (.iload 10, 2) := by decide +kernel
theorem dL_sentence_265 : decode cL_sentence 265 = .ok (.bipush 97, 2) := by decide +kernel
theorem dL_sentence_267 : decode cL_sentence 267 = .ok (.if_icmp .lt 14, 3) := by decide +kernel
theorem dL_sentence_270 : decode cL_sentence 270 = .ok (.iload 10, 2) := by decide +kernel
theorem dL_sentence_272 : decode cL_sentence 272 = .ok (.bipush 101, 2) := by decide +kernel
theorem dL_sentence_274 : decode cL_sentence 274 = .ok (.if_icmp .gt 7, 3) := by decide +kernel
theorem dL_sentence_277 : decode cL_sentence 277 = .ok (.iconst 1, 1) := by decide +kernel
theorem dL_sentence_278 : decode cL_sentence 278 = .ok (.goto 4, 3) := by decide +kernel
theorem dL_sentence_281 : decode cL_sentence 281 = .ok (.iconst 0, 1) := by decide +kernel
theorem dL_sentence_282 : decode cL_sentence 282 = .ok (.istore 7, 2) := by decide +kernel
theorem dL_sentence_284 : decode cL_sentence 284 = .ok (.aload_n 1, 1) := by decide +kernel
theorem dL_sentence_285 : decode cL_sentence 285 = .ok (.iload 5, 2) := by decide +kernel
theorem dL_sentence_287 : decode cL_sentence 287 = .ok (.iload 10, 2) := by decide +kernel
theorem dL_sentence_289 : decode cL_sentence 289 = .ok (.iastore, 1) := by decide +kernel
theorem dL_sentence_290 : decode cL_sentence 290 = .ok (.iinc 5 1, 3) := by decide +kernel
theorem dL_sentence_293 : decode cL_sentence 293 = .ok (.goto (-262), 3) := by decide +kernel
theorem dL_sentence_296 : decode cL_sentence 296 = .ok (.iconst 0, 1) := by decide +kernel
theorem dL_sentence_297 : decode cL_sentence 297 = .ok (.istore 8, 2) := by decide +kernel
theorem dL_sentence_299 : decode cL_sentence 299 = .ok (.iload 8, 2) := by decide +kernel
theorem dL_sentence_301 : decode cL_sentence 301 = .ok (.iload 5, 2) := by decide +kernel
theorem dL_sentence_303 : decode cL_sentence 303 = .ok (.if_icmp .ge 19, 3) := by decide +kernel
theorem dL_sentence_306 : decode cL_sentence 306 = .ok (.aload_n 0, 1) := by decide +kernel
theorem dL_sentence_307 : decode cL_sentence 307 = .ok (.aload_n 1, 1) := by decide +kernel
theorem dL_sentence_308 : decode cL_sentence 308 = .ok (.iload 8, 2) := by decide +kernel
theorem dL_sentence_310 : decode cL_sentence 310 = .ok (.iaload, 1) := by decide +kernel
theorem dL_sentence_311 : decode cL_sentence 311 = .ok (.invokestatic 25, 3) := by decide +kernel
theorem dL_sentence_314 : decode cL_sentence 314 = .ok (.istore 9, 2) := by decide +kernel
theorem dL_sentence_316 : decode cL_sentence 316 = .ok (.iinc 8 1, 3) := by decide +kernel
theorem dL_sentence_319 : decode cL_sentence 319 = .ok (.goto (-20), 3) := by decide +kernel
theorem dL_sentence_322 : decode cL_sentence 322 = .ok (.aload_n 0, 1) := by decide +kernel
theorem dL_sentence_323 : decode cL_sentence 323 = .ok (.invokevirtual 29, 3) := by decide +kernel
theorem dL_sentence_326 : decode cL_sentence 326 = .ok (.iload 5, 2) := by decide +kernel
theorem dL_sentence_328 : decode cL_sentence 328 = .ok (.if_icmp .ne 8, 3) := by decide +kernel
theorem dL_sentence_331 : decode cL_sentence 331 = .ok (.iload 5, 2) := by decide +kernel
theorem dL_sentence_333 : decode cL_sentence 333 = .ok (.goto 4, 3) := by decide +kernel
theorem dL_sentence_336 : decode cL_sentence 336 = .ok (.iconst (-1), 1) := by decide +kernel
theorem dL_sentence_337 : decode cL_sentence 337 = .ok (.ireturn, 1) := by decide +kernel
theorem dL_sight_0 : decode cL_sight 0 = .ok (.ldc2_w 47, 3) := by decide +kernel
theorem dL_sight_3 : decode cL_sight 3 = .ok (.lstore_n 1, 1) := by decide +kernel
theorem dL_sight_4 : decode cL_sight 4 = .ok (.iconst 0, 1) := by decide +kernel
theorem dL_sight_5 : decode cL_sight 5 = .ok (.istore_n 3, 1) := by decide +kernel
theorem dL_sight_6 : decode cL_sight 6 = .ok (.iload_n 3, 1) := by decide +kernel
theorem dL_sight_7 : decode cL_sight 7 = .ok (.bipush 21, 2) := by decide +kernel
theorem dL_sight_9 : decode cL_sight 9 = .ok (.if_icmp .ge 22, 3) := by decide +kernel
theorem dL_sight_12 : decode cL_sight 12 = .ok (.ldc2_w 49, 3) := by decide +kernel
theorem dL_sight_15 : decode cL_sight 15 = .ok (.lload_n 1, 1) := by decide +kernel
theorem dL_sight_16 : decode cL_sight 16 = .ok (.lmul, 1) := by decide +kernel
theorem dL_sight_17 : decode cL_sight 17 = .ok (.aload_n 0, 1) := by decide +kernel
theorem dL_sight_18 : decode cL_sight 18 = .ok (.iload_n 3, 1) := by decide +kernel
theorem dL_sight_19 : decode cL_sight 19 = .ok (.invokevirtual 51, 3) := by decide +kernel
theorem dL_sight_22 : decode cL_sight 22 = .ok (.i2l, 1) := by decide +kernel
theorem dL_sight_23 : decode cL_sight 23 = .ok (.ladd, 1) := by decide +kernel
theorem dL_sight_24 : decode cL_sight 24 = .ok (.lstore_n 1, 1) := by decide +kernel
theorem dL_sight_25 : decode cL_sight 25 = .ok (.iinc 3 1, 3) := by decide +kernel
theorem dL_sight_28 : decode cL_sight 28 = .ok (.goto (-22), 3) := by decide +kernel
theorem dL_sight_31 : decode cL_sight 31 = .ok (.iconst 0, 1) := by decide +kernel
theorem dL_sight_32 : decode cL_sight 32 = .ok (.istore_n 3, 1) := by decide +kernel
theorem dL_sight_33 : decode cL_sight 33 = .ok (.iload_n 3, 1) := by decide +kernel
theorem dL_sight_34 : decode cL_sight 34 = .ok (.iconst 5, 1) := by decide +kernel
theorem dL_sight_35 : decode cL_sight 35 = .ok (.if_icmp .ge 22, 3) := by decide +kernel
theorem dL_sight_38 : decode cL_sight 38 = .ok (.ldc2_w 49, 3) := by decide +kernel
theorem dL_sight_41 : decode cL_sight 41 = .ok (.lload_n 1, 1) := by decide +kernel
theorem dL_sight_42 : decode cL_sight 42 = .ok (.lmul, 1) := by decide +kernel
theorem dL_sight_43 : decode cL_sight 43 = .ok (.aload_n 0, 1) := by decide +kernel
theorem dL_sight_44 : decode cL_sight 44 = .ok (.iload_n 3, 1) := by decide +kernel
theorem dL_sight_45 : decode cL_sight 45 = .ok (.invokevirtual 55, 3) := by decide +kernel
theorem dL_sight_48 : decode cL_sight 48 = .ok (.i2l, 1) := by decide +kernel
theorem dL_sight_49 : decode cL_sight 49 = .ok (.ladd, 1) := by decide +kernel
theorem dL_sight_50 : decode cL_sight 50 = .ok (.lstore_n 1, 1) := by decide +kernel
theorem dL_sight_51 : decode cL_sight 51 = .ok (.iinc 3 1, 3) := by decide +kernel
theorem dL_sight_54 : decode cL_sight 54 = .ok (.goto (-21), 3) := by decide +kernel
theorem dL_sight_57 : decode cL_sight 57 = .ok (.ldc2_w 49, 3) := by decide +kernel
theorem dL_sight_60 : decode cL_sight 60 = .ok (.lload_n 1, 1) := by decide +kernel
theorem dL_sight_61 : decode cL_sight 61 = .ok (.lmul, 1) := by decide +kernel
theorem dL_sight_62 : decode cL_sight 62 = .ok (.aload_n 0, 1) := by decide +kernel
theorem dL_sight_63 : decode cL_sight 63 = .ok (.invokevirtual 58, 3) := by decide +kernel
theorem dL_sight_66 : decode cL_sight 66 = .ok (.ladd, 1) := by decide +kernel
theorem dL_sight_67 : decode cL_sight 67 = .ok (.lreturn, 1) := by decide +kernel
theorem dL_law_0 : decode cL_law 0 = .ok (.new 10, 3) := by decide +kernel
theorem dL_law_3 : decode cL_law 3 = .ok (.dup, 1) := by decide +kernel
theorem dL_law_4 : decode cL_law 4 = .ok (.invokespecial 62, 3) := by decide +kernel
theorem dL_law_7 : decode cL_law 7 = .ok (.astore_n 1, 1) := by decide +kernel
theorem dL_law_8 : decode cL_law 8 = .ok (.bipush 64, 2) := by decide +kernel
theorem dL_law_10 : decode cL_law 10 = .ok (.newarray .int, 2) := by decide +kernel
theorem dL_law_12 : decode cL_law 12 = .ok (.astore_n 2, 1) := by decide +kernel
theorem dL_law_13 : decode cL_law 13 = .ok (.aload_n 1, 1) := by decide +kernel
theorem dL_law_14 : decode cL_law 14 = .ok (.aload_n 2, 1) := by decide +kernel
theorem dL_law_15 : decode cL_law 15 = .ok (.aload_n 0, 1) := by decide +kernel
theorem dL_law_16 : decode cL_law 16 = .ok (.iconst 0, 1) := by decide +kernel
theorem dL_law_17 : decode cL_law 17 = .ok (.invokestatic 63, 3) := by decide +kernel
theorem dL_law_20 : decode cL_law 20 = .ok (.istore_n 3, 1) := by decide +kernel
theorem dL_law_21 : decode cL_law 21 = .ok (.iload_n 3, 1) := by decide +kernel
theorem dL_law_22 : decode cL_law 22 = .ok (.ifCond .ge 5, 3) := by decide +kernel
theorem dL_law_25 : decode cL_law 25 = .ok (.iconst 0, 1) := by decide +kernel
theorem dL_law_26 : decode cL_law 26 = .ok (.ireturn, 1) := by decide +kernel
theorem dL_law_27 : decode cL_law 27 = .ok (.bipush 6, 2) := by decide +kernel
theorem dL_law_29 : decode cL_law 29 = .ok (.istore 4, 2) := by decide +kernel
theorem dL_law_31 : decode cL_law 31 = .ok (.iload 4, 2) := by decide +kernel
theorem dL_law_33 : decode cL_law 33 = .ok (.aload_n 0, 1) := by decide +kernel
theorem dL_law_34 : decode cL_law 34 = .ok (.arraylength, 1) := by decide +kernel
theorem dL_law_35 : decode cL_law 35 = .ok (.if_icmp .ge 913, 3) := by decide +kernel
theorem dL_law_38 : decode cL_law 38 = .ok (.iload 4, 2) := by decide +kernel
theorem dL_law_40 : decode cL_law 40 = .ok (.bipush 24, 2) := by decide +kernel
theorem dL_law_42 : decode cL_law 42 = .ok (.if_icmp .ge 906, 3) := by decide +kernel
theorem dL_law_45 : decode cL_law 45 = .ok (.aload_n 0, 1) := by decide +kernel
theorem dL_law_46 : decode cL_law 46 = .ok (.iload 4, 2) := by decide +kernel
theorem dL_law_48 : decode cL_law 48 = .ok (.invokestatic 15, 3) := by decide +kernel
theorem dL_law_51 : decode cL_law 51 = .ok (.istore 5, 2) := by decide +kernel
theorem dL_law_53 : decode cL_law 53 = .ok (.aload_n 1, 1) := by decide +kernel
theorem dL_law_54 : decode cL_law 54 = .ok (.invokestatic 67, 3) := by decide +kernel
theorem dL_law_57 : decode cL_law 57 = .ok (.lstore 6, 2) := by decide +kernel
theorem dL_law_59 : decode cL_law 59 = .ok (.iload 5, 2) := by decide +kernel
theorem dL_law_61 : decode cL_law 61 = .ok (.bipush 7, 2) := by decide +kernel
theorem dL_law_63 : decode cL_law 63 = .ok (.iand, 1) := by decide +kernel
theorem dL_law_64 : decode cL_law 64 = .ok (.tableswitch 622 0 5 #[40, 91, 141, 457, 517, 599], 40) := by decide +kernel
theorem dL_law_104 : decode cL_law 104 = .ok (.aload_n 1, 1) := by decide +kernel
theorem dL_law_105 : decode cL_law 105 = .ok (.iconst 1, 1) := by decide +kernel
theorem dL_law_106 : decode cL_law 106 = .ok (.invokevirtual 55, 3) := by decide +kernel
theorem dL_law_109 : decode cL_law 109 = .ok (.istore 8, 2) := by decide +kernel
theorem dL_law_111 : decode cL_law 111 = .ok (.aload_n 1, 1) := by decide +kernel
theorem dL_law_112 : decode cL_law 112 = .ok (.iload 5, 2) := by decide +kernel
theorem dL_law_114 : decode cL_law 114 = .ok (.iconst 3, 1) := by decide +kernel
theorem dL_law_115 : decode cL_law 115 = .ok (.ishr, 1) := by decide +kernel
theorem dL_law_116 : decode cL_law 116 = .ok (.bipush 7, 2) := by decide +kernel
theorem dL_law_118 : decode cL_law 118 = .ok (.iand, 1) := by decide +kernel
theorem dL_law_119 : decode cL_law 119 = .ok (.bipush 6, 2) := by decide +kernel
theorem dL_law_121 : decode cL_law 121 = .ok (.irem, 1) := by decide +kernel
theorem dL_law_122 : decode cL_law 122 = .ok (.invokevirtual 71, 3) := by decide +kernel
theorem dL_law_125 : decode cL_law 125 = .ok (.istore 9, 2) := by decide +kernel
theorem dL_law_127 : decode cL_law 127 = .ok (.iload 9, 2) := by decide +kernel
theorem dL_law_129 : decode cL_law 129 = .ok (.iload 8, 2) := by decide +kernel
theorem dL_law_131 : decode cL_law 131 = .ok (.iconst 1, 1) := by decide +kernel
theorem dL_law_132 : decode cL_law 132 = .ok (.iadd, 1) := by decide +kernel
theorem dL_law_133 : decode cL_law 133 = .ok (.if_icmp .eq 809, 3) := by decide +kernel
theorem dL_law_136 : decode cL_law 136 = .ok (.iload 9, 2) := by decide +kernel
theorem dL_law_138 : decode cL_law 138 = .ok (.bipush (-3), 2) := by decide +kernel
theorem dL_law_140 : decode cL_law 140 = .ok (.if_icmp .ne 13, 3) := by decide +kernel
theorem dL_law_143 : decode cL_law 143 = .ok (.aload_n 1, 1) := by decide +kernel
theorem dL_law_144 : decode cL_law 144 = .ok (.invokestatic 67, 3) := by decide +kernel
theorem dL_law_147 : decode cL_law 147 = .ok (.lload 6, 2) := by decide +kernel
theorem dL_law_149 : decode cL_law 149 = .ok (.lcmp, 1) := by decide +kernel
theorem dL_law_150 : decode cL_law 150 = .ok (.ifCond .eq 792, 3) := by decide +kernel
theorem dL_law_153 : decode cL_law 153 = .ok (.iconst 0, 1) := by decide +kernel
theorem dL_law_154 : decode cL_law 154 = .ok (.ireturn, 1) := by decide +kernel
theorem dL_law_155 : decode cL_law 155 = .ok (.aload_n 1, 1) := by decide +kernel
theorem dL_law_156 : decode cL_law 156 = .ok (.iconst 2, 1) := by decide +kernel
theorem dL_law_157 : decode cL_law 157 = .ok (.invokevirtual 55, 3) := by decide +kernel
theorem dL_law_160 : decode cL_law 160 = .ok (.istore 8, 2) := by decide +kernel
theorem dL_law_162 : decode cL_law 162 = .ok (.aload_n 1, 1) := by decide +kernel
theorem dL_law_163 : decode cL_law 163 = .ok (.iload 5, 2) := by decide +kernel
theorem dL_law_165 : decode cL_law 165 = .ok (.iconst 3, 1) := by decide +kernel
theorem dL_law_166 : decode cL_law 166 = .ok (.ishr, 1) := by decide +kernel
theorem dL_law_167 : decode cL_law 167 = .ok (.bipush 31, 2) := by decide +kernel
theorem dL_law_169 : decode cL_law 169 = .ok (.iand, 1) := by decide +kernel
theorem dL_law_170 : decode cL_law 170 = .ok (.iload 5, 2) := by decide +kernel
theorem dL_law_172 : decode cL_law 172 = .ok (.bipush 8, 2) := by decide +kernel
theorem dL_law_174 : decode cL_law 174 = .ok (.ishr, 1) := by decide +kernel
theorem dL_law_175 : decode cL_law 175 = .ok (.bipush 63, 2) := by decide +kernel
theorem dL_law_177 : decode cL_law 177 = .ok (.iand, 1) := by decide +kernel
theorem dL_law_178 : decode cL_law 178 = .ok (.bipush 30, 2) := by decide +kernel
theorem dL_law_180 : decode cL_law 180 = .ok (.isub, 1) := by decide +kernel
theorem dL_law_181 : decode cL_law 181 = .ok (.invokevirtual 74, 3) := by decide +kernel
theorem dL_law_184 : decode cL_law 184 = .ok (.iload 8, 2) := by decide +kernel
theorem dL_law_186 : decode cL_law 186 = .ok (.bipush 8, 2) := by decide +kernel
theorem dL_law_188 : decode cL_law 188 = .ok (.if_icmp .ge 10, 3) := by decide +kernel
theorem dL_law_191 : decode cL_law 191 = .ok (.iload 8, 2) := by decide +kernel
theorem dL_law_193 : decode cL_law 193 = .ok (.iconst 1, 1) := by decide +kernel
theorem dL_law_194 : decode cL_law 194 = .ok (.iadd, 1) := by decide +kernel
theorem dL_law_195 : decode cL_law 195 = .ok (.goto 5, 3) := by decide +kernel
theorem dL_law_198 : decode cL_law 198 = .ok (.bipush (-6), 2) := by decide +kernel
theorem dL_law_200 : decode cL_law 200 = .ok (.if_icmp .eq 742, 3) := by decide +kernel
theorem dL_law_203 : decode cL_law 203 = .ok (.iconst 0, 1) := by decide +kernel
theorem dL_law_204 : decode cL_law 204 = .ok (.ireturn, 1) := by decide +kernel
theorem dL_law_205 : decode cL_law 205 = .ok (.aload_n 1, 1) := by decide +kernel
theorem dL_law_206 : decode cL_law 206 = .ok (.invokevirtual 58, 3) := by decide +kernel
theorem dL_law_209 : decode cL_law 209 = .ok (.lstore 8, 2) := by decide +kernel
theorem dL_law_211 : decode cL_law 211 = .ok (.aload_n 1, 1) := by decide +kernel
theorem dL_law_212 : decode cL_law 212 = .ok (.iconst 0, 1) := by decide +kernel
theorem dL_law_213 : decode cL_law 213 = .ok (.invokevirtual 55, 3) := by decide +kernel
theorem dL_law_216 : decode cL_law 216 = .ok (.istore 10, 2) := by decide +kernel
theorem dL_law_218 : decode cL_law 218 = .ok (.iload 5, 2) := by decide +kernel
theorem dL_law_220 : decode cL_law 220 = .ok (.iconst 3, 1) := by decide +kernel
theorem dL_law_221 : decode cL_law 221 = .ok (.ishr, 1) := by decide +kernel
theorem dL_law_222 : decode cL_law 222 = .ok (.bipush 31, 2) := by decide +kernel
theorem dL_law_224 : decode cL_law 224 = .ok (.iand, 1) := by decide +kernel
theorem dL_law_225 : decode cL_law 225 = .ok (.iload 10, 2) := by decide +kernel
theorem dL_law_227 : decode cL_law 227 = .ok (.irem, 1) := by decide +kernel
theorem dL_law_228 : decode cL_law 228 = .ok (.istore 11, 2) := by decide +kernel
theorem dL_law_230 : decode cL_law 230 = .ok (.iload 5, 2) := by decide +kernel
theorem dL_law_232 : decode cL_law 232 = .ok (.bipush 8, 2) := by decide +kernel
theorem dL_law_234 : decode cL_law 234 = .ok (.ishr, 1) := by decide +kernel
theorem dL_law_235 : decode cL_law 235 = .ok (.bipush 31, 2) := by decide +kernel
theorem dL_law_237 : decode cL_law 237 = .ok (.iand, 1) := by decide +kernel
theorem dL_law_238 : decode cL_law 238 = .ok (.iload 10, 2) := by decide +kernel
theorem dL_law_240 : decode cL_law 240 = .ok (.irem, 1) := by decide +kernel
theorem dL_law_241 : decode cL_law 241 = .ok (.istore 12, 2) := by decide +kernel
theorem dL_law_243 : decode cL_law 243 = .ok (.iconst 0, 1) := by decide +kernel
theorem dL_law_244 : decode cL_law 244 = .ok (.istore 13, 2) := by decide +kernel
theorem dL_law_246 : decode cL_law 246 = .ok (.iconst 0, 1) := by decide +kernel
theorem dL_law_247 : decode cL_law 247 = .ok (.istore 14, 2) := by decide +kernel
theorem dL_law_249 : decode cL_law 249 = .ok (.iload 11, 2) := by decide +kernel
theorem dL_law_251 : decode cL_law 251 = .ok (.iload 12, 2) := by decide +kernel
theorem dL_law_253 : decode cL_law 253 = .ok (.if_icmp .gt 7, 3) := by decide +kernel
theorem dL_law_256 : decode cL_law 256 = .ok (.iconst 1, 1) := by decide +kernel
theorem dL_law_257 : decode cL_law 257 = .ok (.goto 4, 3) := by decide +kernel
theorem dL_law_260 : decode cL_law 260 = .ok (.iconst 0, 1) := by decide +kernel
theorem dL_law_261 : decode cL_law 261 = .ok (.istore 15, 2) := by decide +kernel
theorem dL_law_263 : decode cL_law 263 = .ok (.iload 11, 2) := by decide +kernel
theorem dL_law_265 : decode cL_law 265 = .ok (.istore 16, 2) := by decide +kernel
theorem dL_law_267 : decode cL_law 267 = .ok (.iload 16, 2) := by decide +kernel
theorem dL_law_269 : decode cL_law 269 = .ok (.iload 12, 2) := by decide +kernel
theorem dL_law_271 : decode cL_law 271 = .ok (.if_icmp .gt 167, 3) := by decide +kernel
theorem dL_law_274 : decode cL_law 274 = .ok (.aload_n 1, 1) := by decide +kernel
theorem dL_law_275 : decode cL_law 275 = .ok (.iload 16, 2) := by decide +kernel
theorem dL_law_277 : decode cL_law 277 = .ok (.invokevirtual 51, 3) := by decide +kernel
theorem dL_law_280 : decode cL_law 280 = .ok (.istore 17, 2) := by decide +kernel
theorem dL_law_282 : decode cL_law 282 = .ok (.iload 17, 2) := by decide +kernel
theorem dL_law_284 : decode cL_law 284 = .ok (.bipush 97, 2) := by decide +kernel
theorem dL_law_286 : decode cL_law 286 = .ok (.if_icmp .lt 14, 3) := by decide +kernel
theorem dL_law_289 : decode cL_law 289 = .ok (.iload 17, 2) := by decide +kernel
theorem dL_law_291 : decode cL_law 291 = .ok (.bipush 101, 2) := by decide +kernel
theorem dL_law_293 : decode cL_law 293 = .ok (.if_icmp .gt 7, 3) := by decide +kernel
theorem dL_law_296 : decode cL_law 296 = .ok (.iconst 1, 1) := by decide +kernel
theorem dL_law_297 : decode cL_law 297 = .ok (.goto 4, 3) := by decide +kernel
theorem dL_law_300 : decode cL_law 300 = .ok (.iconst 0, 1) := by decide +kernel
theorem dL_law_301 : decode cL_law 301 = .ok (.istore 18, 2) := by decide +kernel
theorem dL_law_303 : decode cL_law 303 = .ok (.iload 15, 2) := by decide +kernel
theorem dL_law_305 : decode cL_law 305 = .ok (.iload 14, 2) := by decide +kernel
theorem dL_law_307 : decode cL_law 307 = .ok (.ifCond .eq 51, 3) := by decide +kernel
theorem dL_law_310 : decode cL_law 310 = .ok (.iload 17, 2) := by decide +kernel
theorem dL_law_312 : decode cL_law 312 = .ok (.bipush 41, 2) := by decide +kernel
theorem dL_law_314 : decode cL_law 314 = .ok (.if_icmp .ne 8, 3) := by decide +kernel
theorem dL_law_317 : decode cL_law 317 = .ok (.iload 13, 2) := by decide +kernel
theorem dL_law_319 : decode cL_law 319 = .ok (.ifCond .gt 31, 3) := by decide +kernel
theorem dL_law_322 : decode cL_law 322 = .ok (.iload 17, 2) := by decide +kernel
theorem dL_law_324 : decode cL_law 324 = .ok (.bipush 38, 2) := by decide +kernel
theorem dL_law_326 : decode cL_law 326 = .ok (.if_icmp .eq 24, 3) := by decide +kernel
theorem dL_law_329 : decode cL_law 329 = .ok (.iload 17, 2) := by decide +kernel
theorem dL_law_331 : decode cL_law 331 = .ok (.bipush 124, 2) := by decide +kernel
theorem dL_law_333 : decode cL_law 333 = .ok (.if_icmp .eq 17, 3) := by decide +kernel
theorem dL_law_336 : decode cL_law 336 = .ok (.iload 17, 2) := by decide +kernel
theorem dL_law_338 : decode cL_law 338 = .ok (.bipush 62, 2) := by decide +kernel
theorem dL_law_340 : decode cL_law 340 = .ok (.if_icmp .eq 10, 3) := by decide +kernel
theorem dL_law_343 : decode cL_law 343 = .ok (.iload 17, 2) := by decide +kernel
theorem dL_law_345 : decode cL_law 345 = .ok (.bipush 45, 2) := by decide +kernel
theorem dL_law_347 : decode cL_law 347 = .ok (.if_icmp .ne 7, 3) := by decide +kernel
theorem dL_law_350 : decode cL_law 350 = .ok (.iconst 1, 1) := by decide +kernel
theorem dL_law_351 : decode cL_law 351 = .ok (.goto 31, 3) := by decide +kernel
theorem dL_law_354 : decode cL_law 354 = .ok (.iconst 0, 1) := by decide +kernel
theorem dL_law_355 : decode cL_law 355 = .ok (.goto 27, 3) := by decide +kernel
theorem dL_law_358 : decode cL_law 358 = .ok (.iload 18, 2) := by decide +kernel
theorem dL_law_360 : decode cL_law 360 = .ok (.ifCond .ne 17, 3) := by decide +kernel
theorem dL_law_363 : decode cL_law 363 = .ok (.iload 17, 2) := by decide +kernel
theorem dL_law_365 : decode cL_law 365 = .ok (.bipush 33, 2) := by decide +kernel
theorem dL_law_367 : decode cL_law 367 = .ok (.if_icmp .eq 10, 3) := by decide +kernel
theorem dL_law_370 : decode cL_law 370 = .ok (.iload 17, 2) := by decide +kernel
theorem dL_law_372 : decode cL_law 372 = .ok (.bipush 40, 2) := by decide +kernel
theorem dL_law_374 : decode cL_law 374 = .ok (.if_icmp .ne 7, 3) := by decide +kernel
theorem dL_law_377 : decode cL_law 377 = .ok (.iconst 1, 1) := by decide +kernel
theorem dL_law_378 : decode cL_law 378 = .ok (.goto 4, 3) := by decide +kernel
theorem dL_law_381 : decode cL_law 381 = .ok (.iconst 0, 1) := by decide +kernel
theorem dL_law_382 : decode cL_law 382 = .ok (.iand, 1) := by decide +kernel
theorem dL_law_383 : decode cL_law 383 = .ok (.istore 15, 2) := by decide +kernel
theorem dL_law_385 : decode cL_law 385 = .ok (.iload 18, 2) := by decide +kernel
theorem dL_law_387 : decode cL_law 387 = .ok (.ifCond .ne 10, 3) := by decide +kernel
theorem dL_law_390 : decode cL_law 390 = .ok (.iload 17, 2) := by decide +kernel
theorem dL_law_392 : decode cL_law 392 = .ok (.bipush 41, 2) := by decide +kernel
theorem dL_law_394 : decode cL_law 394 = .ok (.if_icmp .ne 7, 3) := by decide +kernel
theorem dL_law_397 : decode cL_law 397 = .ok (.iconst 1, 1) := by decide +kernel
theorem dL_law_398 : decode cL_law 398 = .ok (.goto 4, 3) := by decide +kernel
theorem dL_law_401 : decode cL_law 401 = .ok (.iconst 0, 1) := by decide +kernel
theorem dL_law_402 : decode cL_law 402 = .ok (.istore 14, 2) := by decide +kernel
theorem dL_law_404 : decode cL_law 404 = .ok (.iload 13, 2) := by decide +kernel
theorem dL_law_406 : decode cL_law 406 = .ok (.iload 17, 2) := by decide +kernel
theorem dL_law_408 : decode cL_law 408 = .ok (.bipush 40, 2) := by decide +kernel
theorem dL_law_410 : decode cL_law 410 = .ok (.if_icmp .ne 7, 3) := by decide +kernel
theorem dL_law_413 : decode cL_law 413 = .ok (.iconst 1, 1) := by decide +kernel
theorem dL_law_414 : decode cL_law 414 = .ok (.goto 15, 3) := by decide +kernel
theorem dL_law_417 : decode cL_law 417 = .ok (.iload 17, 2) := by decide +kernel
theorem dL_law_419 : decode cL_law 419 = .ok (.bipush 41, 2) := by decide +kernel
theorem dL_law_421 : decode cL_law 421 = .ok (.if_icmp .ne 7, 3) := by decide +kernel
theorem dL_law_424 : decode cL_law 424 = .ok (.iconst (-1), 1) := by decide +kernel
theorem dL_law_425 : decode cL_law 425 = .ok (.goto 4, 3) := by decide +kernel
theorem dL_law_428 : decode cL_law 428 = .ok (.iconst 0, 1) := by decide +kernel
theorem dL_law_429 : decode cL_law 429 = .ok (.iadd, 1) := by decide +kernel
theorem dL_law_430 : decode cL_law 430 = .ok (.istore 13, 2) := by decide +kernel
theorem dL_law_432 : decode cL_law 432 = .ok (.iinc 16 1, 3) := by decide +kernel
theorem dL_law_435 : decode cL_law 435 = .ok (.goto (-168), 3) := by decide +kernel
theorem dL_law_438 : decode cL_law 438 = .ok (.iload 15, 2) := by decide +kernel
theorem dL_law_440 : decode cL_law 440 = .ok (.iload 14, 2) := by decide +kernel
theorem dL_law_442 : decode cL_law 442 = .ok (.ifCond .eq 12, 3) := by decide +kernel
theorem dL_law_445 : decode cL_law 445 = .ok (.iload 13, 2) := by decide +kernel
theorem dL_law_447 : decode cL_law 447 = .ok (.ifCond .ne 7, 3) := by decide +kernel
theorem dL_law_450 : decode cL_law 450 = .ok (.iconst 1, 1) := by decide +kernel
theorem dL_law_451 : decode cL_law 451 = .ok (.goto 4, 3) := by decide +kernel
theorem dL_law_454 : decode cL_law 454 = .ok (.iconst 0, 1) := by decide +kernel
theorem dL_law_455 : decode cL_law 455 = .ok (.iand, 1) := by decide +kernel
theorem dL_law_456 : decode cL_law 456 = .ok (.istore 15, 2) := by decide +kernel
theorem dL_law_458 : decode cL_law 458 = .ok (.aload_n 1, 1) := by decide +kernel
theorem dL_law_459 : decode cL_law 459 = .ok (.iload 11, 2) := by decide +kernel
theorem dL_law_461 : decode cL_law 461 = .ok (.iload 12, 2) := by decide +kernel
theorem dL_law_463 : decode cL_law 463 = .ok (.invokevirtual 78, 3) := by decide +kernel
theorem dL_law_466 : decode cL_law 466 = .ok (.istore 16, 2) := by decide +kernel
theorem dL_law_468 : decode cL_law 468 = .ok (.iload 16, 2) := by decide +kernel
theorem dL_law_470 : decode cL_law 470 = .ok (.ifCond .le 39, 3) := by decide +kernel
theorem dL_law_473 : decode cL_law 473 = .ok (.iload 16, 2) := by decide +kernel
theorem dL_law_475 : decode cL_law 475 = .ok (.iload 10, 2) := by decide +kernel
theorem dL_law_477 : decode cL_law 477 = .ok (.iconst 2, 1) := by decide +kernel
theorem dL_law_478 : decode cL_law 478 = .ok (.iadd, 1) := by decide +kernel
theorem dL_law_479 : decode cL_law 479 = .ok (.if_icmp .ne 40, 3) := by decide +kernel
theorem dL_law_482 : decode cL_law 482 = .ok (.iload 15, 2) := by decide +kernel
theorem dL_law_484 : decode cL_law 484 = .ok (.ifCond .eq 13, 3) := by decide +kernel
theorem dL_law_487 : decode cL_law 487 = .ok (.aload_n 1, 1) := by decide +kernel
theorem dL_law_488 : decode cL_law 488 = .ok (.invokevirtual 58, 3) := by decide +kernel
theorem dL_law_491 : decode cL_law 491 = .ok (.lload 8, 2) := by decide +kernel
theorem dL_law_493 : decode cL_law 493 = .ok (.lcmp, 1) := by decide +kernel
theorem dL_law_494 : decode cL_law 494 = .ok (.ifCond .gt 25, 3) := by decide +kernel
theorem dL_law_497 : decode cL_law 497 = .ok (.aload_n 1, 1) := by decide +kernel
theorem dL_law_498 : decode cL_law 498 = .ok (.invokevirtual 58, 3) := by decide +kernel
theorem dL_law_501 : decode cL_law 501 = .ok (.lconst 1, 1) := by decide +kernel
theorem dL_law_502 : decode cL_law 502 = .ok (.lcmp, 1) := by decide +kernel
theorem dL_law_503 : decode cL_law 503 = .ok (.ifCond .ge 439, 3) := by decide +kernel
theorem dL_law_506 : decode cL_law 506 = .ok (.goto 13, 3) := by decide +kernel
theorem dL_law_509 : decode cL_law 509 = .ok (.aload_n 1, 1) := by decide +kernel
theorem dL_law_510 : decode cL_law 510 = .ok (.invokestatic 67, 3) := by decide +kernel
theorem dL_law_513 : decode cL_law 513 = .ok (.lload 6, 2) := by decide +kernel
theorem dL_law_515 : decode cL_law 515 = .ok (.lcmp, 1) := by decide +kernel
theorem dL_law_516 : decode cL_law 516 = .ok (.ifCond .eq 426, 3) := by decide +kernel
theorem dL_law_519 : decode cL_law 519 = .ok (.iconst 0, 1) := by decide +kernel
theorem dL_law_520 : decode cL_law 520 = .ok (.ireturn, 1) := by decide +kernel
theorem dL_law_521 : decode cL_law 521 = .ok (.aload_n 1, 1) := by decide +kernel
theorem dL_law_522 : decode cL_law 522 = .ok (.invokevirtual 81, 3) := by decide +kernel
theorem dL_law_525 : decode cL_law 525 = .ok (.istore 8, 2) := by decide +kernel
theorem dL_law_527 : decode cL_law 527 = .ok (.aload_n 1, 1) := by decide +kernel
theorem dL_law_528 : decode cL_law 528 = .ok (.bipush 98, 2) := by decide +kernel
theorem dL_law_530 : decode cL_law 530 = .ok (.invokestatic 25, 3) := by decide +kernel
theorem dL_law_533 : decode cL_law 533 = .ok (.istore 9, 2) := by decide +kernel
theorem dL_law_535 : decode cL_law 535 = .ok (.aload_n 1, 1) := by decide +kernel
theorem dL_law_536 : decode cL_law 536 = .ok (.invokevirtual 29, 3) := by decide +kernel
theorem dL_law_539 : decode cL_law 539 = .ok (.aload_n 1, 1) := by decide +kernel
theorem dL_law_540 : decode cL_law 540 = .ok (.iconst 0, 1) := by decide +kernel
theorem dL_law_541 : decode cL_law 541 = .ok (.invokevirtual 71, 3) := by decide +kernel
theorem dL_law_544 : decode cL_law 544 = .ok (.iadd, 1) := by decide +kernel
theorem dL_law_545 : decode cL_law 545 = .ok (.aload_n 1, 1) := by decide +kernel
theorem dL_law_546 : decode cL_law 546 = .ok (.iconst 5, 1) := by decide +kernel
theorem dL_law_547 : decode cL_law 547 = .ok (.invokevirtual 71, 3) := by decide +kernel
theorem dL_law_550 : decode cL_law 550 = .ok (.iadd, 1) := by decide +kernel
theorem dL_law_551 : decode cL_law 551 = .ok (.aload_n 1, 1) := by decide +kernel
theorem dL_law_552 : decode cL_law 552 = .ok (.iconst 1, 1) := by decide +kernel
theorem dL_law_553 : decode cL_law 553 = .ok (.iconst 1, 1) := by decide +kernel
theorem dL_law_554 : decode cL_law 554 = .ok (.invokevirtual 74, 3) := by decide +kernel
theorem dL_law_557 : decode cL_law 557 = .ok (.iadd, 1) := by decide +kernel
theorem dL_law_558 : decode cL_law 558 = .ok (.istore 9, 2) := by decide +kernel
theorem dL_law_560 : decode cL_law 560 = .ok (.aload_n 1, 1) := by decide +kernel
theorem dL_law_561 : decode cL_law 561 = .ok (.invokevirtual 84, 3) := by decide +kernel
theorem dL_law_564 : decode cL_law 564 = .ok (.iload 8, 2) := by decide +kernel
theorem dL_law_566 : decode cL_law 566 = .ok (.if_icmp .ne 13, 3) := by decide +kernel
theorem dL_law_569 : decode cL_law 569 = .ok (.aload_n 1, 1) := by decide +kernel
theorem dL_law_570 : decode cL_law 570 = .ok (.invokestatic 67, 3) := by decide +kernel
theorem dL_law_573 : decode cL_law 573 = .ok (.lload 6, 2) := by decide +kernel
theorem dL_law_575 : decode cL_law 575 = .ok (.lcmp, 1) := by decide +kernel
theorem dL_law_576 : decode cL_law 576 = .ok (.ifCond .eq 366, 3) := by decide +kernel
theorem dL_law_579 : decode cL_law 579 = .ok (.iconst 0, 1) := by decide +kernel
theorem dL_law_580 : decode cL_law 580 = .ok (.ireturn, 1) := by decide +kernel
theorem dL_law_581 : decode cL_law 581 = .ok (.aload_n 1, 1) := by decide +kernel
theorem dL_law_582 : decode cL_law 582 = .ok (.bipush 6, 2) := by decide +kernel
theorem dL_law_584 : decode cL_law 584 = .ok (.invokevirtual 71, 3) := by decide +kernel
theorem dL_law_587 : decode cL_law 587 = .ok (.aload_n 1, 1) := by decide +kernel
theorem dL_law_588 : decode cL_law 588 = .ok (.bipush 32, 2) := by decide +kernel
theorem dL_law_590 : decode cL_law 590 = .ok (.iconst 0, 1) := by decide +kernel
theorem dL_law_591 : decode cL_law 591 = .ok (.invokevirtual 74, 3) := by decide +kernel
theorem dL_law_594 : decode cL_law 594 = .ok (.iadd, 1) := by decide +kernel
theorem dL_law_595 : decode cL_law 595 = .ok (.aload_n 1, 1) := by decide +kernel
theorem dL_law_596 : decode cL_law 596 = .ok (.iconst (-1), 1) := by decide +kernel
theorem dL_law_597 : decode cL_law 597 = .ok (.iconst 0, 1) := by decide +kernel
theorem dL_law_598 : decode cL_law 598 = .ok (.invokevirtual 78, 3) := by decide +kernel
theorem dL_law_601 : decode cL_law 601 = .ok (.iadd, 1) := by decide +kernel
theorem dL_law_602 : decode cL_law 602 = .ok (.aload_n 1, 1) := by decide +kernel
theorem dL_law_603 : decode cL_law 603 = .ok (.iconst 1, 1) := by decide +kernel
theorem dL_law_604 : decode cL_law 604 = .ok (.iconst 0, 1) := by decide +kernel
theorem dL_law_605 : decode cL_law 605 = .ok (.invokevirtual 78, 3) := by decide +kernel
theorem dL_law_608 : decode cL_law 608 = .ok (.iadd, 1) := by decide +kernel
theorem dL_law_609 : decode cL_law 609 = .ok (.aload_n 1, 1) := by decide +kernel
theorem dL_law_610 : decode cL_law 610 = .ok (.iconst 0, 1) := by decide +kernel
theorem dL_law_611 : decode cL_law 611 = .ok (.lconst 0, 1) := by decide +kernel
theorem dL_law_612 : decode cL_law 612 = .ok (.invokevirtual 9, 3) := by decide +kernel
theorem dL_law_615 : decode cL_law 615 = .ok (.iadd, 1) := by decide +kernel
theorem dL_law_616 : decode cL_law 616 = .ok (.istore 8, 2) := by decide +kernel
theorem dL_law_618 : decode cL_law 618 = .ok (.aload_n 1, 1) := by decide +kernel
theorem dL_law_619 : decode cL_law 619 = .ok (.invokevirtual 87, 3) := by decide +kernel
theorem dL_law_622 : decode cL_law 622 = .ok (.aload_n 1, 1) := by decide +kernel
theorem dL_law_623 : decode cL_law 623 = .ok (.invokevirtual 90, 3) := by decide +kernel
theorem dL_law_626 : decode cL_law 626 = .ok (.iadd, 1) := by decide +kernel
theorem dL_law_627 : decode cL_law 627 = .ok (.aload_n 1, 1) := by decide +kernel
theorem dL_law_628 : decode cL_law 628 = .ok (.invokevirtual 93, 3) := by decide +kernel
theorem dL_law_631 : decode cL_law 631 = .ok (.iadd, 1) := by decide +kernel
theorem dL_law_632 : decode cL_law 632 = .ok (.aload_n 1, 1) := by decide +kernel
theorem dL_law_633 : decode cL_law 633 = .ok (.invokevirtual 96, 3) := by decide +kernel
theorem dL_law_636 : decode cL_law 636 = .ok (.iadd, 1) := by decide +kernel
theorem dL_law_637 : decode cL_law 637 = .ok (.aload_n 1, 1) := by decide +kernel
theorem dL_law_638 : decode cL_law 638 = .ok (.invokevirtual 99, 3) := by decide +kernel
theorem dL_law_641 : decode cL_law 641 = .ok (.iadd, 1) := by decide +kernel
theorem dL_law_642 : decode cL_law 642 = .ok (.istore 9, 2) := by decide +kernel
theorem dL_law_644 : decode cL_law 644 = .ok (.iload 8, 2) := by decide +kernel
theorem dL_law_646 : decode cL_law 646 = .ok (.bipush (-8), 2) := by decide +kernel
theorem dL_law_648 : decode cL_law 648 = .ok (.if_icmp .ne 13, 3) := by decide +kernel
theorem dL_law_651 : decode cL_law 651 = .ok (.aload_n 1, 1) := by decide +kernel
theorem dL_law_652 : decode cL_law 652 = .ok (.invokestatic 67, 3) := by decide +kernel
theorem dL_law_655 : decode cL_law 655 = .ok (.lload 6, 2) := by decide +kernel
theorem dL_law_657 : decode cL_law 657 = .ok (.lcmp, 1) := by decide +kernel
theorem dL_law_658 : decode cL_law 658 = .ok (.ifCond .eq 284, 3) := by decide +kernel
theorem dL_law_661 : decode cL_law 661 = .ok (.iconst 0, 1) := by decide +kernel
theorem dL_law_662 : decode cL_law 662 = .ok (.ireturn, 1) := by decide +kernel
theorem dL_law_663 : decode cL_law 663 = .ok (.iload 5, 2) := by decide +kernel
theorem dL_law_665 : decode cL_law 665 = .ok (.iconst 3, 1) := by decide +kernel
theorem dL_law_666 : decode cL_law 666 = .ok (.ishr, 1) := by decide +kernel
theorem dL_law_667 : decode cL_law 667 = .ok (.iconst 1, 1) := by decide +kernel
theorem dL_law_668 : decode cL_law 668 = .ok (.iand, 1) := by decide +kernel
theorem dL_law_669 : decode cL_law 669 = .ok (.iconst 1, 1) := by decide +kernel
theorem dL_law_670 : decode cL_law 670 = .ok (.if_icmp .ne 10, 3) := by decide +kernel
theorem dL_law_673 : decode cL_law 673 = .ok (.aload_n 1, 1) := by decide +kernel
theorem dL_law_674 : decode cL_law 674 = .ok (.invokevirtual 102, 3) := by decide +kernel
theorem dL_law_677 : decode cL_law 677 = .ok (.goto 4, 3) := by decide +kernel
theorem dL_law_680 : decode cL_law 680 = .ok (.iconst 0, 1) := by decide +kernel
theorem dL_law_681 : decode cL_law 681 = .ok (.istore 8, 2) := by decide +kernel
theorem dL_law_683 : decode cL_law 683 = .ok (.goto 259, 3) := by decide +kernel
theorem dL_law_686 : decode cL_law 686 = .ok (.aload_n 1, 1) := by decide +kernel
theorem dL_law_687 : decode cL_law 687 = .ok (.invokevirtual 58, 3) := by decide +kernel
theorem dL_law_690 : decode cL_law 690 = .ok (.ldc2_w 105, 3) := by decide +kernel
theorem dL_law_693 : decode cL_law 693 = .ok (.lcmp, 1) := by decide +kernel
theorem dL_law_694 : decode cL_law 694 = .ok (.ifCond .le 26, 3) := by decide +kernel
theorem dL_law_697 : decode cL_law 697 = .ok (.aload_n 1, 1) := by decide +kernel
theorem dL_law_698 : decode cL_law 698 = .ok (.invokevirtual 107, 3) := by decide +kernel
theorem dL_law_701 : decode cL_law 701 = .ok (.bipush (-5), 2) := by decide +kernel
theorem dL_law_703 : decode cL_law 703 = .ok (.if_icmp .ne 15, 3) := by decide +kernel
theorem dL_law_706 : decode cL_law 706 = .ok (.aload_n 1, 1) := by decide +kernel
theorem dL_law_707 : decode cL_law 707 = .ok (.iconst 0, 1) := by decide +kernel
theorem dL_law_708 : decode cL_law 708 = .ok (.invokevirtual 110, 3) := by decide +kernel
theorem dL_law_711 : decode cL_law 711 = .ok (.ldc2_w 114, 3) := by decide +kernel
theorem dL_law_714 : decode cL_law 714 = .ok (.lcmp, 1) := by decide +kernel
theorem dL_law_715 : decode cL_law 715 = .ok (.ifCond .eq 227, 3) := by decide +kernel
theorem dL_law_718 : decode cL_law 718 = .ok (.iconst 0, 1) := by decide +kernel
theorem dL_law_719 : decode cL_law 719 = .ok (.ireturn, 1) := by decide +kernel
theorem dL_law_720 : decode cL_law 720 = .ok (.aload_n 1, 1) := by decide +kernel
theorem dL_law_721 : decode cL_law 721 = .ok (.invokevirtual 58, 3) := by decide +kernel
theorem dL_law_724 : decode cL_law 724 = .ok (.l2i, 1) := by decide +kernel
theorem dL_law_725 : decode cL_law 725 = .ok (.istore 8, 2) := by decide +kernel
theorem dL_law_727 : decode cL_law 727 = .ok (.aload_n 1, 1) := by decide +kernel
theorem dL_law_728 : decode cL_law 728 = .ok (.iconst (-1), 1) := by decide +kernel
theorem dL_law_729 : decode cL_law 729 = .ok (.invokevirtual 116, 3) := by decide +kernel
theorem dL_law_732 : decode cL_law 732 = .ok (.istore 9, 2) := by decide +kernel
theorem dL_law_734 : decode cL_law 734 = .ok (.iload 5, 2) := by decide +kernel
theorem dL_law_736 : decode cL_law 736 = .ok (.iconst 3, 1) := by decide +kernel
theorem dL_law_737 : decode cL_law 737 = .ok (.ishr, 1) := by decide +kernel
theorem dL_law_738 : decode cL_law 738 = .ok (.sipush 255, 3) := by decide +kernel
theorem dL_law_741 : decode cL_law 741 = .ok (.iand, 1) := by decide +kernel
theorem dL_law_742 : decode cL_law 742 = .ok (.iload 8, 2) := by decide +kernel
theorem dL_law_744 : decode cL_law 744 = .ok (.irem, 1) := by decide +kernel
theorem dL_law_745 : decode cL_law 745 = .ok (.istore 10, 2) := by decide +kernel
theorem dL_law_747 : decode cL_law 747 = .ok (.aload_n 1, 1) := by decide +kernel
theorem dL_law_748 : decode cL_law 748 = .ok (.iload 10, 2) := by decide +kernel
theorem dL_law_750 : decode cL_law 750 = .ok (.invokevirtual 110, 3) := by decide +kernel
theorem dL_law_753 : decode cL_law 753 = .ok (.lstore 11, 2) := by decide +kernel
theorem dL_law_755 : decode cL_law 755 = .ok (.iload 9, 2) := by decide +kernel
theorem dL_law_757 : decode cL_law 757 = .ok (.iconst 1, 1) := by decide +kernel
theorem dL_law_758 : decode cL_law 758 = .ok (.if_icmp .lt 69, 3) := by decide +kernel
theorem dL_law_761 : decode cL_law 761 = .ok (.iload 9, 2) := by decide +kernel
theorem dL_law_763 : decode cL_law 763 = .ok (.iload 8, 2) := by decide +kernel
theorem dL_law_765 : decode cL_law 765 = .ok (.if_icmp .gt 62, 3) := by decide +kernel
theorem dL_law_768 : decode cL_law 768 = .ok (.aload_n 1, 1) := by decide +kernel
theorem dL_law_769 : decode cL_law 769 = .ok (.invokevirtual 107, 3) := by decide +kernel
theorem dL_law_772 : decode cL_law 772 = .ok (.iconst 1, 1) := by decide +kernel
theorem dL_law_773 : decode cL_law 773 = .ok (.if_icmp .lt 54, 3) := by decide +kernel
theorem dL_law_776 : decode cL_law 776 = .ok (.aload_n 1, 1) := by decide +kernel
theorem dL_law_777 : decode cL_law 777 = .ok (.invokevirtual 107, 3) := by decide +kernel
theorem dL_law_780 : decode cL_law 780 = .ok (.iload 8, 2) := by decide +kernel
theorem dL_law_782 : decode cL_law 782 = .ok (.if_icmp .gt 45, 3) := by decide +kernel
theorem dL_law_785 : decode cL_law 785 = .ok (.aload_n 1, 1) := by decide +kernel
theorem dL_law_786 : decode cL_law 786 = .ok (.iconst 1, 1) := by decide +kernel
theorem dL_law_787 : decode cL_law 787 = .ok (.invokevirtual 119, 3) := by decide +kernel
theorem dL_law_790 : decode cL_law 790 = .ok (.lload 11, 2) := by decide +kernel
theorem dL_law_792 : decode cL_law 792 = .ok (.ldc2_w 43, 3) := by decide +kernel
theorem dL_law_795 : decode cL_law 795 = .ok (.lxor, 1) := by decide +kernel
theorem dL_law_796 : decode cL_law 796 = .ok (.land, 1) := by decide +kernel
theorem dL_law_797 : decode cL_law 797 = .ok (.lconst 0, 1) := by decide +kernel
theorem dL_law_798 : decode cL_law 798 = .ok (.lcmp, 1) := by decide +kernel
theorem dL_law_799 : decode cL_law 799 = .ok (.ifCond .ne 28, 3) := by decide +kernel
theorem dL_law_802 : decode cL_law 802 = .ok (.aload_n 1, 1) := by decide +kernel
theorem dL_law_803 : decode cL_law 803 = .ok (.iconst 0, 1) := by decide +kernel
theorem dL_law_804 : decode cL_law 804 = .ok (.invokevirtual 119, 3) := by decide +kernel
theorem dL_law_807 : decode cL_law 807 = .ok (.lload 11, 2) := by decide +kernel
theorem dL_law_809 : decode cL_law 809 = .ok (.land, 1) := by decide +kernel
theorem dL_law_810 : decode cL_law 810 = .ok (.lconst 0, 1) := by decide +kernel
theorem dL_law_811 : decode cL_law 811 = .ok (.lcmp, 1) := by decide +kernel
theorem dL_law_812 : decode cL_law 812 = .ok (.ifCond .ne 15, 3) := by decide +kernel
theorem dL_law_815 : decode cL_law 815 = .ok (.aload_n 1, 1) := by decide +kernel
theorem dL_law_816 : decode cL_law 816 = .ok (.invokevirtual 123, 3) := by decide +kernel
theorem dL_law_819 : decode cL_law 819 = .ok (.aload_n 1, 1) := by decide +kernel
theorem dL_law_820 : decode cL_law 820 = .ok (.iconst 1, 1) := by decide +kernel
theorem dL_law_821 : decode cL_law 821 = .ok (.invokevirtual 55, 3) := by decide +kernel
theorem dL_law_824 : decode cL_law 824 = .ok (.if_icmp .le 5, 3) := by decide +kernel
theorem dL_law_827 : decode cL_law 827 = .ok (.iconst 0, 1) := by decide +kernel
theorem dL_law_828 : decode cL_law 828 = .ok (.ireturn, 1) := by decide +kernel
theorem dL_law_829 : decode cL_law 829 = .ok (.iconst 0, 1) := by decide +kernel
theorem dL_law_830 : decode cL_law 830 = .ok (.istore 13, 2) := by decide +kernel
theorem dL_law_832 : decode cL_law 832 = .ok (.iload 13, 2) := by decide +kernel
theorem dL_law_834 : decode cL_law 834 = .ok (.iload 9, 2) := by decide +kernel
theorem dL_law_836 : decode cL_law 836 = .ok (.if_icmp .ge 42, 3) := by decide +kernel
theorem dL_law_839 : decode cL_law 839 = .ok (.aload_n 1, 1) := by decide +kernel
theorem dL_law_840 : decode cL_law 840 = .ok (.iload 13, 2) := by decide +kernel
theorem dL_law_842 : decode cL_law 842 = .ok (.invokevirtual 116, 3) := by decide +kernel
theorem dL_law_845 : decode cL_law 845 = .ok (.ifCond .lt 25, 3) := by decide +kernel
theorem dL_law_848 : decode cL_law 848 = .ok (.iload 13, 2) := by decide +kernel
theorem dL_law_850 : decode cL_law 850 = .ok (.ifCond .le 22, 3) := by decide +kernel
theorem dL_law_853 : decode cL_law 853 = .ok (.aload_n 1, 1) := by decide +kernel
theorem dL_law_854 : decode cL_law 854 = .ok (.iload 13, 2) := by decide +kernel
theorem dL_law_856 : decode cL_law 856 = .ok (.invokevirtual 116, 3) := by decide +kernel
theorem dL_law_859 : decode cL_law 859 = .ok (.aload_n 1, 1) := by decide +kernel
theorem dL_law_860 : decode cL_law 860 = .ok (.iload 13, 2) := by decide +kernel
theorem dL_law_862 : decode cL_law 862 = .ok (.iconst 1, 1) := by decide +kernel
theorem dL_law_863 : decode cL_law 863 = .ok (.isub, 1) := by decide +kernel
theorem dL_law_864 : decode cL_law 864 = .ok (.invokevirtual 116, 3) := by decide +kernel
theorem dL_law_867 : decode cL_law 867 = .ok (.if_icmp .gt 5, 3) := by decide +kernel
theorem dL_law_870 : decode cL_law 870 = .ok (.iconst 0, 1) := by decide +kernel
theorem dL_law_871 : decode cL_law 871 = .ok (.ireturn, 1) := by decide +kernel
theorem dL_law_872 : decode cL_law 872 = .ok (.iinc 13 1, 3) := by decide +kernel
theorem dL_law_875 : decode cL_law 875 = .ok (.goto (-43), 3) := by decide +kernel
theorem dL_law_878 : decode cL_law 878 = .ok (.aload_n 1, 1) := by decide +kernel
theorem dL_law_879 : decode cL_law 879 = .ok (.invokevirtual 90, 3) := by decide +kernel
theorem dL_law_882 : decode cL_law 882 = .ok (.istore 13, 2) := by decide +kernel
theorem dL_law_884 : decode cL_law 884 = .ok (.aload_n 1, 1) := by decide +kernel
theorem dL_law_885 : decode cL_law 885 = .ok (.iload 13, 2) := by decide +kernel
theorem dL_law_887 : decode cL_law 887 = .ok (.invokevirtual 126, 3) := by decide +kernel
theorem dL_law_890 : decode cL_law 890 = .ok (.aload_n 1, 1) := by decide +kernel
theorem dL_law_891 : decode cL_law 891 = .ok (.iload 10, 2) := by decide +kernel
theorem dL_law_893 : decode cL_law 893 = .ok (.invokevirtual 126, 3) := by decide +kernel
theorem dL_law_896 : decode cL_law 896 = .ok (.if_icmp .lt 44, 3) := by decide +kernel
theorem dL_law_899 : decode cL_law 899 = .ok (.aload_n 1, 1) := by decide +kernel
theorem dL_law_900 : decode cL_law 900 = .ok (.iload 10, 2) := by decide +kernel
theorem dL_law_902 : decode cL_law 902 = .ok (.iload 10, 2) := by decide +kernel
theorem dL_law_904 : decode cL_law 904 = .ok (.invokevirtual 129, 3) := by decide +kernel
theorem dL_law_907 : decode cL_law 907 = .ok (.iconst 1, 1) := by decide +kernel
theorem dL_law_908 : decode cL_law 908 = .ok (.if_icmp .ne 32, 3) := by decide +kernel
theorem dL_law_911 : decode cL_law 911 = .ok (.aload_n 1, 1) := by decide +kernel
theorem dL_law_912 : decode cL_law 912 = .ok (.iload 10, 2) := by decide +kernel
theorem dL_law_914 : decode cL_law 914 = .ok (.iload 10, 2) := by decide +kernel
theorem dL_law_916 : decode cL_law 916 = .ok (.invokevirtual 132, 3) := by decide +kernel
theorem dL_law_919 : decode cL_law 919 = .ok (.bipush (-9), 2) := by decide +kernel
theorem dL_law_921 : decode cL_law 921 = .ok (.if_icmp .ne 19, 3) := by decide +kernel
theorem dL_law_924 : decode cL_law 924 = .ok (.aload_n 1, 1) := by decide +kernel
theorem dL_law_925 : decode cL_law 925 = .ok (.invokevirtual 99, 3) := by decide +kernel
theorem dL_law_928 : decode cL_law 928 = .ok (.aload_n 1, 1) := by decide +kernel
theorem dL_law_929 : decode cL_law 929 = .ok (.iload 10, 2) := by decide +kernel
theorem dL_law_931 : decode cL_law 931 = .ok (.invokevirtual 135, 3) := by decide +kernel
theorem dL_law_934 : decode cL_law 934 = .ok (.iconst (-1), 1) := by decide +kernel
theorem dL_law_935 : decode cL_law 935 = .ok (.ixor, 1) := by decide +kernel
theorem dL_law_936 : decode cL_law 936 = .ok (.iand, 1) := by decide +kernel
theorem dL_law_937 : decode cL_law 937 = .ok (.ifCond .eq 5, 3) := by decide +kernel
theorem dL_law_940 : decode cL_law 940 = .ok (.iconst 0, 1) := by decide +kernel
theorem dL_law_941 : decode cL_law 941 = .ok (.ireturn, 1) := by decide +kernel
theorem dL_law_942 : decode cL_law 942 = .ok (.iinc 4 1, 3) := by decide +kernel
theorem dL_law_945 : decode cL_law 945 = .ok (.goto (-914), 3) := by decide +kernel
theorem dL_law_948 : decode cL_law 948 = .ok (.iconst 1, 1) := by decide +kernel
theorem dL_law_949 : decode cL_law 949 = .ok (.ireturn, 1) := by decide +kernel
