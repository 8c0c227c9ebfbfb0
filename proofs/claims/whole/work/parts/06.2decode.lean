theorem d_M_column_25 : decode b_M_column 25 = .ok (.iload_n 3, 1) := by decide +kernel
theorem d_M_column_26 : decode b_M_column 26 = .ok (.if_icmp .le 5, 3) := by decide +kernel
theorem d_M_column_29 : decode b_M_column 29 = .ok (.iconst 0, 1) := by decide +kernel
theorem d_M_column_30 : decode b_M_column 30 = .ok (.ireturn, 1) := by decide +kernel
theorem d_M_column_31 : decode b_M_column 31 = .ok (.aload_n 0, 1) := by decide +kernel
theorem d_M_column_32 : decode b_M_column 32 = .ok (.iload_n 1, 1) := by decide +kernel
theorem d_M_column_33 : decode b_M_column 33 = .ok (.putfield 181, 3) := by decide +kernel
theorem d_M_column_36 : decode b_M_column 36 = .ok (.aload_n 0, 1) := by decide +kernel
theorem d_M_column_37 : decode b_M_column 37 = .ok (.iload_n 2, 1) := by decide +kernel
theorem d_M_column_38 : decode b_M_column 38 = .ok (.putfield 184, 3) := by decide +kernel
theorem d_M_column_41 : decode b_M_column 41 = .ok (.aload_n 0, 1) := by decide +kernel
theorem d_M_column_42 : decode b_M_column 42 = .ok (.iload_n 3, 1) := by decide +kernel
theorem d_M_column_43 : decode b_M_column 43 = .ok (.putfield 187, 3) := by decide +kernel
theorem d_M_column_46 : decode b_M_column 46 = .ok (.aload_n 0, 1) := by decide +kernel
theorem d_M_column_47 : decode b_M_column 47 = .ok (.invokevirtual 190, 3) := by decide +kernel
theorem d_M_column_50 : decode b_M_column 50 = .ok (.iconst 1, 1) := by decide +kernel
theorem d_M_column_51 : decode b_M_column 51 = .ok (.ireturn, 1) := by decide +kernel
theorem d_M_isOne_0 : decode b_M_isOne 0 = .ok (.aload_n 0, 1) := by decide +kernel
theorem d_M_isOne_1 : decode b_M_isOne 1 = .ok (.getfield 181, 3) := by decide +kernel
theorem d_M_isOne_4 : decode b_M_isOne 4 = .ok (.ifCond .ne 23, 3) := by decide +kernel
theorem d_M_isOne_7 : decode b_M_isOne 7 = .ok (.lload_n 1, 1) := by decide +kernel
theorem d_M_isOne_8 : decode b_M_isOne 8 = .ok (.lconst 0, 1) := by decide +kernel
theorem d_M_isOne_9 : decode b_M_isOne 9 = .ok (.lcmp, 1) := by decide +kernel
theorem d_M_isOne_10 : decode b_M_isOne 10 = .ok (.ifCond .eq 9, 3) := by decide +kernel
theorem d_M_isOne_13 : decode b_M_isOne 13 = .ok (.lload_n 1, 1) := by decide +kernel
theorem d_M_isOne_14 : decode b_M_isOne 14 = .ok (.lconst 1, 1) := by decide +kernel
theorem d_M_isOne_15 : decode b_M_isOne 15 = .ok (.lcmp, 1) := by decide +kernel
theorem d_M_isOne_16 : decode b_M_isOne 16 = .ok (.ifCond .ne 7, 3) := by decide +kernel
theorem d_M_isOne_19 : decode b_M_isOne 19 = .ok (.iconst 1, 1) := by decide +kernel
theorem d_M_isOne_20 : decode b_M_isOne 20 = .ok (.goto 28, 3) := by decide +kernel
theorem d_M_isOne_23 : decode b_M_isOne 23 = .ok (.iconst 0, 1) := by decide +kernel
theorem d_M_isOne_24 : decode b_M_isOne 24 = .ok (.goto 24, 3) := by decide +kernel
theorem d_M_isOne_27 : decode b_M_isOne 27 = .ok (.aload_n 0, 1) := by decide +kernel
theorem d_M_isOne_28 : decode b_M_isOne 28 = .ok (.getfield 181, 3) := by decide +kernel
theorem d_M_isOne_31 : decode b_M_isOne 31 = .ok (.iconst 1, 1) := by decide +kernel
theorem d_M_isOne_32 : decode b_M_isOne 32 = .ok (.if_icmp .ne 11, 3) := by decide +kernel
theorem d_M_isOne_35 : decode b_M_isOne 35 = .ok (.lload_n 1, 1) := by decide +kernel
theorem d_M_isOne_36 : decode b_M_isOne 36 = .ok (.lload_n 1, 1) := by decide +kernel
theorem d_M_isOne_37 : decode b_M_isOne 37 = .ok (.l2i, 1) := by decide +kernel
theorem d_M_isOne_38 : decode b_M_isOne 38 = .ok (.i2l, 1) := by decide +kernel
theorem d_M_isOne_39 : decode b_M_isOne 39 = .ok (.lcmp, 1) := by decide +kernel
theorem d_M_isOne_40 : decode b_M_isOne 40 = .ok (.ifCond .ne 7, 3) := by decide +kernel
theorem d_M_isOne_43 : decode b_M_isOne 43 = .ok (.iconst 1, 1) := by decide +kernel
theorem d_M_isOne_44 : decode b_M_isOne 44 = .ok (.goto 4, 3) := by decide +kernel
theorem d_M_isOne_47 : decode b_M_isOne 47 = .ok (.iconst 0, 1) := by decide +kernel
theorem d_M_isOne_48 : decode b_M_isOne 48 = .ok (.ireturn, 1) := by decide +kernel
theorem d_M_add_0 : decode b_M_add 0 = .ok (.aload_n 0, 1) := by decide +kernel
theorem d_M_add_1 : decode b_M_add 1 = .ok (.iconst 0, 1) := by decide +kernel
theorem d_M_add_2 : decode b_M_add 2 = .ok (.putfield 84, 3) := by decide +kernel
theorem d_M_add_5 : decode b_M_add 5 = .ok (.iload_n 1, 1) := by decide +kernel
theorem d_M_add_6 : decode b_M_add 6 = .ok (.ifCond .lt 42, 3) := by decide +kernel
theorem d_M_add_9 : decode b_M_add 9 = .ok (.iload_n 1, 1) := by decide +kernel
theorem d_M_add_10 : decode b_M_add 10 = .ok (.aload_n 0, 1) := by decide +kernel
theorem d_M_add_11 : decode b_M_add 11 = .ok (.getfield 184, 3) := by decide +kernel
theorem d_M_add_14 : decode b_M_add 14 = .ok (.if_icmp .gt 34, 3) := by decide +kernel
theorem d_M_add_17 : decode b_M_add 17 = .ok (.iload_n 2, 1) := by decide +kernel
theorem d_M_add_18 : decode b_M_add 18 = .ok (.ifCond .lt 30, 3) := by decide +kernel
theorem d_M_add_21 : decode b_M_add 21 = .ok (.iload_n 2, 1) := by decide +kernel
theorem d_M_add_22 : decode b_M_add 22 = .ok (.aload_n 0, 1) := by decide +kernel
theorem d_M_add_23 : decode b_M_add 23 = .ok (.getfield 187, 3) := by decide +kernel
theorem d_M_add_26 : decode b_M_add 26 = .ok (.if_icmp .gt 22, 3) := by decide +kernel
theorem d_M_add_29 : decode b_M_add 29 = .ok (.iload 5, 2) := by decide +kernel
theorem d_M_add_31 : decode b_M_add 31 = .ok (.iconst 1, 1) := by decide +kernel
theorem d_M_add_32 : decode b_M_add 32 = .ok (.if_icmp .lt 16, 3) := by decide +kernel
theorem d_M_add_35 : decode b_M_add 35 = .ok (.iload 5, 2) := by decide +kernel
theorem d_M_add_37 : decode b_M_add 37 = .ok (.sipush 1000, 3) := by decide +kernel
theorem d_M_add_40 : decode b_M_add 40 = .ok (.aload_n 0, 1) := by decide +kernel
theorem d_M_add_41 : decode b_M_add 41 = .ok (.getfield 175, 3) := by decide +kernel
theorem d_M_add_44 : decode b_M_add 44 = .ok (.isub, 1) := by decide +kernel
theorem d_M_add_45 : decode b_M_add 45 = .ok (.if_icmp .le 5, 3) := by decide +kernel
theorem d_M_add_48 : decode b_M_add 48 = .ok (.iconst 0, 1) := by decide +kernel
theorem d_M_add_49 : decode b_M_add 49 = .ok (.ireturn, 1) := by decide +kernel
theorem d_M_add_50 : decode b_M_add 50 = .ok (.iload_n 2, 1) := by decide +kernel
theorem d_M_add_51 : decode b_M_add 51 = .ok (.aload_n 0, 1) := by decide +kernel
theorem d_M_add_52 : decode b_M_add 52 = .ok (.getfield 187, 3) := by decide +kernel
theorem d_M_add_55 : decode b_M_add 55 = .ok (.if_icmp .ne 7, 3) := by decide +kernel
theorem d_M_add_58 : decode b_M_add 58 = .ok (.iconst 1, 1) := by decide +kernel
theorem d_M_add_59 : decode b_M_add 59 = .ok (.goto 4, 3) := by decide +kernel
theorem d_M_add_62 : decode b_M_add 62 = .ok (.iconst 0, 1) := by decide +kernel
theorem d_M_add_63 : decode b_M_add 63 = .ok (.istore 6, 2) := by decide +kernel
theorem d_M_add_65 : decode b_M_add 65 = .ok (.iload 6, 2) := by decide +kernel
theorem d_M_add_67 : decode b_M_add 67 = .ok (.ifCond .eq 50, 3) := by decide +kernel
theorem d_M_add_70 : decode b_M_add 70 = .ok (.aload_n 0, 1) := by decide +kernel
theorem d_M_add_71 : decode b_M_add 71 = .ok (.getfield 181, 3) := by decide +kernel
theorem d_M_add_74 : decode b_M_add 74 = .ok (.iconst 3, 1) := by decide +kernel
theorem d_M_add_75 : decode b_M_add 75 = .ok (.if_icmp .ne 42, 3) := by decide +kernel
theorem d_M_add_78 : decode b_M_add 78 = .ok (.aload_n 0, 1) := by decide +kernel
theorem d_M_add_79 : decode b_M_add 79 = .ok (.getfield 172, 3) := by decide +kernel
theorem d_M_add_82 : decode b_M_add 82 = .ok (.sipush 255, 3) := by decide +kernel
theorem d_M_add_85 : decode b_M_add 85 = .ok (.if_icmp .gt 30, 3) := by decide +kernel
theorem d_M_add_88 : decode b_M_add 88 = .ok (.iload 5, 2) := by decide +kernel
theorem d_M_add_90 : decode b_M_add 90 = .ok (.i2l, 1) := by decide +kernel
theorem d_M_add_91 : decode b_M_add 91 = .ok (.aload_n 0, 1) := by decide +kernel
theorem d_M_add_92 : decode b_M_add 92 = .ok (.getfield 172, 3) := by decide +kernel
theorem d_M_add_95 : decode b_M_add 95 = .ok (.i2l, 1) := by decide +kernel
theorem d_M_add_96 : decode b_M_add 96 = .ok (.lmul, 1) := by decide +kernel
theorem d_M_add_97 : decode b_M_add 97 = .ok (.sipush 20000, 3) := by decide +kernel
theorem d_M_add_100 : decode b_M_add 100 = .ok (.aload_n 0, 1) := by decide +kernel
theorem d_M_add_101 : decode b_M_add 101 = .ok (.getfield 32, 3) := by decide +kernel
theorem d_M_add_104 : decode b_M_add 104 = .ok (.aload_n 0, 1) := by decide +kernel
theorem d_M_add_105 : decode b_M_add 105 = .ok (.getfield 178, 3) := by decide +kernel
theorem d_M_add_108 : decode b_M_add 108 = .ok (.iaload, 1) := by decide +kernel
theorem d_M_add_109 : decode b_M_add 109 = .ok (.isub, 1) := by decide +kernel
theorem d_M_add_110 : decode b_M_add 110 = .ok (.i2l, 1) := by decide +kernel
theorem d_M_add_111 : decode b_M_add 111 = .ok (.lcmp, 1) := by decide +kernel
theorem d_M_add_112 : decode b_M_add 112 = .ok (.ifCond .le 5, 3) := by decide +kernel
theorem d_M_add_115 : decode b_M_add 115 = .ok (.iconst 0, 1) := by decide +kernel
theorem d_M_add_116 : decode b_M_add 116 = .ok (.ireturn, 1) := by decide +kernel
theorem d_M_add_117 : decode b_M_add 117 = .ok (.iload 6, 2) := by decide +kernel
theorem d_M_add_119 : decode b_M_add 119 = .ok (.ifCond .eq 21, 3) := by decide +kernel
theorem d_M_add_122 : decode b_M_add 122 = .ok (.aload_n 0, 1) := by decide +kernel
theorem d_M_add_123 : decode b_M_add 123 = .ok (.getfield 181, 3) := by decide +kernel
theorem d_M_add_126 : decode b_M_add 126 = .ok (.iconst 3, 1) := by decide +kernel
theorem d_M_add_127 : decode b_M_add 127 = .ok (.if_icmp .eq 13, 3) := by decide +kernel
theorem d_M_add_130 : decode b_M_add 130 = .ok (.aload_n 0, 1) := by decide +kernel
theorem d_M_add_131 : decode b_M_add 131 = .ok (.lload_n 3, 1) := by decide +kernel
theorem d_M_add_132 : decode b_M_add 132 = .ok (.invokevirtual 193, 3) := by decide +kernel
theorem d_M_add_135 : decode b_M_add 135 = .ok (.ifCond .ne 5, 3) := by decide +kernel
theorem d_M_add_138 : decode b_M_add 138 = .ok (.iconst 0, 1) := by decide +kernel
theorem d_M_add_139 : decode b_M_add 139 = .ok (.ireturn, 1) := by decide +kernel
theorem d_M_add_140 : decode b_M_add 140 = .ok (.iconst 0, 1) := by decide +kernel
theorem d_M_add_141 : decode b_M_add 141 = .ok (.istore 7, 2) := by decide +kernel
theorem d_M_add_143 : decode b_M_add 143 = .ok (.iload 7, 2) := by decide +kernel
theorem d_M_add_145 : decode b_M_add 145 = .ok (.iload 5, 2) := by decide +kernel
theorem d_M_add_147 : decode b_M_add 147 = .ok (.if_icmp .ge 142, 3) := by decide +kernel
theorem d_M_add_150 : decode b_M_add 150 = .ok (.aload_n 0, 1) := by decide +kernel
theorem d_M_add_151 : decode b_M_add 151 = .ok (.getfield 7, 3) := by decide +kernel
theorem d_M_add_154 : decode b_M_add 154 = .ok (.aload_n 0, 1) := by decide +kernel
theorem d_M_add_155 : decode b_M_add 155 = .ok (.getfield 175, 3) := by decide +kernel
theorem d_M_add_158 : decode b_M_add 158 = .ok (.iload_n 1, 1) := by decide +kernel
theorem d_M_add_159 : decode b_M_add 159 = .ok (.iastore, 1) := by decide +kernel
theorem d_M_add_160 : decode b_M_add 160 = .ok (.aload_n 0, 1) := by decide +kernel
theorem d_M_add_161 : decode b_M_add 161 = .ok (.getfield 13, 3) := by decide +kernel
theorem d_M_add_164 : decode b_M_add 164 = .ok (.aload_n 0, 1) := by decide +kernel
theorem d_M_add_165 : decode b_M_add 165 = .ok (.getfield 175, 3) := by decide +kernel
theorem d_M_add_168 : decode b_M_add 168 = .ok (.iload_n 2, 1) := by decide +kernel
theorem d_M_add_169 : decode b_M_add 169 = .ok (.iastore, 1) := by decide +kernel
theorem d_M_add_170 : decode b_M_add 170 = .ok (.aload_n 0, 1) := by decide +kernel
theorem d_M_add_171 : decode b_M_add 171 = .ok (.dup, 1) := by decide +kernel
theorem d_M_add_172 : decode b_M_add 172 = .ok (.getfield 175, 3) := by decide +kernel
theorem d_M_add_175 : decode b_M_add 175 = .ok (.iconst 1, 1) := by decide +kernel
theorem d_M_add_176 : decode b_M_add 176 = .ok (.iadd, 1) := by decide +kernel
theorem d_M_add_177 : decode b_M_add 177 = .ok (.putfield 175, 3) := by decide +kernel
theorem d_M_add_180 : decode b_M_add 180 = .ok (.iload 6, 2) := by decide +kernel
theorem d_M_add_182 : decode b_M_add 182 = .ok (.ifCond .ne 6, 3) := by decide +kernel
theorem d_M_add_185 : decode b_M_add 185 = .ok (.goto 98, 3) := by decide +kernel
theorem d_M_add_188 : decode b_M_add 188 = .ok (.aload_n 0, 1) := by decide +kernel
theorem d_M_add_189 : decode b_M_add 189 = .ok (.getfield 22, 3) := by decide +kernel
theorem d_M_add_192 : decode b_M_add 192 = .ok (.aload_n 0, 1) := by decide +kernel
theorem d_M_add_193 : decode b_M_add 193 = .ok (.getfield 178, 3) := by decide +kernel
theorem d_M_add_196 : decode b_M_add 196 = .ok (.lload_n 3, 1) := by decide +kernel
theorem d_M_add_197 : decode b_M_add 197 = .ok (.lastore, 1) := by decide +kernel
theorem d_M_add_198 : decode b_M_add 198 = .ok (.aload_n 0, 1) := by decide +kernel
theorem d_M_add_199 : decode b_M_add 199 = .ok (.getfield 181, 3) := by decide +kernel
theorem d_M_add_202 : decode b_M_add 202 = .ok (.iconst 3, 1) := by decide +kernel
theorem d_M_add_203 : decode b_M_add 203 = .ok (.if_icmp .ne 70, 3) := by decide +kernel
theorem d_M_add_206 : decode b_M_add 206 = .ok (.iconst 0, 1) := by decide +kernel
theorem d_M_add_207 : decode b_M_add 207 = .ok (.istore 8, 2) := by decide +kernel
theorem d_M_add_209 : decode b_M_add 209 = .ok (.iload 8, 2) := by decide +kernel
theorem d_M_add_211 : decode b_M_add 211 = .ok (.aload_n 0, 1) := by decide +kernel
theorem d_M_add_212 : decode b_M_add 212 = .ok (.getfield 172, 3) := by decide +kernel
theorem d_M_add_215 : decode b_M_add 215 = .ok (.if_icmp .ge 33, 3) := by decide +kernel
theorem d_M_add_218 : decode b_M_add 218 = .ok (.aload_n 0, 1) := by decide +kernel
theorem d_M_add_219 : decode b_M_add 219 = .ok (.getfield 41, 3) := by decide +kernel
theorem d_M_add_222 : decode b_M_add 222 = .ok (.aload_n 0, 1) := by decide +kernel
theorem d_M_add_223 : decode b_M_add 223 = .ok (.getfield 32, 3) := by decide +kernel
theorem d_M_add_226 : decode b_M_add 226 = .ok (.aload_n 0, 1) := by decide +kernel
theorem d_M_add_227 : decode b_M_add 227 = .ok (.getfield 178, 3) := by decide +kernel
theorem d_M_add_230 : decode b_M_add 230 = .ok (.iaload, 1) := by decide +kernel
theorem d_M_add_231 : decode b_M_add 231 = .ok (.iload 8, 2) := by decide +kernel
theorem d_M_add_233 : decode b_M_add 233 = .ok (.iadd, 1) := by decide +kernel
theorem d_M_add_234 : decode b_M_add 234 = .ok (.aload_n 0, 1) := by decide +kernel
theorem d_M_add_235 : decode b_M_add 235 = .ok (.getfield 53, 3) := by decide +kernel
theorem d_M_add_238 : decode b_M_add 238 = .ok (.iload 8, 2) := by decide +kernel
theorem d_M_add_240 : decode b_M_add 240 = .ok (.iaload, 1) := by decide +kernel
theorem d_M_add_241 : decode b_M_add 241 = .ok (.iastore, 1) := by decide +kernel
theorem d_M_add_242 : decode b_M_add 242 = .ok (.iinc 8 1, 3) := by decide +kernel
theorem d_M_add_245 : decode b_M_add 245 = .ok (.goto (-36), 3) := by decide +kernel
theorem d_M_add_248 : decode b_M_add 248 = .ok (.aload_n 0, 1) := by decide +kernel
theorem d_M_add_249 : decode b_M_add 249 = .ok (.getfield 32, 3) := by decide +kernel
theorem d_M_add_252 : decode b_M_add 252 = .ok (.aload_n 0, 1) := by decide +kernel
theorem d_M_add_253 : decode b_M_add 253 = .ok (.getfield 178, 3) := by decide +kernel
theorem d_M_add_256 : decode b_M_add 256 = .ok (.iconst 1, 1) := by decide +kernel
theorem d_M_add_257 : decode b_M_add 257 = .ok (.iadd, 1) := by decide +kernel
theorem d_M_add_258 : decode b_M_add 258 = .ok (.aload_n 0, 1) := by decide +kernel
theorem d_M_add_259 : decode b_M_add 259 = .ok (.getfield 32, 3) := by decide +kernel
theorem d_M_add_262 : decode b_M_add 262 = .ok (.aload_n 0, 1) := by decide +kernel
theorem d_M_add_263 : decode b_M_add 263 = .ok (.getfield 178, 3) := by decide +kernel
theorem d_M_add_266 : decode b_M_add 266 = .ok (.iaload, 1) := by decide +kernel
theorem d_M_add_267 : decode b_M_add 267 = .ok (.aload_n 0, 1) := by decide +kernel
theorem d_M_add_268 : decode b_M_add 268 = .ok (.getfield 172, 3) := by decide +kernel
theorem d_M_add_271 : decode b_M_add 271 = .ok (.iadd, 1) := by decide +kernel
theorem d_M_add_272 : decode b_M_add 272 = .ok (.iastore, 1) := by decide +kernel
theorem d_M_add_273 : decode b_M_add 273 = .ok (.aload_n 0, 1) := by decide +kernel
theorem d_M_add_274 : decode b_M_add 274 = .ok (.dup, 1) := by decide +kernel
theorem d_M_add_275 : decode b_M_add 275 = .ok (.getfield 178, 3) := by decide +kernel
theorem d_M_add_278 : decode b_M_add 278 = .ok (.iconst 1, 1) := by decide +kernel
theorem d_M_add_279 : decode b_M_add 279 = .ok (.iadd, 1) := by decide +kernel
theorem d_M_add_280 : decode b_M_add 280 = .ok (.putfield 178, 3) := by decide +kernel
theorem d_M_add_283 : decode b_M_add 283 = .ok (.iinc 7 1, 3) := by decide +kernel
theorem d_M_add_286 : decode b_M_add 286 = .ok (.goto (-143), 3) := by decide +kernel
theorem d_M_add_289 : decode b_M_add 289 = .ok (.iconst 1, 1) := by decide +kernel
theorem d_M_add_290 : decode b_M_add 290 = .ok (.ireturn, 1) := by decide +kernel
theorem d_M_clear_0 : decode b_M_clear 0 = .ok (.aload_n 0, 1) := by decide +kernel
theorem d_M_clear_1 : decode b_M_clear 1 = .ok (.iconst 0, 1) := by decide +kernel
theorem d_M_clear_2 : decode b_M_clear 2 = .ok (.putfield 84, 3) := by decide +kernel
theorem d_M_clear_5 : decode b_M_clear 5 = .ok (.aload_n 0, 1) := by decide +kernel
theorem d_M_clear_6 : decode b_M_clear 6 = .ok (.invokevirtual 190, 3) := by decide +kernel
theorem d_M_clear_9 : decode b_M_clear 9 = .ok (.return_, 1) := by decide +kernel
theorem d_M_lengthOf_0 : decode b_M_lengthOf 0 = .ok (.aload_n 0, 1) := by decide +kernel
theorem d_M_lengthOf_1 : decode b_M_lengthOf 1 = .ok (.getfield 32, 3) := by decide +kernel
theorem d_M_lengthOf_4 : decode b_M_lengthOf 4 = .ok (.iload_n 1, 1) := by decide +kernel
theorem d_M_lengthOf_5 : decode b_M_lengthOf 5 = .ok (.iconst 1, 1) := by decide +kernel
theorem d_M_lengthOf_6 : decode b_M_lengthOf 6 = .ok (.iadd, 1) := by decide +kernel
theorem d_M_lengthOf_7 : decode b_M_lengthOf 7 = .ok (.iaload, 1) := by decide +kernel
theorem d_M_lengthOf_8 : decode b_M_lengthOf 8 = .ok (.aload_n 0, 1) := by decide +kernel
theorem d_M_lengthOf_9 : decode b_M_lengthOf 9 = .ok (.getfield 32, 3) := by decide +kernel
theorem d_M_lengthOf_12 : decode b_M_lengthOf 12 = .ok (.iload_n 1, 1) := by decide +kernel
theorem d_M_lengthOf_13 : decode b_M_lengthOf 13 = .ok (.iaload, 1) := by decide +kernel
theorem d_M_lengthOf_14 : decode b_M_lengthOf 14 = .ok (.isub, 1) := by decide +kernel
theorem d_M_lengthOf_15 : decode b_M_lengthOf 15 = .ok (.ireturn, 1) := by decide +kernel
theorem d_M_same_0 : decode b_M_same 0 = .ok (.aload_n 0, 1) := by decide +kernel
theorem d_M_same_1 : decode b_M_same 1 = .ok (.iload_n 1, 1) := by decide +kernel
theorem d_M_same_2 : decode b_M_same 2 = .ok (.invokevirtual 197, 3) := by decide +kernel
theorem d_M_same_5 : decode b_M_same 5 = .ok (.aload_n 0, 1) := by decide +kernel
theorem d_M_same_6 : decode b_M_same 6 = .ok (.iload_n 2, 1) := by decide +kernel
theorem d_M_same_7 : decode b_M_same 7 = .ok (.invokevirtual 197, 3) := by decide +kernel
theorem d_M_same_10 : decode b_M_same 10 = .ok (.if_icmp .ne 7, 3) := by decide +kernel
theorem d_M_same_13 : decode b_M_same 13 = .ok (.iconst 1, 1) := by decide +kernel
theorem d_M_same_14 : decode b_M_same 14 = .ok (.goto 4, 3) := by decide +kernel
theorem d_M_same_17 : decode b_M_same 17 = .ok (.iconst 0, 1) := by decide +kernel
theorem d_M_same_18 : decode b_M_same 18 = .ok (.istore_n 3, 1) := by decide +kernel
theorem d_M_same_19 : decode b_M_same 19 = .ok (.iconst 0, 1) := by decide +kernel
theorem d_M_same_20 : decode b_M_same 20 = .ok (.istore 4, 2) := by decide +kernel
theorem d_M_same_22 : decode b_M_same 22 = .ok (.iload_n 3, 1) := by decide +kernel
theorem d_M_same_23 : decode b_M_same 23 = .ok (.ifCond .eq 56, 3) := by decide +kernel
theorem d_M_same_26 : decode b_M_same 26 = .ok (.iload 4, 2) := by decide +kernel
theorem d_M_same_28 : decode b_M_same 28 = .ok (.aload_n 0, 1) := by decide +kernel
theorem d_M_same_29 : decode b_M_same 29 = .ok (.iload_n 2, 1) := by decide +kernel
theorem d_M_same_30 : decode b_M_same 30 = .ok (.invokevirtual 197, 3) := by decide +kernel
theorem d_M_same_33 : decode b_M_same 33 = .ok (.if_icmp .ge 46, 3) := by decide +kernel
theorem d_M_same_36 : decode b_M_same 36 = .ok (.aload_n 0, 1) := by decide +kernel
theorem d_M_same_37 : decode b_M_same 37 = .ok (.getfield 41, 3) := by decide +kernel
theorem d_M_same_40 : decode b_M_same 40 = .ok (.aload_n 0, 1) := by decide +kernel
theorem d_M_same_41 : decode b_M_same 41 = .ok (.getfield 32, 3) := by decide +kernel
theorem d_M_same_44 : decode b_M_same 44 = .ok (.iload_n 1, 1) := by decide +kernel
theorem d_M_same_45 : decode b_M_same 45 = .ok (.iaload, 1) := by decide +kernel
theorem d_M_same_46 : decode b_M_same 46 = .ok (.iload 4, 2) := by decide +kernel
theorem d_M_same_48 : decode b_M_same 48 = .ok (.iadd, 1) := by decide +kernel
theorem d_M_same_49 : decode b_M_same 49 = .ok (.iaload, 1) := by decide +kernel
theorem d_M_same_50 : decode b_M_same 50 = .ok (.aload_n 0, 1) := by decide +kernel
theorem d_M_same_51 : decode b_M_same 51 = .ok (.getfield 41, 3) := by decide +kernel
theorem d_M_same_54 : decode b_M_same 54 = .ok (.aload_n 0, 1) := by decide +kernel
theorem d_M_same_55 : decode b_M_same 55 = .ok (.getfield 32, 3) := by decide +kernel
theorem d_M_same_58 : decode b_M_same 58 = .ok (.iload_n 2, 1) := by decide +kernel
theorem d_M_same_59 : decode b_M_same 59 = .ok (.iaload, 1) := by decide +kernel
theorem d_M_same_60 : decode b_M_same 60 = .ok (.iload 4, 2) := by decide +kernel
theorem d_M_same_62 : decode b_M_same 62 = .ok (.iadd, 1) := by decide +kernel
theorem d_M_same_63 : decode b_M_same 63 = .ok (.iaload, 1) := by decide +kernel
theorem d_M_same_64 : decode b_M_same 64 = .ok (.if_icmp .ne 7, 3) := by decide +kernel
theorem d_M_same_67 : decode b_M_same 67 = .ok (.iconst 1, 1) := by decide +kernel
theorem d_M_same_68 : decode b_M_same 68 = .ok (.goto 4, 3) := by decide +kernel
theorem d_M_same_71 : decode b_M_same 71 = .ok (.iconst 0, 1) := by decide +kernel
theorem d_M_same_72 : decode b_M_same 72 = .ok (.istore_n 3, 1) := by decide +kernel
theorem d_M_same_73 : decode b_M_same 73 = .ok (.iinc 4 1, 3) := by decide +kernel
theorem d_M_same_76 : decode b_M_same 76 = .ok (.goto (-54), 3) := by decide +kernel
theorem d_M_same_79 : decode b_M_same 79 = .ok (.iload_n 3, 1) := by decide +kernel
theorem d_M_same_80 : decode b_M_same 80 = .ok (.ireturn, 1) := by decide +kernel
theorem d_M_firstLike_0 : decode b_M_firstLike 0 = .ok (.iconst 0, 1) := by decide +kernel
theorem d_M_firstLike_1 : decode b_M_firstLike 1 = .ok (.istore_n 2, 1) := by decide +kernel
theorem d_M_firstLike_2 : decode b_M_firstLike 2 = .ok (.aload_n 0, 1) := by decide +kernel
theorem d_M_firstLike_3 : decode b_M_firstLike 3 = .ok (.iload_n 2, 1) := by decide +kernel
theorem d_M_firstLike_4 : decode b_M_firstLike 4 = .ok (.iload_n 1, 1) := by decide +kernel
theorem d_M_firstLike_5 : decode b_M_firstLike 5 = .ok (.invokevirtual 201, 3) := by decide +kernel
theorem d_M_firstLike_8 : decode b_M_firstLike 8 = .ok (.ifCond .ne 9, 3) := by decide +kernel
theorem d_M_firstLike_11 : decode b_M_firstLike 11 = .ok (.iinc 2 1, 3) := by decide +kernel
theorem d_M_firstLike_14 : decode b_M_firstLike 14 = .ok (.goto (-12), 3) := by decide +kernel
theorem d_M_firstLike_17 : decode b_M_firstLike 17 = .ok (.iload_n 2, 1) := by decide +kernel
theorem d_M_firstLike_18 : decode b_M_firstLike 18 = .ok (.ireturn, 1) := by decide +kernel
theorem d_M_putText_0 : decode b_M_putText 0 = .ok (.aload_n 0, 1) := by decide +kernel
theorem d_M_putText_1 : decode b_M_putText 1 = .ok (.aload_n 0, 1) := by decide +kernel
theorem d_M_putText_2 : decode b_M_putText 2 = .ok (.iload_n 1, 1) := by decide +kernel
theorem d_M_putText_3 : decode b_M_putText 3 = .ok (.invokevirtual 197, 3) := by decide +kernel
theorem d_M_putText_6 : decode b_M_putText 6 = .ok (.i2l, 1) := by decide +kernel
theorem d_M_putText_7 : decode b_M_putText 7 = .ok (.invokevirtual 109, 3) := by decide +kernel
theorem d_M_putText_10 : decode b_M_putText 10 = .ok (.aload_n 0, 1) := by decide +kernel
theorem d_M_putText_11 : decode b_M_putText 11 = .ok (.getfield 32, 3) := by decide +kernel
theorem d_M_putText_14 : decode b_M_putText 14 = .ok (.iload_n 1, 1) := by decide +kernel
theorem d_M_putText_15 : decode b_M_putText 15 = .ok (.iaload, 1) := by decide +kernel
theorem d_M_putText_16 : decode b_M_putText 16 = .ok (.istore_n 2, 1) := by decide +kernel
theorem d_M_putText_17 : decode b_M_putText 17 = .ok (.iload_n 2, 1) := by decide +kernel
theorem d_M_putText_18 : decode b_M_putText 18 = .ok (.aload_n 0, 1) := by decide +kernel
theorem d_M_putText_19 : decode b_M_putText 19 = .ok (.getfield 32, 3) := by decide +kernel
theorem d_M_putText_22 : decode b_M_putText 22 = .ok (.iload_n 1, 1) := by decide +kernel
theorem d_M_putText_23 : decode b_M_putText 23 = .ok (.iconst 1, 1) := by decide +kernel
theorem d_M_putText_24 : decode b_M_putText 24 = .ok (.iadd, 1) := by decide +kernel
theorem d_M_putText_25 : decode b_M_putText 25 = .ok (.iaload, 1) := by decide +kernel
theorem d_M_putText_26 : decode b_M_putText 26 = .ok (.if_icmp .ge 19, 3) := by decide +kernel
theorem d_M_putText_29 : decode b_M_putText 29 = .ok (.aload_n 0, 1) := by decide +kernel
theorem d_M_putText_30 : decode b_M_putText 30 = .ok (.aload_n 0, 1) := by decide +kernel
theorem d_M_putText_31 : decode b_M_putText 31 = .ok (.getfield 41, 3) := by decide +kernel
theorem d_M_putText_34 : decode b_M_putText 34 = .ok (.iload_n 2, 1) := by decide +kernel
theorem d_M_putText_35 : decode b_M_putText 35 = .ok (.iaload, 1) := by decide +kernel
theorem d_M_putText_36 : decode b_M_putText 36 = .ok (.invokevirtual 99, 3) := by decide +kernel
theorem d_M_putText_39 : decode b_M_putText 39 = .ok (.iinc 2 1, 3) := by decide +kernel
theorem d_M_putText_42 : decode b_M_putText 42 = .ok (.goto (-25), 3) := by decide +kernel
theorem d_M_putText_45 : decode b_M_putText 45 = .ok (.return_, 1) := by decide +kernel
theorem d_M_writeLengths_0 : decode b_M_writeLengths 0 = .ok (.aload_n 0, 1) := by decide +kernel
theorem d_M_writeLengths_1 : decode b_M_writeLengths 1 = .ok (.aload_n 0, 1) := by decide +kernel
theorem d_M_writeLengths_2 : decode b_M_writeLengths 2 = .ok (.getfield 178, 3) := by decide +kernel
theorem d_M_writeLengths_5 : decode b_M_writeLengths 5 = .ok (.putfield 135, 3) := by decide +kernel
theorem d_M_writeLengths_8 : decode b_M_writeLengths 8 = .ok (.iconst 0, 1) := by decide +kernel
theorem d_M_writeLengths_9 : decode b_M_writeLengths 9 = .ok (.istore_n 1, 1) := by decide +kernel
theorem d_M_writeLengths_10 : decode b_M_writeLengths 10 = .ok (.iload_n 1, 1) := by decide +kernel
theorem d_M_writeLengths_11 : decode b_M_writeLengths 11 = .ok (.aload_n 0, 1) := by decide +kernel
theorem d_M_writeLengths_12 : decode b_M_writeLengths 12 = .ok (.getfield 178, 3) := by decide +kernel
theorem d_M_writeLengths_15 : decode b_M_writeLengths 15 = .ok (.if_icmp .ge 21, 3) := by decide +kernel
theorem d_M_writeLengths_18 : decode b_M_writeLengths 18 = .ok (.aload_n 0, 1) := by decide +kernel
theorem d_M_writeLengths_19 : decode b_M_writeLengths 19 = .ok (.getfield 63, 3) := by decide +kernel
theorem d_M_writeLengths_22 : decode b_M_writeLengths 22 = .ok (.iload_n 1, 1) := by decide +kernel
theorem d_M_writeLengths_23 : decode b_M_writeLengths 23 = .ok (.aload_n 0, 1) := by decide +kernel
theorem d_M_writeLengths_24 : decode b_M_writeLengths 24 = .ok (.iload_n 1, 1) := by decide +kernel
theorem d_M_writeLengths_25 : decode b_M_writeLengths 25 = .ok (.invokevirtual 197, 3) := by decide +kernel
theorem d_M_writeLengths_28 : decode b_M_writeLengths 28 = .ok (.i2l, 1) := by decide +kernel
theorem d_M_writeLengths_29 : decode b_M_writeLengths 29 = .ok (.lastore, 1) := by decide +kernel
theorem d_M_writeLengths_30 : decode b_M_writeLengths 30 = .ok (.iinc 1 1, 3) := by decide +kernel
theorem d_M_writeLengths_33 : decode b_M_writeLengths 33 = .ok (.goto (-23), 3) := by decide +kernel
theorem d_M_writeLengths_36 : decode b_M_writeLengths 36 = .ok (.aload_n 0, 1) := by decide +kernel
theorem d_M_writeLengths_37 : decode b_M_writeLengths 37 = .ok (.invokevirtual 205, 3) := by decide +kernel
theorem d_M_writeLengths_40 : decode b_M_writeLengths 40 = .ok (.iconst 0, 1) := by decide +kernel
theorem d_M_writeLengths_41 : decode b_M_writeLengths 41 = .ok (.istore_n 1, 1) := by decide +kernel
theorem d_M_writeLengths_42 : decode b_M_writeLengths 42 = .ok (.iload_n 1, 1) := by decide +kernel
theorem d_M_writeLengths_43 : decode b_M_writeLengths 43 = .ok (.aload_n 0, 1) := by decide +kernel
theorem d_M_writeLengths_44 : decode b_M_writeLengths 44 = .ok (.getfield 32, 3) := by decide +kernel
theorem d_M_writeLengths_47 : decode b_M_writeLengths 47 = .ok (.aload_n 0, 1) := by decide +kernel
theorem d_M_writeLengths_48 : decode b_M_writeLengths 48 = .ok (.getfield 178, 3) := by decide +kernel
theorem d_M_writeLengths_51 : decode b_M_writeLengths 51 = .ok (.iaload, 1) := by decide +kernel
theorem d_M_writeLengths_52 : decode b_M_writeLengths 52 = .ok (.if_icmp .ge 19, 3) := by decide +kernel
theorem d_M_writeLengths_55 : decode b_M_writeLengths 55 = .ok (.aload_n 0, 1) := by decide +kernel
theorem d_M_writeLengths_56 : decode b_M_writeLengths 56 = .ok (.aload_n 0, 1) := by decide +kernel
theorem d_M_writeLengths_57 : decode b_M_writeLengths 57 = .ok (.getfield 41, 3) := by decide +kernel
theorem d_M_writeLengths_60 : decode b_M_writeLengths 60 = .ok (.iload_n 1, 1) := by decide +kernel
theorem d_M_writeLengths_61 : decode b_M_writeLengths 61 = .ok (.iaload, 1) := by decide +kernel
theorem d_M_writeLengths_62 : decode b_M_writeLengths 62 = .ok (.invokevirtual 99, 3) := by decide +kernel
theorem d_M_writeLengths_65 : decode b_M_writeLengths 65 = .ok (.iinc 1 1, 3) := by decide +kernel
theorem d_M_writeLengths_68 : decode b_M_writeLengths 68 = .ok (.goto (-26), 3) := by decide +kernel
theorem d_M_writeLengths_71 : decode b_M_writeLengths 71 = .ok (.return_, 1) := by decide +kernel
theorem d_M_inCommon_0 : decode b_M_inCommon 0 = .ok (.iconst 0, 1) := by decide +kernel
theorem d_M_inCommon_1 : decode b_M_inCommon 1 = .ok (.istore_n 2, 1) := by decide +kernel
theorem d_M_inCommon_2 : decode b_M_inCommon 2 = .ok (.iload_n 1, 1) := by decide +kernel
theorem d_M_inCommon_3 : decode b_M_inCommon 3 = .ok (.ifCond .le 60, 3) := by decide +kernel
theorem d_M_inCommon_6 : decode b_M_inCommon 6 = .ok (.iload_n 2, 1) := by decide +kernel
theorem d_M_inCommon_7 : decode b_M_inCommon 7 = .ok (.aload_n 0, 1) := by decide +kernel
theorem d_M_inCommon_8 : decode b_M_inCommon 8 = .ok (.iload_n 1, 1) := by decide +kernel
theorem d_M_inCommon_9 : decode b_M_inCommon 9 = .ok (.invokevirtual 197, 3) := by decide +kernel
theorem d_M_inCommon_12 : decode b_M_inCommon 12 = .ok (.if_icmp .ge 51, 3) := by decide +kernel
theorem d_M_inCommon_15 : decode b_M_inCommon 15 = .ok (.iload_n 2, 1) := by decide +kernel
theorem d_M_inCommon_16 : decode b_M_inCommon 16 = .ok (.aload_n 0, 1) := by decide +kernel
theorem d_M_inCommon_17 : decode b_M_inCommon 17 = .ok (.iload_n 1, 1) := by decide +kernel
theorem d_M_inCommon_18 : decode b_M_inCommon 18 = .ok (.iconst 1, 1) := by decide +kernel
theorem d_M_inCommon_19 : decode b_M_inCommon 19 = .ok (.isub, 1) := by decide +kernel
theorem d_M_inCommon_20 : decode b_M_inCommon 20 = .ok (.invokevirtual 197, 3) := by decide +kernel
theorem d_M_inCommon_23 : decode b_M_inCommon 23 = .ok (.if_icmp .ge 40, 3) := by decide +kernel
theorem d_M_inCommon_26 : decode b_M_inCommon 26 = .ok (.aload_n 0, 1) := by decide +kernel
theorem d_M_inCommon_27 : decode b_M_inCommon 27 = .ok (.getfield 41, 3) := by decide +kernel
theorem d_M_inCommon_30 : decode b_M_inCommon 30 = .ok (.aload_n 0, 1) := by decide +kernel
theorem d_M_inCommon_31 : decode b_M_inCommon 31 = .ok (.getfield 32, 3) := by decide +kernel
theorem d_M_inCommon_34 : decode b_M_inCommon 34 = .ok (.iload_n 1, 1) := by decide +kernel
theorem d_M_inCommon_35 : decode b_M_inCommon 35 = .ok (.iaload, 1) := by decide +kernel
theorem d_M_inCommon_36 : decode b_M_inCommon 36 = .ok (.iload_n 2, 1) := by decide +kernel
theorem d_M_inCommon_37 : decode b_M_inCommon 37 = .ok (.iadd, 1) := by decide +kernel
theorem d_M_inCommon_38 : decode b_M_inCommon 38 = .ok (.iaload, 1) := by decide +kernel
theorem d_M_inCommon_39 : decode b_M_inCommon 39 = .ok (.aload_n 0, 1) := by decide +kernel
theorem d_M_inCommon_40 : decode b_M_inCommon 40 = .ok (.getfield 41, 3) := by decide +kernel
theorem d_M_inCommon_43 : decode b_M_inCommon 43 = .ok (.aload_n 0, 1) := by decide +kernel
theorem d_M_inCommon_44 : decode b_M_inCommon 44 = .ok (.getfield 32, 3) := by decide +kernel
theorem d_M_inCommon_47 : decode b_M_inCommon 47 = .ok (.iload_n 1, 1) := by decide +kernel
theorem d_M_inCommon_48 : decode b_M_inCommon 48 = .ok (.iconst 1, 1) := by decide +kernel
theorem d_M_inCommon_49 : decode b_M_inCommon 49 = .ok (.isub, 1) := by decide +kernel
theorem d_M_inCommon_50 : decode b_M_inCommon 50 = .ok (.iaload, 1) := by decide +kernel
theorem d_M_inCommon_51 : decode b_M_inCommon 51 = .ok (.iload_n 2, 1) := by decide +kernel
theorem d_M_inCommon_52 : decode b_M_inCommon 52 = .ok (.iadd, 1) := by decide +kernel
theorem d_M_inCommon_53 : decode b_M_inCommon 53 = .ok (.iaload, 1) := by decide +kernel
theorem d_M_inCommon_54 : decode b_M_inCommon 54 = .ok (.if_icmp .ne 9, 3) := by decide +kernel
theorem d_M_inCommon_57 : decode b_M_inCommon 57 = .ok (.iinc 2 1, 3) := by decide +kernel
theorem d_M_inCommon_60 : decode b_M_inCommon 60 = .ok (.goto (-58), 3) := by decide +kernel
theorem d_M_inCommon_63 : decode b_M_inCommon 63 = .ok (.iload_n 2, 1) := by decide +kernel
theorem d_M_inCommon_64 : decode b_M_inCommon 64 = .ok (.ireturn, 1) := by decide +kernel
theorem d_M_writeFront_0 : decode b_M_writeFront 0 = .ok (.aload_n 0, 1) := by decide +kernel
theorem d_M_writeFront_1 : decode b_M_writeFront 1 = .ok (.aload_n 0, 1) := by decide +kernel
theorem d_M_writeFront_2 : decode b_M_writeFront 2 = .ok (.getfield 178, 3) := by decide +kernel
theorem d_M_writeFront_5 : decode b_M_writeFront 5 = .ok (.putfield 135, 3) := by decide +kernel
theorem d_M_writeFront_8 : decode b_M_writeFront 8 = .ok (.iconst 0, 1) := by decide +kernel
theorem d_M_writeFront_9 : decode b_M_writeFront 9 = .ok (.istore_n 1, 1) := by decide +kernel
theorem d_M_writeFront_10 : decode b_M_writeFront 10 = .ok (.iload_n 1, 1) := by decide +kernel
theorem d_M_writeFront_11 : decode b_M_writeFront 11 = .ok (.aload_n 0, 1) := by decide +kernel
theorem d_M_writeFront_12 : decode b_M_writeFront 12 = .ok (.getfield 178, 3) := by decide +kernel
theorem d_M_writeFront_15 : decode b_M_writeFront 15 = .ok (.if_icmp .ge 21, 3) := by decide +kernel
theorem d_M_writeFront_18 : decode b_M_writeFront 18 = .ok (.aload_n 0, 1) := by decide +kernel
theorem d_M_writeFront_19 : decode b_M_writeFront 19 = .ok (.getfield 63, 3) := by decide +kernel
theorem d_M_writeFront_22 : decode b_M_writeFront 22 = .ok (.iload_n 1, 1) := by decide +kernel
theorem d_M_writeFront_23 : decode b_M_writeFront 23 = .ok (.aload_n 0, 1) := by decide +kernel
theorem d_M_writeFront_24 : decode b_M_writeFront 24 = .ok (.iload_n 1, 1) := by decide +kernel
theorem d_M_writeFront_25 : decode b_M_writeFront 25 = .ok (.invokevirtual 208, 3) := by decide +kernel
theorem d_M_writeFront_28 : decode b_M_writeFront 28 = .ok (.i2l, 1) := by decide +kernel
theorem d_M_writeFront_29 : decode b_M_writeFront 29 = .ok (.lastore, 1) := by decide +kernel
theorem d_M_writeFront_30 : decode b_M_writeFront 30 = .ok (.iinc 1 1, 3) := by decide +kernel
theorem d_M_writeFront_33 : decode b_M_writeFront 33 = .ok (.goto (-23), 3) := by decide +kernel
theorem d_M_writeFront_36 : decode b_M_writeFront 36 = .ok (.aload_n 0, 1) := by decide +kernel
theorem d_M_writeFront_37 : decode b_M_writeFront 37 = .ok (.invokevirtual 205, 3) := by decide +kernel
theorem d_M_writeFront_40 : decode b_M_writeFront 40 = .ok (.iconst 0, 1) := by decide +kernel
theorem d_M_writeFront_41 : decode b_M_writeFront 41 = .ok (.istore_n 1, 1) := by decide +kernel
theorem d_M_writeFront_42 : decode b_M_writeFront 42 = .ok (.iload_n 1, 1) := by decide +kernel
theorem d_M_writeFront_43 : decode b_M_writeFront 43 = .ok (.aload_n 0, 1) := by decide +kernel
theorem d_M_writeFront_44 : decode b_M_writeFront 44 = .ok (.getfield 178, 3) := by decide +kernel
theorem d_M_writeFront_47 : decode b_M_writeFront 47 = .ok (.if_icmp .ge 27, 3) := by decide +kernel
theorem d_M_writeFront_50 : decode b_M_writeFront 50 = .ok (.aload_n 0, 1) := by decide +kernel
theorem d_M_writeFront_51 : decode b_M_writeFront 51 = .ok (.getfield 63, 3) := by decide +kernel
theorem d_M_writeFront_54 : decode b_M_writeFront 54 = .ok (.iload_n 1, 1) := by decide +kernel
theorem d_M_writeFront_55 : decode b_M_writeFront 55 = .ok (.aload_n 0, 1) := by decide +kernel
theorem d_M_writeFront_56 : decode b_M_writeFront 56 = .ok (.iload_n 1, 1) := by decide +kernel
theorem d_M_writeFront_57 : decode b_M_writeFront 57 = .ok (.invokevirtual 197, 3) := by decide +kernel
theorem d_M_writeFront_60 : decode b_M_writeFront 60 = .ok (.aload_n 0, 1) := by decide +kernel
theorem d_M_writeFront_61 : decode b_M_writeFront 61 = .ok (.iload_n 1, 1) := by decide +kernel
theorem d_M_writeFront_62 : decode b_M_writeFront 62 = .ok (.invokevirtual 208, 3) := by decide +kernel
theorem d_M_writeFront_65 : decode b_M_writeFront 65 = .ok (.isub, 1) := by decide +kernel
theorem d_M_writeFront_66 : decode b_M_writeFront 66 = .ok (.i2l, 1) := by decide +kernel
theorem d_M_writeFront_67 : decode b_M_writeFront 67 = .ok (.lastore, 1) := by decide +kernel
theorem d_M_writeFront_68 : decode b_M_writeFront 68 = .ok (.iinc 1 1, 3) := by decide +kernel
theorem d_M_writeFront_71 : decode b_M_writeFront 71 = .ok (.goto (-29), 3) := by decide +kernel
theorem d_M_writeFront_74 : decode b_M_writeFront 74 = .ok (.aload_n 0, 1) := by decide +kernel
theorem d_M_writeFront_75 : decode b_M_writeFront 75 = .ok (.invokevirtual 205, 3) := by decide +kernel
theorem d_M_writeFront_78 : decode b_M_writeFront 78 = .ok (.iconst 0, 1) := by decide +kernel
theorem d_M_writeFront_79 : decode b_M_writeFront 79 = .ok (.istore_n 1, 1) := by decide +kernel
theorem d_M_writeFront_80 : decode b_M_writeFront 80 = .ok (.iload_n 1, 1) := by decide +kernel
theorem d_M_writeFront_81 : decode b_M_writeFront 81 = .ok (.aload_n 0, 1) := by decide +kernel
theorem d_M_writeFront_82 : decode b_M_writeFront 82 = .ok (.getfield 178, 3) := by decide +kernel
theorem d_M_writeFront_85 : decode b_M_writeFront 85 = .ok (.if_icmp .ge 50, 3) := by decide +kernel
theorem d_M_writeFront_88 : decode b_M_writeFront 88 = .ok (.aload_n 0, 1) := by decide +kernel
theorem d_M_writeFront_89 : decode b_M_writeFront 89 = .ok (.getfield 32, 3) := by decide +kernel
theorem d_M_writeFront_92 : decode b_M_writeFront 92 = .ok (.iload_n 1, 1) := by decide +kernel
theorem d_M_writeFront_93 : decode b_M_writeFront 93 = .ok (.iaload, 1) := by decide +kernel
theorem d_M_writeFront_94 : decode b_M_writeFront 94 = .ok (.aload_n 0, 1) := by decide +kernel
theorem d_M_writeFront_95 : decode b_M_writeFront 95 = .ok (.iload_n 1, 1) := by decide +kernel
theorem d_M_writeFront_96 : decode b_M_writeFront 96 = .ok (.invokevirtual 208, 3) := by decide +kernel
theorem d_M_writeFront_99 : decode b_M_writeFront 99 = .ok (.iadd, 1) := by decide +kernel
theorem d_M_writeFront_100 : decode b_M_writeFront 100 = .ok (.istore_n 2, 1) := by decide +kernel
theorem d_M_writeFront_101 : decode b_M_writeFront 101 = .ok (.iload_n 2, 1) := by decide +kernel
theorem d_M_writeFront_102 : decode b_M_writeFront 102 = .ok (.aload_n 0, 1) := by decide +kernel
theorem d_M_writeFront_103 : decode b_M_writeFront 103 = .ok (.getfield 32, 3) := by decide +kernel
theorem d_M_writeFront_106 : decode b_M_writeFront 106 = .ok (.iload_n 1, 1) := by decide +kernel
theorem d_M_writeFront_107 : decode b_M_writeFront 107 = .ok (.iconst 1, 1) := by decide +kernel
theorem d_M_writeFront_108 : decode b_M_writeFront 108 = .ok (.iadd, 1) := by decide +kernel
theorem d_M_writeFront_109 : decode b_M_writeFront 109 = .ok (.iaload, 1) := by decide +kernel
theorem d_M_writeFront_110 : decode b_M_writeFront 110 = .ok (.if_icmp .ge 19, 3) := by decide +kernel
theorem d_M_writeFront_113 : decode b_M_writeFront 113 = .ok (.aload_n 0, 1) := by decide +kernel
theorem d_M_writeFront_114 : decode b_M_writeFront 114 = .ok (.aload_n 0, 1) := by decide +kernel
theorem d_M_writeFront_115 : decode b_M_writeFront 115 = .ok (.getfield 41, 3) := by decide +kernel
theorem d_M_writeFront_118 : decode b_M_writeFront 118 = .ok (.iload_n 2, 1) := by decide +kernel
theorem d_M_writeFront_119 : decode b_M_writeFront 119 = .ok (.iaload, 1) := by decide +kernel
theorem d_M_writeFront_120 : decode b_M_writeFront 120 = .ok (.invokevirtual 99, 3) := by decide +kernel
theorem d_M_writeFront_123 : decode b_M_writeFront 123 = .ok (.iinc 2 1, 3) := by decide +kernel
theorem d_M_writeFront_126 : decode b_M_writeFront 126 = .ok (.goto (-25), 3) := by decide +kernel
theorem d_M_writeFront_129 : decode b_M_writeFront 129 = .ok (.iinc 1 1, 3) := by decide +kernel
theorem d_M_writeFront_132 : decode b_M_writeFront 132 = .ok (.goto (-52), 3) := by decide +kernel
theorem d_M_writeFront_135 : decode b_M_writeFront 135 = .ok (.return_, 1) := by decide +kernel
theorem d_M_writeDictionary_0 : decode b_M_writeDictionary 0 = .ok (.iconst 0, 1) := by decide +kernel
theorem d_M_writeDictionary_1 : decode b_M_writeDictionary 1 = .ok (.istore_n 1, 1) := by decide +kernel
theorem d_M_writeDictionary_2 : decode b_M_writeDictionary 2 = .ok (.iconst 0, 1) := by decide +kernel
theorem d_M_writeDictionary_3 : decode b_M_writeDictionary 3 = .ok (.istore_n 2, 1) := by decide +kernel
theorem d_M_writeDictionary_4 : decode b_M_writeDictionary 4 = .ok (.iload_n 2, 1) := by decide +kernel
theorem d_M_writeDictionary_5 : decode b_M_writeDictionary 5 = .ok (.aload_n 0, 1) := by decide +kernel
theorem d_M_writeDictionary_6 : decode b_M_writeDictionary 6 = .ok (.getfield 178, 3) := by decide +kernel
theorem d_M_writeDictionary_9 : decode b_M_writeDictionary 9 = .ok (.if_icmp .ge 49, 3) := by decide +kernel
theorem d_M_writeDictionary_12 : decode b_M_writeDictionary 12 = .ok (.aload_n 0, 1) := by decide +kernel
theorem d_M_writeDictionary_13 : decode b_M_writeDictionary 13 = .ok (.iload_n 2, 1) := by decide +kernel
theorem d_M_writeDictionary_14 : decode b_M_writeDictionary 14 = .ok (.invokevirtual 211, 3) := by decide +kernel
theorem d_M_writeDictionary_17 : decode b_M_writeDictionary 17 = .ok (.istore_n 3, 1) := by decide +kernel
theorem d_M_writeDictionary_18 : decode b_M_writeDictionary 18 = .ok (.aload_n 0, 1) := by decide +kernel
theorem d_M_writeDictionary_19 : decode b_M_writeDictionary 19 = .ok (.getfield 66, 3) := by decide +kernel
theorem d_M_writeDictionary_22 : decode b_M_writeDictionary 22 = .ok (.iload_n 2, 1) := by decide +kernel
theorem d_M_writeDictionary_23 : decode b_M_writeDictionary 23 = .ok (.iload_n 3, 1) := by decide +kernel
theorem d_M_writeDictionary_24 : decode b_M_writeDictionary 24 = .ok (.iload_n 2, 1) := by decide +kernel
theorem d_M_writeDictionary_25 : decode b_M_writeDictionary 25 = .ok (.if_icmp .ne 7, 3) := by decide +kernel
theorem d_M_writeDictionary_28 : decode b_M_writeDictionary 28 = .ok (.iload_n 1, 1) := by decide +kernel
theorem d_M_writeDictionary_29 : decode b_M_writeDictionary 29 = .ok (.goto 9, 3) := by decide +kernel
theorem d_M_writeDictionary_32 : decode b_M_writeDictionary 32 = .ok (.aload_n 0, 1) := by decide +kernel
theorem d_M_writeDictionary_33 : decode b_M_writeDictionary 33 = .ok (.getfield 66, 3) := by decide +kernel
theorem d_M_writeDictionary_36 : decode b_M_writeDictionary 36 = .ok (.iload_n 3, 1) := by decide +kernel
theorem d_M_writeDictionary_37 : decode b_M_writeDictionary 37 = .ok (.iaload, 1) := by decide +kernel
theorem d_M_writeDictionary_38 : decode b_M_writeDictionary 38 = .ok (.iastore, 1) := by decide +kernel
theorem d_M_writeDictionary_39 : decode b_M_writeDictionary 39 = .ok (.iload_n 1, 1) := by decide +kernel
theorem d_M_writeDictionary_40 : decode b_M_writeDictionary 40 = .ok (.iload_n 3, 1) := by decide +kernel
theorem d_M_writeDictionary_41 : decode b_M_writeDictionary 41 = .ok (.iload_n 2, 1) := by decide +kernel
theorem d_M_writeDictionary_42 : decode b_M_writeDictionary 42 = .ok (.if_icmp .ne 7, 3) := by decide +kernel
theorem d_M_writeDictionary_45 : decode b_M_writeDictionary 45 = .ok (.iconst 1, 1) := by decide +kernel
theorem d_M_writeDictionary_46 : decode b_M_writeDictionary 46 = .ok (.goto 4, 3) := by decide +kernel
theorem d_M_writeDictionary_49 : decode b_M_writeDictionary 49 = .ok (.iconst 0, 1) := by decide +kernel
theorem d_M_writeDictionary_50 : decode b_M_writeDictionary 50 = .ok (.iadd, 1) := by decide +kernel
theorem d_M_writeDictionary_51 : decode b_M_writeDictionary 51 = .ok (.istore_n 1, 1) := by decide +kernel
theorem d_M_writeDictionary_52 : decode b_M_writeDictionary 52 = .ok (.iinc 2 1, 3) := by decide +kernel
theorem d_M_writeDictionary_55 : decode b_M_writeDictionary 55 = .ok (.goto (-51), 3) := by decide +kernel
theorem d_M_writeDictionary_58 : decode b_M_writeDictionary 58 = .ok (.aload_n 0, 1) := by decide +kernel
theorem d_M_writeDictionary_59 : decode b_M_writeDictionary 59 = .ok (.iload_n 1, 1) := by decide +kernel
theorem d_M_writeDictionary_60 : decode b_M_writeDictionary 60 = .ok (.i2l, 1) := by decide +kernel
theorem d_M_writeDictionary_61 : decode b_M_writeDictionary 61 = .ok (.invokevirtual 109, 3) := by decide +kernel
theorem d_M_writeDictionary_64 : decode b_M_writeDictionary 64 = .ok (.iconst 0, 1) := by decide +kernel
theorem d_M_writeDictionary_65 : decode b_M_writeDictionary 65 = .ok (.istore_n 2, 1) := by decide +kernel
theorem d_M_writeDictionary_66 : decode b_M_writeDictionary 66 = .ok (.iload_n 2, 1) := by decide +kernel
theorem d_M_writeDictionary_67 : decode b_M_writeDictionary 67 = .ok (.aload_n 0, 1) := by decide +kernel
theorem d_M_writeDictionary_68 : decode b_M_writeDictionary 68 = .ok (.getfield 178, 3) := by decide +kernel
theorem d_M_writeDictionary_71 : decode b_M_writeDictionary 71 = .ok (.if_icmp .ge 23, 3) := by decide +kernel
theorem d_M_writeDictionary_74 : decode b_M_writeDictionary 74 = .ok (.aload_n 0, 1) := by decide +kernel
theorem d_M_writeDictionary_75 : decode b_M_writeDictionary 75 = .ok (.iload_n 2, 1) := by decide +kernel
theorem d_M_writeDictionary_76 : decode b_M_writeDictionary 76 = .ok (.invokevirtual 211, 3) := by decide +kernel
theorem d_M_writeDictionary_79 : decode b_M_writeDictionary 79 = .ok (.iload_n 2, 1) := by decide +kernel
theorem d_M_writeDictionary_80 : decode b_M_writeDictionary 80 = .ok (.if_icmp .ne 8, 3) := by decide +kernel
theorem d_M_writeDictionary_83 : decode b_M_writeDictionary 83 = .ok (.aload_n 0, 1) := by decide +kernel
theorem d_M_writeDictionary_84 : decode b_M_writeDictionary 84 = .ok (.iload_n 2, 1) := by decide +kernel
theorem d_M_writeDictionary_85 : decode b_M_writeDictionary 85 = .ok (.invokevirtual 214, 3) := by decide +kernel
theorem d_M_writeDictionary_88 : decode b_M_writeDictionary 88 = .ok (.iinc 2 1, 3) := by decide +kernel
theorem d_M_writeDictionary_91 : decode b_M_writeDictionary 91 = .ok (.goto (-25), 3) := by decide +kernel
theorem d_M_writeDictionary_94 : decode b_M_writeDictionary 94 = .ok (.iconst 0, 1) := by decide +kernel
theorem d_M_writeDictionary_95 : decode b_M_writeDictionary 95 = .ok (.istore_n 2, 1) := by decide +kernel
theorem d_M_writeDictionary_96 : decode b_M_writeDictionary 96 = .ok (.iload_n 1, 1) := by decide +kernel
theorem d_M_writeDictionary_97 : decode b_M_writeDictionary 97 = .ok (.iconst 1, 1) := by decide +kernel
theorem d_M_writeDictionary_98 : decode b_M_writeDictionary 98 = .ok (.isub, 1) := by decide +kernel
theorem d_M_writeDictionary_99 : decode b_M_writeDictionary 99 = .ok (.iload_n 2, 1) := by decide +kernel
theorem d_M_writeDictionary_100 : decode b_M_writeDictionary 100 = .ok (.ishr, 1) := by decide +kernel
theorem d_M_writeDictionary_101 : decode b_M_writeDictionary 101 = .ok (.ifCond .le 9, 3) := by decide +kernel
theorem d_M_writeDictionary_104 : decode b_M_writeDictionary 104 = .ok (.iinc 2 1, 3) := by decide +kernel
theorem d_M_writeDictionary_107 : decode b_M_writeDictionary 107 = .ok (.goto (-11), 3) := by decide +kernel
theorem d_M_writeDictionary_110 : decode b_M_writeDictionary 110 = .ok (.aload_n 0, 1) := by decide +kernel
theorem d_M_writeDictionary_111 : decode b_M_writeDictionary 111 = .ok (.iload_n 2, 1) := by decide +kernel
theorem d_M_writeDictionary_112 : decode b_M_writeDictionary 112 = .ok (.invokevirtual 99, 3) := by decide +kernel
theorem d_M_writeDictionary_115 : decode b_M_writeDictionary 115 = .ok (.aload_n 0, 1) := by decide +kernel
theorem d_M_writeDictionary_116 : decode b_M_writeDictionary 116 = .ok (.aload_n 0, 1) := by decide +kernel
theorem d_M_writeDictionary_117 : decode b_M_writeDictionary 117 = .ok (.getfield 66, 3) := by decide +kernel
theorem d_M_writeDictionary_120 : decode b_M_writeDictionary 120 = .ok (.aload_n 0, 1) := by decide +kernel
theorem d_M_writeDictionary_121 : decode b_M_writeDictionary 121 = .ok (.getfield 178, 3) := by decide +kernel
theorem d_M_writeDictionary_124 : decode b_M_writeDictionary 124 = .ok (.iload_n 2, 1) := by decide +kernel
theorem d_M_writeDictionary_125 : decode b_M_writeDictionary 125 = .ok (.invokevirtual 217, 3) := by decide +kernel
theorem d_M_writeDictionary_128 : decode b_M_writeDictionary 128 = .ok (.return_, 1) := by decide +kernel
theorem d_M_codings_0 : decode b_M_codings 0 = .ok (.aload_n 0, 1) := by decide +kernel
theorem d_M_codings_1 : decode b_M_codings 1 = .ok (.getfield 181, 3) := by decide +kernel
theorem d_M_codings_4 : decode b_M_codings 4 = .ok (.ifCond .ne 7, 3) := by decide +kernel
theorem d_M_codings_7 : decode b_M_codings 7 = .ok (.iconst 2, 1) := by decide +kernel
theorem d_M_codings_8 : decode b_M_codings 8 = .ok (.goto 16, 3) := by decide +kernel
theorem d_M_codings_11 : decode b_M_codings 11 = .ok (.aload_n 0, 1) := by decide +kernel
theorem d_M_codings_12 : decode b_M_codings 12 = .ok (.getfield 181, 3) := by decide +kernel
theorem d_M_codings_15 : decode b_M_codings 15 = .ok (.iconst 3, 1) := by decide +kernel
theorem d_M_codings_16 : decode b_M_codings 16 = .ok (.if_icmp .ne 7, 3) := by decide +kernel
theorem d_M_codings_19 : decode b_M_codings 19 = .ok (.iconst 4, 1) := by decide +kernel
theorem d_M_codings_20 : decode b_M_codings 20 = .ok (.goto 4, 3) := by decide +kernel
theorem d_M_codings_23 : decode b_M_codings 23 = .ok (.iconst 3, 1) := by decide +kernel
theorem d_M_codings_24 : decode b_M_codings 24 = .ok (.ireturn, 1) := by decide +kernel
theorem d_M_wide_0 : decode b_M_wide 0 = .ok (.aload_n 0, 1) := by decide +kernel
theorem d_M_wide_1 : decode b_M_wide 1 = .ok (.getfield 181, 3) := by decide +kernel
theorem d_M_wide_4 : decode b_M_wide 4 = .ok (.iconst 1, 1) := by decide +kernel
theorem d_M_wide_5 : decode b_M_wide 5 = .ok (.if_icmp .ne 7, 3) := by decide +kernel
theorem d_M_wide_8 : decode b_M_wide 8 = .ok (.iconst 4, 1) := by decide +kernel
theorem d_M_wide_9 : decode b_M_wide 9 = .ok (.goto 5, 3) := by decide +kernel
theorem d_M_wide_12 : decode b_M_wide 12 = .ok (.bipush 8, 2) := by decide +kernel
theorem d_M_wide_14 : decode b_M_wide 14 = .ok (.ireturn, 1) := by decide +kernel
theorem d_M_writeBools_0 : decode b_M_writeBools 0 = .ok (.iconst 0, 1) := by decide +kernel
theorem d_M_writeBools_1 : decode b_M_writeBools 1 = .ok (.istore_n 2, 1) := by decide +kernel
theorem d_M_writeBools_2 : decode b_M_writeBools 2 = .ok (.iload_n 2, 1) := by decide +kernel
theorem d_M_writeBools_3 : decode b_M_writeBools 3 = .ok (.aload_n 0, 1) := by decide +kernel
theorem d_M_writeBools_4 : decode b_M_writeBools 4 = .ok (.getfield 178, 3) := by decide +kernel
theorem d_M_writeBools_7 : decode b_M_writeBools 7 = .ok (.if_icmp .ge 22, 3) := by decide +kernel
theorem d_M_writeBools_10 : decode b_M_writeBools 10 = .ok (.aload_n 0, 1) := by decide +kernel
theorem d_M_writeBools_11 : decode b_M_writeBools 11 = .ok (.getfield 66, 3) := by decide +kernel
theorem d_M_writeBools_14 : decode b_M_writeBools 14 = .ok (.iload_n 2, 1) := by decide +kernel
theorem d_M_writeBools_15 : decode b_M_writeBools 15 = .ok (.aload_n 0, 1) := by decide +kernel
theorem d_M_writeBools_16 : decode b_M_writeBools 16 = .ok (.getfield 22, 3) := by decide +kernel
theorem d_M_writeBools_19 : decode b_M_writeBools 19 = .ok (.iload_n 2, 1) := by decide +kernel
theorem d_M_writeBools_20 : decode b_M_writeBools 20 = .ok (.laload, 1) := by decide +kernel
theorem d_M_writeBools_21 : decode b_M_writeBools 21 = .ok (.l2i, 1) := by decide +kernel
theorem d_M_writeBools_22 : decode b_M_writeBools 22 = .ok (.iastore, 1) := by decide +kernel
theorem d_M_writeBools_23 : decode b_M_writeBools 23 = .ok (.iinc 2 1, 3) := by decide +kernel
theorem d_M_writeBools_26 : decode b_M_writeBools 26 = .ok (.goto (-24), 3) := by decide +kernel
theorem d_M_writeBools_29 : decode b_M_writeBools 29 = .ok (.iload_n 1, 1) := by decide +kernel
theorem d_M_writeBools_30 : decode b_M_writeBools 30 = .ok (.iconst 1, 1) := by decide +kernel
theorem d_M_writeBools_31 : decode b_M_writeBools 31 = .ok (.if_icmp .ne 16, 3) := by decide +kernel
theorem d_M_writeBools_34 : decode b_M_writeBools 34 = .ok (.aload_n 0, 1) := by decide +kernel
theorem d_M_writeBools_35 : decode b_M_writeBools 35 = .ok (.aload_n 0, 1) := by decide +kernel
theorem d_M_writeBools_36 : decode b_M_writeBools 36 = .ok (.getfield 66, 3) := by decide +kernel
theorem d_M_writeBools_39 : decode b_M_writeBools 39 = .ok (.aload_n 0, 1) := by decide +kernel
theorem d_M_writeBools_40 : decode b_M_writeBools 40 = .ok (.getfield 178, 3) := by decide +kernel
theorem d_M_writeBools_43 : decode b_M_writeBools 43 = .ok (.iconst 1, 1) := by decide +kernel
theorem d_M_writeBools_44 : decode b_M_writeBools 44 = .ok (.invokevirtual 217, 3) := by decide +kernel
theorem d_M_writeBools_47 : decode b_M_writeBools 47 = .ok (.iconst 0, 1) := by decide +kernel
theorem d_M_writeBools_48 : decode b_M_writeBools 48 = .ok (.istore_n 2, 1) := by decide +kernel
theorem d_M_writeBools_49 : decode b_M_writeBools 49 = .ok (.iload_n 2, 1) := by decide +kernel
theorem d_M_writeBools_50 : decode b_M_writeBools 50 = .ok (.aload_n 0, 1) := by decide +kernel
theorem d_M_writeBools_51 : decode b_M_writeBools 51 = .ok (.getfield 178, 3) := by decide +kernel
theorem d_M_writeBools_54 : decode b_M_writeBools 54 = .ok (.if_icmp .ge 62, 3) := by decide +kernel
theorem d_M_writeBools_57 : decode b_M_writeBools 57 = .ok (.iload_n 1, 1) := by decide +kernel
theorem d_M_writeBools_58 : decode b_M_writeBools 58 = .ok (.ifCond .ne 58, 3) := by decide +kernel
theorem d_M_writeBools_61 : decode b_M_writeBools 61 = .ok (.iconst 0, 1) := by decide +kernel
theorem d_M_writeBools_62 : decode b_M_writeBools 62 = .ok (.istore_n 3, 1) := by decide +kernel
theorem d_M_writeBools_63 : decode b_M_writeBools 63 = .ok (.iconst 0, 1) := by decide +kernel
theorem d_M_writeBools_64 : decode b_M_writeBools 64 = .ok (.istore 4, 2) := by decide +kernel
theorem d_M_writeBools_66 : decode b_M_writeBools 66 = .ok (.iload 4, 2) := by decide +kernel
theorem d_M_writeBools_68 : decode b_M_writeBools 68 = .ok (.bipush 8, 2) := by decide +kernel
theorem d_M_writeBools_70 : decode b_M_writeBools 70 = .ok (.if_icmp .ge 35, 3) := by decide +kernel
theorem d_M_writeBools_73 : decode b_M_writeBools 73 = .ok (.iload_n 2, 1) := by decide +kernel
theorem d_M_writeBools_74 : decode b_M_writeBools 74 = .ok (.iload 4, 2) := by decide +kernel
theorem d_M_writeBools_76 : decode b_M_writeBools 76 = .ok (.iadd, 1) := by decide +kernel
theorem d_M_writeBools_77 : decode b_M_writeBools 77 = .ok (.aload_n 0, 1) := by decide +kernel
theorem d_M_writeBools_78 : decode b_M_writeBools 78 = .ok (.getfield 178, 3) := by decide +kernel
theorem d_M_writeBools_81 : decode b_M_writeBools 81 = .ok (.if_icmp .ge 24, 3) := by decide +kernel
theorem d_M_writeBools_84 : decode b_M_writeBools 84 = .ok (.iload_n 3, 1) := by decide +kernel
theorem d_M_writeBools_85 : decode b_M_writeBools 85 = .ok (.aload_n 0, 1) := by decide +kernel
theorem d_M_writeBools_86 : decode b_M_writeBools 86 = .ok (.getfield 66, 3) := by decide +kernel
theorem d_M_writeBools_89 : decode b_M_writeBools 89 = .ok (.iload_n 2, 1) := by decide +kernel
theorem d_M_writeBools_90 : decode b_M_writeBools 90 = .ok (.iload 4, 2) := by decide +kernel
theorem d_M_writeBools_92 : decode b_M_writeBools 92 = .ok (.iadd, 1) := by decide +kernel
theorem d_M_writeBools_93 : decode b_M_writeBools 93 = .ok (.iaload, 1) := by decide +kernel
theorem d_M_writeBools_94 : decode b_M_writeBools 94 = .ok (.iload 4, 2) := by decide +kernel
theorem d_M_writeBools_96 : decode b_M_writeBools 96 = .ok (.ishl, 1) := by decide +kernel
theorem d_M_writeBools_97 : decode b_M_writeBools 97 = .ok (.ior, 1) := by decide +kernel
theorem d_M_writeBools_98 : decode b_M_writeBools 98 = .ok (.istore_n 3, 1) := by decide +kernel
theorem d_M_writeBools_99 : decode b_M_writeBools 99 = .ok (.iinc 4 1, 3) := by decide +kernel
theorem d_M_writeBools_102 : decode b_M_writeBools 102 = .ok (.goto (-36), 3) := by decide +kernel
theorem d_M_writeBools_105 : decode b_M_writeBools 105 = .ok (.aload_n 0, 1) := by decide +kernel
theorem d_M_writeBools_106 : decode b_M_writeBools 106 = .ok (.iload_n 3, 1) := by decide +kernel
theorem d_M_writeBools_107 : decode b_M_writeBools 107 = .ok (.invokevirtual 99, 3) := by decide +kernel
theorem d_M_writeBools_110 : decode b_M_writeBools 110 = .ok (.iinc 2 8, 3) := by decide +kernel
theorem d_M_writeBools_113 : decode b_M_writeBools 113 = .ok (.goto (-64), 3) := by decide +kernel
theorem d_M_writeBools_116 : decode b_M_writeBools 116 = .ok (.return_, 1) := by decide +kernel
theorem d_M_firstWhole_0 : decode b_M_firstWhole 0 = .ok (.iconst 0, 1) := by decide +kernel
theorem d_M_firstWhole_1 : decode b_M_firstWhole 1 = .ok (.istore_n 2, 1) := by decide +kernel
theorem d_M_firstWhole_2 : decode b_M_firstWhole 2 = .ok (.aload_n 0, 1) := by decide +kernel
theorem d_M_firstWhole_3 : decode b_M_firstWhole 3 = .ok (.getfield 22, 3) := by decide +kernel
theorem d_M_firstWhole_6 : decode b_M_firstWhole 6 = .ok (.iload_n 2, 1) := by decide +kernel
theorem d_M_firstWhole_7 : decode b_M_firstWhole 7 = .ok (.laload, 1) := by decide +kernel
theorem d_M_firstWhole_8 : decode b_M_firstWhole 8 = .ok (.aload_n 0, 1) := by decide +kernel
theorem d_M_firstWhole_9 : decode b_M_firstWhole 9 = .ok (.getfield 22, 3) := by decide +kernel
theorem d_M_firstWhole_12 : decode b_M_firstWhole 12 = .ok (.iload_n 1, 1) := by decide +kernel
theorem d_M_firstWhole_13 : decode b_M_firstWhole 13 = .ok (.laload, 1) := by decide +kernel
theorem d_M_firstWhole_14 : decode b_M_firstWhole 14 = .ok (.lcmp, 1) := by decide +kernel
theorem d_M_firstWhole_15 : decode b_M_firstWhole 15 = .ok (.ifCond .eq 9, 3) := by decide +kernel
theorem d_M_firstWhole_18 : decode b_M_firstWhole 18 = .ok (.iinc 2 1, 3) := by decide +kernel
theorem d_M_firstWhole_21 : decode b_M_firstWhole 21 = .ok (.goto (-19), 3) := by decide +kernel
theorem d_M_firstWhole_24 : decode b_M_firstWhole 24 = .ok (.iload_n 2, 1) := by decide +kernel
theorem d_M_firstWhole_25 : decode b_M_firstWhole 25 = .ok (.ireturn, 1) := by decide +kernel
theorem d_M_writeWholes_0 : decode b_M_writeWholes 0 = .ok (.iload_n 1, 1) := by decide +kernel
theorem d_M_writeWholes_1 : decode b_M_writeWholes 1 = .ok (.ifCond .ne 36, 3) := by decide +kernel
theorem d_M_writeWholes_4 : decode b_M_writeWholes 4 = .ok (.iconst 0, 1) := by decide +kernel
theorem d_M_writeWholes_5 : decode b_M_writeWholes 5 = .ok (.istore_n 2, 1) := by decide +kernel
theorem d_M_writeWholes_6 : decode b_M_writeWholes 6 = .ok (.iload_n 2, 1) := by decide +kernel
theorem d_M_writeWholes_7 : decode b_M_writeWholes 7 = .ok (.aload_n 0, 1) := by decide +kernel
theorem d_M_writeWholes_8 : decode b_M_writeWholes 8 = .ok (.getfield 178, 3) := by decide +kernel
theorem d_M_writeWholes_11 : decode b_M_writeWholes 11 = .ok (.if_icmp .ge 23, 3) := by decide +kernel
theorem d_M_writeWholes_14 : decode b_M_writeWholes 14 = .ok (.aload_n 0, 1) := by decide +kernel
theorem d_M_writeWholes_15 : decode b_M_writeWholes 15 = .ok (.aload_n 0, 1) := by decide +kernel
theorem d_M_writeWholes_16 : decode b_M_writeWholes 16 = .ok (.getfield 22, 3) := by decide +kernel
theorem d_M_writeWholes_19 : decode b_M_writeWholes 19 = .ok (.iload_n 2, 1) := by decide +kernel
theorem d_M_writeWholes_20 : decode b_M_writeWholes 20 = .ok (.laload, 1) := by decide +kernel
theorem d_M_writeWholes_21 : decode b_M_writeWholes 21 = .ok (.aload_n 0, 1) := by decide +kernel
theorem d_M_writeWholes_22 : decode b_M_writeWholes 22 = .ok (.invokevirtual 221, 3) := by decide +kernel
theorem d_M_writeWholes_25 : decode b_M_writeWholes 25 = .ok (.invokevirtual 225, 3) := by decide +kernel
theorem d_M_writeWholes_28 : decode b_M_writeWholes 28 = .ok (.iinc 2 1, 3) := by decide +kernel
theorem d_M_writeWholes_31 : decode b_M_writeWholes 31 = .ok (.goto (-25), 3) := by decide +kernel
theorem d_M_writeWholes_34 : decode b_M_writeWholes 34 = .ok (.goto 192, 3) := by decide +kernel
theorem d_M_writeWholes_37 : decode b_M_writeWholes 37 = .ok (.iload_n 1, 1) := by decide +kernel
theorem d_M_writeWholes_38 : decode b_M_writeWholes 38 = .ok (.iconst 1, 1) := by decide +kernel
theorem d_M_writeWholes_39 : decode b_M_writeWholes 39 = .ok (.if_icmp .ne 46, 3) := by decide +kernel
theorem d_M_writeWholes_42 : decode b_M_writeWholes 42 = .ok (.aload_n 0, 1) := by decide +kernel
theorem d_M_writeWholes_43 : decode b_M_writeWholes 43 = .ok (.aload_n 0, 1) := by decide +kernel
theorem d_M_writeWholes_44 : decode b_M_writeWholes 44 = .ok (.getfield 178, 3) := by decide +kernel
theorem d_M_writeWholes_47 : decode b_M_writeWholes 47 = .ok (.putfield 135, 3) := by decide +kernel
theorem d_M_writeWholes_50 : decode b_M_writeWholes 50 = .ok (.iconst 0, 1) := by decide +kernel
theorem d_M_writeWholes_51 : decode b_M_writeWholes 51 = .ok (.istore_n 2, 1) := by decide +kernel
theorem d_M_writeWholes_52 : decode b_M_writeWholes 52 = .ok (.iload_n 2, 1) := by decide +kernel
theorem d_M_writeWholes_53 : decode b_M_writeWholes 53 = .ok (.aload_n 0, 1) := by decide +kernel
theorem d_M_writeWholes_54 : decode b_M_writeWholes 54 = .ok (.getfield 178, 3) := by decide +kernel
theorem d_M_writeWholes_57 : decode b_M_writeWholes 57 = .ok (.if_icmp .ge 21, 3) := by decide +kernel
theorem d_M_writeWholes_60 : decode b_M_writeWholes 60 = .ok (.aload_n 0, 1) := by decide +kernel
theorem d_M_writeWholes_61 : decode b_M_writeWholes 61 = .ok (.getfield 63, 3) := by decide +kernel
theorem d_M_writeWholes_64 : decode b_M_writeWholes 64 = .ok (.iload_n 2, 1) := by decide +kernel
theorem d_M_writeWholes_65 : decode b_M_writeWholes 65 = .ok (.aload_n 0, 1) := by decide +kernel
theorem d_M_writeWholes_66 : decode b_M_writeWholes 66 = .ok (.getfield 22, 3) := by decide +kernel
theorem d_M_writeWholes_69 : decode b_M_writeWholes 69 = .ok (.iload_n 2, 1) := by decide +kernel
theorem d_M_writeWholes_70 : decode b_M_writeWholes 70 = .ok (.laload, 1) := by decide +kernel
theorem d_M_writeWholes_71 : decode b_M_writeWholes 71 = .ok (.lastore, 1) := by decide +kernel
theorem d_M_writeWholes_72 : decode b_M_writeWholes 72 = .ok (.iinc 2 1, 3) := by decide +kernel
theorem d_M_writeWholes_75 : decode b_M_writeWholes 75 = .ok (.goto (-23), 3) := by decide +kernel
theorem d_M_writeWholes_78 : decode b_M_writeWholes 78 = .ok (.aload_n 0, 1) := by decide +kernel
theorem d_M_writeWholes_79 : decode b_M_writeWholes 79 = .ok (.invokevirtual 132, 3) := by decide +kernel
theorem d_M_writeWholes_82 : decode b_M_writeWholes 82 = .ok (.goto 144, 3) := by decide +kernel
theorem d_M_writeWholes_85 : decode b_M_writeWholes 85 = .ok (.iconst 0, 1) := by decide +kernel
theorem d_M_writeWholes_86 : decode b_M_writeWholes 86 = .ok (.istore_n 2, 1) := by decide +kernel
theorem d_M_writeWholes_87 : decode b_M_writeWholes 87 = .ok (.iconst 0, 1) := by decide +kernel
theorem d_M_writeWholes_88 : decode b_M_writeWholes 88 = .ok (.istore_n 3, 1) := by decide +kernel
theorem d_M_writeWholes_89 : decode b_M_writeWholes 89 = .ok (.iload_n 3, 1) := by decide +kernel
theorem d_M_writeWholes_90 : decode b_M_writeWholes 90 = .ok (.aload_n 0, 1) := by decide +kernel
theorem d_M_writeWholes_91 : decode b_M_writeWholes 91 = .ok (.getfield 178, 3) := by decide +kernel
theorem d_M_writeWholes_94 : decode b_M_writeWholes 94 = .ok (.if_icmp .ge 53, 3) := by decide +kernel
theorem d_M_writeWholes_97 : decode b_M_writeWholes 97 = .ok (.aload_n 0, 1) := by decide +kernel
theorem d_M_writeWholes_98 : decode b_M_writeWholes 98 = .ok (.iload_n 3, 1) := by decide +kernel
theorem d_M_writeWholes_99 : decode b_M_writeWholes 99 = .ok (.invokevirtual 229, 3) := by decide +kernel
theorem d_M_writeWholes_102 : decode b_M_writeWholes 102 = .ok (.istore 4, 2) := by decide +kernel
theorem d_M_writeWholes_104 : decode b_M_writeWholes 104 = .ok (.aload_n 0, 1) := by decide +kernel
theorem d_M_writeWholes_105 : decode b_M_writeWholes 105 = .ok (.getfield 66, 3) := by decide +kernel
theorem d_M_writeWholes_108 : decode b_M_writeWholes 108 = .ok (.iload_n 3, 1) := by decide +kernel
theorem d_M_writeWholes_109 : decode b_M_writeWholes 109 = .ok (.iload 4, 2) := by decide +kernel
theorem d_M_writeWholes_111 : decode b_M_writeWholes 111 = .ok (.iload_n 3, 1) := by decide +kernel
theorem d_M_writeWholes_112 : decode b_M_writeWholes 112 = .ok (.if_icmp .ne 7, 3) := by decide +kernel
theorem d_M_writeWholes_115 : decode b_M_writeWholes 115 = .ok (.iload_n 2, 1) := by decide +kernel
theorem d_M_writeWholes_116 : decode b_M_writeWholes 116 = .ok (.goto 10, 3) := by decide +kernel
theorem d_M_writeWholes_119 : decode b_M_writeWholes 119 = .ok (.aload_n 0, 1) := by decide +kernel
theorem d_M_writeWholes_120 : decode b_M_writeWholes 120 = .ok (.getfield 66, 3) := by decide +kernel
theorem d_M_writeWholes_123 : decode b_M_writeWholes 123 = .ok (.iload 4, 2) := by decide +kernel
theorem d_M_writeWholes_125 : decode b_M_writeWholes 125 = .ok (.iaload, 1) := by decide +kernel
theorem d_M_writeWholes_126 : decode b_M_writeWholes 126 = .ok (.iastore, 1) := by decide +kernel
theorem d_M_writeWholes_127 : decode b_M_writeWholes 127 = .ok (.iload_n 2, 1) := by decide +kernel
theorem d_M_writeWholes_128 : decode b_M_writeWholes 128 = .ok (.iload 4, 2) := by decide +kernel
theorem d_M_writeWholes_130 : decode b_M_writeWholes 130 = .ok (.iload_n 3, 1) := by decide +kernel
theorem d_M_writeWholes_131 : decode b_M_writeWholes 131 = .ok (.if_icmp .ne 7, 3) := by decide +kernel
theorem d_M_writeWholes_134 : decode b_M_writeWholes 134 = .ok (.iconst 1, 1) := by decide +kernel
theorem d_M_writeWholes_135 : decode b_M_writeWholes 135 = .ok (.goto 4, 3) := by decide +kernel
theorem d_M_writeWholes_138 : decode b_M_writeWholes 138 = .ok (.iconst 0, 1) := by decide +kernel
theorem d_M_writeWholes_139 : decode b_M_writeWholes 139 = .ok (.iadd, 1) := by decide +kernel
theorem d_M_writeWholes_140 : decode b_M_writeWholes 140 = .ok (.istore_n 2, 1) := by decide +kernel
theorem d_M_writeWholes_141 : decode b_M_writeWholes 141 = .ok (.iinc 3 1, 3) := by decide +kernel
theorem d_M_writeWholes_144 : decode b_M_writeWholes 144 = .ok (.goto (-55), 3) := by decide +kernel
theorem d_M_writeWholes_147 : decode b_M_writeWholes 147 = .ok (.aload_n 0, 1) := by decide +kernel
theorem d_M_writeWholes_148 : decode b_M_writeWholes 148 = .ok (.iload_n 2, 1) := by decide +kernel
theorem d_M_writeWholes_149 : decode b_M_writeWholes 149 = .ok (.i2l, 1) := by decide +kernel
theorem d_M_writeWholes_150 : decode b_M_writeWholes 150 = .ok (.invokevirtual 109, 3) := by decide +kernel
theorem d_M_writeWholes_153 : decode b_M_writeWholes 153 = .ok (.iconst 0, 1) := by decide +kernel
theorem d_M_writeWholes_154 : decode b_M_writeWholes 154 = .ok (.istore_n 3, 1) := by decide +kernel
theorem d_M_writeWholes_155 : decode b_M_writeWholes 155 = .ok (.iload_n 3, 1) := by decide +kernel
theorem d_M_writeWholes_156 : decode b_M_writeWholes 156 = .ok (.aload_n 0, 1) := by decide +kernel
theorem d_M_writeWholes_157 : decode b_M_writeWholes 157 = .ok (.getfield 178, 3) := by decide +kernel
theorem d_M_writeWholes_160 : decode b_M_writeWholes 160 = .ok (.if_icmp .ge 32, 3) := by decide +kernel
theorem d_M_writeWholes_163 : decode b_M_writeWholes 163 = .ok (.aload_n 0, 1) := by decide +kernel
theorem d_M_writeWholes_164 : decode b_M_writeWholes 164 = .ok (.iload_n 3, 1) := by decide +kernel
theorem d_M_writeWholes_165 : decode b_M_writeWholes 165 = .ok (.invokevirtual 229, 3) := by decide +kernel
theorem d_M_writeWholes_168 : decode b_M_writeWholes 168 = .ok (.iload_n 3, 1) := by decide +kernel
theorem d_M_writeWholes_169 : decode b_M_writeWholes 169 = .ok (.if_icmp .ne 17, 3) := by decide +kernel
theorem d_M_writeWholes_172 : decode b_M_writeWholes 172 = .ok (.aload_n 0, 1) := by decide +kernel
theorem d_M_writeWholes_173 : decode b_M_writeWholes 173 = .ok (.aload_n 0, 1) := by decide +kernel
theorem d_M_writeWholes_174 : decode b_M_writeWholes 174 = .ok (.getfield 22, 3) := by decide +kernel
theorem d_M_writeWholes_177 : decode b_M_writeWholes 177 = .ok (.iload_n 3, 1) := by decide +kernel
theorem d_M_writeWholes_178 : decode b_M_writeWholes 178 = .ok (.laload, 1) := by decide +kernel
theorem d_M_writeWholes_179 : decode b_M_writeWholes 179 = .ok (.aload_n 0, 1) := by decide +kernel
theorem d_M_writeWholes_180 : decode b_M_writeWholes 180 = .ok (.invokevirtual 221, 3) := by decide +kernel
theorem d_M_writeWholes_183 : decode b_M_writeWholes 183 = .ok (.invokevirtual 225, 3) := by decide +kernel
theorem d_M_writeWholes_186 : decode b_M_writeWholes 186 = .ok (.iinc 3 1, 3) := by decide +kernel
theorem d_M_writeWholes_189 : decode b_M_writeWholes 189 = .ok (.goto (-34), 3) := by decide +kernel
theorem d_M_writeWholes_192 : decode b_M_writeWholes 192 = .ok (.iconst 0, 1) := by decide +kernel
theorem d_M_writeWholes_193 : decode b_M_writeWholes 193 = .ok (.istore_n 3, 1) := by decide +kernel
theorem d_M_writeWholes_194 : decode b_M_writeWholes 194 = .ok (.iload_n 2, 1) := by decide +kernel
theorem d_M_writeWholes_195 : decode b_M_writeWholes 195 = .ok (.iconst 1, 1) := by decide +kernel
theorem d_M_writeWholes_196 : decode b_M_writeWholes 196 = .ok (.isub, 1) := by decide +kernel
theorem d_M_writeWholes_197 : decode b_M_writeWholes 197 = .ok (.iload_n 3, 1) := by decide +kernel
theorem d_M_writeWholes_198 : decode b_M_writeWholes 198 = .ok (.ishr, 1) := by decide +kernel
theorem d_M_writeWholes_199 : decode b_M_writeWholes 199 = .ok (.ifCond .le 9, 3) := by decide +kernel
theorem d_M_writeWholes_202 : decode b_M_writeWholes 202 = .ok (.iinc 3 1, 3) := by decide +kernel
theorem d_M_writeWholes_205 : decode b_M_writeWholes 205 = .ok (.goto (-11), 3) := by decide +kernel
theorem d_M_writeWholes_208 : decode b_M_writeWholes 208 = .ok (.aload_n 0, 1) := by decide +kernel
theorem d_M_writeWholes_209 : decode b_M_writeWholes 209 = .ok (.iload_n 3, 1) := by decide +kernel
theorem d_M_writeWholes_210 : decode b_M_writeWholes 210 = .ok (.invokevirtual 99, 3) := by decide +kernel
theorem d_M_writeWholes_213 : decode b_M_writeWholes 213 = .ok (.aload_n 0, 1) := by decide +kernel
theorem d_M_writeWholes_214 : decode b_M_writeWholes 214 = .ok (.aload_n 0, 1) := by decide +kernel
theorem d_M_writeWholes_215 : decode b_M_writeWholes 215 = .ok (.getfield 66, 3) := by decide +kernel
theorem d_M_writeWholes_218 : decode b_M_writeWholes 218 = .ok (.aload_n 0, 1) := by decide +kernel
theorem d_M_writeWholes_219 : decode b_M_writeWholes 219 = .ok (.getfield 178, 3) := by decide +kernel
theorem d_M_writeWholes_222 : decode b_M_writeWholes 222 = .ok (.iload_n 3, 1) := by decide +kernel
theorem d_M_writeWholes_223 : decode b_M_writeWholes 223 = .ok (.invokevirtual 217, 3) := by decide +kernel
theorem d_M_writeWholes_226 : decode b_M_writeWholes 226 = .ok (.return_, 1) := by decide +kernel
theorem d_M_writeValues_0 : decode b_M_writeValues 0 = .ok (.aload_n 0, 1) := by decide +kernel
theorem d_M_writeValues_1 : decode b_M_writeValues 1 = .ok (.getfield 181, 3) := by decide +kernel
theorem d_M_writeValues_4 : decode b_M_writeValues 4 = .ok (.ifCond .ne 11, 3) := by decide +kernel
theorem d_M_writeValues_7 : decode b_M_writeValues 7 = .ok (.aload_n 0, 1) := by decide +kernel
theorem d_M_writeValues_8 : decode b_M_writeValues 8 = .ok (.iload_n 1, 1) := by decide +kernel
theorem d_M_writeValues_9 : decode b_M_writeValues 9 = .ok (.invokevirtual 232, 3) := by decide +kernel
theorem d_M_writeValues_12 : decode b_M_writeValues 12 = .ok (.goto 52, 3) := by decide +kernel
theorem d_M_writeValues_15 : decode b_M_writeValues 15 = .ok (.aload_n 0, 1) := by decide +kernel
theorem d_M_writeValues_16 : decode b_M_writeValues 16 = .ok (.getfield 181, 3) := by decide +kernel
theorem d_M_writeValues_19 : decode b_M_writeValues 19 = .ok (.iconst 3, 1) := by decide +kernel
theorem d_M_writeValues_20 : decode b_M_writeValues 20 = .ok (.if_icmp .eq 11, 3) := by decide +kernel
theorem d_M_writeValues_23 : decode b_M_writeValues 23 = .ok (.aload_n 0, 1) := by decide +kernel
theorem d_M_writeValues_24 : decode b_M_writeValues 24 = .ok (.iload_n 1, 1) := by decide +kernel
theorem d_M_writeValues_25 : decode b_M_writeValues 25 = .ok (.invokevirtual 235, 3) := by decide +kernel
theorem d_M_writeValues_28 : decode b_M_writeValues 28 = .ok (.goto 36, 3) := by decide +kernel
theorem d_M_writeValues_31 : decode b_M_writeValues 31 = .ok (.iload_n 1, 1) := by decide +kernel
theorem d_M_writeValues_32 : decode b_M_writeValues 32 = .ok (.iconst 1, 1) := by decide +kernel
theorem d_M_writeValues_33 : decode b_M_writeValues 33 = .ok (.if_icmp .ne 10, 3) := by decide +kernel
theorem d_M_writeValues_36 : decode b_M_writeValues 36 = .ok (.aload_n 0, 1) := by decide +kernel
theorem d_M_writeValues_37 : decode b_M_writeValues 37 = .ok (.invokevirtual 238, 3) := by decide +kernel
theorem d_M_writeValues_40 : decode b_M_writeValues 40 = .ok (.goto 24, 3) := by decide +kernel
theorem d_M_writeValues_43 : decode b_M_writeValues 43 = .ok (.iload_n 1, 1) := by decide +kernel
theorem d_M_writeValues_44 : decode b_M_writeValues 44 = .ok (.iconst 2, 1) := by decide +kernel
theorem d_M_writeValues_45 : decode b_M_writeValues 45 = .ok (.if_icmp .ne 10, 3) := by decide +kernel
theorem d_M_writeValues_48 : decode b_M_writeValues 48 = .ok (.aload_n 0, 1) := by decide +kernel
theorem d_M_writeValues_49 : decode b_M_writeValues 49 = .ok (.invokevirtual 241, 3) := by decide +kernel
theorem d_M_writeValues_52 : decode b_M_writeValues 52 = .ok (.goto 12, 3) := by decide +kernel
theorem d_M_writeValues_55 : decode b_M_writeValues 55 = .ok (.iload_n 1, 1) := by decide +kernel
theorem d_M_writeValues_56 : decode b_M_writeValues 56 = .ok (.iconst 3, 1) := by decide +kernel
theorem d_M_writeValues_57 : decode b_M_writeValues 57 = .ok (.if_icmp .ne 7, 3) := by decide +kernel
theorem d_M_writeValues_60 : decode b_M_writeValues 60 = .ok (.aload_n 0, 1) := by decide +kernel
theorem d_M_writeValues_61 : decode b_M_writeValues 61 = .ok (.invokevirtual 244, 3) := by decide +kernel
theorem d_M_writeValues_64 : decode b_M_writeValues 64 = .ok (.iconst 0, 1) := by decide +kernel
theorem d_M_writeValues_65 : decode b_M_writeValues 65 = .ok (.istore_n 2, 1) := by decide +kernel
theorem d_M_writeValues_66 : decode b_M_writeValues 66 = .ok (.iload_n 2, 1) := by decide +kernel
theorem d_M_writeValues_67 : decode b_M_writeValues 67 = .ok (.aload_n 0, 1) := by decide +kernel
theorem d_M_writeValues_68 : decode b_M_writeValues 68 = .ok (.getfield 178, 3) := by decide +kernel
theorem d_M_writeValues_71 : decode b_M_writeValues 71 = .ok (.if_icmp .ge 26, 3) := by decide +kernel
theorem d_M_writeValues_74 : decode b_M_writeValues 74 = .ok (.aload_n 0, 1) := by decide +kernel
theorem d_M_writeValues_75 : decode b_M_writeValues 75 = .ok (.getfield 181, 3) := by decide +kernel
theorem d_M_writeValues_78 : decode b_M_writeValues 78 = .ok (.iconst 3, 1) := by decide +kernel
theorem d_M_writeValues_79 : decode b_M_writeValues 79 = .ok (.if_icmp .ne 18, 3) := by decide +kernel
theorem d_M_writeValues_82 : decode b_M_writeValues 82 = .ok (.iload_n 1, 1) := by decide +kernel
theorem d_M_writeValues_83 : decode b_M_writeValues 83 = .ok (.ifCond .ne 14, 3) := by decide +kernel
theorem d_M_writeValues_86 : decode b_M_writeValues 86 = .ok (.aload_n 0, 1) := by decide +kernel
theorem d_M_writeValues_87 : decode b_M_writeValues 87 = .ok (.iload_n 2, 1) := by decide +kernel
theorem d_M_writeValues_88 : decode b_M_writeValues 88 = .ok (.invokevirtual 214, 3) := by decide +kernel
theorem d_M_writeValues_91 : decode b_M_writeValues 91 = .ok (.iinc 2 1, 3) := by decide +kernel
theorem d_M_writeValues_94 : decode b_M_writeValues 94 = .ok (.goto (-28), 3) := by decide +kernel
theorem d_M_writeValues_97 : decode b_M_writeValues 97 = .ok (.return_, 1) := by decide +kernel
theorem d_M_putLevels_0 : decode b_M_putLevels 0 = .ok (.iload_n 2, 1) := by decide +kernel
theorem d_M_putLevels_1 : decode b_M_putLevels 1 = .ok (.ifCond .ne 4, 3) := by decide +kernel
theorem d_M_putLevels_4 : decode b_M_putLevels 4 = .ok (.return_, 1) := by decide +kernel
theorem d_M_putLevels_5 : decode b_M_putLevels 5 = .ok (.iconst 0, 1) := by decide +kernel
theorem d_M_putLevels_6 : decode b_M_putLevels 6 = .ok (.istore_n 3, 1) := by decide +kernel
theorem d_M_putLevels_7 : decode b_M_putLevels 7 = .ok (.iload_n 2, 1) := by decide +kernel
theorem d_M_putLevels_8 : decode b_M_putLevels 8 = .ok (.iload_n 3, 1) := by decide +kernel
theorem d_M_putLevels_9 : decode b_M_putLevels 9 = .ok (.ishr, 1) := by decide +kernel
theorem d_M_putLevels_10 : decode b_M_putLevels 10 = .ok (.ifCond .le 9, 3) := by decide +kernel
theorem d_M_putLevels_13 : decode b_M_putLevels 13 = .ok (.iinc 3 1, 3) := by decide +kernel
theorem d_M_putLevels_16 : decode b_M_putLevels 16 = .ok (.goto (-9), 3) := by decide +kernel
theorem d_M_putLevels_19 : decode b_M_putLevels 19 = .ok (.aload_n 0, 1) := by decide +kernel
theorem d_M_putLevels_20 : decode b_M_putLevels 20 = .ok (.getfield 88, 3) := by decide +kernel
theorem d_M_putLevels_23 : decode b_M_putLevels 23 = .ok (.istore 4, 2) := by decide +kernel
theorem d_M_putLevels_25 : decode b_M_putLevels 25 = .ok (.aload_n 0, 1) := by decide +kernel
theorem d_M_putLevels_26 : decode b_M_putLevels 26 = .ok (.aload_n 1, 1) := by decide +kernel
theorem d_M_putLevels_27 : decode b_M_putLevels 27 = .ok (.aload_n 0, 1) := by decide +kernel
theorem d_M_putLevels_28 : decode b_M_putLevels 28 = .ok (.getfield 175, 3) := by decide +kernel
theorem d_M_putLevels_31 : decode b_M_putLevels 31 = .ok (.iload_n 3, 1) := by decide +kernel
theorem d_M_putLevels_32 : decode b_M_putLevels 32 = .ok (.invokevirtual 217, 3) := by decide +kernel
theorem d_M_putLevels_35 : decode b_M_putLevels 35 = .ok (.aload_n 0, 1) := by decide +kernel
theorem d_M_putLevels_36 : decode b_M_putLevels 36 = .ok (.getfield 88, 3) := by decide +kernel
theorem d_M_putLevels_39 : decode b_M_putLevels 39 = .ok (.iload 4, 2) := by decide +kernel
theorem d_M_putLevels_41 : decode b_M_putLevels 41 = .ok (.isub, 1) := by decide +kernel
theorem d_M_putLevels_42 : decode b_M_putLevels 42 = .ok (.istore 5, 2) := by decide +kernel
theorem d_M_putLevels_44 : decode b_M_putLevels 44 = .ok (.aload_n 0, 1) := by decide +kernel
theorem d_M_putLevels_45 : decode b_M_putLevels 45 = .ok (.iload 4, 2) := by decide +kernel
theorem d_M_putLevels_47 : decode b_M_putLevels 47 = .ok (.putfield 88, 3) := by decide +kernel
theorem d_M_putLevels_50 : decode b_M_putLevels 50 = .ok (.aload_n 0, 1) := by decide +kernel
theorem d_M_putLevels_51 : decode b_M_putLevels 51 = .ok (.iload 5, 2) := by decide +kernel
theorem d_M_putLevels_53 : decode b_M_putLevels 53 = .ok (.i2l, 1) := by decide +kernel
theorem d_M_putLevels_54 : decode b_M_putLevels 54 = .ok (.invokevirtual 109, 3) := by decide +kernel
theorem d_M_putLevels_57 : decode b_M_putLevels 57 = .ok (.aload_n 0, 1) := by decide +kernel
theorem d_M_putLevels_58 : decode b_M_putLevels 58 = .ok (.aload_n 1, 1) := by decide +kernel
theorem d_M_putLevels_59 : decode b_M_putLevels 59 = .ok (.aload_n 0, 1) := by decide +kernel
theorem d_M_putLevels_60 : decode b_M_putLevels 60 = .ok (.getfield 175, 3) := by decide +kernel
theorem d_M_putLevels_63 : decode b_M_putLevels 63 = .ok (.iload_n 3, 1) := by decide +kernel
theorem d_M_putLevels_64 : decode b_M_putLevels 64 = .ok (.invokevirtual 217, 3) := by decide +kernel
theorem d_M_putLevels_67 : decode b_M_putLevels 67 = .ok (.return_, 1) := by decide +kernel
theorem d_M_compare_0 : decode b_M_compare 0 = .ok (.aload_n 0, 1) := by decide +kernel
theorem d_M_compare_1 : decode b_M_compare 1 = .ok (.getfield 181, 3) := by decide +kernel
theorem d_M_compare_4 : decode b_M_compare 4 = .ok (.iconst 3, 1) := by decide +kernel
theorem d_M_compare_5 : decode b_M_compare 5 = .ok (.if_icmp .eq 45, 3) := by decide +kernel
theorem d_M_compare_8 : decode b_M_compare 8 = .ok (.aload_n 0, 1) := by decide +kernel
theorem d_M_compare_9 : decode b_M_compare 9 = .ok (.getfield 22, 3) := by decide +kernel
theorem d_M_compare_12 : decode b_M_compare 12 = .ok (.iload_n 1, 1) := by decide +kernel
theorem d_M_compare_13 : decode b_M_compare 13 = .ok (.laload, 1) := by decide +kernel
theorem d_M_compare_14 : decode b_M_compare 14 = .ok (.aload_n 0, 1) := by decide +kernel
theorem d_M_compare_15 : decode b_M_compare 15 = .ok (.getfield 22, 3) := by decide +kernel
theorem d_M_compare_18 : decode b_M_compare 18 = .ok (.iload_n 2, 1) := by decide +kernel
theorem d_M_compare_19 : decode b_M_compare 19 = .ok (.laload, 1) := by decide +kernel
theorem d_M_compare_20 : decode b_M_compare 20 = .ok (.lcmp, 1) := by decide +kernel
theorem d_M_compare_21 : decode b_M_compare 21 = .ok (.ifCond .ge 7, 3) := by decide +kernel
theorem d_M_compare_24 : decode b_M_compare 24 = .ok (.iconst (-1), 1) := by decide +kernel
theorem d_M_compare_25 : decode b_M_compare 25 = .ok (.goto 24, 3) := by decide +kernel
theorem d_M_compare_28 : decode b_M_compare 28 = .ok (.aload_n 0, 1) := by decide +kernel
theorem d_M_compare_29 : decode b_M_compare 29 = .ok (.getfield 22, 3) := by decide +kernel
theorem d_M_compare_32 : decode b_M_compare 32 = .ok (.iload_n 1, 1) := by decide +kernel
theorem d_M_compare_33 : decode b_M_compare 33 = .ok (.laload, 1) := by decide +kernel
theorem d_M_compare_34 : decode b_M_compare 34 = .ok (.aload_n 0, 1) := by decide +kernel
theorem d_M_compare_35 : decode b_M_compare 35 = .ok (.getfield 22, 3) := by decide +kernel
theorem d_M_compare_38 : decode b_M_compare 38 = .ok (.iload_n 2, 1) := by decide +kernel
theorem d_M_compare_39 : decode b_M_compare 39 = .ok (.laload, 1) := by decide +kernel
theorem d_M_compare_40 : decode b_M_compare 40 = .ok (.lcmp, 1) := by decide +kernel
theorem d_M_compare_41 : decode b_M_compare 41 = .ok (.ifCond .le 7, 3) := by decide +kernel
theorem d_M_compare_44 : decode b_M_compare 44 = .ok (.iconst 1, 1) := by decide +kernel
theorem d_M_compare_45 : decode b_M_compare 45 = .ok (.goto 4, 3) := by decide +kernel
theorem d_M_compare_48 : decode b_M_compare 48 = .ok (.iconst 0, 1) := by decide +kernel
theorem d_M_compare_49 : decode b_M_compare 49 = .ok (.ireturn, 1) := by decide +kernel
theorem d_M_compare_50 : decode b_M_compare 50 = .ok (.iconst 0, 1) := by decide +kernel
theorem d_M_compare_51 : decode b_M_compare 51 = .ok (.istore_n 3, 1) := by decide +kernel
theorem d_M_compare_52 : decode b_M_compare 52 = .ok (.iload_n 3, 1) := by decide +kernel
theorem d_M_compare_53 : decode b_M_compare 53 = .ok (.aload_n 0, 1) := by decide +kernel
theorem d_M_compare_54 : decode b_M_compare 54 = .ok (.iload_n 1, 1) := by decide +kernel
theorem d_M_compare_55 : decode b_M_compare 55 = .ok (.invokevirtual 197, 3) := by decide +kernel
theorem d_M_compare_58 : decode b_M_compare 58 = .ok (.if_icmp .ge 75, 3) := by decide +kernel
theorem d_M_compare_61 : decode b_M_compare 61 = .ok (.iload_n 3, 1) := by decide +kernel
theorem d_M_compare_62 : decode b_M_compare 62 = .ok (.aload_n 0, 1) := by decide +kernel
theorem d_M_compare_63 : decode b_M_compare 63 = .ok (.iload_n 2, 1) := by decide +kernel
theorem d_M_compare_64 : decode b_M_compare 64 = .ok (.invokevirtual 197, 3) := by decide +kernel
theorem d_M_compare_67 : decode b_M_compare 67 = .ok (.if_icmp .ge 66, 3) := by decide +kernel
theorem d_M_compare_70 : decode b_M_compare 70 = .ok (.aload_n 0, 1) := by decide +kernel
theorem d_M_compare_71 : decode b_M_compare 71 = .ok (.getfield 41, 3) := by decide +kernel
theorem d_M_compare_74 : decode b_M_compare 74 = .ok (.aload_n 0, 1) := by decide +kernel
theorem d_M_compare_75 : decode b_M_compare 75 = .ok (.getfield 32, 3) := by decide +kernel
theorem d_M_compare_78 : decode b_M_compare 78 = .ok (.iload_n 1, 1) := by decide +kernel
theorem d_M_compare_79 : decode b_M_compare 79 = .ok (.iaload, 1) := by decide +kernel
theorem d_M_compare_80 : decode b_M_compare 80 = .ok (.iload_n 3, 1) := by decide +kernel
theorem d_M_compare_81 : decode b_M_compare 81 = .ok (.iadd, 1) := by decide +kernel
theorem d_M_compare_82 : decode b_M_compare 82 = .ok (.iaload, 1) := by decide +kernel
theorem d_M_compare_83 : decode b_M_compare 83 = .ok (.aload_n 0, 1) := by decide +kernel
theorem d_M_compare_84 : decode b_M_compare 84 = .ok (.getfield 41, 3) := by decide +kernel
theorem d_M_compare_87 : decode b_M_compare 87 = .ok (.aload_n 0, 1) := by decide +kernel
theorem d_M_compare_88 : decode b_M_compare 88 = .ok (.getfield 32, 3) := by decide +kernel
theorem d_M_compare_91 : decode b_M_compare 91 = .ok (.iload_n 2, 1) := by decide +kernel
theorem d_M_compare_92 : decode b_M_compare 92 = .ok (.iaload, 1) := by decide +kernel
theorem d_M_compare_93 : decode b_M_compare 93 = .ok (.iload_n 3, 1) := by decide +kernel
theorem d_M_compare_94 : decode b_M_compare 94 = .ok (.iadd, 1) := by decide +kernel
theorem d_M_compare_95 : decode b_M_compare 95 = .ok (.iaload, 1) := by decide +kernel
theorem d_M_compare_96 : decode b_M_compare 96 = .ok (.if_icmp .eq 31, 3) := by decide +kernel
theorem d_M_compare_99 : decode b_M_compare 99 = .ok (.aload_n 0, 1) := by decide +kernel
theorem d_M_compare_100 : decode b_M_compare 100 = .ok (.getfield 41, 3) := by decide +kernel
theorem d_M_compare_103 : decode b_M_compare 103 = .ok (.aload_n 0, 1) := by decide +kernel
theorem d_M_compare_104 : decode b_M_compare 104 = .ok (.getfield 32, 3) := by decide +kernel
theorem d_M_compare_107 : decode b_M_compare 107 = .ok (.iload_n 1, 1) := by decide +kernel
theorem d_M_compare_108 : decode b_M_compare 108 = .ok (.iaload, 1) := by decide +kernel
theorem d_M_compare_109 : decode b_M_compare 109 = .ok (.iload_n 3, 1) := by decide +kernel
theorem d_M_compare_110 : decode b_M_compare 110 = .ok (.iadd, 1) := by decide +kernel
theorem d_M_compare_111 : decode b_M_compare 111 = .ok (.iaload, 1) := by decide +kernel
theorem d_M_compare_112 : decode b_M_compare 112 = .ok (.aload_n 0, 1) := by decide +kernel
theorem d_M_compare_113 : decode b_M_compare 113 = .ok (.getfield 41, 3) := by decide +kernel
theorem d_M_compare_116 : decode b_M_compare 116 = .ok (.aload_n 0, 1) := by decide +kernel
theorem d_M_compare_117 : decode b_M_compare 117 = .ok (.getfield 32, 3) := by decide +kernel
theorem d_M_compare_120 : decode b_M_compare 120 = .ok (.iload_n 2, 1) := by decide +kernel
theorem d_M_compare_121 : decode b_M_compare 121 = .ok (.iaload, 1) := by decide +kernel
theorem d_M_compare_122 : decode b_M_compare 122 = .ok (.iload_n 3, 1) := by decide +kernel
theorem d_M_compare_123 : decode b_M_compare 123 = .ok (.iadd, 1) := by decide +kernel
theorem d_M_compare_124 : decode b_M_compare 124 = .ok (.iaload, 1) := by decide +kernel
theorem d_M_compare_125 : decode b_M_compare 125 = .ok (.isub, 1) := by decide +kernel
theorem d_M_compare_126 : decode b_M_compare 126 = .ok (.ireturn, 1) := by decide +kernel
theorem d_M_compare_127 : decode b_M_compare 127 = .ok (.iinc 3 1, 3) := by decide +kernel
theorem d_M_compare_130 : decode b_M_compare 130 = .ok (.goto (-78), 3) := by decide +kernel
theorem d_M_compare_133 : decode b_M_compare 133 = .ok (.aload_n 0, 1) := by decide +kernel
theorem d_M_compare_134 : decode b_M_compare 134 = .ok (.iload_n 1, 1) := by decide +kernel
theorem d_M_compare_135 : decode b_M_compare 135 = .ok (.invokevirtual 197, 3) := by decide +kernel
theorem d_M_compare_138 : decode b_M_compare 138 = .ok (.aload_n 0, 1) := by decide +kernel
theorem d_M_compare_139 : decode b_M_compare 139 = .ok (.iload_n 2, 1) := by decide +kernel
theorem d_M_compare_140 : decode b_M_compare 140 = .ok (.invokevirtual 197, 3) := by decide +kernel
theorem d_M_compare_143 : decode b_M_compare 143 = .ok (.isub, 1) := by decide +kernel
theorem d_M_compare_144 : decode b_M_compare 144 = .ok (.ireturn, 1) := by decide +kernel
theorem d_M_mostOf_0 : decode b_M_mostOf 0 = .ok (.aload_n 0, 1) := by decide +kernel
theorem d_M_mostOf_1 : decode b_M_mostOf 1 = .ok (.getfield 178, 3) := by decide +kernel
theorem d_M_mostOf_4 : decode b_M_mostOf 4 = .ok (.ifCond .ne 7, 3) := by decide +kernel
theorem d_M_mostOf_7 : decode b_M_mostOf 7 = .ok (.iconst (-1), 1) := by decide +kernel
theorem d_M_mostOf_8 : decode b_M_mostOf 8 = .ok (.goto 4, 3) := by decide +kernel
theorem d_M_mostOf_11 : decode b_M_mostOf 11 = .ok (.iconst 0, 1) := by decide +kernel
theorem d_M_mostOf_12 : decode b_M_mostOf 12 = .ok (.istore_n 2, 1) := by decide +kernel
theorem d_M_mostOf_13 : decode b_M_mostOf 13 = .ok (.iconst 1, 1) := by decide +kernel
theorem d_M_mostOf_14 : decode b_M_mostOf 14 = .ok (.istore_n 3, 1) := by decide +kernel
theorem d_M_mostOf_15 : decode b_M_mostOf 15 = .ok (.iload_n 3, 1) := by decide +kernel
theorem d_M_mostOf_16 : decode b_M_mostOf 16 = .ok (.aload_n 0, 1) := by decide +kernel
theorem d_M_mostOf_17 : decode b_M_mostOf 17 = .ok (.getfield 178, 3) := by decide +kernel
theorem d_M_mostOf_20 : decode b_M_mostOf 20 = .ok (.if_icmp .ge 45, 3) := by decide +kernel
theorem d_M_mostOf_23 : decode b_M_mostOf 23 = .ok (.aload_n 0, 1) := by decide +kernel
theorem d_M_mostOf_24 : decode b_M_mostOf 24 = .ok (.iload_n 3, 1) := by decide +kernel
theorem d_M_mostOf_25 : decode b_M_mostOf 25 = .ok (.iload_n 2, 1) := by decide +kernel
theorem d_M_mostOf_26 : decode b_M_mostOf 26 = .ok (.invokevirtual 247, 3) := by decide +kernel
theorem d_M_mostOf_29 : decode b_M_mostOf 29 = .ok (.istore 4, 2) := by decide +kernel
theorem d_M_mostOf_31 : decode b_M_mostOf 31 = .ok (.iload_n 1, 1) := by decide +kernel
theorem d_M_mostOf_32 : decode b_M_mostOf 32 = .ok (.ifCond .eq 16, 3) := by decide +kernel
theorem d_M_mostOf_35 : decode b_M_mostOf 35 = .ok (.iload 4, 2) := by decide +kernel
theorem d_M_mostOf_37 : decode b_M_mostOf 37 = .ok (.ifCond .le 7, 3) := by decide +kernel
theorem d_M_mostOf_40 : decode b_M_mostOf 40 = .ok (.iload_n 3, 1) := by decide +kernel
theorem d_M_mostOf_41 : decode b_M_mostOf 41 = .ok (.goto 17, 3) := by decide +kernel
theorem d_M_mostOf_44 : decode b_M_mostOf 44 = .ok (.iload_n 2, 1) := by decide +kernel
theorem d_M_mostOf_45 : decode b_M_mostOf 45 = .ok (.goto 13, 3) := by decide +kernel
theorem d_M_mostOf_48 : decode b_M_mostOf 48 = .ok (.iload 4, 2) := by decide +kernel
theorem d_M_mostOf_50 : decode b_M_mostOf 50 = .ok (.ifCond .ge 7, 3) := by decide +kernel
theorem d_M_mostOf_53 : decode b_M_mostOf 53 = .ok (.iload_n 3, 1) := by decide +kernel
theorem d_M_mostOf_54 : decode b_M_mostOf 54 = .ok (.goto 4, 3) := by decide +kernel
theorem d_M_mostOf_57 : decode b_M_mostOf 57 = .ok (.iload_n 2, 1) := by decide +kernel
theorem d_M_mostOf_58 : decode b_M_mostOf 58 = .ok (.istore_n 2, 1) := by decide +kernel
theorem d_M_mostOf_59 : decode b_M_mostOf 59 = .ok (.iinc 3 1, 3) := by decide +kernel
theorem d_M_mostOf_62 : decode b_M_mostOf 62 = .ok (.goto (-47), 3) := by decide +kernel
theorem d_M_mostOf_65 : decode b_M_mostOf 65 = .ok (.iload_n 2, 1) := by decide +kernel
theorem d_M_mostOf_66 : decode b_M_mostOf 66 = .ok (.ireturn, 1) := by decide +kernel
theorem d_M_putOne_0 : decode b_M_putOne 0 = .ok (.aload_n 0, 1) := by decide +kernel
theorem d_M_putOne_1 : decode b_M_putOne 1 = .ok (.getfield 181, 3) := by decide +kernel
theorem d_M_putOne_4 : decode b_M_putOne 4 = .ok (.ifCond .ne 17, 3) := by decide +kernel
theorem d_M_putOne_7 : decode b_M_putOne 7 = .ok (.aload_n 0, 1) := by decide +kernel
theorem d_M_putOne_8 : decode b_M_putOne 8 = .ok (.aload_n 0, 1) := by decide +kernel
theorem d_M_putOne_9 : decode b_M_putOne 9 = .ok (.getfield 22, 3) := by decide +kernel
theorem d_M_putOne_12 : decode b_M_putOne 12 = .ok (.iload_n 1, 1) := by decide +kernel
theorem d_M_putOne_13 : decode b_M_putOne 13 = .ok (.laload, 1) := by decide +kernel
theorem d_M_putOne_14 : decode b_M_putOne 14 = .ok (.l2i, 1) := by decide +kernel
theorem d_M_putOne_15 : decode b_M_putOne 15 = .ok (.invokevirtual 99, 3) := by decide +kernel
