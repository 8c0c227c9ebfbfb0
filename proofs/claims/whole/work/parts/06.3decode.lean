theorem d_M_putOne_18 : decode b_M_putOne 18 = .ok (.goto 32, 3) := by decide +kernel
theorem d_M_putOne_21 : decode b_M_putOne 21 = .ok (.aload_n 0, 1) := by decide +kernel
theorem d_M_putOne_22 : decode b_M_putOne 22 = .ok (.getfield 181, 3) := by decide +kernel
theorem d_M_putOne_25 : decode b_M_putOne 25 = .ok (.iconst 3, 1) := by decide +kernel
theorem d_M_putOne_26 : decode b_M_putOne 26 = .ok (.if_icmp .ne 11, 3) := by decide +kernel
theorem d_M_putOne_29 : decode b_M_putOne 29 = .ok (.aload_n 0, 1) := by decide +kernel
theorem d_M_putOne_30 : decode b_M_putOne 30 = .ok (.iload_n 1, 1) := by decide +kernel
theorem d_M_putOne_31 : decode b_M_putOne 31 = .ok (.invokevirtual 214, 3) := by decide +kernel
theorem d_M_putOne_34 : decode b_M_putOne 34 = .ok (.goto 16, 3) := by decide +kernel
theorem d_M_putOne_37 : decode b_M_putOne 37 = .ok (.aload_n 0, 1) := by decide +kernel
theorem d_M_putOne_38 : decode b_M_putOne 38 = .ok (.aload_n 0, 1) := by decide +kernel
theorem d_M_putOne_39 : decode b_M_putOne 39 = .ok (.getfield 22, 3) := by decide +kernel
theorem d_M_putOne_42 : decode b_M_putOne 42 = .ok (.iload_n 1, 1) := by decide +kernel
theorem d_M_putOne_43 : decode b_M_putOne 43 = .ok (.laload, 1) := by decide +kernel
theorem d_M_putOne_44 : decode b_M_putOne 44 = .ok (.invokestatic 138, 3) := by decide +kernel
theorem d_M_putOne_47 : decode b_M_putOne 47 = .ok (.invokevirtual 109, 3) := by decide +kernel
theorem d_M_putOne_50 : decode b_M_putOne 50 = .ok (.return_, 1) := by decide +kernel
theorem d_M_check_0 : decode b_M_check 0 = .ok (.iconst (-1), 1) := by decide +kernel
theorem d_M_check_1 : decode b_M_check 1 = .ok (.istore_n 3, 1) := by decide +kernel
theorem d_M_check_2 : decode b_M_check 2 = .ok (.iload_n 1, 1) := by decide +kernel
theorem d_M_check_3 : decode b_M_check 3 = .ok (.istore 4, 2) := by decide +kernel
theorem d_M_check_5 : decode b_M_check 5 = .ok (.iload 4, 2) := by decide +kernel
theorem d_M_check_7 : decode b_M_check 7 = .ok (.iload_n 2, 1) := by decide +kernel
theorem d_M_check_8 : decode b_M_check 8 = .ok (.if_icmp .ge 61, 3) := by decide +kernel
theorem d_M_check_11 : decode b_M_check 11 = .ok (.iconst 0, 1) := by decide +kernel
theorem d_M_check_12 : decode b_M_check 12 = .ok (.istore 5, 2) := by decide +kernel
theorem d_M_check_14 : decode b_M_check 14 = .ok (.iload 5, 2) := by decide +kernel
theorem d_M_check_16 : decode b_M_check 16 = .ok (.bipush 8, 2) := by decide +kernel
theorem d_M_check_18 : decode b_M_check 18 = .ok (.if_icmp .ge 45, 3) := by decide +kernel
theorem d_M_check_21 : decode b_M_check 21 = .ok (.aload_n 0, 1) := by decide +kernel
theorem d_M_check_22 : decode b_M_check 22 = .ok (.iload 4, 2) := by decide +kernel
theorem d_M_check_24 : decode b_M_check 24 = .ok (.iaload, 1) := by decide +kernel
theorem d_M_check_25 : decode b_M_check 25 = .ok (.iload 5, 2) := by decide +kernel
theorem d_M_check_27 : decode b_M_check 27 = .ok (.ishr, 1) := by decide +kernel
theorem d_M_check_28 : decode b_M_check 28 = .ok (.iload_n 3, 1) := by decide +kernel
theorem d_M_check_29 : decode b_M_check 29 = .ok (.ixor, 1) := by decide +kernel
theorem d_M_check_30 : decode b_M_check 30 = .ok (.iconst 1, 1) := by decide +kernel
theorem d_M_check_31 : decode b_M_check 31 = .ok (.iand, 1) := by decide +kernel
theorem d_M_check_32 : decode b_M_check 32 = .ok (.iconst 1, 1) := by decide +kernel
theorem d_M_check_33 : decode b_M_check 33 = .ok (.if_icmp .ne 7, 3) := by decide +kernel
theorem d_M_check_36 : decode b_M_check 36 = .ok (.iconst 1, 1) := by decide +kernel
theorem d_M_check_37 : decode b_M_check 37 = .ok (.goto 4, 3) := by decide +kernel
theorem d_M_check_40 : decode b_M_check 40 = .ok (.iconst 0, 1) := by decide +kernel
theorem d_M_check_41 : decode b_M_check 41 = .ok (.istore 6, 2) := by decide +kernel
theorem d_M_check_43 : decode b_M_check 43 = .ok (.iload_n 3, 1) := by decide +kernel
theorem d_M_check_44 : decode b_M_check 44 = .ok (.iconst 1, 1) := by decide +kernel
theorem d_M_check_45 : decode b_M_check 45 = .ok (.iushr, 1) := by decide +kernel
theorem d_M_check_46 : decode b_M_check 46 = .ok (.istore_n 3, 1) := by decide +kernel
theorem d_M_check_47 : decode b_M_check 47 = .ok (.iload 6, 2) := by decide +kernel
theorem d_M_check_49 : decode b_M_check 49 = .ok (.ifCond .eq 8, 3) := by decide +kernel
theorem d_M_check_52 : decode b_M_check 52 = .ok (.iload_n 3, 1) := by decide +kernel
theorem d_M_check_53 : decode b_M_check 53 = .ok (.ldc 251, 2) := by decide +kernel
theorem d_M_check_55 : decode b_M_check 55 = .ok (.ixor, 1) := by decide +kernel
theorem d_M_check_56 : decode b_M_check 56 = .ok (.istore_n 3, 1) := by decide +kernel
theorem d_M_check_57 : decode b_M_check 57 = .ok (.iinc 5 1, 3) := by decide +kernel
theorem d_M_check_60 : decode b_M_check 60 = .ok (.goto (-46), 3) := by decide +kernel
theorem d_M_check_63 : decode b_M_check 63 = .ok (.iinc 4 1, 3) := by decide +kernel
theorem d_M_check_66 : decode b_M_check 66 = .ok (.goto (-61), 3) := by decide +kernel
theorem d_M_check_69 : decode b_M_check 69 = .ok (.iload_n 3, 1) := by decide +kernel
theorem d_M_check_70 : decode b_M_check 70 = .ok (.iconst (-1), 1) := by decide +kernel
theorem d_M_check_71 : decode b_M_check 71 = .ok (.ixor, 1) := by decide +kernel
theorem d_M_check_72 : decode b_M_check 72 = .ok (.ireturn, 1) := by decide +kernel
theorem d_M_write_0 : decode b_M_write 0 = .ok (.aload_n 0, 1) := by decide +kernel
theorem d_M_write_1 : decode b_M_write 1 = .ok (.iconst 0, 1) := by decide +kernel
theorem d_M_write_2 : decode b_M_write 2 = .ok (.putfield 84, 3) := by decide +kernel
theorem d_M_write_5 : decode b_M_write 5 = .ok (.aload_n 0, 1) := by decide +kernel
theorem d_M_write_6 : decode b_M_write 6 = .ok (.iconst 0, 1) := by decide +kernel
theorem d_M_write_7 : decode b_M_write 7 = .ok (.putfield 88, 3) := by decide +kernel
theorem d_M_write_10 : decode b_M_write 10 = .ok (.aload_n 0, 1) := by decide +kernel
theorem d_M_write_11 : decode b_M_write 11 = .ok (.getfield 175, 3) := by decide +kernel
theorem d_M_write_14 : decode b_M_write 14 = .ok (.ifCond .eq 16, 3) := by decide +kernel
theorem d_M_write_17 : decode b_M_write 17 = .ok (.iload_n 1, 1) := by decide +kernel
theorem d_M_write_18 : decode b_M_write 18 = .ok (.iconst (-1), 1) := by decide +kernel
theorem d_M_write_19 : decode b_M_write 19 = .ok (.if_icmp .lt 11, 3) := by decide +kernel
theorem d_M_write_22 : decode b_M_write 22 = .ok (.iload_n 1, 1) := by decide +kernel
theorem d_M_write_23 : decode b_M_write 23 = .ok (.aload_n 0, 1) := by decide +kernel
theorem d_M_write_24 : decode b_M_write 24 = .ok (.invokevirtual 252, 3) := by decide +kernel
theorem d_M_write_27 : decode b_M_write 27 = .ok (.if_icmp .lt 5, 3) := by decide +kernel
theorem d_M_write_30 : decode b_M_write 30 = .ok (.iconst (-1), 1) := by decide +kernel
theorem d_M_write_31 : decode b_M_write 31 = .ok (.ireturn, 1) := by decide +kernel
theorem d_M_write_32 : decode b_M_write 32 = .ok (.aload_n 0, 1) := by decide +kernel
theorem d_M_write_33 : decode b_M_write 33 = .ok (.iload_n 1, 1) := by decide +kernel
theorem d_M_write_34 : decode b_M_write 34 = .ok (.putfield 255, 3) := by decide +kernel
theorem d_M_write_37 : decode b_M_write 37 = .ok (.iconst (-1), 1) := by decide +kernel
theorem d_M_write_38 : decode b_M_write 38 = .ok (.istore_n 2, 1) := by decide +kernel
theorem d_M_write_39 : decode b_M_write 39 = .ok (.iconst 0, 1) := by decide +kernel
theorem d_M_write_40 : decode b_M_write 40 = .ok (.istore_n 3, 1) := by decide +kernel
theorem d_M_write_41 : decode b_M_write 41 = .ok (.iload_n 3, 1) := by decide +kernel
theorem d_M_write_42 : decode b_M_write 42 = .ok (.aload_n 0, 1) := by decide +kernel
theorem d_M_write_43 : decode b_M_write 43 = .ok (.invokevirtual 252, 3) := by decide +kernel
theorem d_M_write_46 : decode b_M_write 46 = .ok (.if_icmp .ge 47, 3) := by decide +kernel
theorem d_M_write_49 : decode b_M_write 49 = .ok (.iload_n 1, 1) := by decide +kernel
theorem d_M_write_50 : decode b_M_write 50 = .ok (.iconst (-1), 1) := by decide +kernel
theorem d_M_write_51 : decode b_M_write 51 = .ok (.if_icmp .ne 42, 3) := by decide +kernel
theorem d_M_write_54 : decode b_M_write 54 = .ok (.aload_n 0, 1) := by decide +kernel
theorem d_M_write_55 : decode b_M_write 55 = .ok (.iload_n 3, 1) := by decide +kernel
theorem d_M_write_56 : decode b_M_write 56 = .ok (.invokevirtual 258, 3) := by decide +kernel
theorem d_M_write_59 : decode b_M_write 59 = .ok (.iload_n 2, 1) := by decide +kernel
theorem d_M_write_60 : decode b_M_write 60 = .ok (.iconst (-1), 1) := by decide +kernel
theorem d_M_write_61 : decode b_M_write 61 = .ok (.if_icmp .eq 11, 3) := by decide +kernel
theorem d_M_write_64 : decode b_M_write 64 = .ok (.aload_n 0, 1) := by decide +kernel
theorem d_M_write_65 : decode b_M_write 65 = .ok (.getfield 88, 3) := by decide +kernel
theorem d_M_write_68 : decode b_M_write 68 = .ok (.iload_n 2, 1) := by decide +kernel
theorem d_M_write_69 : decode b_M_write 69 = .ok (.if_icmp .ge 13, 3) := by decide +kernel
theorem d_M_write_72 : decode b_M_write 72 = .ok (.aload_n 0, 1) := by decide +kernel
theorem d_M_write_73 : decode b_M_write 73 = .ok (.getfield 88, 3) := by decide +kernel
theorem d_M_write_76 : decode b_M_write 76 = .ok (.istore_n 2, 1) := by decide +kernel
theorem d_M_write_77 : decode b_M_write 77 = .ok (.aload_n 0, 1) := by decide +kernel
theorem d_M_write_78 : decode b_M_write 78 = .ok (.iload_n 3, 1) := by decide +kernel
theorem d_M_write_79 : decode b_M_write 79 = .ok (.putfield 255, 3) := by decide +kernel
theorem d_M_write_82 : decode b_M_write 82 = .ok (.aload_n 0, 1) := by decide +kernel
theorem d_M_write_83 : decode b_M_write 83 = .ok (.iconst 0, 1) := by decide +kernel
theorem d_M_write_84 : decode b_M_write 84 = .ok (.putfield 88, 3) := by decide +kernel
theorem d_M_write_87 : decode b_M_write 87 = .ok (.iinc 3 1, 3) := by decide +kernel
theorem d_M_write_90 : decode b_M_write 90 = .ok (.goto (-49), 3) := by decide +kernel
theorem d_M_write_93 : decode b_M_write 93 = .ok (.aload_n 0, 1) := by decide +kernel
theorem d_M_write_94 : decode b_M_write 94 = .ok (.aload_n 0, 1) := by decide +kernel
theorem d_M_write_95 : decode b_M_write 95 = .ok (.getfield 7, 3) := by decide +kernel
theorem d_M_write_98 : decode b_M_write 98 = .ok (.aload_n 0, 1) := by decide +kernel
theorem d_M_write_99 : decode b_M_write 99 = .ok (.getfield 184, 3) := by decide +kernel
theorem d_M_write_102 : decode b_M_write 102 = .ok (.invokevirtual 261, 3) := by decide +kernel
theorem d_M_write_105 : decode b_M_write 105 = .ok (.aload_n 0, 1) := by decide +kernel
theorem d_M_write_106 : decode b_M_write 106 = .ok (.aload_n 0, 1) := by decide +kernel
theorem d_M_write_107 : decode b_M_write 107 = .ok (.getfield 13, 3) := by decide +kernel
theorem d_M_write_110 : decode b_M_write 110 = .ok (.aload_n 0, 1) := by decide +kernel
theorem d_M_write_111 : decode b_M_write 111 = .ok (.getfield 187, 3) := by decide +kernel
theorem d_M_write_114 : decode b_M_write 114 = .ok (.invokevirtual 261, 3) := by decide +kernel
theorem d_M_write_117 : decode b_M_write 117 = .ok (.aload_n 0, 1) := by decide +kernel
theorem d_M_write_118 : decode b_M_write 118 = .ok (.aload_n 0, 1) := by decide +kernel
theorem d_M_write_119 : decode b_M_write 119 = .ok (.getfield 255, 3) := by decide +kernel
theorem d_M_write_122 : decode b_M_write 122 = .ok (.invokevirtual 258, 3) := by decide +kernel
theorem d_M_write_125 : decode b_M_write 125 = .ok (.aload_n 0, 1) := by decide +kernel
theorem d_M_write_126 : decode b_M_write 126 = .ok (.aload_n 0, 1) := by decide +kernel
theorem d_M_write_127 : decode b_M_write 127 = .ok (.getfield 88, 3) := by decide +kernel
theorem d_M_write_130 : decode b_M_write 130 = .ok (.putfield 265, 3) := by decide +kernel
theorem d_M_write_133 : decode b_M_write 133 = .ok (.iconst 0, 1) := by decide +kernel
theorem d_M_write_134 : decode b_M_write 134 = .ok (.istore_n 3, 1) := by decide +kernel
theorem d_M_write_135 : decode b_M_write 135 = .ok (.iload_n 3, 1) := by decide +kernel
theorem d_M_write_136 : decode b_M_write 136 = .ok (.aload_n 0, 1) := by decide +kernel
theorem d_M_write_137 : decode b_M_write 137 = .ok (.getfield 265, 3) := by decide +kernel
theorem d_M_write_140 : decode b_M_write 140 = .ok (.if_icmp .ge 21, 3) := by decide +kernel
theorem d_M_write_143 : decode b_M_write 143 = .ok (.aload_n 0, 1) := by decide +kernel
theorem d_M_write_144 : decode b_M_write 144 = .ok (.getfield 60, 3) := by decide +kernel
theorem d_M_write_147 : decode b_M_write 147 = .ok (.iload_n 3, 1) := by decide +kernel
theorem d_M_write_148 : decode b_M_write 148 = .ok (.aload_n 0, 1) := by decide +kernel
theorem d_M_write_149 : decode b_M_write 149 = .ok (.getfield 57, 3) := by decide +kernel
theorem d_M_write_152 : decode b_M_write 152 = .ok (.iload_n 3, 1) := by decide +kernel
theorem d_M_write_153 : decode b_M_write 153 = .ok (.iaload, 1) := by decide +kernel
theorem d_M_write_154 : decode b_M_write 154 = .ok (.iastore, 1) := by decide +kernel
theorem d_M_write_155 : decode b_M_write 155 = .ok (.iinc 3 1, 3) := by decide +kernel
theorem d_M_write_158 : decode b_M_write 158 = .ok (.goto (-23), 3) := by decide +kernel
theorem d_M_write_161 : decode b_M_write 161 = .ok (.aload_n 0, 1) := by decide +kernel
theorem d_M_write_162 : decode b_M_write 162 = .ok (.iconst 0, 1) := by decide +kernel
theorem d_M_write_163 : decode b_M_write 163 = .ok (.putfield 88, 3) := by decide +kernel
theorem d_M_write_166 : decode b_M_write 166 = .ok (.aload_n 0, 1) := by decide +kernel
theorem d_M_write_167 : decode b_M_write 167 = .ok (.aload_n 0, 1) := by decide +kernel
theorem d_M_write_168 : decode b_M_write 168 = .ok (.getfield 175, 3) := by decide +kernel
theorem d_M_write_171 : decode b_M_write 171 = .ok (.i2l, 1) := by decide +kernel
theorem d_M_write_172 : decode b_M_write 172 = .ok (.invokevirtual 109, 3) := by decide +kernel
theorem d_M_write_175 : decode b_M_write 175 = .ok (.aload_n 0, 1) := by decide +kernel
theorem d_M_write_176 : decode b_M_write 176 = .ok (.aload_n 0, 1) := by decide +kernel
theorem d_M_write_177 : decode b_M_write 177 = .ok (.getfield 175, 3) := by decide +kernel
theorem d_M_write_180 : decode b_M_write 180 = .ok (.aload_n 0, 1) := by decide +kernel
theorem d_M_write_181 : decode b_M_write 181 = .ok (.getfield 178, 3) := by decide +kernel
theorem d_M_write_184 : decode b_M_write 184 = .ok (.isub, 1) := by decide +kernel
theorem d_M_write_185 : decode b_M_write 185 = .ok (.i2l, 1) := by decide +kernel
theorem d_M_write_186 : decode b_M_write 186 = .ok (.invokevirtual 109, 3) := by decide +kernel
theorem d_M_write_189 : decode b_M_write 189 = .ok (.aload_n 0, 1) := by decide +kernel
theorem d_M_write_190 : decode b_M_write 190 = .ok (.aload_n 0, 1) := by decide +kernel
theorem d_M_write_191 : decode b_M_write 191 = .ok (.getfield 255, 3) := by decide +kernel
theorem d_M_write_194 : decode b_M_write 194 = .ok (.invokevirtual 99, 3) := by decide +kernel
theorem d_M_write_197 : decode b_M_write 197 = .ok (.aload_n 0, 1) := by decide +kernel
theorem d_M_write_198 : decode b_M_write 198 = .ok (.getfield 178, 3) := by decide +kernel
theorem d_M_write_201 : decode b_M_write 201 = .ok (.ifCond .le 21, 3) := by decide +kernel
theorem d_M_write_204 : decode b_M_write 204 = .ok (.aload_n 0, 1) := by decide +kernel
theorem d_M_write_205 : decode b_M_write 205 = .ok (.aload_n 0, 1) := by decide +kernel
theorem d_M_write_206 : decode b_M_write 206 = .ok (.iconst 0, 1) := by decide +kernel
theorem d_M_write_207 : decode b_M_write 207 = .ok (.invokevirtual 268, 3) := by decide +kernel
theorem d_M_write_210 : decode b_M_write 210 = .ok (.invokevirtual 272, 3) := by decide +kernel
theorem d_M_write_213 : decode b_M_write 213 = .ok (.aload_n 0, 1) := by decide +kernel
theorem d_M_write_214 : decode b_M_write 214 = .ok (.aload_n 0, 1) := by decide +kernel
theorem d_M_write_215 : decode b_M_write 215 = .ok (.iconst 1, 1) := by decide +kernel
theorem d_M_write_216 : decode b_M_write 216 = .ok (.invokevirtual 268, 3) := by decide +kernel
theorem d_M_write_219 : decode b_M_write 219 = .ok (.invokevirtual 272, 3) := by decide +kernel
theorem d_M_write_222 : decode b_M_write 222 = .ok (.aload_n 0, 1) := by decide +kernel
theorem d_M_write_223 : decode b_M_write 223 = .ok (.aload_n 0, 1) := by decide +kernel
theorem d_M_write_224 : decode b_M_write 224 = .ok (.getfield 265, 3) := by decide +kernel
theorem d_M_write_227 : decode b_M_write 227 = .ok (.i2l, 1) := by decide +kernel
theorem d_M_write_228 : decode b_M_write 228 = .ok (.invokevirtual 109, 3) := by decide +kernel
theorem d_M_write_231 : decode b_M_write 231 = .ok (.aload_n 0, 1) := by decide +kernel
theorem d_M_write_232 : decode b_M_write 232 = .ok (.aload_n 0, 1) := by decide +kernel
theorem d_M_write_233 : decode b_M_write 233 = .ok (.getfield 60, 3) := by decide +kernel
theorem d_M_write_236 : decode b_M_write 236 = .ok (.iconst 0, 1) := by decide +kernel
theorem d_M_write_237 : decode b_M_write 237 = .ok (.aload_n 0, 1) := by decide +kernel
theorem d_M_write_238 : decode b_M_write 238 = .ok (.getfield 265, 3) := by decide +kernel
theorem d_M_write_241 : decode b_M_write 241 = .ok (.invokestatic 275, 3) := by decide +kernel
theorem d_M_write_244 : decode b_M_write 244 = .ok (.i2l, 1) := by decide +kernel
theorem d_M_write_245 : decode b_M_write 245 = .ok (.iconst 4, 1) := by decide +kernel
theorem d_M_write_246 : decode b_M_write 246 = .ok (.invokevirtual 225, 3) := by decide +kernel
theorem d_M_write_249 : decode b_M_write 249 = .ok (.iconst 0, 1) := by decide +kernel
theorem d_M_write_250 : decode b_M_write 250 = .ok (.istore_n 3, 1) := by decide +kernel
theorem d_M_write_251 : decode b_M_write 251 = .ok (.iload_n 3, 1) := by decide +kernel
theorem d_M_write_252 : decode b_M_write 252 = .ok (.aload_n 0, 1) := by decide +kernel
theorem d_M_write_253 : decode b_M_write 253 = .ok (.getfield 265, 3) := by decide +kernel
theorem d_M_write_256 : decode b_M_write 256 = .ok (.if_icmp .ge 19, 3) := by decide +kernel
theorem d_M_write_259 : decode b_M_write 259 = .ok (.aload_n 0, 1) := by decide +kernel
theorem d_M_write_260 : decode b_M_write 260 = .ok (.aload_n 0, 1) := by decide +kernel
theorem d_M_write_261 : decode b_M_write 261 = .ok (.getfield 60, 3) := by decide +kernel
theorem d_M_write_264 : decode b_M_write 264 = .ok (.iload_n 3, 1) := by decide +kernel
theorem d_M_write_265 : decode b_M_write 265 = .ok (.iaload, 1) := by decide +kernel
theorem d_M_write_266 : decode b_M_write 266 = .ok (.invokevirtual 99, 3) := by decide +kernel
theorem d_M_write_269 : decode b_M_write 269 = .ok (.iinc 3 1, 3) := by decide +kernel
theorem d_M_write_272 : decode b_M_write 272 = .ok (.goto (-21), 3) := by decide +kernel
theorem d_M_write_275 : decode b_M_write 275 = .ok (.aload_n 0, 1) := by decide +kernel
theorem d_M_write_276 : decode b_M_write 276 = .ok (.getfield 88, 3) := by decide +kernel
theorem d_M_write_279 : decode b_M_write 279 = .ok (.ireturn, 1) := by decide +kernel
theorem d_M_take_0 : decode b_M_take 0 = .ok (.aload_n 0, 1) := by decide +kernel
theorem d_M_take_1 : decode b_M_take 1 = .ok (.getfield 153, 3) := by decide +kernel
theorem d_M_take_4 : decode b_M_take 4 = .ok (.aload_n 0, 1) := by decide +kernel
theorem d_M_take_5 : decode b_M_take 5 = .ok (.getfield 94, 3) := by decide +kernel
theorem d_M_take_8 : decode b_M_take 8 = .ok (.isub, 1) := by decide +kernel
theorem d_M_take_9 : decode b_M_take 9 = .ok (.iload_n 1, 1) := by decide +kernel
theorem d_M_take_10 : decode b_M_take 10 = .ok (.if_icmp .ge 11, 3) := by decide +kernel
theorem d_M_take_13 : decode b_M_take 13 = .ok (.aload_n 0, 1) := by decide +kernel
theorem d_M_take_14 : decode b_M_take 14 = .ok (.iconst 1, 1) := by decide +kernel
theorem d_M_take_15 : decode b_M_take 15 = .ok (.putfield 91, 3) := by decide +kernel
theorem d_M_take_18 : decode b_M_take 18 = .ok (.goto 28, 3) := by decide +kernel
theorem d_M_take_21 : decode b_M_take 21 = .ok (.aload_n 0, 1) := by decide +kernel
theorem d_M_take_22 : decode b_M_take 22 = .ok (.getfield 35, 3) := by decide +kernel
theorem d_M_take_25 : decode b_M_take 25 = .ok (.aload_n 0, 1) := by decide +kernel
theorem d_M_take_26 : decode b_M_take 26 = .ok (.getfield 278, 3) := by decide +kernel
theorem d_M_take_29 : decode b_M_take 29 = .ok (.iaload, 1) := by decide +kernel
theorem d_M_take_30 : decode b_M_take 30 = .ok (.iload_n 2, 1) := by decide +kernel
theorem d_M_take_31 : decode b_M_take 31 = .ok (.iadd, 1) := by decide +kernel
theorem d_M_take_32 : decode b_M_take 32 = .ok (.iload_n 1, 1) := by decide +kernel
theorem d_M_take_33 : decode b_M_take 33 = .ok (.iadd, 1) := by decide +kernel
theorem d_M_take_34 : decode b_M_take 34 = .ok (.sipush 20000, 3) := by decide +kernel
theorem d_M_take_37 : decode b_M_take 37 = .ok (.if_icmp .le 9, 3) := by decide +kernel
theorem d_M_take_40 : decode b_M_take 40 = .ok (.aload_n 0, 1) := by decide +kernel
theorem d_M_take_41 : decode b_M_take 41 = .ok (.bipush 7, 2) := by decide +kernel
theorem d_M_take_43 : decode b_M_take 43 = .ok (.putfield 91, 3) := by decide +kernel
theorem d_M_take_46 : decode b_M_take 46 = .ok (.aload_n 0, 1) := by decide +kernel
theorem d_M_take_47 : decode b_M_take 47 = .ok (.getfield 91, 3) := by decide +kernel
theorem d_M_take_50 : decode b_M_take 50 = .ok (.ifCond .eq 4, 3) := by decide +kernel
theorem d_M_take_53 : decode b_M_take 53 = .ok (.return_, 1) := by decide +kernel
theorem d_M_take_54 : decode b_M_take 54 = .ok (.aload_n 0, 1) := by decide +kernel
theorem d_M_take_55 : decode b_M_take 55 = .ok (.getfield 35, 3) := by decide +kernel
theorem d_M_take_58 : decode b_M_take 58 = .ok (.aload_n 0, 1) := by decide +kernel
theorem d_M_take_59 : decode b_M_take 59 = .ok (.getfield 278, 3) := by decide +kernel
theorem d_M_take_62 : decode b_M_take 62 = .ok (.iaload, 1) := by decide +kernel
theorem d_M_take_63 : decode b_M_take 63 = .ok (.istore_n 3, 1) := by decide +kernel
theorem d_M_take_64 : decode b_M_take 64 = .ok (.iconst 0, 1) := by decide +kernel
theorem d_M_take_65 : decode b_M_take 65 = .ok (.istore 4, 2) := by decide +kernel
theorem d_M_take_67 : decode b_M_take 67 = .ok (.iload 4, 2) := by decide +kernel
theorem d_M_take_69 : decode b_M_take 69 = .ok (.iload_n 2, 1) := by decide +kernel
theorem d_M_take_70 : decode b_M_take 70 = .ok (.if_icmp .ge 37, 3) := by decide +kernel
theorem d_M_take_73 : decode b_M_take 73 = .ok (.aload_n 0, 1) := by decide +kernel
theorem d_M_take_74 : decode b_M_take 74 = .ok (.getfield 44, 3) := by decide +kernel
theorem d_M_take_77 : decode b_M_take 77 = .ok (.iload_n 3, 1) := by decide +kernel
theorem d_M_take_78 : decode b_M_take 78 = .ok (.iload 4, 2) := by decide +kernel
theorem d_M_take_80 : decode b_M_take 80 = .ok (.iadd, 1) := by decide +kernel
theorem d_M_take_81 : decode b_M_take 81 = .ok (.aload_n 0, 1) := by decide +kernel
theorem d_M_take_82 : decode b_M_take 82 = .ok (.getfield 44, 3) := by decide +kernel
theorem d_M_take_85 : decode b_M_take 85 = .ok (.aload_n 0, 1) := by decide +kernel
theorem d_M_take_86 : decode b_M_take 86 = .ok (.getfield 35, 3) := by decide +kernel
theorem d_M_take_89 : decode b_M_take 89 = .ok (.aload_n 0, 1) := by decide +kernel
theorem d_M_take_90 : decode b_M_take 90 = .ok (.getfield 278, 3) := by decide +kernel
theorem d_M_take_93 : decode b_M_take 93 = .ok (.iconst 1, 1) := by decide +kernel
theorem d_M_take_94 : decode b_M_take 94 = .ok (.isub, 1) := by decide +kernel
theorem d_M_take_95 : decode b_M_take 95 = .ok (.iaload, 1) := by decide +kernel
theorem d_M_take_96 : decode b_M_take 96 = .ok (.iload 4, 2) := by decide +kernel
theorem d_M_take_98 : decode b_M_take 98 = .ok (.iadd, 1) := by decide +kernel
theorem d_M_take_99 : decode b_M_take 99 = .ok (.iaload, 1) := by decide +kernel
theorem d_M_take_100 : decode b_M_take 100 = .ok (.iastore, 1) := by decide +kernel
theorem d_M_take_101 : decode b_M_take 101 = .ok (.iinc 4 1, 3) := by decide +kernel
theorem d_M_take_104 : decode b_M_take 104 = .ok (.goto (-37), 3) := by decide +kernel
theorem d_M_take_107 : decode b_M_take 107 = .ok (.iconst 0, 1) := by decide +kernel
theorem d_M_take_108 : decode b_M_take 108 = .ok (.istore 4, 2) := by decide +kernel
theorem d_M_take_110 : decode b_M_take 110 = .ok (.iload 4, 2) := by decide +kernel
theorem d_M_take_112 : decode b_M_take 112 = .ok (.iload_n 1, 1) := by decide +kernel
theorem d_M_take_113 : decode b_M_take 113 = .ok (.if_icmp .ge 32, 3) := by decide +kernel
theorem d_M_take_116 : decode b_M_take 116 = .ok (.aload_n 0, 1) := by decide +kernel
theorem d_M_take_117 : decode b_M_take 117 = .ok (.getfield 44, 3) := by decide +kernel
theorem d_M_take_120 : decode b_M_take 120 = .ok (.iload_n 3, 1) := by decide +kernel
theorem d_M_take_121 : decode b_M_take 121 = .ok (.iload_n 2, 1) := by decide +kernel
theorem d_M_take_122 : decode b_M_take 122 = .ok (.iadd, 1) := by decide +kernel
theorem d_M_take_123 : decode b_M_take 123 = .ok (.iload 4, 2) := by decide +kernel
theorem d_M_take_125 : decode b_M_take 125 = .ok (.iadd, 1) := by decide +kernel
theorem d_M_take_126 : decode b_M_take 126 = .ok (.aload_n 0, 1) := by decide +kernel
theorem d_M_take_127 : decode b_M_take 127 = .ok (.getfield 53, 3) := by decide +kernel
theorem d_M_take_130 : decode b_M_take 130 = .ok (.aload_n 0, 1) := by decide +kernel
theorem d_M_take_131 : decode b_M_take 131 = .ok (.getfield 94, 3) := by decide +kernel
theorem d_M_take_134 : decode b_M_take 134 = .ok (.iload 4, 2) := by decide +kernel
theorem d_M_take_136 : decode b_M_take 136 = .ok (.iadd, 1) := by decide +kernel
theorem d_M_take_137 : decode b_M_take 137 = .ok (.iaload, 1) := by decide +kernel
theorem d_M_take_138 : decode b_M_take 138 = .ok (.iastore, 1) := by decide +kernel
theorem d_M_take_139 : decode b_M_take 139 = .ok (.iinc 4 1, 3) := by decide +kernel
theorem d_M_take_142 : decode b_M_take 142 = .ok (.goto (-32), 3) := by decide +kernel
theorem d_M_take_145 : decode b_M_take 145 = .ok (.aload_n 0, 1) := by decide +kernel
theorem d_M_take_146 : decode b_M_take 146 = .ok (.dup, 1) := by decide +kernel
theorem d_M_take_147 : decode b_M_take 147 = .ok (.getfield 94, 3) := by decide +kernel
theorem d_M_take_150 : decode b_M_take 150 = .ok (.iload_n 1, 1) := by decide +kernel
theorem d_M_take_151 : decode b_M_take 151 = .ok (.iadd, 1) := by decide +kernel
theorem d_M_take_152 : decode b_M_take 152 = .ok (.putfield 94, 3) := by decide +kernel
theorem d_M_take_155 : decode b_M_take 155 = .ok (.aload_n 0, 1) := by decide +kernel
theorem d_M_take_156 : decode b_M_take 156 = .ok (.dup, 1) := by decide +kernel
theorem d_M_take_157 : decode b_M_take 157 = .ok (.getfield 278, 3) := by decide +kernel
theorem d_M_take_160 : decode b_M_take 160 = .ok (.iconst 1, 1) := by decide +kernel
theorem d_M_take_161 : decode b_M_take 161 = .ok (.iadd, 1) := by decide +kernel
theorem d_M_take_162 : decode b_M_take 162 = .ok (.putfield 278, 3) := by decide +kernel
theorem d_M_take_165 : decode b_M_take 165 = .ok (.aload_n 0, 1) := by decide +kernel
theorem d_M_take_166 : decode b_M_take 166 = .ok (.getfield 35, 3) := by decide +kernel
theorem d_M_take_169 : decode b_M_take 169 = .ok (.aload_n 0, 1) := by decide +kernel
theorem d_M_take_170 : decode b_M_take 170 = .ok (.getfield 278, 3) := by decide +kernel
theorem d_M_take_173 : decode b_M_take 173 = .ok (.iload_n 3, 1) := by decide +kernel
theorem d_M_take_174 : decode b_M_take 174 = .ok (.iload_n 2, 1) := by decide +kernel
theorem d_M_take_175 : decode b_M_take 175 = .ok (.iadd, 1) := by decide +kernel
theorem d_M_take_176 : decode b_M_take 176 = .ok (.iload_n 1, 1) := by decide +kernel
theorem d_M_take_177 : decode b_M_take 177 = .ok (.iadd, 1) := by decide +kernel
theorem d_M_take_178 : decode b_M_take 178 = .ok (.iastore, 1) := by decide +kernel
theorem d_M_take_179 : decode b_M_take 179 = .ok (.return_, 1) := by decide +kernel
theorem d_M_readPlain_0 : decode b_M_readPlain 0 = .ok (.iconst 0, 1) := by decide +kernel
theorem d_M_readPlain_1 : decode b_M_readPlain 1 = .ok (.istore_n 2, 1) := by decide +kernel
theorem d_M_readPlain_2 : decode b_M_readPlain 2 = .ok (.iload_n 2, 1) := by decide +kernel
theorem d_M_readPlain_3 : decode b_M_readPlain 3 = .ok (.iload_n 1, 1) := by decide +kernel
theorem d_M_readPlain_4 : decode b_M_readPlain 4 = .ok (.if_icmp .ge 66, 3) := by decide +kernel
theorem d_M_readPlain_7 : decode b_M_readPlain 7 = .ok (.aload_n 0, 1) := by decide +kernel
theorem d_M_readPlain_8 : decode b_M_readPlain 8 = .ok (.getfield 91, 3) := by decide +kernel
theorem d_M_readPlain_11 : decode b_M_readPlain 11 = .ok (.ifCond .ne 59, 3) := by decide +kernel
theorem d_M_readPlain_14 : decode b_M_readPlain 14 = .ok (.aload_n 0, 1) := by decide +kernel
theorem d_M_readPlain_15 : decode b_M_readPlain 15 = .ok (.aload_n 0, 1) := by decide +kernel
theorem d_M_readPlain_16 : decode b_M_readPlain 16 = .ok (.getfield 153, 3) := by decide +kernel
theorem d_M_readPlain_19 : decode b_M_readPlain 19 = .ok (.invokevirtual 113, 3) := by decide +kernel
theorem d_M_readPlain_22 : decode b_M_readPlain 22 = .ok (.lstore_n 3, 1) := by decide +kernel
theorem d_M_readPlain_23 : decode b_M_readPlain 23 = .ok (.aload_n 0, 1) := by decide +kernel
theorem d_M_readPlain_24 : decode b_M_readPlain 24 = .ok (.getfield 91, 3) := by decide +kernel
theorem d_M_readPlain_27 : decode b_M_readPlain 27 = .ok (.ifCond .ne 23, 3) := by decide +kernel
theorem d_M_readPlain_30 : decode b_M_readPlain 30 = .ok (.lload_n 3, 1) := by decide +kernel
theorem d_M_readPlain_31 : decode b_M_readPlain 31 = .ok (.lconst 0, 1) := by decide +kernel
theorem d_M_readPlain_32 : decode b_M_readPlain 32 = .ok (.lcmp, 1) := by decide +kernel
theorem d_M_readPlain_33 : decode b_M_readPlain 33 = .ok (.ifCond .lt 11, 3) := by decide +kernel
theorem d_M_readPlain_36 : decode b_M_readPlain 36 = .ok (.lload_n 3, 1) := by decide +kernel
theorem d_M_readPlain_37 : decode b_M_readPlain 37 = .ok (.ldc2_w 281, 3) := by decide +kernel
theorem d_M_readPlain_40 : decode b_M_readPlain 40 = .ok (.lcmp, 1) := by decide +kernel
theorem d_M_readPlain_41 : decode b_M_readPlain 41 = .ok (.ifCond .le 9, 3) := by decide +kernel
theorem d_M_readPlain_44 : decode b_M_readPlain 44 = .ok (.aload_n 0, 1) := by decide +kernel
theorem d_M_readPlain_45 : decode b_M_readPlain 45 = .ok (.bipush 7, 2) := by decide +kernel
theorem d_M_readPlain_47 : decode b_M_readPlain 47 = .ok (.putfield 91, 3) := by decide +kernel
theorem d_M_readPlain_50 : decode b_M_readPlain 50 = .ok (.aload_n 0, 1) := by decide +kernel
theorem d_M_readPlain_51 : decode b_M_readPlain 51 = .ok (.getfield 91, 3) := by decide +kernel
theorem d_M_readPlain_54 : decode b_M_readPlain 54 = .ok (.ifCond .ne 10, 3) := by decide +kernel
theorem d_M_readPlain_57 : decode b_M_readPlain 57 = .ok (.aload_n 0, 1) := by decide +kernel
theorem d_M_readPlain_58 : decode b_M_readPlain 58 = .ok (.lload_n 3, 1) := by decide +kernel
theorem d_M_readPlain_59 : decode b_M_readPlain 59 = .ok (.l2i, 1) := by decide +kernel
theorem d_M_readPlain_60 : decode b_M_readPlain 60 = .ok (.iconst 0, 1) := by decide +kernel
theorem d_M_readPlain_61 : decode b_M_readPlain 61 = .ok (.invokevirtual 283, 3) := by decide +kernel
theorem d_M_readPlain_64 : decode b_M_readPlain 64 = .ok (.iinc 2 1, 3) := by decide +kernel
theorem d_M_readPlain_67 : decode b_M_readPlain 67 = .ok (.goto (-65), 3) := by decide +kernel
theorem d_M_readPlain_70 : decode b_M_readPlain 70 = .ok (.return_, 1) := by decide +kernel
theorem d_M_readLengths_0 : decode b_M_readLengths 0 = .ok (.aload_n 0, 1) := by decide +kernel
theorem d_M_readLengths_1 : decode b_M_readLengths 1 = .ok (.iload_n 1, 1) := by decide +kernel
theorem d_M_readLengths_2 : decode b_M_readLengths 2 = .ok (.invokevirtual 286, 3) := by decide +kernel
theorem d_M_readLengths_5 : decode b_M_readLengths 5 = .ok (.iconst 0, 1) := by decide +kernel
theorem d_M_readLengths_6 : decode b_M_readLengths 6 = .ok (.istore_n 2, 1) := by decide +kernel
theorem d_M_readLengths_7 : decode b_M_readLengths 7 = .ok (.iload_n 2, 1) := by decide +kernel
theorem d_M_readLengths_8 : decode b_M_readLengths 8 = .ok (.iload_n 1, 1) := by decide +kernel
theorem d_M_readLengths_9 : decode b_M_readLengths 9 = .ok (.if_icmp .ge 46, 3) := by decide +kernel
theorem d_M_readLengths_12 : decode b_M_readLengths 12 = .ok (.aload_n 0, 1) := by decide +kernel
theorem d_M_readLengths_13 : decode b_M_readLengths 13 = .ok (.getfield 91, 3) := by decide +kernel
theorem d_M_readLengths_16 : decode b_M_readLengths 16 = .ok (.ifCond .ne 39, 3) := by decide +kernel
theorem d_M_readLengths_19 : decode b_M_readLengths 19 = .ok (.aload_n 0, 1) := by decide +kernel
theorem d_M_readLengths_20 : decode b_M_readLengths 20 = .ok (.getfield 63, 3) := by decide +kernel
theorem d_M_readLengths_23 : decode b_M_readLengths 23 = .ok (.iload_n 2, 1) := by decide +kernel
theorem d_M_readLengths_24 : decode b_M_readLengths 24 = .ok (.laload, 1) := by decide +kernel
theorem d_M_readLengths_25 : decode b_M_readLengths 25 = .ok (.lconst 0, 1) := by decide +kernel
theorem d_M_readLengths_26 : decode b_M_readLengths 26 = .ok (.lcmp, 1) := by decide +kernel
theorem d_M_readLengths_27 : decode b_M_readLengths 27 = .ok (.ifCond .lt 16, 3) := by decide +kernel
theorem d_M_readLengths_30 : decode b_M_readLengths 30 = .ok (.aload_n 0, 1) := by decide +kernel
theorem d_M_readLengths_31 : decode b_M_readLengths 31 = .ok (.getfield 63, 3) := by decide +kernel
theorem d_M_readLengths_34 : decode b_M_readLengths 34 = .ok (.iload_n 2, 1) := by decide +kernel
theorem d_M_readLengths_35 : decode b_M_readLengths 35 = .ok (.laload, 1) := by decide +kernel
theorem d_M_readLengths_36 : decode b_M_readLengths 36 = .ok (.ldc2_w 281, 3) := by decide +kernel
theorem d_M_readLengths_39 : decode b_M_readLengths 39 = .ok (.lcmp, 1) := by decide +kernel
theorem d_M_readLengths_40 : decode b_M_readLengths 40 = .ok (.ifCond .le 9, 3) := by decide +kernel
theorem d_M_readLengths_43 : decode b_M_readLengths 43 = .ok (.aload_n 0, 1) := by decide +kernel
theorem d_M_readLengths_44 : decode b_M_readLengths 44 = .ok (.bipush 7, 2) := by decide +kernel
theorem d_M_readLengths_46 : decode b_M_readLengths 46 = .ok (.putfield 91, 3) := by decide +kernel
theorem d_M_readLengths_49 : decode b_M_readLengths 49 = .ok (.iinc 2 1, 3) := by decide +kernel
theorem d_M_readLengths_52 : decode b_M_readLengths 52 = .ok (.goto (-45), 3) := by decide +kernel
theorem d_M_readLengths_55 : decode b_M_readLengths 55 = .ok (.iconst 0, 1) := by decide +kernel
theorem d_M_readLengths_56 : decode b_M_readLengths 56 = .ok (.istore_n 2, 1) := by decide +kernel
theorem d_M_readLengths_57 : decode b_M_readLengths 57 = .ok (.iload_n 2, 1) := by decide +kernel
theorem d_M_readLengths_58 : decode b_M_readLengths 58 = .ok (.iload_n 1, 1) := by decide +kernel
theorem d_M_readLengths_59 : decode b_M_readLengths 59 = .ok (.if_icmp .ge 28, 3) := by decide +kernel
theorem d_M_readLengths_62 : decode b_M_readLengths 62 = .ok (.aload_n 0, 1) := by decide +kernel
theorem d_M_readLengths_63 : decode b_M_readLengths 63 = .ok (.getfield 91, 3) := by decide +kernel
theorem d_M_readLengths_66 : decode b_M_readLengths 66 = .ok (.ifCond .ne 21, 3) := by decide +kernel
theorem d_M_readLengths_69 : decode b_M_readLengths 69 = .ok (.aload_n 0, 1) := by decide +kernel
theorem d_M_readLengths_70 : decode b_M_readLengths 70 = .ok (.aload_n 0, 1) := by decide +kernel
theorem d_M_readLengths_71 : decode b_M_readLengths 71 = .ok (.getfield 63, 3) := by decide +kernel
theorem d_M_readLengths_74 : decode b_M_readLengths 74 = .ok (.iload_n 2, 1) := by decide +kernel
theorem d_M_readLengths_75 : decode b_M_readLengths 75 = .ok (.laload, 1) := by decide +kernel
theorem d_M_readLengths_76 : decode b_M_readLengths 76 = .ok (.l2i, 1) := by decide +kernel
theorem d_M_readLengths_77 : decode b_M_readLengths 77 = .ok (.iconst 0, 1) := by decide +kernel
theorem d_M_readLengths_78 : decode b_M_readLengths 78 = .ok (.invokevirtual 283, 3) := by decide +kernel
theorem d_M_readLengths_81 : decode b_M_readLengths 81 = .ok (.iinc 2 1, 3) := by decide +kernel
theorem d_M_readLengths_84 : decode b_M_readLengths 84 = .ok (.goto (-27), 3) := by decide +kernel
theorem d_M_readLengths_87 : decode b_M_readLengths 87 = .ok (.return_, 1) := by decide +kernel
theorem d_M_told_0 : decode b_M_told 0 = .ok (.lload_n 0, 1) := by decide +kernel
theorem d_M_told_1 : decode b_M_told 1 = .ok (.lconst 0, 1) := by decide +kernel
theorem d_M_told_2 : decode b_M_told 2 = .ok (.lcmp, 1) := by decide +kernel
theorem d_M_told_3 : decode b_M_told 3 = .ok (.ifCond .ge 7, 3) := by decide +kernel
theorem d_M_told_6 : decode b_M_told 6 = .ok (.iconst (-1), 1) := by decide +kernel
theorem d_M_told_7 : decode b_M_told 7 = .ok (.goto 19, 3) := by decide +kernel
theorem d_M_told_10 : decode b_M_told 10 = .ok (.lload_n 0, 1) := by decide +kernel
theorem d_M_told_11 : decode b_M_told 11 = .ok (.ldc2_w 281, 3) := by decide +kernel
theorem d_M_told_14 : decode b_M_told 14 = .ok (.lcmp, 1) := by decide +kernel
theorem d_M_told_15 : decode b_M_told 15 = .ok (.ifCond .le 9, 3) := by decide +kernel
theorem d_M_told_18 : decode b_M_told 18 = .ok (.sipush 256, 3) := by decide +kernel
theorem d_M_told_21 : decode b_M_told 21 = .ok (.goto 5, 3) := by decide +kernel
theorem d_M_told_24 : decode b_M_told 24 = .ok (.lload_n 0, 1) := by decide +kernel
theorem d_M_told_25 : decode b_M_told 25 = .ok (.l2i, 1) := by decide +kernel
theorem d_M_told_26 : decode b_M_told 26 = .ok (.ireturn, 1) := by decide +kernel
theorem d_M_readFront_0 : decode b_M_readFront 0 = .ok (.aload_n 0, 1) := by decide +kernel
theorem d_M_readFront_1 : decode b_M_readFront 1 = .ok (.iload_n 1, 1) := by decide +kernel
theorem d_M_readFront_2 : decode b_M_readFront 2 = .ok (.invokevirtual 286, 3) := by decide +kernel
theorem d_M_readFront_5 : decode b_M_readFront 5 = .ok (.iconst 0, 1) := by decide +kernel
theorem d_M_readFront_6 : decode b_M_readFront 6 = .ok (.istore_n 2, 1) := by decide +kernel
theorem d_M_readFront_7 : decode b_M_readFront 7 = .ok (.iload_n 2, 1) := by decide +kernel
theorem d_M_readFront_8 : decode b_M_readFront 8 = .ok (.iload_n 1, 1) := by decide +kernel
theorem d_M_readFront_9 : decode b_M_readFront 9 = .ok (.if_icmp .ge 31, 3) := by decide +kernel
theorem d_M_readFront_12 : decode b_M_readFront 12 = .ok (.aload_n 0, 1) := by decide +kernel
theorem d_M_readFront_13 : decode b_M_readFront 13 = .ok (.getfield 91, 3) := by decide +kernel
theorem d_M_readFront_16 : decode b_M_readFront 16 = .ok (.ifCond .ne 24, 3) := by decide +kernel
theorem d_M_readFront_19 : decode b_M_readFront 19 = .ok (.aload_n 0, 1) := by decide +kernel
theorem d_M_readFront_20 : decode b_M_readFront 20 = .ok (.getfield 69, 3) := by decide +kernel
theorem d_M_readFront_23 : decode b_M_readFront 23 = .ok (.iload_n 2, 1) := by decide +kernel
theorem d_M_readFront_24 : decode b_M_readFront 24 = .ok (.aload_n 0, 1) := by decide +kernel
theorem d_M_readFront_25 : decode b_M_readFront 25 = .ok (.getfield 63, 3) := by decide +kernel
theorem d_M_readFront_28 : decode b_M_readFront 28 = .ok (.iload_n 2, 1) := by decide +kernel
theorem d_M_readFront_29 : decode b_M_readFront 29 = .ok (.laload, 1) := by decide +kernel
theorem d_M_readFront_30 : decode b_M_readFront 30 = .ok (.invokestatic 289, 3) := by decide +kernel
theorem d_M_readFront_33 : decode b_M_readFront 33 = .ok (.iastore, 1) := by decide +kernel
theorem d_M_readFront_34 : decode b_M_readFront 34 = .ok (.iinc 2 1, 3) := by decide +kernel
theorem d_M_readFront_37 : decode b_M_readFront 37 = .ok (.goto (-30), 3) := by decide +kernel
theorem d_M_readFront_40 : decode b_M_readFront 40 = .ok (.aload_n 0, 1) := by decide +kernel
theorem d_M_readFront_41 : decode b_M_readFront 41 = .ok (.getfield 91, 3) := by decide +kernel
theorem d_M_readFront_44 : decode b_M_readFront 44 = .ok (.ifCond .ne 8, 3) := by decide +kernel
theorem d_M_readFront_47 : decode b_M_readFront 47 = .ok (.aload_n 0, 1) := by decide +kernel
theorem d_M_readFront_48 : decode b_M_readFront 48 = .ok (.iload_n 1, 1) := by decide +kernel
theorem d_M_readFront_49 : decode b_M_readFront 49 = .ok (.invokevirtual 286, 3) := by decide +kernel
theorem d_M_readFront_52 : decode b_M_readFront 52 = .ok (.iconst 0, 1) := by decide +kernel
theorem d_M_readFront_53 : decode b_M_readFront 53 = .ok (.istore_n 2, 1) := by decide +kernel
theorem d_M_readFront_54 : decode b_M_readFront 54 = .ok (.iload_n 2, 1) := by decide +kernel
theorem d_M_readFront_55 : decode b_M_readFront 55 = .ok (.iload_n 1, 1) := by decide +kernel
theorem d_M_readFront_56 : decode b_M_readFront 56 = .ok (.if_icmp .ge 31, 3) := by decide +kernel
theorem d_M_readFront_59 : decode b_M_readFront 59 = .ok (.aload_n 0, 1) := by decide +kernel
theorem d_M_readFront_60 : decode b_M_readFront 60 = .ok (.getfield 91, 3) := by decide +kernel
theorem d_M_readFront_63 : decode b_M_readFront 63 = .ok (.ifCond .ne 24, 3) := by decide +kernel
theorem d_M_readFront_66 : decode b_M_readFront 66 = .ok (.aload_n 0, 1) := by decide +kernel
theorem d_M_readFront_67 : decode b_M_readFront 67 = .ok (.getfield 72, 3) := by decide +kernel
theorem d_M_readFront_70 : decode b_M_readFront 70 = .ok (.iload_n 2, 1) := by decide +kernel
theorem d_M_readFront_71 : decode b_M_readFront 71 = .ok (.aload_n 0, 1) := by decide +kernel
theorem d_M_readFront_72 : decode b_M_readFront 72 = .ok (.getfield 63, 3) := by decide +kernel
theorem d_M_readFront_75 : decode b_M_readFront 75 = .ok (.iload_n 2, 1) := by decide +kernel
theorem d_M_readFront_76 : decode b_M_readFront 76 = .ok (.laload, 1) := by decide +kernel
theorem d_M_readFront_77 : decode b_M_readFront 77 = .ok (.invokestatic 289, 3) := by decide +kernel
theorem d_M_readFront_80 : decode b_M_readFront 80 = .ok (.iastore, 1) := by decide +kernel
theorem d_M_readFront_81 : decode b_M_readFront 81 = .ok (.iinc 2 1, 3) := by decide +kernel
theorem d_M_readFront_84 : decode b_M_readFront 84 = .ok (.goto (-30), 3) := by decide +kernel
theorem d_M_readFront_87 : decode b_M_readFront 87 = .ok (.iconst 0, 1) := by decide +kernel
theorem d_M_readFront_88 : decode b_M_readFront 88 = .ok (.istore_n 2, 1) := by decide +kernel
theorem d_M_readFront_89 : decode b_M_readFront 89 = .ok (.iload_n 2, 1) := by decide +kernel
theorem d_M_readFront_90 : decode b_M_readFront 90 = .ok (.iload_n 1, 1) := by decide +kernel
theorem d_M_readFront_91 : decode b_M_readFront 91 = .ok (.if_icmp .ge 112, 3) := by decide +kernel
theorem d_M_readFront_94 : decode b_M_readFront 94 = .ok (.aload_n 0, 1) := by decide +kernel
theorem d_M_readFront_95 : decode b_M_readFront 95 = .ok (.getfield 91, 3) := by decide +kernel
theorem d_M_readFront_98 : decode b_M_readFront 98 = .ok (.ifCond .ne 105, 3) := by decide +kernel
theorem d_M_readFront_101 : decode b_M_readFront 101 = .ok (.iload_n 2, 1) := by decide +kernel
theorem d_M_readFront_102 : decode b_M_readFront 102 = .ok (.ifCond .ne 7, 3) := by decide +kernel
theorem d_M_readFront_105 : decode b_M_readFront 105 = .ok (.iconst 0, 1) := by decide +kernel
theorem d_M_readFront_106 : decode b_M_readFront 106 = .ok (.goto 18, 3) := by decide +kernel
theorem d_M_readFront_109 : decode b_M_readFront 109 = .ok (.aload_n 0, 1) := by decide +kernel
theorem d_M_readFront_110 : decode b_M_readFront 110 = .ok (.getfield 35, 3) := by decide +kernel
theorem d_M_readFront_113 : decode b_M_readFront 113 = .ok (.iload_n 2, 1) := by decide +kernel
theorem d_M_readFront_114 : decode b_M_readFront 114 = .ok (.iaload, 1) := by decide +kernel
theorem d_M_readFront_115 : decode b_M_readFront 115 = .ok (.aload_n 0, 1) := by decide +kernel
theorem d_M_readFront_116 : decode b_M_readFront 116 = .ok (.getfield 35, 3) := by decide +kernel
theorem d_M_readFront_119 : decode b_M_readFront 119 = .ok (.iload_n 2, 1) := by decide +kernel
theorem d_M_readFront_120 : decode b_M_readFront 120 = .ok (.iconst 1, 1) := by decide +kernel
theorem d_M_readFront_121 : decode b_M_readFront 121 = .ok (.isub, 1) := by decide +kernel
theorem d_M_readFront_122 : decode b_M_readFront 122 = .ok (.iaload, 1) := by decide +kernel
theorem d_M_readFront_123 : decode b_M_readFront 123 = .ok (.isub, 1) := by decide +kernel
theorem d_M_readFront_124 : decode b_M_readFront 124 = .ok (.istore_n 3, 1) := by decide +kernel
theorem d_M_readFront_125 : decode b_M_readFront 125 = .ok (.aload_n 0, 1) := by decide +kernel
theorem d_M_readFront_126 : decode b_M_readFront 126 = .ok (.getfield 69, 3) := by decide +kernel
theorem d_M_readFront_129 : decode b_M_readFront 129 = .ok (.iload_n 2, 1) := by decide +kernel
theorem d_M_readFront_130 : decode b_M_readFront 130 = .ok (.iaload, 1) := by decide +kernel
theorem d_M_readFront_131 : decode b_M_readFront 131 = .ok (.ifCond .lt 41, 3) := by decide +kernel
theorem d_M_readFront_134 : decode b_M_readFront 134 = .ok (.aload_n 0, 1) := by decide +kernel
theorem d_M_readFront_135 : decode b_M_readFront 135 = .ok (.getfield 72, 3) := by decide +kernel
theorem d_M_readFront_138 : decode b_M_readFront 138 = .ok (.iload_n 2, 1) := by decide +kernel
theorem d_M_readFront_139 : decode b_M_readFront 139 = .ok (.iaload, 1) := by decide +kernel
theorem d_M_readFront_140 : decode b_M_readFront 140 = .ok (.ifCond .lt 32, 3) := by decide +kernel
theorem d_M_readFront_143 : decode b_M_readFront 143 = .ok (.aload_n 0, 1) := by decide +kernel
theorem d_M_readFront_144 : decode b_M_readFront 144 = .ok (.getfield 69, 3) := by decide +kernel
theorem d_M_readFront_147 : decode b_M_readFront 147 = .ok (.iload_n 2, 1) := by decide +kernel
theorem d_M_readFront_148 : decode b_M_readFront 148 = .ok (.iaload, 1) := by decide +kernel
theorem d_M_readFront_149 : decode b_M_readFront 149 = .ok (.aload_n 0, 1) := by decide +kernel
theorem d_M_readFront_150 : decode b_M_readFront 150 = .ok (.getfield 72, 3) := by decide +kernel
theorem d_M_readFront_153 : decode b_M_readFront 153 = .ok (.iload_n 2, 1) := by decide +kernel
theorem d_M_readFront_154 : decode b_M_readFront 154 = .ok (.iaload, 1) := by decide +kernel
theorem d_M_readFront_155 : decode b_M_readFront 155 = .ok (.iadd, 1) := by decide +kernel
theorem d_M_readFront_156 : decode b_M_readFront 156 = .ok (.sipush 255, 3) := by decide +kernel
theorem d_M_readFront_159 : decode b_M_readFront 159 = .ok (.if_icmp .gt 13, 3) := by decide +kernel
theorem d_M_readFront_162 : decode b_M_readFront 162 = .ok (.aload_n 0, 1) := by decide +kernel
theorem d_M_readFront_163 : decode b_M_readFront 163 = .ok (.getfield 69, 3) := by decide +kernel
theorem d_M_readFront_166 : decode b_M_readFront 166 = .ok (.iload_n 2, 1) := by decide +kernel
theorem d_M_readFront_167 : decode b_M_readFront 167 = .ok (.iaload, 1) := by decide +kernel
theorem d_M_readFront_168 : decode b_M_readFront 168 = .ok (.iload_n 3, 1) := by decide +kernel
theorem d_M_readFront_169 : decode b_M_readFront 169 = .ok (.if_icmp .le 12, 3) := by decide +kernel
theorem d_M_readFront_172 : decode b_M_readFront 172 = .ok (.aload_n 0, 1) := by decide +kernel
theorem d_M_readFront_173 : decode b_M_readFront 173 = .ok (.bipush 7, 2) := by decide +kernel
theorem d_M_readFront_175 : decode b_M_readFront 175 = .ok (.putfield 91, 3) := by decide +kernel
theorem d_M_readFront_178 : decode b_M_readFront 178 = .ok (.goto 19, 3) := by decide +kernel
theorem d_M_readFront_181 : decode b_M_readFront 181 = .ok (.aload_n 0, 1) := by decide +kernel
theorem d_M_readFront_182 : decode b_M_readFront 182 = .ok (.aload_n 0, 1) := by decide +kernel
theorem d_M_readFront_183 : decode b_M_readFront 183 = .ok (.getfield 72, 3) := by decide +kernel
theorem d_M_readFront_186 : decode b_M_readFront 186 = .ok (.iload_n 2, 1) := by decide +kernel
theorem d_M_readFront_187 : decode b_M_readFront 187 = .ok (.iaload, 1) := by decide +kernel
theorem d_M_readFront_188 : decode b_M_readFront 188 = .ok (.aload_n 0, 1) := by decide +kernel
theorem d_M_readFront_189 : decode b_M_readFront 189 = .ok (.getfield 69, 3) := by decide +kernel
theorem d_M_readFront_192 : decode b_M_readFront 192 = .ok (.iload_n 2, 1) := by decide +kernel
theorem d_M_readFront_193 : decode b_M_readFront 193 = .ok (.iaload, 1) := by decide +kernel
theorem d_M_readFront_194 : decode b_M_readFront 194 = .ok (.invokevirtual 283, 3) := by decide +kernel
theorem d_M_readFront_197 : decode b_M_readFront 197 = .ok (.iinc 2 1, 3) := by decide +kernel
theorem d_M_readFront_200 : decode b_M_readFront 200 = .ok (.goto (-111), 3) := by decide +kernel
theorem d_M_readFront_203 : decode b_M_readFront 203 = .ok (.return_, 1) := by decide +kernel
theorem d_M_readDictionary_0 : decode b_M_readDictionary 0 = .ok (.aload_n 0, 1) := by decide +kernel
theorem d_M_readDictionary_1 : decode b_M_readDictionary 1 = .ok (.aload_n 0, 1) := by decide +kernel
theorem d_M_readDictionary_2 : decode b_M_readDictionary 2 = .ok (.getfield 153, 3) := by decide +kernel
theorem d_M_readDictionary_5 : decode b_M_readDictionary 5 = .ok (.invokevirtual 113, 3) := by decide +kernel
theorem d_M_readDictionary_8 : decode b_M_readDictionary 8 = .ok (.lstore_n 2, 1) := by decide +kernel
theorem d_M_readDictionary_9 : decode b_M_readDictionary 9 = .ok (.aload_n 0, 1) := by decide +kernel
theorem d_M_readDictionary_10 : decode b_M_readDictionary 10 = .ok (.getfield 91, 3) := by decide +kernel
theorem d_M_readDictionary_13 : decode b_M_readDictionary 13 = .ok (.ifCond .ne 21, 3) := by decide +kernel
theorem d_M_readDictionary_16 : decode b_M_readDictionary 16 = .ok (.lload_n 2, 1) := by decide +kernel
theorem d_M_readDictionary_17 : decode b_M_readDictionary 17 = .ok (.lconst 0, 1) := by decide +kernel
theorem d_M_readDictionary_18 : decode b_M_readDictionary 18 = .ok (.lcmp, 1) := by decide +kernel
theorem d_M_readDictionary_19 : decode b_M_readDictionary 19 = .ok (.ifCond .lt 10, 3) := by decide +kernel
theorem d_M_readDictionary_22 : decode b_M_readDictionary 22 = .ok (.lload_n 2, 1) := by decide +kernel
theorem d_M_readDictionary_23 : decode b_M_readDictionary 23 = .ok (.iload_n 1, 1) := by decide +kernel
theorem d_M_readDictionary_24 : decode b_M_readDictionary 24 = .ok (.i2l, 1) := by decide +kernel
theorem d_M_readDictionary_25 : decode b_M_readDictionary 25 = .ok (.lcmp, 1) := by decide +kernel
theorem d_M_readDictionary_26 : decode b_M_readDictionary 26 = .ok (.ifCond .le 8, 3) := by decide +kernel
theorem d_M_readDictionary_29 : decode b_M_readDictionary 29 = .ok (.aload_n 0, 1) := by decide +kernel
theorem d_M_readDictionary_30 : decode b_M_readDictionary 30 = .ok (.iconst 4, 1) := by decide +kernel
theorem d_M_readDictionary_31 : decode b_M_readDictionary 31 = .ok (.putfield 91, 3) := by decide +kernel
theorem d_M_readDictionary_34 : decode b_M_readDictionary 34 = .ok (.aload_n 0, 1) := by decide +kernel
theorem d_M_readDictionary_35 : decode b_M_readDictionary 35 = .ok (.getfield 91, 3) := by decide +kernel
theorem d_M_readDictionary_38 : decode b_M_readDictionary 38 = .ok (.ifCond .eq 4, 3) := by decide +kernel
theorem d_M_readDictionary_41 : decode b_M_readDictionary 41 = .ok (.return_, 1) := by decide +kernel
theorem d_M_readDictionary_42 : decode b_M_readDictionary 42 = .ok (.aload_n 0, 1) := by decide +kernel
theorem d_M_readDictionary_43 : decode b_M_readDictionary 43 = .ok (.lload_n 2, 1) := by decide +kernel
theorem d_M_readDictionary_44 : decode b_M_readDictionary 44 = .ok (.l2i, 1) := by decide +kernel
theorem d_M_readDictionary_45 : decode b_M_readDictionary 45 = .ok (.invokevirtual 293, 3) := by decide +kernel
theorem d_M_readDictionary_48 : decode b_M_readDictionary 48 = .ok (.aload_n 0, 1) := by decide +kernel
theorem d_M_readDictionary_49 : decode b_M_readDictionary 49 = .ok (.getfield 91, 3) := by decide +kernel
theorem d_M_readDictionary_52 : decode b_M_readDictionary 52 = .ok (.ifCond .eq 4, 3) := by decide +kernel
theorem d_M_readDictionary_55 : decode b_M_readDictionary 55 = .ok (.return_, 1) := by decide +kernel
theorem d_M_readDictionary_56 : decode b_M_readDictionary 56 = .ok (.aload_n 0, 1) := by decide +kernel
theorem d_M_readDictionary_57 : decode b_M_readDictionary 57 = .ok (.aload_n 0, 1) := by decide +kernel
theorem d_M_readDictionary_58 : decode b_M_readDictionary 58 = .ok (.getfield 278, 3) := by decide +kernel
theorem d_M_readDictionary_61 : decode b_M_readDictionary 61 = .ok (.putfield 296, 3) := by decide +kernel
theorem d_M_readDictionary_64 : decode b_M_readDictionary 64 = .ok (.iconst 0, 1) := by decide +kernel
theorem d_M_readDictionary_65 : decode b_M_readDictionary 65 = .ok (.istore 4, 2) := by decide +kernel
theorem d_M_readDictionary_67 : decode b_M_readDictionary 67 = .ok (.iload 4, 2) := by decide +kernel
theorem d_M_readDictionary_69 : decode b_M_readDictionary 69 = .ok (.aload_n 0, 1) := by decide +kernel
theorem d_M_readDictionary_70 : decode b_M_readDictionary 70 = .ok (.getfield 296, 3) := by decide +kernel
theorem d_M_readDictionary_73 : decode b_M_readDictionary 73 = .ok (.if_icmp .gt 23, 3) := by decide +kernel
theorem d_M_readDictionary_76 : decode b_M_readDictionary 76 = .ok (.aload_n 0, 1) := by decide +kernel
theorem d_M_readDictionary_77 : decode b_M_readDictionary 77 = .ok (.getfield 38, 3) := by decide +kernel
theorem d_M_readDictionary_80 : decode b_M_readDictionary 80 = .ok (.iload 4, 2) := by decide +kernel
theorem d_M_readDictionary_82 : decode b_M_readDictionary 82 = .ok (.aload_n 0, 1) := by decide +kernel
theorem d_M_readDictionary_83 : decode b_M_readDictionary 83 = .ok (.getfield 35, 3) := by decide +kernel
theorem d_M_readDictionary_86 : decode b_M_readDictionary 86 = .ok (.iload 4, 2) := by decide +kernel
theorem d_M_readDictionary_88 : decode b_M_readDictionary 88 = .ok (.iaload, 1) := by decide +kernel
theorem d_M_readDictionary_89 : decode b_M_readDictionary 89 = .ok (.iastore, 1) := by decide +kernel
theorem d_M_readDictionary_90 : decode b_M_readDictionary 90 = .ok (.iinc 4 1, 3) := by decide +kernel
theorem d_M_readDictionary_93 : decode b_M_readDictionary 93 = .ok (.goto (-26), 3) := by decide +kernel
theorem d_M_readDictionary_96 : decode b_M_readDictionary 96 = .ok (.iconst 0, 1) := by decide +kernel
theorem d_M_readDictionary_97 : decode b_M_readDictionary 97 = .ok (.istore 4, 2) := by decide +kernel
theorem d_M_readDictionary_99 : decode b_M_readDictionary 99 = .ok (.iload 4, 2) := by decide +kernel
theorem d_M_readDictionary_101 : decode b_M_readDictionary 101 = .ok (.aload_n 0, 1) := by decide +kernel
theorem d_M_readDictionary_102 : decode b_M_readDictionary 102 = .ok (.getfield 38, 3) := by decide +kernel
theorem d_M_readDictionary_105 : decode b_M_readDictionary 105 = .ok (.aload_n 0, 1) := by decide +kernel
theorem d_M_readDictionary_106 : decode b_M_readDictionary 106 = .ok (.getfield 296, 3) := by decide +kernel
theorem d_M_readDictionary_109 : decode b_M_readDictionary 109 = .ok (.iaload, 1) := by decide +kernel
theorem d_M_readDictionary_110 : decode b_M_readDictionary 110 = .ok (.if_icmp .ge 23, 3) := by decide +kernel
theorem d_M_readDictionary_113 : decode b_M_readDictionary 113 = .ok (.aload_n 0, 1) := by decide +kernel
theorem d_M_readDictionary_114 : decode b_M_readDictionary 114 = .ok (.getfield 47, 3) := by decide +kernel
theorem d_M_readDictionary_117 : decode b_M_readDictionary 117 = .ok (.iload 4, 2) := by decide +kernel
theorem d_M_readDictionary_119 : decode b_M_readDictionary 119 = .ok (.aload_n 0, 1) := by decide +kernel
theorem d_M_readDictionary_120 : decode b_M_readDictionary 120 = .ok (.getfield 44, 3) := by decide +kernel
theorem d_M_readDictionary_123 : decode b_M_readDictionary 123 = .ok (.iload 4, 2) := by decide +kernel
theorem d_M_readDictionary_125 : decode b_M_readDictionary 125 = .ok (.iaload, 1) := by decide +kernel
theorem d_M_readDictionary_126 : decode b_M_readDictionary 126 = .ok (.iastore, 1) := by decide +kernel
theorem d_M_readDictionary_127 : decode b_M_readDictionary 127 = .ok (.iinc 4 1, 3) := by decide +kernel
theorem d_M_readDictionary_130 : decode b_M_readDictionary 130 = .ok (.goto (-31), 3) := by decide +kernel
theorem d_M_readDictionary_133 : decode b_M_readDictionary 133 = .ok (.aload_n 0, 1) := by decide +kernel
theorem d_M_readDictionary_134 : decode b_M_readDictionary 134 = .ok (.iconst 0, 1) := by decide +kernel
theorem d_M_readDictionary_135 : decode b_M_readDictionary 135 = .ok (.putfield 278, 3) := by decide +kernel
theorem d_M_readDictionary_138 : decode b_M_readDictionary 138 = .ok (.aload_n 0, 1) := by decide +kernel
theorem d_M_readDictionary_139 : decode b_M_readDictionary 139 = .ok (.getfield 94, 3) := by decide +kernel
theorem d_M_readDictionary_142 : decode b_M_readDictionary 142 = .ok (.aload_n 0, 1) := by decide +kernel
theorem d_M_readDictionary_143 : decode b_M_readDictionary 143 = .ok (.getfield 153, 3) := by decide +kernel
theorem d_M_readDictionary_146 : decode b_M_readDictionary 146 = .ok (.if_icmp .lt 11, 3) := by decide +kernel
theorem d_M_readDictionary_149 : decode b_M_readDictionary 149 = .ok (.aload_n 0, 1) := by decide +kernel
theorem d_M_readDictionary_150 : decode b_M_readDictionary 150 = .ok (.iconst 1, 1) := by decide +kernel
theorem d_M_readDictionary_151 : decode b_M_readDictionary 151 = .ok (.putfield 91, 3) := by decide +kernel
theorem d_M_readDictionary_154 : decode b_M_readDictionary 154 = .ok (.goto 22, 3) := by decide +kernel
theorem d_M_readDictionary_157 : decode b_M_readDictionary 157 = .ok (.aload_n 0, 1) := by decide +kernel
theorem d_M_readDictionary_158 : decode b_M_readDictionary 158 = .ok (.getfield 53, 3) := by decide +kernel
theorem d_M_readDictionary_161 : decode b_M_readDictionary 161 = .ok (.aload_n 0, 1) := by decide +kernel
theorem d_M_readDictionary_162 : decode b_M_readDictionary 162 = .ok (.getfield 94, 3) := by decide +kernel
theorem d_M_readDictionary_165 : decode b_M_readDictionary 165 = .ok (.iaload, 1) := by decide +kernel
theorem d_M_readDictionary_166 : decode b_M_readDictionary 166 = .ok (.bipush 32, 2) := by decide +kernel
theorem d_M_readDictionary_168 : decode b_M_readDictionary 168 = .ok (.if_icmp .le 8, 3) := by decide +kernel
theorem d_M_readDictionary_171 : decode b_M_readDictionary 171 = .ok (.aload_n 0, 1) := by decide +kernel
theorem d_M_readDictionary_172 : decode b_M_readDictionary 172 = .ok (.iconst 5, 1) := by decide +kernel
theorem d_M_readDictionary_173 : decode b_M_readDictionary 173 = .ok (.putfield 91, 3) := by decide +kernel
theorem d_M_readDictionary_176 : decode b_M_readDictionary 176 = .ok (.aload_n 0, 1) := by decide +kernel
theorem d_M_readDictionary_177 : decode b_M_readDictionary 177 = .ok (.getfield 91, 3) := by decide +kernel
theorem d_M_readDictionary_180 : decode b_M_readDictionary 180 = .ok (.ifCond .eq 4, 3) := by decide +kernel
theorem d_M_readDictionary_183 : decode b_M_readDictionary 183 = .ok (.return_, 1) := by decide +kernel
theorem d_M_readDictionary_184 : decode b_M_readDictionary 184 = .ok (.aload_n 0, 1) := by decide +kernel
theorem d_M_readDictionary_185 : decode b_M_readDictionary 185 = .ok (.getfield 53, 3) := by decide +kernel
theorem d_M_readDictionary_188 : decode b_M_readDictionary 188 = .ok (.aload_n 0, 1) := by decide +kernel
theorem d_M_readDictionary_189 : decode b_M_readDictionary 189 = .ok (.getfield 94, 3) := by decide +kernel
theorem d_M_readDictionary_192 : decode b_M_readDictionary 192 = .ok (.iaload, 1) := by decide +kernel
theorem d_M_readDictionary_193 : decode b_M_readDictionary 193 = .ok (.istore 4, 2) := by decide +kernel
theorem d_M_readDictionary_195 : decode b_M_readDictionary 195 = .ok (.aload_n 0, 1) := by decide +kernel
theorem d_M_readDictionary_196 : decode b_M_readDictionary 196 = .ok (.dup, 1) := by decide +kernel
theorem d_M_readDictionary_197 : decode b_M_readDictionary 197 = .ok (.getfield 94, 3) := by decide +kernel
theorem d_M_readDictionary_200 : decode b_M_readDictionary 200 = .ok (.iconst 1, 1) := by decide +kernel
theorem d_M_readDictionary_201 : decode b_M_readDictionary 201 = .ok (.iadd, 1) := by decide +kernel
theorem d_M_readDictionary_202 : decode b_M_readDictionary 202 = .ok (.putfield 94, 3) := by decide +kernel
theorem d_M_readDictionary_205 : decode b_M_readDictionary 205 = .ok (.aload_n 0, 1) := by decide +kernel
theorem d_M_readDictionary_206 : decode b_M_readDictionary 206 = .ok (.aload_n 0, 1) := by decide +kernel
theorem d_M_readDictionary_207 : decode b_M_readDictionary 207 = .ok (.getfield 66, 3) := by decide +kernel
theorem d_M_readDictionary_210 : decode b_M_readDictionary 210 = .ok (.iload_n 1, 1) := by decide +kernel
theorem d_M_readDictionary_211 : decode b_M_readDictionary 211 = .ok (.iload 4, 2) := by decide +kernel
theorem d_M_readDictionary_213 : decode b_M_readDictionary 213 = .ok (.aload_n 0, 1) := by decide +kernel
theorem d_M_readDictionary_214 : decode b_M_readDictionary 214 = .ok (.getfield 153, 3) := by decide +kernel
theorem d_M_readDictionary_217 : decode b_M_readDictionary 217 = .ok (.invokevirtual 299, 3) := by decide +kernel
theorem d_M_readDictionary_220 : decode b_M_readDictionary 220 = .ok (.aload_n 0, 1) := by decide +kernel
theorem d_M_readDictionary_221 : decode b_M_readDictionary 221 = .ok (.getfield 91, 3) := by decide +kernel
theorem d_M_readDictionary_224 : decode b_M_readDictionary 224 = .ok (.ifCond .ne 20, 3) := by decide +kernel
theorem d_M_readDictionary_227 : decode b_M_readDictionary 227 = .ok (.aload_n 0, 1) := by decide +kernel
theorem d_M_readDictionary_228 : decode b_M_readDictionary 228 = .ok (.getfield 94, 3) := by decide +kernel
theorem d_M_readDictionary_231 : decode b_M_readDictionary 231 = .ok (.aload_n 0, 1) := by decide +kernel
theorem d_M_readDictionary_232 : decode b_M_readDictionary 232 = .ok (.getfield 153, 3) := by decide +kernel
theorem d_M_readDictionary_235 : decode b_M_readDictionary 235 = .ok (.if_icmp .ge 9, 3) := by decide +kernel
theorem d_M_readDictionary_238 : decode b_M_readDictionary 238 = .ok (.aload_n 0, 1) := by decide +kernel
theorem d_M_readDictionary_239 : decode b_M_readDictionary 239 = .ok (.bipush 6, 2) := by decide +kernel
theorem d_M_readDictionary_241 : decode b_M_readDictionary 241 = .ok (.putfield 91, 3) := by decide +kernel
theorem d_M_readDictionary_244 : decode b_M_readDictionary 244 = .ok (.iconst 0, 1) := by decide +kernel
theorem d_M_readDictionary_245 : decode b_M_readDictionary 245 = .ok (.istore 5, 2) := by decide +kernel
theorem d_M_readDictionary_247 : decode b_M_readDictionary 247 = .ok (.iload 5, 2) := by decide +kernel
theorem d_M_readDictionary_249 : decode b_M_readDictionary 249 = .ok (.iload_n 1, 1) := by decide +kernel
theorem d_M_readDictionary_250 : decode b_M_readDictionary 250 = .ok (.if_icmp .ge 185, 3) := by decide +kernel
theorem d_M_readDictionary_253 : decode b_M_readDictionary 253 = .ok (.aload_n 0, 1) := by decide +kernel
theorem d_M_readDictionary_254 : decode b_M_readDictionary 254 = .ok (.getfield 91, 3) := by decide +kernel
theorem d_M_readDictionary_257 : decode b_M_readDictionary 257 = .ok (.ifCond .ne 178, 3) := by decide +kernel
theorem d_M_readDictionary_260 : decode b_M_readDictionary 260 = .ok (.aload_n 0, 1) := by decide +kernel
theorem d_M_readDictionary_261 : decode b_M_readDictionary 261 = .ok (.getfield 66, 3) := by decide +kernel
theorem d_M_readDictionary_264 : decode b_M_readDictionary 264 = .ok (.iload 5, 2) := by decide +kernel
theorem d_M_readDictionary_266 : decode b_M_readDictionary 266 = .ok (.iaload, 1) := by decide +kernel
theorem d_M_readDictionary_267 : decode b_M_readDictionary 267 = .ok (.istore 6, 2) := by decide +kernel
theorem d_M_readDictionary_269 : decode b_M_readDictionary 269 = .ok (.iload 6, 2) := by decide +kernel
theorem d_M_readDictionary_271 : decode b_M_readDictionary 271 = .ok (.ifCond .lt 16, 3) := by decide +kernel
theorem d_M_readDictionary_274 : decode b_M_readDictionary 274 = .ok (.iload 6, 2) := by decide +kernel
theorem d_M_readDictionary_276 : decode b_M_readDictionary 276 = .ok (.aload_n 0, 1) := by decide +kernel
theorem d_M_readDictionary_277 : decode b_M_readDictionary 277 = .ok (.getfield 296, 3) := by decide +kernel
theorem d_M_readDictionary_280 : decode b_M_readDictionary 280 = .ok (.if_icmp .ge 7, 3) := by decide +kernel
theorem d_M_readDictionary_283 : decode b_M_readDictionary 283 = .ok (.iconst 1, 1) := by decide +kernel
theorem d_M_readDictionary_284 : decode b_M_readDictionary 284 = .ok (.goto 4, 3) := by decide +kernel
theorem d_M_readDictionary_287 : decode b_M_readDictionary 287 = .ok (.iconst 0, 1) := by decide +kernel
theorem d_M_readDictionary_288 : decode b_M_readDictionary 288 = .ok (.istore 7, 2) := by decide +kernel
theorem d_M_readDictionary_290 : decode b_M_readDictionary 290 = .ok (.iload 7, 2) := by decide +kernel
theorem d_M_readDictionary_292 : decode b_M_readDictionary 292 = .ok (.ifCond .eq 23, 3) := by decide +kernel
theorem d_M_readDictionary_295 : decode b_M_readDictionary 295 = .ok (.aload_n 0, 1) := by decide +kernel
theorem d_M_readDictionary_296 : decode b_M_readDictionary 296 = .ok (.getfield 38, 3) := by decide +kernel
theorem d_M_readDictionary_299 : decode b_M_readDictionary 299 = .ok (.iload 6, 2) := by decide +kernel
theorem d_M_readDictionary_301 : decode b_M_readDictionary 301 = .ok (.iconst 1, 1) := by decide +kernel
theorem d_M_readDictionary_302 : decode b_M_readDictionary 302 = .ok (.iadd, 1) := by decide +kernel
theorem d_M_readDictionary_303 : decode b_M_readDictionary 303 = .ok (.iaload, 1) := by decide +kernel
theorem d_M_readDictionary_304 : decode b_M_readDictionary 304 = .ok (.aload_n 0, 1) := by decide +kernel
theorem d_M_readDictionary_305 : decode b_M_readDictionary 305 = .ok (.getfield 38, 3) := by decide +kernel
theorem d_M_readDictionary_308 : decode b_M_readDictionary 308 = .ok (.iload 6, 2) := by decide +kernel
theorem d_M_readDictionary_310 : decode b_M_readDictionary 310 = .ok (.iaload, 1) := by decide +kernel
theorem d_M_readDictionary_311 : decode b_M_readDictionary 311 = .ok (.isub, 1) := by decide +kernel
theorem d_M_readDictionary_312 : decode b_M_readDictionary 312 = .ok (.goto 4, 3) := by decide +kernel
theorem d_M_readDictionary_315 : decode b_M_readDictionary 315 = .ok (.iconst 0, 1) := by decide +kernel
theorem d_M_readDictionary_316 : decode b_M_readDictionary 316 = .ok (.istore 8, 2) := by decide +kernel
theorem d_M_readDictionary_318 : decode b_M_readDictionary 318 = .ok (.iload 7, 2) := by decide +kernel
theorem d_M_readDictionary_320 : decode b_M_readDictionary 320 = .ok (.ifCond .eq 21, 3) := by decide +kernel
theorem d_M_readDictionary_323 : decode b_M_readDictionary 323 = .ok (.aload_n 0, 1) := by decide +kernel
theorem d_M_readDictionary_324 : decode b_M_readDictionary 324 = .ok (.getfield 35, 3) := by decide +kernel
theorem d_M_readDictionary_327 : decode b_M_readDictionary 327 = .ok (.aload_n 0, 1) := by decide +kernel
theorem d_M_readDictionary_328 : decode b_M_readDictionary 328 = .ok (.getfield 278, 3) := by decide +kernel
theorem d_M_readDictionary_331 : decode b_M_readDictionary 331 = .ok (.iaload, 1) := by decide +kernel
theorem d_M_readDictionary_332 : decode b_M_readDictionary 332 = .ok (.iload 8, 2) := by decide +kernel
theorem d_M_readDictionary_334 : decode b_M_readDictionary 334 = .ok (.iadd, 1) := by decide +kernel
theorem d_M_readDictionary_335 : decode b_M_readDictionary 335 = .ok (.sipush 20000, 3) := by decide +kernel
theorem d_M_readDictionary_338 : decode b_M_readDictionary 338 = .ok (.if_icmp .le 10, 3) := by decide +kernel
theorem d_M_readDictionary_341 : decode b_M_readDictionary 341 = .ok (.aload_n 0, 1) := by decide +kernel
theorem d_M_readDictionary_342 : decode b_M_readDictionary 342 = .ok (.bipush 7, 2) := by decide +kernel
theorem d_M_readDictionary_344 : decode b_M_readDictionary 344 = .ok (.putfield 91, 3) := by decide +kernel
theorem d_M_readDictionary_347 : decode b_M_readDictionary 347 = .ok (.return_, 1) := by decide +kernel
theorem d_M_readDictionary_348 : decode b_M_readDictionary 348 = .ok (.iconst 0, 1) := by decide +kernel
theorem d_M_readDictionary_349 : decode b_M_readDictionary 349 = .ok (.istore 9, 2) := by decide +kernel
theorem d_M_readDictionary_351 : decode b_M_readDictionary 351 = .ok (.iload 9, 2) := by decide +kernel
theorem d_M_readDictionary_353 : decode b_M_readDictionary 353 = .ok (.iload 8, 2) := by decide +kernel
theorem d_M_readDictionary_355 : decode b_M_readDictionary 355 = .ok (.if_icmp .ge 41, 3) := by decide +kernel
theorem d_M_readDictionary_358 : decode b_M_readDictionary 358 = .ok (.aload_n 0, 1) := by decide +kernel
theorem d_M_readDictionary_359 : decode b_M_readDictionary 359 = .ok (.getfield 44, 3) := by decide +kernel
theorem d_M_readDictionary_362 : decode b_M_readDictionary 362 = .ok (.aload_n 0, 1) := by decide +kernel
theorem d_M_readDictionary_363 : decode b_M_readDictionary 363 = .ok (.getfield 35, 3) := by decide +kernel
theorem d_M_readDictionary_366 : decode b_M_readDictionary 366 = .ok (.aload_n 0, 1) := by decide +kernel
theorem d_M_readDictionary_367 : decode b_M_readDictionary 367 = .ok (.getfield 278, 3) := by decide +kernel
theorem d_M_readDictionary_370 : decode b_M_readDictionary 370 = .ok (.iaload, 1) := by decide +kernel
theorem d_M_readDictionary_371 : decode b_M_readDictionary 371 = .ok (.iload 9, 2) := by decide +kernel
theorem d_M_readDictionary_373 : decode b_M_readDictionary 373 = .ok (.iadd, 1) := by decide +kernel
theorem d_M_readDictionary_374 : decode b_M_readDictionary 374 = .ok (.aload_n 0, 1) := by decide +kernel
theorem d_M_readDictionary_375 : decode b_M_readDictionary 375 = .ok (.getfield 47, 3) := by decide +kernel
theorem d_M_readDictionary_378 : decode b_M_readDictionary 378 = .ok (.aload_n 0, 1) := by decide +kernel
theorem d_M_readDictionary_379 : decode b_M_readDictionary 379 = .ok (.getfield 38, 3) := by decide +kernel
theorem d_M_readDictionary_382 : decode b_M_readDictionary 382 = .ok (.iload 6, 2) := by decide +kernel
theorem d_M_readDictionary_384 : decode b_M_readDictionary 384 = .ok (.iaload, 1) := by decide +kernel
theorem d_M_readDictionary_385 : decode b_M_readDictionary 385 = .ok (.iload 9, 2) := by decide +kernel
theorem d_M_readDictionary_387 : decode b_M_readDictionary 387 = .ok (.iadd, 1) := by decide +kernel
theorem d_M_readDictionary_388 : decode b_M_readDictionary 388 = .ok (.iaload, 1) := by decide +kernel
theorem d_M_readDictionary_389 : decode b_M_readDictionary 389 = .ok (.iastore, 1) := by decide +kernel
theorem d_M_readDictionary_390 : decode b_M_readDictionary 390 = .ok (.iinc 9 1, 3) := by decide +kernel
theorem d_M_readDictionary_393 : decode b_M_readDictionary 393 = .ok (.goto (-42), 3) := by decide +kernel
theorem d_M_readDictionary_396 : decode b_M_readDictionary 396 = .ok (.aload_n 0, 1) := by decide +kernel
theorem d_M_readDictionary_397 : decode b_M_readDictionary 397 = .ok (.dup, 1) := by decide +kernel
theorem d_M_readDictionary_398 : decode b_M_readDictionary 398 = .ok (.getfield 278, 3) := by decide +kernel
theorem d_M_readDictionary_401 : decode b_M_readDictionary 401 = .ok (.iconst 1, 1) := by decide +kernel
theorem d_M_readDictionary_402 : decode b_M_readDictionary 402 = .ok (.iadd, 1) := by decide +kernel
theorem d_M_readDictionary_403 : decode b_M_readDictionary 403 = .ok (.putfield 278, 3) := by decide +kernel
theorem d_M_readDictionary_406 : decode b_M_readDictionary 406 = .ok (.aload_n 0, 1) := by decide +kernel
theorem d_M_readDictionary_407 : decode b_M_readDictionary 407 = .ok (.getfield 35, 3) := by decide +kernel
theorem d_M_readDictionary_410 : decode b_M_readDictionary 410 = .ok (.aload_n 0, 1) := by decide +kernel
theorem d_M_readDictionary_411 : decode b_M_readDictionary 411 = .ok (.getfield 278, 3) := by decide +kernel
theorem d_M_readDictionary_414 : decode b_M_readDictionary 414 = .ok (.aload_n 0, 1) := by decide +kernel
theorem d_M_readDictionary_415 : decode b_M_readDictionary 415 = .ok (.getfield 35, 3) := by decide +kernel
theorem d_M_readDictionary_418 : decode b_M_readDictionary 418 = .ok (.aload_n 0, 1) := by decide +kernel
theorem d_M_readDictionary_419 : decode b_M_readDictionary 419 = .ok (.getfield 278, 3) := by decide +kernel
theorem d_M_readDictionary_422 : decode b_M_readDictionary 422 = .ok (.iconst 1, 1) := by decide +kernel
theorem d_M_readDictionary_423 : decode b_M_readDictionary 423 = .ok (.isub, 1) := by decide +kernel
theorem d_M_readDictionary_424 : decode b_M_readDictionary 424 = .ok (.iaload, 1) := by decide +kernel
theorem d_M_readDictionary_425 : decode b_M_readDictionary 425 = .ok (.iload 8, 2) := by decide +kernel
theorem d_M_readDictionary_427 : decode b_M_readDictionary 427 = .ok (.iadd, 1) := by decide +kernel
theorem d_M_readDictionary_428 : decode b_M_readDictionary 428 = .ok (.iastore, 1) := by decide +kernel
theorem d_M_readDictionary_429 : decode b_M_readDictionary 429 = .ok (.iinc 5 1, 3) := by decide +kernel
theorem d_M_readDictionary_432 : decode b_M_readDictionary 432 = .ok (.goto (-185), 3) := by decide +kernel
theorem d_M_readDictionary_435 : decode b_M_readDictionary 435 = .ok (.return_, 1) := by decide +kernel
theorem d_M_readTexts_0 : decode b_M_readTexts 0 = .ok (.aload_n 0, 1) := by decide +kernel
theorem d_M_readTexts_1 : decode b_M_readTexts 1 = .ok (.iconst 0, 1) := by decide +kernel
theorem d_M_readTexts_2 : decode b_M_readTexts 2 = .ok (.putfield 278, 3) := by decide +kernel
theorem d_M_readTexts_5 : decode b_M_readTexts 5 = .ok (.iload_n 1, 1) := by decide +kernel
theorem d_M_readTexts_6 : decode b_M_readTexts 6 = .ok (.ifCond .ne 11, 3) := by decide +kernel
theorem d_M_readTexts_9 : decode b_M_readTexts 9 = .ok (.aload_n 0, 1) := by decide +kernel
theorem d_M_readTexts_10 : decode b_M_readTexts 10 = .ok (.iload_n 2, 1) := by decide +kernel
theorem d_M_readTexts_11 : decode b_M_readTexts 11 = .ok (.invokevirtual 293, 3) := by decide +kernel
theorem d_M_readTexts_14 : decode b_M_readTexts 14 = .ok (.goto 34, 3) := by decide +kernel
theorem d_M_readTexts_17 : decode b_M_readTexts 17 = .ok (.iload_n 1, 1) := by decide +kernel
theorem d_M_readTexts_18 : decode b_M_readTexts 18 = .ok (.iconst 1, 1) := by decide +kernel
theorem d_M_readTexts_19 : decode b_M_readTexts 19 = .ok (.if_icmp .ne 11, 3) := by decide +kernel
theorem d_M_readTexts_22 : decode b_M_readTexts 22 = .ok (.aload_n 0, 1) := by decide +kernel
theorem d_M_readTexts_23 : decode b_M_readTexts 23 = .ok (.iload_n 2, 1) := by decide +kernel
theorem d_M_readTexts_24 : decode b_M_readTexts 24 = .ok (.invokevirtual 303, 3) := by decide +kernel
theorem d_M_readTexts_27 : decode b_M_readTexts 27 = .ok (.goto 21, 3) := by decide +kernel
theorem d_M_readTexts_30 : decode b_M_readTexts 30 = .ok (.iload_n 1, 1) := by decide +kernel
theorem d_M_readTexts_31 : decode b_M_readTexts 31 = .ok (.iconst 2, 1) := by decide +kernel
theorem d_M_readTexts_32 : decode b_M_readTexts 32 = .ok (.if_icmp .ne 11, 3) := by decide +kernel
theorem d_M_readTexts_35 : decode b_M_readTexts 35 = .ok (.aload_n 0, 1) := by decide +kernel
theorem d_M_readTexts_36 : decode b_M_readTexts 36 = .ok (.iload_n 2, 1) := by decide +kernel
theorem d_M_readTexts_37 : decode b_M_readTexts 37 = .ok (.invokevirtual 306, 3) := by decide +kernel
theorem d_M_readTexts_40 : decode b_M_readTexts 40 = .ok (.goto 8, 3) := by decide +kernel
theorem d_M_readTexts_43 : decode b_M_readTexts 43 = .ok (.aload_n 0, 1) := by decide +kernel
theorem d_M_readTexts_44 : decode b_M_readTexts 44 = .ok (.iload_n 2, 1) := by decide +kernel
theorem d_M_readTexts_45 : decode b_M_readTexts 45 = .ok (.invokevirtual 309, 3) := by decide +kernel
theorem d_M_readTexts_48 : decode b_M_readTexts 48 = .ok (.return_, 1) := by decide +kernel
theorem d_M_readBools_0 : decode b_M_readBools 0 = .ok (.iload_n 1, 1) := by decide +kernel
theorem d_M_readBools_1 : decode b_M_readBools 1 = .ok (.iconst 1, 1) := by decide +kernel
theorem d_M_readBools_2 : decode b_M_readBools 2 = .ok (.if_icmp .ne 75, 3) := by decide +kernel
theorem d_M_readBools_5 : decode b_M_readBools 5 = .ok (.aload_n 0, 1) := by decide +kernel
theorem d_M_readBools_6 : decode b_M_readBools 6 = .ok (.aload_n 0, 1) := by decide +kernel
theorem d_M_readBools_7 : decode b_M_readBools 7 = .ok (.getfield 66, 3) := by decide +kernel
theorem d_M_readBools_10 : decode b_M_readBools 10 = .ok (.iload_n 2, 1) := by decide +kernel
theorem d_M_readBools_11 : decode b_M_readBools 11 = .ok (.iconst 1, 1) := by decide +kernel
theorem d_M_readBools_12 : decode b_M_readBools 12 = .ok (.aload_n 0, 1) := by decide +kernel
theorem d_M_readBools_13 : decode b_M_readBools 13 = .ok (.getfield 153, 3) := by decide +kernel
theorem d_M_readBools_16 : decode b_M_readBools 16 = .ok (.invokevirtual 299, 3) := by decide +kernel
theorem d_M_readBools_19 : decode b_M_readBools 19 = .ok (.aload_n 0, 1) := by decide +kernel
theorem d_M_readBools_20 : decode b_M_readBools 20 = .ok (.getfield 91, 3) := by decide +kernel
theorem d_M_readBools_23 : decode b_M_readBools 23 = .ok (.ifCond .ne 20, 3) := by decide +kernel
theorem d_M_readBools_26 : decode b_M_readBools 26 = .ok (.aload_n 0, 1) := by decide +kernel
theorem d_M_readBools_27 : decode b_M_readBools 27 = .ok (.getfield 94, 3) := by decide +kernel
theorem d_M_readBools_30 : decode b_M_readBools 30 = .ok (.aload_n 0, 1) := by decide +kernel
theorem d_M_readBools_31 : decode b_M_readBools 31 = .ok (.getfield 153, 3) := by decide +kernel
theorem d_M_readBools_34 : decode b_M_readBools 34 = .ok (.if_icmp .ge 9, 3) := by decide +kernel
theorem d_M_readBools_37 : decode b_M_readBools 37 = .ok (.aload_n 0, 1) := by decide +kernel
theorem d_M_readBools_38 : decode b_M_readBools 38 = .ok (.bipush 6, 2) := by decide +kernel
theorem d_M_readBools_40 : decode b_M_readBools 40 = .ok (.putfield 91, 3) := by decide +kernel
theorem d_M_readBools_43 : decode b_M_readBools 43 = .ok (.iconst 0, 1) := by decide +kernel
theorem d_M_readBools_44 : decode b_M_readBools 44 = .ok (.istore_n 3, 1) := by decide +kernel
theorem d_M_readBools_45 : decode b_M_readBools 45 = .ok (.iload_n 3, 1) := by decide +kernel
theorem d_M_readBools_46 : decode b_M_readBools 46 = .ok (.iload_n 2, 1) := by decide +kernel
theorem d_M_readBools_47 : decode b_M_readBools 47 = .ok (.if_icmp .ge 29, 3) := by decide +kernel
theorem d_M_readBools_50 : decode b_M_readBools 50 = .ok (.aload_n 0, 1) := by decide +kernel
theorem d_M_readBools_51 : decode b_M_readBools 51 = .ok (.getfield 91, 3) := by decide +kernel
theorem d_M_readBools_54 : decode b_M_readBools 54 = .ok (.ifCond .ne 22, 3) := by decide +kernel
theorem d_M_readBools_57 : decode b_M_readBools 57 = .ok (.aload_n 0, 1) := by decide +kernel
theorem d_M_readBools_58 : decode b_M_readBools 58 = .ok (.getfield 26, 3) := by decide +kernel
theorem d_M_readBools_61 : decode b_M_readBools 61 = .ok (.iload_n 3, 1) := by decide +kernel
theorem d_M_readBools_62 : decode b_M_readBools 62 = .ok (.aload_n 0, 1) := by decide +kernel
theorem d_M_readBools_63 : decode b_M_readBools 63 = .ok (.getfield 66, 3) := by decide +kernel
theorem d_M_readBools_66 : decode b_M_readBools 66 = .ok (.iload_n 3, 1) := by decide +kernel
theorem d_M_readBools_67 : decode b_M_readBools 67 = .ok (.iaload, 1) := by decide +kernel
theorem d_M_readBools_68 : decode b_M_readBools 68 = .ok (.i2l, 1) := by decide +kernel
theorem d_M_readBools_69 : decode b_M_readBools 69 = .ok (.lastore, 1) := by decide +kernel
theorem d_M_readBools_70 : decode b_M_readBools 70 = .ok (.iinc 3 1, 3) := by decide +kernel
theorem d_M_readBools_73 : decode b_M_readBools 73 = .ok (.goto (-28), 3) := by decide +kernel
theorem d_M_readBools_76 : decode b_M_readBools 76 = .ok (.return_, 1) := by decide +kernel
theorem d_M_readBools_77 : decode b_M_readBools 77 = .ok (.aload_n 0, 1) := by decide +kernel
theorem d_M_readBools_78 : decode b_M_readBools 78 = .ok (.getfield 153, 3) := by decide +kernel
theorem d_M_readBools_81 : decode b_M_readBools 81 = .ok (.aload_n 0, 1) := by decide +kernel
theorem d_M_readBools_82 : decode b_M_readBools 82 = .ok (.getfield 94, 3) := by decide +kernel
theorem d_M_readBools_85 : decode b_M_readBools 85 = .ok (.isub, 1) := by decide +kernel
theorem d_M_readBools_86 : decode b_M_readBools 86 = .ok (.iload_n 2, 1) := by decide +kernel
theorem d_M_readBools_87 : decode b_M_readBools 87 = .ok (.bipush 7, 2) := by decide +kernel
theorem d_M_readBools_89 : decode b_M_readBools 89 = .ok (.iadd, 1) := by decide +kernel
theorem d_M_readBools_90 : decode b_M_readBools 90 = .ok (.bipush 8, 2) := by decide +kernel
theorem d_M_readBools_92 : decode b_M_readBools 92 = .ok (.idiv, 1) := by decide +kernel
theorem d_M_readBools_93 : decode b_M_readBools 93 = .ok (.if_icmp .ge 8, 3) := by decide +kernel
theorem d_M_readBools_96 : decode b_M_readBools 96 = .ok (.aload_n 0, 1) := by decide +kernel
theorem d_M_readBools_97 : decode b_M_readBools 97 = .ok (.iconst 1, 1) := by decide +kernel
theorem d_M_readBools_98 : decode b_M_readBools 98 = .ok (.putfield 91, 3) := by decide +kernel
theorem d_M_readBools_101 : decode b_M_readBools 101 = .ok (.iconst 0, 1) := by decide +kernel
theorem d_M_readBools_102 : decode b_M_readBools 102 = .ok (.istore_n 3, 1) := by decide +kernel
theorem d_M_readBools_103 : decode b_M_readBools 103 = .ok (.iload_n 3, 1) := by decide +kernel
theorem d_M_readBools_104 : decode b_M_readBools 104 = .ok (.iload_n 2, 1) := by decide +kernel
theorem d_M_readBools_105 : decode b_M_readBools 105 = .ok (.bipush 7, 2) := by decide +kernel
theorem d_M_readBools_107 : decode b_M_readBools 107 = .ok (.iadd, 1) := by decide +kernel
theorem d_M_readBools_108 : decode b_M_readBools 108 = .ok (.bipush 8, 2) := by decide +kernel
theorem d_M_readBools_110 : decode b_M_readBools 110 = .ok (.idiv, 1) := by decide +kernel
theorem d_M_readBools_111 : decode b_M_readBools 111 = .ok (.bipush 8, 2) := by decide +kernel
theorem d_M_readBools_113 : decode b_M_readBools 113 = .ok (.imul, 1) := by decide +kernel
theorem d_M_readBools_114 : decode b_M_readBools 114 = .ok (.if_icmp .ge 67, 3) := by decide +kernel
theorem d_M_readBools_117 : decode b_M_readBools 117 = .ok (.aload_n 0, 1) := by decide +kernel
theorem d_M_readBools_118 : decode b_M_readBools 118 = .ok (.getfield 91, 3) := by decide +kernel
theorem d_M_readBools_121 : decode b_M_readBools 121 = .ok (.ifCond .ne 60, 3) := by decide +kernel
theorem d_M_readBools_124 : decode b_M_readBools 124 = .ok (.aload_n 0, 1) := by decide +kernel
theorem d_M_readBools_125 : decode b_M_readBools 125 = .ok (.getfield 53, 3) := by decide +kernel
theorem d_M_readBools_128 : decode b_M_readBools 128 = .ok (.aload_n 0, 1) := by decide +kernel
theorem d_M_readBools_129 : decode b_M_readBools 129 = .ok (.getfield 94, 3) := by decide +kernel
theorem d_M_readBools_132 : decode b_M_readBools 132 = .ok (.iload_n 3, 1) := by decide +kernel
theorem d_M_readBools_133 : decode b_M_readBools 133 = .ok (.bipush 8, 2) := by decide +kernel
theorem d_M_readBools_135 : decode b_M_readBools 135 = .ok (.idiv, 1) := by decide +kernel
theorem d_M_readBools_136 : decode b_M_readBools 136 = .ok (.iadd, 1) := by decide +kernel
theorem d_M_readBools_137 : decode b_M_readBools 137 = .ok (.iaload, 1) := by decide +kernel
theorem d_M_readBools_138 : decode b_M_readBools 138 = .ok (.iload_n 3, 1) := by decide +kernel
theorem d_M_readBools_139 : decode b_M_readBools 139 = .ok (.bipush 8, 2) := by decide +kernel
theorem d_M_readBools_141 : decode b_M_readBools 141 = .ok (.irem, 1) := by decide +kernel
theorem d_M_readBools_142 : decode b_M_readBools 142 = .ok (.ishr, 1) := by decide +kernel
theorem d_M_readBools_143 : decode b_M_readBools 143 = .ok (.iconst 1, 1) := by decide +kernel
theorem d_M_readBools_144 : decode b_M_readBools 144 = .ok (.iand, 1) := by decide +kernel
theorem d_M_readBools_145 : decode b_M_readBools 145 = .ok (.istore 4, 2) := by decide +kernel
theorem d_M_readBools_147 : decode b_M_readBools 147 = .ok (.iload_n 3, 1) := by decide +kernel
theorem d_M_readBools_148 : decode b_M_readBools 148 = .ok (.iload_n 2, 1) := by decide +kernel
theorem d_M_readBools_149 : decode b_M_readBools 149 = .ok (.if_icmp .ge 15, 3) := by decide +kernel
theorem d_M_readBools_152 : decode b_M_readBools 152 = .ok (.aload_n 0, 1) := by decide +kernel
theorem d_M_readBools_153 : decode b_M_readBools 153 = .ok (.getfield 26, 3) := by decide +kernel
theorem d_M_readBools_156 : decode b_M_readBools 156 = .ok (.iload_n 3, 1) := by decide +kernel
theorem d_M_readBools_157 : decode b_M_readBools 157 = .ok (.iload 4, 2) := by decide +kernel
theorem d_M_readBools_159 : decode b_M_readBools 159 = .ok (.i2l, 1) := by decide +kernel
theorem d_M_readBools_160 : decode b_M_readBools 160 = .ok (.lastore, 1) := by decide +kernel
theorem d_M_readBools_161 : decode b_M_readBools 161 = .ok (.goto 14, 3) := by decide +kernel
theorem d_M_readBools_164 : decode b_M_readBools 164 = .ok (.iload 4, 2) := by decide +kernel
theorem d_M_readBools_166 : decode b_M_readBools 166 = .ok (.iconst 1, 1) := by decide +kernel
theorem d_M_readBools_167 : decode b_M_readBools 167 = .ok (.if_icmp .ne 8, 3) := by decide +kernel
theorem d_M_readBools_170 : decode b_M_readBools 170 = .ok (.aload_n 0, 1) := by decide +kernel
theorem d_M_readBools_171 : decode b_M_readBools 171 = .ok (.iconst 5, 1) := by decide +kernel
theorem d_M_readBools_172 : decode b_M_readBools 172 = .ok (.putfield 91, 3) := by decide +kernel
theorem d_M_readBools_175 : decode b_M_readBools 175 = .ok (.iinc 3 1, 3) := by decide +kernel
theorem d_M_readBools_178 : decode b_M_readBools 178 = .ok (.goto (-75), 3) := by decide +kernel
theorem d_M_readBools_181 : decode b_M_readBools 181 = .ok (.aload_n 0, 1) := by decide +kernel
theorem d_M_readBools_182 : decode b_M_readBools 182 = .ok (.dup, 1) := by decide +kernel
theorem d_M_readBools_183 : decode b_M_readBools 183 = .ok (.getfield 94, 3) := by decide +kernel
theorem d_M_readBools_186 : decode b_M_readBools 186 = .ok (.iload_n 2, 1) := by decide +kernel
theorem d_M_readBools_187 : decode b_M_readBools 187 = .ok (.bipush 7, 2) := by decide +kernel
theorem d_M_readBools_189 : decode b_M_readBools 189 = .ok (.iadd, 1) := by decide +kernel
theorem d_M_readBools_190 : decode b_M_readBools 190 = .ok (.bipush 8, 2) := by decide +kernel
theorem d_M_readBools_192 : decode b_M_readBools 192 = .ok (.idiv, 1) := by decide +kernel
theorem d_M_readBools_193 : decode b_M_readBools 193 = .ok (.iadd, 1) := by decide +kernel
theorem d_M_readBools_194 : decode b_M_readBools 194 = .ok (.putfield 94, 3) := by decide +kernel
theorem d_M_readBools_197 : decode b_M_readBools 197 = .ok (.return_, 1) := by decide +kernel
theorem d_M_whole_0 : decode b_M_whole 0 = .ok (.aload_n 0, 1) := by decide +kernel
theorem d_M_whole_1 : decode b_M_whole 1 = .ok (.aload_n 0, 1) := by decide +kernel
theorem d_M_whole_2 : decode b_M_whole 2 = .ok (.invokevirtual 221, 3) := by decide +kernel
theorem d_M_whole_5 : decode b_M_whole 5 = .ok (.aload_n 0, 1) := by decide +kernel
theorem d_M_whole_6 : decode b_M_whole 6 = .ok (.getfield 153, 3) := by decide +kernel
theorem d_M_whole_9 : decode b_M_whole 9 = .ok (.invokevirtual 312, 3) := by decide +kernel
theorem d_M_whole_12 : decode b_M_whole 12 = .ok (.lstore_n 1, 1) := by decide +kernel
theorem d_M_whole_13 : decode b_M_whole 13 = .ok (.aload_n 0, 1) := by decide +kernel
theorem d_M_whole_14 : decode b_M_whole 14 = .ok (.getfield 181, 3) := by decide +kernel
theorem d_M_whole_17 : decode b_M_whole 17 = .ok (.iconst 1, 1) := by decide +kernel
theorem d_M_whole_18 : decode b_M_whole 18 = .ok (.if_icmp .ne 9, 3) := by decide +kernel
theorem d_M_whole_21 : decode b_M_whole 21 = .ok (.lload_n 1, 1) := by decide +kernel
theorem d_M_whole_22 : decode b_M_whole 22 = .ok (.l2i, 1) := by decide +kernel
theorem d_M_whole_23 : decode b_M_whole 23 = .ok (.i2l, 1) := by decide +kernel
theorem d_M_whole_24 : decode b_M_whole 24 = .ok (.goto 4, 3) := by decide +kernel
theorem d_M_whole_27 : decode b_M_whole 27 = .ok (.lload_n 1, 1) := by decide +kernel
theorem d_M_whole_28 : decode b_M_whole 28 = .ok (.lreturn, 1) := by decide +kernel
theorem d_M_readWholes_0 : decode b_M_readWholes 0 = .ok (.iload_n 1, 1) := by decide +kernel
theorem d_M_readWholes_1 : decode b_M_readWholes 1 = .ok (.ifCond .ne 36, 3) := by decide +kernel
theorem d_M_readWholes_4 : decode b_M_readWholes 4 = .ok (.iconst 0, 1) := by decide +kernel
theorem d_M_readWholes_5 : decode b_M_readWholes 5 = .ok (.istore_n 3, 1) := by decide +kernel
theorem d_M_readWholes_6 : decode b_M_readWholes 6 = .ok (.iload_n 3, 1) := by decide +kernel
theorem d_M_readWholes_7 : decode b_M_readWholes 7 = .ok (.iload_n 2, 1) := by decide +kernel
theorem d_M_readWholes_8 : decode b_M_readWholes 8 = .ok (.if_icmp .ge 26, 3) := by decide +kernel
theorem d_M_readWholes_11 : decode b_M_readWholes 11 = .ok (.aload_n 0, 1) := by decide +kernel
theorem d_M_readWholes_12 : decode b_M_readWholes 12 = .ok (.getfield 91, 3) := by decide +kernel
theorem d_M_readWholes_15 : decode b_M_readWholes 15 = .ok (.ifCond .ne 19, 3) := by decide +kernel
theorem d_M_readWholes_18 : decode b_M_readWholes 18 = .ok (.aload_n 0, 1) := by decide +kernel
theorem d_M_readWholes_19 : decode b_M_readWholes 19 = .ok (.getfield 26, 3) := by decide +kernel
theorem d_M_readWholes_22 : decode b_M_readWholes 22 = .ok (.iload_n 3, 1) := by decide +kernel
theorem d_M_readWholes_23 : decode b_M_readWholes 23 = .ok (.aload_n 0, 1) := by decide +kernel
theorem d_M_readWholes_24 : decode b_M_readWholes 24 = .ok (.invokevirtual 316, 3) := by decide +kernel
theorem d_M_readWholes_27 : decode b_M_readWholes 27 = .ok (.lastore, 1) := by decide +kernel
theorem d_M_readWholes_28 : decode b_M_readWholes 28 = .ok (.iinc 3 1, 3) := by decide +kernel
theorem d_M_readWholes_31 : decode b_M_readWholes 31 = .ok (.goto (-25), 3) := by decide +kernel
theorem d_M_readWholes_34 : decode b_M_readWholes 34 = .ok (.goto 76, 3) := by decide +kernel
theorem d_M_readWholes_37 : decode b_M_readWholes 37 = .ok (.iload_n 1, 1) := by decide +kernel
theorem d_M_readWholes_38 : decode b_M_readWholes 38 = .ok (.iconst 1, 1) := by decide +kernel
theorem d_M_readWholes_39 : decode b_M_readWholes 39 = .ok (.if_icmp .ne 66, 3) := by decide +kernel
theorem d_M_readWholes_42 : decode b_M_readWholes 42 = .ok (.aload_n 0, 1) := by decide +kernel
theorem d_M_readWholes_43 : decode b_M_readWholes 43 = .ok (.iload_n 2, 1) := by decide +kernel
theorem d_M_readWholes_44 : decode b_M_readWholes 44 = .ok (.aload_n 0, 1) := by decide +kernel
theorem d_M_readWholes_45 : decode b_M_readWholes 45 = .ok (.getfield 153, 3) := by decide +kernel
theorem d_M_readWholes_48 : decode b_M_readWholes 48 = .ok (.invokevirtual 156, 3) := by decide +kernel
theorem d_M_readWholes_51 : decode b_M_readWholes 51 = .ok (.iconst 0, 1) := by decide +kernel
theorem d_M_readWholes_52 : decode b_M_readWholes 52 = .ok (.istore_n 3, 1) := by decide +kernel
theorem d_M_readWholes_53 : decode b_M_readWholes 53 = .ok (.iload_n 3, 1) := by decide +kernel
theorem d_M_readWholes_54 : decode b_M_readWholes 54 = .ok (.iload_n 2, 1) := by decide +kernel
theorem d_M_readWholes_55 : decode b_M_readWholes 55 = .ok (.if_icmp .ge 47, 3) := by decide +kernel
theorem d_M_readWholes_58 : decode b_M_readWholes 58 = .ok (.aload_n 0, 1) := by decide +kernel
theorem d_M_readWholes_59 : decode b_M_readWholes 59 = .ok (.getfield 91, 3) := by decide +kernel
theorem d_M_readWholes_62 : decode b_M_readWholes 62 = .ok (.ifCond .ne 40, 3) := by decide +kernel
theorem d_M_readWholes_65 : decode b_M_readWholes 65 = .ok (.aload_n 0, 1) := by decide +kernel
theorem d_M_readWholes_66 : decode b_M_readWholes 66 = .ok (.getfield 26, 3) := by decide +kernel
theorem d_M_readWholes_69 : decode b_M_readWholes 69 = .ok (.iload_n 3, 1) := by decide +kernel
theorem d_M_readWholes_70 : decode b_M_readWholes 70 = .ok (.aload_n 0, 1) := by decide +kernel
theorem d_M_readWholes_71 : decode b_M_readWholes 71 = .ok (.getfield 63, 3) := by decide +kernel
theorem d_M_readWholes_74 : decode b_M_readWholes 74 = .ok (.iload_n 3, 1) := by decide +kernel
theorem d_M_readWholes_75 : decode b_M_readWholes 75 = .ok (.laload, 1) := by decide +kernel
theorem d_M_readWholes_76 : decode b_M_readWholes 76 = .ok (.lastore, 1) := by decide +kernel
theorem d_M_readWholes_77 : decode b_M_readWholes 77 = .ok (.aload_n 0, 1) := by decide +kernel
theorem d_M_readWholes_78 : decode b_M_readWholes 78 = .ok (.aload_n 0, 1) := by decide +kernel
theorem d_M_readWholes_79 : decode b_M_readWholes 79 = .ok (.getfield 63, 3) := by decide +kernel
theorem d_M_readWholes_82 : decode b_M_readWholes 82 = .ok (.iload_n 3, 1) := by decide +kernel
theorem d_M_readWholes_83 : decode b_M_readWholes 83 = .ok (.laload, 1) := by decide +kernel
theorem d_M_readWholes_84 : decode b_M_readWholes 84 = .ok (.invokevirtual 193, 3) := by decide +kernel
theorem d_M_readWholes_87 : decode b_M_readWholes 87 = .ok (.ifCond .ne 9, 3) := by decide +kernel
theorem d_M_readWholes_90 : decode b_M_readWholes 90 = .ok (.aload_n 0, 1) := by decide +kernel
theorem d_M_readWholes_91 : decode b_M_readWholes 91 = .ok (.bipush 7, 2) := by decide +kernel
theorem d_M_readWholes_93 : decode b_M_readWholes 93 = .ok (.putfield 91, 3) := by decide +kernel
theorem d_M_readWholes_96 : decode b_M_readWholes 96 = .ok (.iinc 3 1, 3) := by decide +kernel
theorem d_M_readWholes_99 : decode b_M_readWholes 99 = .ok (.goto (-46), 3) := by decide +kernel
theorem d_M_readWholes_102 : decode b_M_readWholes 102 = .ok (.goto 8, 3) := by decide +kernel
theorem d_M_readWholes_105 : decode b_M_readWholes 105 = .ok (.aload_n 0, 1) := by decide +kernel
theorem d_M_readWholes_106 : decode b_M_readWholes 106 = .ok (.iload_n 2, 1) := by decide +kernel
theorem d_M_readWholes_107 : decode b_M_readWholes 107 = .ok (.invokevirtual 320, 3) := by decide +kernel
theorem d_M_readWholes_110 : decode b_M_readWholes 110 = .ok (.return_, 1) := by decide +kernel
theorem d_M_readWords_0 : decode b_M_readWords 0 = .ok (.aload_n 0, 1) := by decide +kernel
theorem d_M_readWords_1 : decode b_M_readWords 1 = .ok (.aload_n 0, 1) := by decide +kernel
theorem d_M_readWords_2 : decode b_M_readWords 2 = .ok (.getfield 153, 3) := by decide +kernel
theorem d_M_readWords_5 : decode b_M_readWords 5 = .ok (.invokevirtual 113, 3) := by decide +kernel
theorem d_M_readWords_8 : decode b_M_readWords 8 = .ok (.lstore_n 2, 1) := by decide +kernel
theorem d_M_readWords_9 : decode b_M_readWords 9 = .ok (.aload_n 0, 1) := by decide +kernel
theorem d_M_readWords_10 : decode b_M_readWords 10 = .ok (.getfield 91, 3) := by decide +kernel
theorem d_M_readWords_13 : decode b_M_readWords 13 = .ok (.ifCond .ne 21, 3) := by decide +kernel
theorem d_M_readWords_16 : decode b_M_readWords 16 = .ok (.lload_n 2, 1) := by decide +kernel
theorem d_M_readWords_17 : decode b_M_readWords 17 = .ok (.lconst 0, 1) := by decide +kernel
theorem d_M_readWords_18 : decode b_M_readWords 18 = .ok (.lcmp, 1) := by decide +kernel
theorem d_M_readWords_19 : decode b_M_readWords 19 = .ok (.ifCond .lt 10, 3) := by decide +kernel
