theorem d_M_writeRuns_132 : decode b_M_writeRuns 132 = .ok (.imul, 1) := by decide +kernel
theorem d_M_writeRuns_133 : decode b_M_writeRuns 133 = .ok (.iload 6, 2) := by decide +kernel
theorem d_M_writeRuns_135 : decode b_M_writeRuns 135 = .ok (.imul, 1) := by decide +kernel
theorem d_M_writeRuns_136 : decode b_M_writeRuns 136 = .ok (.if_icmp .ge 74, 3) := by decide +kernel
theorem d_M_writeRuns_139 : decode b_M_writeRuns 139 = .ok (.iconst 0, 1) := by decide +kernel
theorem d_M_writeRuns_140 : decode b_M_writeRuns 140 = .ok (.istore 8, 2) := by decide +kernel
theorem d_M_writeRuns_142 : decode b_M_writeRuns 142 = .ok (.iconst 0, 1) := by decide +kernel
theorem d_M_writeRuns_143 : decode b_M_writeRuns 143 = .ok (.istore 9, 2) := by decide +kernel
theorem d_M_writeRuns_145 : decode b_M_writeRuns 145 = .ok (.iload 9, 2) := by decide +kernel
theorem d_M_writeRuns_147 : decode b_M_writeRuns 147 = .ok (.bipush 8, 2) := by decide +kernel
theorem d_M_writeRuns_149 : decode b_M_writeRuns 149 = .ok (.if_icmp .ge 49, 3) := by decide +kernel
theorem d_M_writeRuns_152 : decode b_M_writeRuns 152 = .ok (.iload 4, 2) := by decide +kernel
theorem d_M_writeRuns_154 : decode b_M_writeRuns 154 = .ok (.iload 7, 2) := by decide +kernel
theorem d_M_writeRuns_156 : decode b_M_writeRuns 156 = .ok (.iload 9, 2) := by decide +kernel
theorem d_M_writeRuns_158 : decode b_M_writeRuns 158 = .ok (.iadd, 1) := by decide +kernel
theorem d_M_writeRuns_159 : decode b_M_writeRuns 159 = .ok (.iload_n 3, 1) := by decide +kernel
theorem d_M_writeRuns_160 : decode b_M_writeRuns 160 = .ok (.idiv, 1) := by decide +kernel
theorem d_M_writeRuns_161 : decode b_M_writeRuns 161 = .ok (.iadd, 1) := by decide +kernel
theorem d_M_writeRuns_162 : decode b_M_writeRuns 162 = .ok (.istore 10, 2) := by decide +kernel
theorem d_M_writeRuns_164 : decode b_M_writeRuns 164 = .ok (.iload 10, 2) := by decide +kernel
theorem d_M_writeRuns_166 : decode b_M_writeRuns 166 = .ok (.iload_n 2, 1) := by decide +kernel
theorem d_M_writeRuns_167 : decode b_M_writeRuns 167 = .ok (.if_icmp .ge 25, 3) := by decide +kernel
theorem d_M_writeRuns_170 : decode b_M_writeRuns 170 = .ok (.iload 8, 2) := by decide +kernel
theorem d_M_writeRuns_172 : decode b_M_writeRuns 172 = .ok (.aload_n 1, 1) := by decide +kernel
theorem d_M_writeRuns_173 : decode b_M_writeRuns 173 = .ok (.iload 10, 2) := by decide +kernel
theorem d_M_writeRuns_175 : decode b_M_writeRuns 175 = .ok (.iaload, 1) := by decide +kernel
theorem d_M_writeRuns_176 : decode b_M_writeRuns 176 = .ok (.iload 7, 2) := by decide +kernel
theorem d_M_writeRuns_178 : decode b_M_writeRuns 178 = .ok (.iload 9, 2) := by decide +kernel
theorem d_M_writeRuns_180 : decode b_M_writeRuns 180 = .ok (.iadd, 1) := by decide +kernel
theorem d_M_writeRuns_181 : decode b_M_writeRuns 181 = .ok (.iload_n 3, 1) := by decide +kernel
theorem d_M_writeRuns_182 : decode b_M_writeRuns 182 = .ok (.irem, 1) := by decide +kernel
theorem d_M_writeRuns_183 : decode b_M_writeRuns 183 = .ok (.iushr, 1) := by decide +kernel
theorem d_M_writeRuns_184 : decode b_M_writeRuns 184 = .ok (.iconst 1, 1) := by decide +kernel
theorem d_M_writeRuns_185 : decode b_M_writeRuns 185 = .ok (.iand, 1) := by decide +kernel
theorem d_M_writeRuns_186 : decode b_M_writeRuns 186 = .ok (.iload 9, 2) := by decide +kernel
theorem d_M_writeRuns_188 : decode b_M_writeRuns 188 = .ok (.ishl, 1) := by decide +kernel
theorem d_M_writeRuns_189 : decode b_M_writeRuns 189 = .ok (.ior, 1) := by decide +kernel
theorem d_M_writeRuns_190 : decode b_M_writeRuns 190 = .ok (.istore 8, 2) := by decide +kernel
theorem d_M_writeRuns_192 : decode b_M_writeRuns 192 = .ok (.iinc 9 1, 3) := by decide +kernel
theorem d_M_writeRuns_195 : decode b_M_writeRuns 195 = .ok (.goto (-50), 3) := by decide +kernel
theorem d_M_writeRuns_198 : decode b_M_writeRuns 198 = .ok (.aload_n 0, 1) := by decide +kernel
theorem d_M_writeRuns_199 : decode b_M_writeRuns 199 = .ok (.iload 8, 2) := by decide +kernel
theorem d_M_writeRuns_201 : decode b_M_writeRuns 201 = .ok (.invokevirtual 99, 3) := by decide +kernel
theorem d_M_writeRuns_204 : decode b_M_writeRuns 204 = .ok (.iinc 7 8, 3) := by decide +kernel
theorem d_M_writeRuns_207 : decode b_M_writeRuns 207 = .ok (.goto (-80), 3) := by decide +kernel
theorem d_M_writeRuns_210 : decode b_M_writeRuns 210 = .ok (.iload 4, 2) := by decide +kernel
theorem d_M_writeRuns_212 : decode b_M_writeRuns 212 = .ok (.bipush 8, 2) := by decide +kernel
theorem d_M_writeRuns_214 : decode b_M_writeRuns 214 = .ok (.iload 6, 2) := by decide +kernel
theorem d_M_writeRuns_216 : decode b_M_writeRuns 216 = .ok (.imul, 1) := by decide +kernel
theorem d_M_writeRuns_217 : decode b_M_writeRuns 217 = .ok (.iadd, 1) := by decide +kernel
theorem d_M_writeRuns_218 : decode b_M_writeRuns 218 = .ok (.istore 4, 2) := by decide +kernel
theorem d_M_writeRuns_220 : decode b_M_writeRuns 220 = .ok (.goto (-217), 3) := by decide +kernel
theorem d_M_writeRuns_223 : decode b_M_writeRuns 223 = .ok (.return_, 1) := by decide +kernel
theorem d_M_bitsAt_0 : decode b_M_bitsAt 0 = .ok (.iconst 0, 1) := by decide +kernel
theorem d_M_bitsAt_1 : decode b_M_bitsAt 1 = .ok (.istore 4, 2) := by decide +kernel
theorem d_M_bitsAt_3 : decode b_M_bitsAt 3 = .ok (.iconst 0, 1) := by decide +kernel
theorem d_M_bitsAt_4 : decode b_M_bitsAt 4 = .ok (.istore 5, 2) := by decide +kernel
theorem d_M_bitsAt_6 : decode b_M_bitsAt 6 = .ok (.iload 5, 2) := by decide +kernel
theorem d_M_bitsAt_8 : decode b_M_bitsAt 8 = .ok (.iload_n 3, 1) := by decide +kernel
theorem d_M_bitsAt_9 : decode b_M_bitsAt 9 = .ok (.if_icmp .ge 41, 3) := by decide +kernel
theorem d_M_bitsAt_12 : decode b_M_bitsAt 12 = .ok (.iload 4, 2) := by decide +kernel
theorem d_M_bitsAt_14 : decode b_M_bitsAt 14 = .ok (.aload_n 0, 1) := by decide +kernel
theorem d_M_bitsAt_15 : decode b_M_bitsAt 15 = .ok (.getfield 53, 3) := by decide +kernel
theorem d_M_bitsAt_18 : decode b_M_bitsAt 18 = .ok (.iload_n 1, 1) := by decide +kernel
theorem d_M_bitsAt_19 : decode b_M_bitsAt 19 = .ok (.iload_n 2, 1) := by decide +kernel
theorem d_M_bitsAt_20 : decode b_M_bitsAt 20 = .ok (.iload 5, 2) := by decide +kernel
theorem d_M_bitsAt_22 : decode b_M_bitsAt 22 = .ok (.iadd, 1) := by decide +kernel
theorem d_M_bitsAt_23 : decode b_M_bitsAt 23 = .ok (.bipush 8, 2) := by decide +kernel
theorem d_M_bitsAt_25 : decode b_M_bitsAt 25 = .ok (.idiv, 1) := by decide +kernel
theorem d_M_bitsAt_26 : decode b_M_bitsAt 26 = .ok (.iadd, 1) := by decide +kernel
theorem d_M_bitsAt_27 : decode b_M_bitsAt 27 = .ok (.iaload, 1) := by decide +kernel
theorem d_M_bitsAt_28 : decode b_M_bitsAt 28 = .ok (.iload_n 2, 1) := by decide +kernel
theorem d_M_bitsAt_29 : decode b_M_bitsAt 29 = .ok (.iload 5, 2) := by decide +kernel
theorem d_M_bitsAt_31 : decode b_M_bitsAt 31 = .ok (.iadd, 1) := by decide +kernel
theorem d_M_bitsAt_32 : decode b_M_bitsAt 32 = .ok (.bipush 8, 2) := by decide +kernel
theorem d_M_bitsAt_34 : decode b_M_bitsAt 34 = .ok (.irem, 1) := by decide +kernel
theorem d_M_bitsAt_35 : decode b_M_bitsAt 35 = .ok (.ishr, 1) := by decide +kernel
theorem d_M_bitsAt_36 : decode b_M_bitsAt 36 = .ok (.iconst 1, 1) := by decide +kernel
theorem d_M_bitsAt_37 : decode b_M_bitsAt 37 = .ok (.iand, 1) := by decide +kernel
theorem d_M_bitsAt_38 : decode b_M_bitsAt 38 = .ok (.iload 5, 2) := by decide +kernel
theorem d_M_bitsAt_40 : decode b_M_bitsAt 40 = .ok (.ishl, 1) := by decide +kernel
theorem d_M_bitsAt_41 : decode b_M_bitsAt 41 = .ok (.ior, 1) := by decide +kernel
theorem d_M_bitsAt_42 : decode b_M_bitsAt 42 = .ok (.istore 4, 2) := by decide +kernel
theorem d_M_bitsAt_44 : decode b_M_bitsAt 44 = .ok (.iinc 5 1, 3) := by decide +kernel
theorem d_M_bitsAt_47 : decode b_M_bitsAt 47 = .ok (.goto (-41), 3) := by decide +kernel
theorem d_M_bitsAt_50 : decode b_M_bitsAt 50 = .ok (.iload 4, 2) := by decide +kernel
theorem d_M_bitsAt_52 : decode b_M_bitsAt 52 = .ok (.ireturn, 1) := by decide +kernel
theorem d_M_readRuns_0 : decode b_M_readRuns 0 = .ok (.iconst 0, 1) := by decide +kernel
theorem d_M_readRuns_1 : decode b_M_readRuns 1 = .ok (.istore 5, 2) := by decide +kernel
theorem d_M_readRuns_3 : decode b_M_readRuns 3 = .ok (.iload 5, 2) := by decide +kernel
theorem d_M_readRuns_5 : decode b_M_readRuns 5 = .ok (.iload_n 2, 1) := by decide +kernel
theorem d_M_readRuns_6 : decode b_M_readRuns 6 = .ok (.if_icmp .ge 92, 3) := by decide +kernel
theorem d_M_readRuns_9 : decode b_M_readRuns 9 = .ok (.aload_n 0, 1) := by decide +kernel
theorem d_M_readRuns_10 : decode b_M_readRuns 10 = .ok (.getfield 91, 3) := by decide +kernel
theorem d_M_readRuns_13 : decode b_M_readRuns 13 = .ok (.ifCond .ne 85, 3) := by decide +kernel
theorem d_M_readRuns_16 : decode b_M_readRuns 16 = .ok (.aload_n 0, 1) := by decide +kernel
theorem d_M_readRuns_17 : decode b_M_readRuns 17 = .ok (.iload 4, 2) := by decide +kernel
theorem d_M_readRuns_19 : decode b_M_readRuns 19 = .ok (.invokevirtual 113, 3) := by decide +kernel
theorem d_M_readRuns_22 : decode b_M_readRuns 22 = .ok (.lstore 6, 2) := by decide +kernel
theorem d_M_readRuns_24 : decode b_M_readRuns 24 = .ok (.aload_n 0, 1) := by decide +kernel
theorem d_M_readRuns_25 : decode b_M_readRuns 25 = .ok (.getfield 91, 3) := by decide +kernel
theorem d_M_readRuns_28 : decode b_M_readRuns 28 = .ok (.ifCond .eq 4, 3) := by decide +kernel
theorem d_M_readRuns_31 : decode b_M_readRuns 31 = .ok (.return_, 1) := by decide +kernel
theorem d_M_readRuns_32 : decode b_M_readRuns 32 = .ok (.lload 6, 2) := by decide +kernel
theorem d_M_readRuns_34 : decode b_M_readRuns 34 = .ok (.iconst 1, 1) := by decide +kernel
theorem d_M_readRuns_35 : decode b_M_readRuns 35 = .ok (.lushr, 1) := by decide +kernel
theorem d_M_readRuns_36 : decode b_M_readRuns 36 = .ok (.lstore 8, 2) := by decide +kernel
theorem d_M_readRuns_38 : decode b_M_readRuns 38 = .ok (.lload 8, 2) := by decide +kernel
theorem d_M_readRuns_40 : decode b_M_readRuns 40 = .ok (.lconst 0, 1) := by decide +kernel
theorem d_M_readRuns_41 : decode b_M_readRuns 41 = .ok (.lcmp, 1) := by decide +kernel
theorem d_M_readRuns_42 : decode b_M_readRuns 42 = .ok (.ifCond .ne 11, 3) := by decide +kernel
theorem d_M_readRuns_45 : decode b_M_readRuns 45 = .ok (.aload_n 0, 1) := by decide +kernel
theorem d_M_readRuns_46 : decode b_M_readRuns 46 = .ok (.iconst 3, 1) := by decide +kernel
theorem d_M_readRuns_47 : decode b_M_readRuns 47 = .ok (.putfield 91, 3) := by decide +kernel
theorem d_M_readRuns_50 : decode b_M_readRuns 50 = .ok (.goto 45, 3) := by decide +kernel
theorem d_M_readRuns_53 : decode b_M_readRuns 53 = .ok (.lload 6, 2) := by decide +kernel
theorem d_M_readRuns_55 : decode b_M_readRuns 55 = .ok (.lconst 1, 1) := by decide +kernel
theorem d_M_readRuns_56 : decode b_M_readRuns 56 = .ok (.land, 1) := by decide +kernel
theorem d_M_readRuns_57 : decode b_M_readRuns 57 = .ok (.lconst 0, 1) := by decide +kernel
theorem d_M_readRuns_58 : decode b_M_readRuns 58 = .ok (.lcmp, 1) := by decide +kernel
theorem d_M_readRuns_59 : decode b_M_readRuns 59 = .ok (.ifCond .ne 21, 3) := by decide +kernel
theorem d_M_readRuns_62 : decode b_M_readRuns 62 = .ok (.aload_n 0, 1) := by decide +kernel
theorem d_M_readRuns_63 : decode b_M_readRuns 63 = .ok (.aload_n 1, 1) := by decide +kernel
theorem d_M_readRuns_64 : decode b_M_readRuns 64 = .ok (.iload 5, 2) := by decide +kernel
theorem d_M_readRuns_66 : decode b_M_readRuns 66 = .ok (.iload_n 2, 1) := by decide +kernel
theorem d_M_readRuns_67 : decode b_M_readRuns 67 = .ok (.iload_n 3, 1) := by decide +kernel
theorem d_M_readRuns_68 : decode b_M_readRuns 68 = .ok (.iload 4, 2) := by decide +kernel
theorem d_M_readRuns_70 : decode b_M_readRuns 70 = .ok (.lload 8, 2) := by decide +kernel
theorem d_M_readRuns_72 : decode b_M_readRuns 72 = .ok (.invokevirtual 117, 3) := by decide +kernel
theorem d_M_readRuns_75 : decode b_M_readRuns 75 = .ok (.istore 5, 2) := by decide +kernel
theorem d_M_readRuns_77 : decode b_M_readRuns 77 = .ok (.goto 18, 3) := by decide +kernel
theorem d_M_readRuns_80 : decode b_M_readRuns 80 = .ok (.aload_n 0, 1) := by decide +kernel
theorem d_M_readRuns_81 : decode b_M_readRuns 81 = .ok (.aload_n 1, 1) := by decide +kernel
theorem d_M_readRuns_82 : decode b_M_readRuns 82 = .ok (.iload 5, 2) := by decide +kernel
theorem d_M_readRuns_84 : decode b_M_readRuns 84 = .ok (.iload_n 2, 1) := by decide +kernel
theorem d_M_readRuns_85 : decode b_M_readRuns 85 = .ok (.iload_n 3, 1) := by decide +kernel
theorem d_M_readRuns_86 : decode b_M_readRuns 86 = .ok (.iload 4, 2) := by decide +kernel
theorem d_M_readRuns_88 : decode b_M_readRuns 88 = .ok (.lload 8, 2) := by decide +kernel
theorem d_M_readRuns_90 : decode b_M_readRuns 90 = .ok (.invokevirtual 121, 3) := by decide +kernel
theorem d_M_readRuns_93 : decode b_M_readRuns 93 = .ok (.istore 5, 2) := by decide +kernel
theorem d_M_readRuns_95 : decode b_M_readRuns 95 = .ok (.goto (-92), 3) := by decide +kernel
theorem d_M_readRuns_98 : decode b_M_readRuns 98 = .ok (.return_, 1) := by decide +kernel
theorem d_M_readOne_0 : decode b_M_readOne 0 = .ok (.iload 4, 2) := by decide +kernel
theorem d_M_readOne_2 : decode b_M_readOne 2 = .ok (.bipush 7, 2) := by decide +kernel
theorem d_M_readOne_4 : decode b_M_readOne 4 = .ok (.iadd, 1) := by decide +kernel
theorem d_M_readOne_5 : decode b_M_readOne 5 = .ok (.bipush 8, 2) := by decide +kernel
theorem d_M_readOne_7 : decode b_M_readOne 7 = .ok (.idiv, 1) := by decide +kernel
theorem d_M_readOne_8 : decode b_M_readOne 8 = .ok (.istore 8, 2) := by decide +kernel
theorem d_M_readOne_10 : decode b_M_readOne 10 = .ok (.lload 6, 2) := by decide +kernel
theorem d_M_readOne_12 : decode b_M_readOne 12 = .ok (.iload_n 3, 1) := by decide +kernel
theorem d_M_readOne_13 : decode b_M_readOne 13 = .ok (.iload_n 2, 1) := by decide +kernel
theorem d_M_readOne_14 : decode b_M_readOne 14 = .ok (.isub, 1) := by decide +kernel
theorem d_M_readOne_15 : decode b_M_readOne 15 = .ok (.i2l, 1) := by decide +kernel
theorem d_M_readOne_16 : decode b_M_readOne 16 = .ok (.lcmp, 1) := by decide +kernel
theorem d_M_readOne_17 : decode b_M_readOne 17 = .ok (.ifCond .le 11, 3) := by decide +kernel
theorem d_M_readOne_20 : decode b_M_readOne 20 = .ok (.aload_n 0, 1) := by decide +kernel
theorem d_M_readOne_21 : decode b_M_readOne 21 = .ok (.iconst 4, 1) := by decide +kernel
theorem d_M_readOne_22 : decode b_M_readOne 22 = .ok (.putfield 91, 3) := by decide +kernel
theorem d_M_readOne_25 : decode b_M_readOne 25 = .ok (.goto 20, 3) := by decide +kernel
theorem d_M_readOne_28 : decode b_M_readOne 28 = .ok (.iload 5, 2) := by decide +kernel
theorem d_M_readOne_30 : decode b_M_readOne 30 = .ok (.aload_n 0, 1) := by decide +kernel
theorem d_M_readOne_31 : decode b_M_readOne 31 = .ok (.getfield 94, 3) := by decide +kernel
theorem d_M_readOne_34 : decode b_M_readOne 34 = .ok (.isub, 1) := by decide +kernel
theorem d_M_readOne_35 : decode b_M_readOne 35 = .ok (.iload 8, 2) := by decide +kernel
theorem d_M_readOne_37 : decode b_M_readOne 37 = .ok (.if_icmp .ge 8, 3) := by decide +kernel
theorem d_M_readOne_40 : decode b_M_readOne 40 = .ok (.aload_n 0, 1) := by decide +kernel
theorem d_M_readOne_41 : decode b_M_readOne 41 = .ok (.iconst 1, 1) := by decide +kernel
theorem d_M_readOne_42 : decode b_M_readOne 42 = .ok (.putfield 91, 3) := by decide +kernel
theorem d_M_readOne_45 : decode b_M_readOne 45 = .ok (.aload_n 0, 1) := by decide +kernel
theorem d_M_readOne_46 : decode b_M_readOne 46 = .ok (.getfield 91, 3) := by decide +kernel
theorem d_M_readOne_49 : decode b_M_readOne 49 = .ok (.ifCond .eq 5, 3) := by decide +kernel
theorem d_M_readOne_52 : decode b_M_readOne 52 = .ok (.iload_n 2, 1) := by decide +kernel
theorem d_M_readOne_53 : decode b_M_readOne 53 = .ok (.ireturn, 1) := by decide +kernel
theorem d_M_readOne_54 : decode b_M_readOne 54 = .ok (.aload_n 0, 1) := by decide +kernel
theorem d_M_readOne_55 : decode b_M_readOne 55 = .ok (.aload_n 0, 1) := by decide +kernel
theorem d_M_readOne_56 : decode b_M_readOne 56 = .ok (.getfield 94, 3) := by decide +kernel
theorem d_M_readOne_59 : decode b_M_readOne 59 = .ok (.iconst 0, 1) := by decide +kernel
theorem d_M_readOne_60 : decode b_M_readOne 60 = .ok (.iload 4, 2) := by decide +kernel
theorem d_M_readOne_62 : decode b_M_readOne 62 = .ok (.invokevirtual 124, 3) := by decide +kernel
theorem d_M_readOne_65 : decode b_M_readOne 65 = .ok (.istore 9, 2) := by decide +kernel
theorem d_M_readOne_67 : decode b_M_readOne 67 = .ok (.iload 4, 2) := by decide +kernel
theorem d_M_readOne_69 : decode b_M_readOne 69 = .ok (.istore 10, 2) := by decide +kernel
theorem d_M_readOne_71 : decode b_M_readOne 71 = .ok (.iload 10, 2) := by decide +kernel
theorem d_M_readOne_73 : decode b_M_readOne 73 = .ok (.bipush 8, 2) := by decide +kernel
theorem d_M_readOne_75 : decode b_M_readOne 75 = .ok (.iload 8, 2) := by decide +kernel
theorem d_M_readOne_77 : decode b_M_readOne 77 = .ok (.imul, 1) := by decide +kernel
theorem d_M_readOne_78 : decode b_M_readOne 78 = .ok (.if_icmp .ge 41, 3) := by decide +kernel
theorem d_M_readOne_81 : decode b_M_readOne 81 = .ok (.aload_n 0, 1) := by decide +kernel
theorem d_M_readOne_82 : decode b_M_readOne 82 = .ok (.getfield 53, 3) := by decide +kernel
theorem d_M_readOne_85 : decode b_M_readOne 85 = .ok (.aload_n 0, 1) := by decide +kernel
theorem d_M_readOne_86 : decode b_M_readOne 86 = .ok (.getfield 94, 3) := by decide +kernel
theorem d_M_readOne_89 : decode b_M_readOne 89 = .ok (.iload 10, 2) := by decide +kernel
theorem d_M_readOne_91 : decode b_M_readOne 91 = .ok (.bipush 8, 2) := by decide +kernel
theorem d_M_readOne_93 : decode b_M_readOne 93 = .ok (.idiv, 1) := by decide +kernel
theorem d_M_readOne_94 : decode b_M_readOne 94 = .ok (.iadd, 1) := by decide +kernel
theorem d_M_readOne_95 : decode b_M_readOne 95 = .ok (.iaload, 1) := by decide +kernel
theorem d_M_readOne_96 : decode b_M_readOne 96 = .ok (.iload 10, 2) := by decide +kernel
theorem d_M_readOne_98 : decode b_M_readOne 98 = .ok (.bipush 8, 2) := by decide +kernel
theorem d_M_readOne_100 : decode b_M_readOne 100 = .ok (.irem, 1) := by decide +kernel
theorem d_M_readOne_101 : decode b_M_readOne 101 = .ok (.ishr, 1) := by decide +kernel
theorem d_M_readOne_102 : decode b_M_readOne 102 = .ok (.iconst 1, 1) := by decide +kernel
theorem d_M_readOne_103 : decode b_M_readOne 103 = .ok (.iand, 1) := by decide +kernel
theorem d_M_readOne_104 : decode b_M_readOne 104 = .ok (.iconst 1, 1) := by decide +kernel
theorem d_M_readOne_105 : decode b_M_readOne 105 = .ok (.if_icmp .ne 8, 3) := by decide +kernel
theorem d_M_readOne_108 : decode b_M_readOne 108 = .ok (.aload_n 0, 1) := by decide +kernel
theorem d_M_readOne_109 : decode b_M_readOne 109 = .ok (.iconst 5, 1) := by decide +kernel
theorem d_M_readOne_110 : decode b_M_readOne 110 = .ok (.putfield 91, 3) := by decide +kernel
theorem d_M_readOne_113 : decode b_M_readOne 113 = .ok (.iinc 10 1, 3) := by decide +kernel
theorem d_M_readOne_116 : decode b_M_readOne 116 = .ok (.goto (-45), 3) := by decide +kernel
theorem d_M_readOne_119 : decode b_M_readOne 119 = .ok (.aload_n 0, 1) := by decide +kernel
theorem d_M_readOne_120 : decode b_M_readOne 120 = .ok (.dup, 1) := by decide +kernel
theorem d_M_readOne_121 : decode b_M_readOne 121 = .ok (.getfield 94, 3) := by decide +kernel
theorem d_M_readOne_124 : decode b_M_readOne 124 = .ok (.iload 8, 2) := by decide +kernel
theorem d_M_readOne_126 : decode b_M_readOne 126 = .ok (.iadd, 1) := by decide +kernel
theorem d_M_readOne_127 : decode b_M_readOne 127 = .ok (.putfield 94, 3) := by decide +kernel
theorem d_M_readOne_130 : decode b_M_readOne 130 = .ok (.iconst 0, 1) := by decide +kernel
theorem d_M_readOne_131 : decode b_M_readOne 131 = .ok (.istore 10, 2) := by decide +kernel
theorem d_M_readOne_133 : decode b_M_readOne 133 = .ok (.iload 10, 2) := by decide +kernel
theorem d_M_readOne_135 : decode b_M_readOne 135 = .ok (.i2l, 1) := by decide +kernel
theorem d_M_readOne_136 : decode b_M_readOne 136 = .ok (.lload 6, 2) := by decide +kernel
theorem d_M_readOne_138 : decode b_M_readOne 138 = .ok (.lcmp, 1) := by decide +kernel
theorem d_M_readOne_139 : decode b_M_readOne 139 = .ok (.ifCond .ge 17, 3) := by decide +kernel
theorem d_M_readOne_142 : decode b_M_readOne 142 = .ok (.aload_n 1, 1) := by decide +kernel
theorem d_M_readOne_143 : decode b_M_readOne 143 = .ok (.iload_n 2, 1) := by decide +kernel
theorem d_M_readOne_144 : decode b_M_readOne 144 = .ok (.iload 10, 2) := by decide +kernel
theorem d_M_readOne_146 : decode b_M_readOne 146 = .ok (.iadd, 1) := by decide +kernel
theorem d_M_readOne_147 : decode b_M_readOne 147 = .ok (.iload 9, 2) := by decide +kernel
theorem d_M_readOne_149 : decode b_M_readOne 149 = .ok (.iastore, 1) := by decide +kernel
theorem d_M_readOne_150 : decode b_M_readOne 150 = .ok (.iinc 10 1, 3) := by decide +kernel
theorem d_M_readOne_153 : decode b_M_readOne 153 = .ok (.goto (-20), 3) := by decide +kernel
theorem d_M_readOne_156 : decode b_M_readOne 156 = .ok (.iload_n 2, 1) := by decide +kernel
theorem d_M_readOne_157 : decode b_M_readOne 157 = .ok (.lload 6, 2) := by decide +kernel
theorem d_M_readOne_159 : decode b_M_readOne 159 = .ok (.l2i, 1) := by decide +kernel
theorem d_M_readOne_160 : decode b_M_readOne 160 = .ok (.iadd, 1) := by decide +kernel
theorem d_M_readOne_161 : decode b_M_readOne 161 = .ok (.ireturn, 1) := by decide +kernel
theorem d_M_readGroups_0 : decode b_M_readGroups 0 = .ok (.lload 6, 2) := by decide +kernel
theorem d_M_readGroups_2 : decode b_M_readGroups 2 = .ok (.iload_n 3, 1) := by decide +kernel
theorem d_M_readGroups_3 : decode b_M_readGroups 3 = .ok (.iload_n 2, 1) := by decide +kernel
theorem d_M_readGroups_4 : decode b_M_readGroups 4 = .ok (.isub, 1) := by decide +kernel
theorem d_M_readGroups_5 : decode b_M_readGroups 5 = .ok (.bipush 7, 2) := by decide +kernel
theorem d_M_readGroups_7 : decode b_M_readGroups 7 = .ok (.iadd, 1) := by decide +kernel
theorem d_M_readGroups_8 : decode b_M_readGroups 8 = .ok (.bipush 8, 2) := by decide +kernel
theorem d_M_readGroups_10 : decode b_M_readGroups 10 = .ok (.idiv, 1) := by decide +kernel
theorem d_M_readGroups_11 : decode b_M_readGroups 11 = .ok (.i2l, 1) := by decide +kernel
theorem d_M_readGroups_12 : decode b_M_readGroups 12 = .ok (.lcmp, 1) := by decide +kernel
theorem d_M_readGroups_13 : decode b_M_readGroups 13 = .ok (.ifCond .le 11, 3) := by decide +kernel
theorem d_M_readGroups_16 : decode b_M_readGroups 16 = .ok (.aload_n 0, 1) := by decide +kernel
theorem d_M_readGroups_17 : decode b_M_readGroups 17 = .ok (.iconst 4, 1) := by decide +kernel
theorem d_M_readGroups_18 : decode b_M_readGroups 18 = .ok (.putfield 91, 3) := by decide +kernel
theorem d_M_readGroups_21 : decode b_M_readGroups 21 = .ok (.goto 26, 3) := by decide +kernel
theorem d_M_readGroups_24 : decode b_M_readGroups 24 = .ok (.iload 5, 2) := by decide +kernel
theorem d_M_readGroups_26 : decode b_M_readGroups 26 = .ok (.aload_n 0, 1) := by decide +kernel
theorem d_M_readGroups_27 : decode b_M_readGroups 27 = .ok (.getfield 94, 3) := by decide +kernel
theorem d_M_readGroups_30 : decode b_M_readGroups 30 = .ok (.isub, 1) := by decide +kernel
theorem d_M_readGroups_31 : decode b_M_readGroups 31 = .ok (.i2l, 1) := by decide +kernel
theorem d_M_readGroups_32 : decode b_M_readGroups 32 = .ok (.lload 6, 2) := by decide +kernel
theorem d_M_readGroups_34 : decode b_M_readGroups 34 = .ok (.iload 4, 2) := by decide +kernel
theorem d_M_readGroups_36 : decode b_M_readGroups 36 = .ok (.i2l, 1) := by decide +kernel
theorem d_M_readGroups_37 : decode b_M_readGroups 37 = .ok (.lmul, 1) := by decide +kernel
theorem d_M_readGroups_38 : decode b_M_readGroups 38 = .ok (.lcmp, 1) := by decide +kernel
theorem d_M_readGroups_39 : decode b_M_readGroups 39 = .ok (.ifCond .ge 8, 3) := by decide +kernel
theorem d_M_readGroups_42 : decode b_M_readGroups 42 = .ok (.aload_n 0, 1) := by decide +kernel
theorem d_M_readGroups_43 : decode b_M_readGroups 43 = .ok (.iconst 1, 1) := by decide +kernel
theorem d_M_readGroups_44 : decode b_M_readGroups 44 = .ok (.putfield 91, 3) := by decide +kernel
theorem d_M_readGroups_47 : decode b_M_readGroups 47 = .ok (.aload_n 0, 1) := by decide +kernel
theorem d_M_readGroups_48 : decode b_M_readGroups 48 = .ok (.getfield 91, 3) := by decide +kernel
theorem d_M_readGroups_51 : decode b_M_readGroups 51 = .ok (.ifCond .eq 5, 3) := by decide +kernel
theorem d_M_readGroups_54 : decode b_M_readGroups 54 = .ok (.iload_n 2, 1) := by decide +kernel
theorem d_M_readGroups_55 : decode b_M_readGroups 55 = .ok (.ireturn, 1) := by decide +kernel
theorem d_M_readGroups_56 : decode b_M_readGroups 56 = .ok (.iconst 0, 1) := by decide +kernel
theorem d_M_readGroups_57 : decode b_M_readGroups 57 = .ok (.istore 8, 2) := by decide +kernel
theorem d_M_readGroups_59 : decode b_M_readGroups 59 = .ok (.iload 8, 2) := by decide +kernel
theorem d_M_readGroups_61 : decode b_M_readGroups 61 = .ok (.i2l, 1) := by decide +kernel
theorem d_M_readGroups_62 : decode b_M_readGroups 62 = .ok (.ldc2_w 128, 3) := by decide +kernel
theorem d_M_readGroups_65 : decode b_M_readGroups 65 = .ok (.lload 6, 2) := by decide +kernel
theorem d_M_readGroups_67 : decode b_M_readGroups 67 = .ok (.lmul, 1) := by decide +kernel
theorem d_M_readGroups_68 : decode b_M_readGroups 68 = .ok (.lcmp, 1) := by decide +kernel
theorem d_M_readGroups_69 : decode b_M_readGroups 69 = .ok (.ifCond .ge 55, 3) := by decide +kernel
theorem d_M_readGroups_72 : decode b_M_readGroups 72 = .ok (.aload_n 0, 1) := by decide +kernel
theorem d_M_readGroups_73 : decode b_M_readGroups 73 = .ok (.aload_n 0, 1) := by decide +kernel
theorem d_M_readGroups_74 : decode b_M_readGroups 74 = .ok (.getfield 94, 3) := by decide +kernel
theorem d_M_readGroups_77 : decode b_M_readGroups 77 = .ok (.iload 4, 2) := by decide +kernel
theorem d_M_readGroups_79 : decode b_M_readGroups 79 = .ok (.iload 8, 2) := by decide +kernel
theorem d_M_readGroups_81 : decode b_M_readGroups 81 = .ok (.imul, 1) := by decide +kernel
theorem d_M_readGroups_82 : decode b_M_readGroups 82 = .ok (.iload 4, 2) := by decide +kernel
theorem d_M_readGroups_84 : decode b_M_readGroups 84 = .ok (.invokevirtual 124, 3) := by decide +kernel
theorem d_M_readGroups_87 : decode b_M_readGroups 87 = .ok (.istore 9, 2) := by decide +kernel
theorem d_M_readGroups_89 : decode b_M_readGroups 89 = .ok (.iload_n 2, 1) := by decide +kernel
theorem d_M_readGroups_90 : decode b_M_readGroups 90 = .ok (.iload 8, 2) := by decide +kernel
theorem d_M_readGroups_92 : decode b_M_readGroups 92 = .ok (.iadd, 1) := by decide +kernel
theorem d_M_readGroups_93 : decode b_M_readGroups 93 = .ok (.iload_n 3, 1) := by decide +kernel
theorem d_M_readGroups_94 : decode b_M_readGroups 94 = .ok (.if_icmp .ge 14, 3) := by decide +kernel
theorem d_M_readGroups_97 : decode b_M_readGroups 97 = .ok (.aload_n 1, 1) := by decide +kernel
theorem d_M_readGroups_98 : decode b_M_readGroups 98 = .ok (.iload_n 2, 1) := by decide +kernel
theorem d_M_readGroups_99 : decode b_M_readGroups 99 = .ok (.iload 8, 2) := by decide +kernel
theorem d_M_readGroups_101 : decode b_M_readGroups 101 = .ok (.iadd, 1) := by decide +kernel
theorem d_M_readGroups_102 : decode b_M_readGroups 102 = .ok (.iload 9, 2) := by decide +kernel
theorem d_M_readGroups_104 : decode b_M_readGroups 104 = .ok (.iastore, 1) := by decide +kernel
theorem d_M_readGroups_105 : decode b_M_readGroups 105 = .ok (.goto 13, 3) := by decide +kernel
theorem d_M_readGroups_108 : decode b_M_readGroups 108 = .ok (.iload 9, 2) := by decide +kernel
theorem d_M_readGroups_110 : decode b_M_readGroups 110 = .ok (.ifCond .eq 8, 3) := by decide +kernel
theorem d_M_readGroups_113 : decode b_M_readGroups 113 = .ok (.aload_n 0, 1) := by decide +kernel
theorem d_M_readGroups_114 : decode b_M_readGroups 114 = .ok (.iconst 5, 1) := by decide +kernel
theorem d_M_readGroups_115 : decode b_M_readGroups 115 = .ok (.putfield 91, 3) := by decide +kernel
theorem d_M_readGroups_118 : decode b_M_readGroups 118 = .ok (.iinc 8 1, 3) := by decide +kernel
theorem d_M_readGroups_121 : decode b_M_readGroups 121 = .ok (.goto (-62), 3) := by decide +kernel
theorem d_M_readGroups_124 : decode b_M_readGroups 124 = .ok (.aload_n 0, 1) := by decide +kernel
theorem d_M_readGroups_125 : decode b_M_readGroups 125 = .ok (.dup, 1) := by decide +kernel
theorem d_M_readGroups_126 : decode b_M_readGroups 126 = .ok (.getfield 94, 3) := by decide +kernel
theorem d_M_readGroups_129 : decode b_M_readGroups 129 = .ok (.lload 6, 2) := by decide +kernel
theorem d_M_readGroups_131 : decode b_M_readGroups 131 = .ok (.l2i, 1) := by decide +kernel
theorem d_M_readGroups_132 : decode b_M_readGroups 132 = .ok (.iload 4, 2) := by decide +kernel
theorem d_M_readGroups_134 : decode b_M_readGroups 134 = .ok (.imul, 1) := by decide +kernel
theorem d_M_readGroups_135 : decode b_M_readGroups 135 = .ok (.iadd, 1) := by decide +kernel
theorem d_M_readGroups_136 : decode b_M_readGroups 136 = .ok (.putfield 94, 3) := by decide +kernel
theorem d_M_readGroups_139 : decode b_M_readGroups 139 = .ok (.iload_n 2, 1) := by decide +kernel
theorem d_M_readGroups_140 : decode b_M_readGroups 140 = .ok (.bipush 8, 2) := by decide +kernel
theorem d_M_readGroups_142 : decode b_M_readGroups 142 = .ok (.lload 6, 2) := by decide +kernel
theorem d_M_readGroups_144 : decode b_M_readGroups 144 = .ok (.l2i, 1) := by decide +kernel
theorem d_M_readGroups_145 : decode b_M_readGroups 145 = .ok (.imul, 1) := by decide +kernel
theorem d_M_readGroups_146 : decode b_M_readGroups 146 = .ok (.iadd, 1) := by decide +kernel
theorem d_M_readGroups_147 : decode b_M_readGroups 147 = .ok (.ireturn, 1) := by decide +kernel
theorem d_M_zigzag_0 : decode b_M_zigzag 0 = .ok (.lload_n 0, 1) := by decide +kernel
theorem d_M_zigzag_1 : decode b_M_zigzag 1 = .ok (.lconst 0, 1) := by decide +kernel
theorem d_M_zigzag_2 : decode b_M_zigzag 2 = .ok (.lcmp, 1) := by decide +kernel
theorem d_M_zigzag_3 : decode b_M_zigzag 3 = .ok (.ifCond .ge 13, 3) := by decide +kernel
theorem d_M_zigzag_6 : decode b_M_zigzag 6 = .ok (.ldc2_w 130, 3) := by decide +kernel
theorem d_M_zigzag_9 : decode b_M_zigzag 9 = .ok (.lload_n 0, 1) := by decide +kernel
theorem d_M_zigzag_10 : decode b_M_zigzag 10 = .ok (.lmul, 1) := by decide +kernel
theorem d_M_zigzag_11 : decode b_M_zigzag 11 = .ok (.lconst 1, 1) := by decide +kernel
theorem d_M_zigzag_12 : decode b_M_zigzag 12 = .ok (.lsub, 1) := by decide +kernel
theorem d_M_zigzag_13 : decode b_M_zigzag 13 = .ok (.goto 8, 3) := by decide +kernel
theorem d_M_zigzag_16 : decode b_M_zigzag 16 = .ok (.ldc2_w 107, 3) := by decide +kernel
theorem d_M_zigzag_19 : decode b_M_zigzag 19 = .ok (.lload_n 0, 1) := by decide +kernel
theorem d_M_zigzag_20 : decode b_M_zigzag 20 = .ok (.lmul, 1) := by decide +kernel
theorem d_M_zigzag_21 : decode b_M_zigzag 21 = .ok (.lreturn, 1) := by decide +kernel
theorem d_M_unzigzag_0 : decode b_M_unzigzag 0 = .ok (.lload_n 0, 1) := by decide +kernel
theorem d_M_unzigzag_1 : decode b_M_unzigzag 1 = .ok (.lconst 1, 1) := by decide +kernel
theorem d_M_unzigzag_2 : decode b_M_unzigzag 2 = .ok (.land, 1) := by decide +kernel
theorem d_M_unzigzag_3 : decode b_M_unzigzag 3 = .ok (.lconst 0, 1) := by decide +kernel
theorem d_M_unzigzag_4 : decode b_M_unzigzag 4 = .ok (.lcmp, 1) := by decide +kernel
theorem d_M_unzigzag_5 : decode b_M_unzigzag 5 = .ok (.ifCond .ne 9, 3) := by decide +kernel
theorem d_M_unzigzag_8 : decode b_M_unzigzag 8 = .ok (.lload_n 0, 1) := by decide +kernel
theorem d_M_unzigzag_9 : decode b_M_unzigzag 9 = .ok (.iconst 1, 1) := by decide +kernel
theorem d_M_unzigzag_10 : decode b_M_unzigzag 10 = .ok (.lushr, 1) := by decide +kernel
theorem d_M_unzigzag_11 : decode b_M_unzigzag 11 = .ok (.goto 9, 3) := by decide +kernel
theorem d_M_unzigzag_14 : decode b_M_unzigzag 14 = .ok (.lload_n 0, 1) := by decide +kernel
theorem d_M_unzigzag_15 : decode b_M_unzigzag 15 = .ok (.iconst 1, 1) := by decide +kernel
theorem d_M_unzigzag_16 : decode b_M_unzigzag 16 = .ok (.lushr, 1) := by decide +kernel
theorem d_M_unzigzag_17 : decode b_M_unzigzag 17 = .ok (.lneg, 1) := by decide +kernel
theorem d_M_unzigzag_18 : decode b_M_unzigzag 18 = .ok (.lconst 1, 1) := by decide +kernel
theorem d_M_unzigzag_19 : decode b_M_unzigzag 19 = .ok (.lsub, 1) := by decide +kernel
theorem d_M_unzigzag_20 : decode b_M_unzigzag 20 = .ok (.lreturn, 1) := by decide +kernel
theorem d_M_writeCode_0 : decode b_M_writeCode 0 = .ok (.aload_n 0, 1) := by decide +kernel
theorem d_M_writeCode_1 : decode b_M_writeCode 1 = .ok (.getfield 88, 3) := by decide +kernel
theorem d_M_writeCode_4 : decode b_M_writeCode 4 = .ok (.istore_n 1, 1) := by decide +kernel
theorem d_M_writeCode_5 : decode b_M_writeCode 5 = .ok (.aload_n 0, 1) := by decide +kernel
theorem d_M_writeCode_6 : decode b_M_writeCode 6 = .ok (.invokevirtual 132, 3) := by decide +kernel
theorem d_M_writeCode_9 : decode b_M_writeCode 9 = .ok (.aload_n 0, 1) := by decide +kernel
theorem d_M_writeCode_10 : decode b_M_writeCode 10 = .ok (.getfield 88, 3) := by decide +kernel
theorem d_M_writeCode_13 : decode b_M_writeCode 13 = .ok (.iload_n 1, 1) := by decide +kernel
theorem d_M_writeCode_14 : decode b_M_writeCode 14 = .ok (.isub, 1) := by decide +kernel
theorem d_M_writeCode_15 : decode b_M_writeCode 15 = .ok (.istore_n 2, 1) := by decide +kernel
theorem d_M_writeCode_16 : decode b_M_writeCode 16 = .ok (.aload_n 0, 1) := by decide +kernel
theorem d_M_writeCode_17 : decode b_M_writeCode 17 = .ok (.iload_n 1, 1) := by decide +kernel
theorem d_M_writeCode_18 : decode b_M_writeCode 18 = .ok (.putfield 88, 3) := by decide +kernel
theorem d_M_writeCode_21 : decode b_M_writeCode 21 = .ok (.aload_n 0, 1) := by decide +kernel
theorem d_M_writeCode_22 : decode b_M_writeCode 22 = .ok (.iload_n 2, 1) := by decide +kernel
theorem d_M_writeCode_23 : decode b_M_writeCode 23 = .ok (.i2l, 1) := by decide +kernel
theorem d_M_writeCode_24 : decode b_M_writeCode 24 = .ok (.invokevirtual 109, 3) := by decide +kernel
theorem d_M_writeCode_27 : decode b_M_writeCode 27 = .ok (.aload_n 0, 1) := by decide +kernel
theorem d_M_writeCode_28 : decode b_M_writeCode 28 = .ok (.invokevirtual 132, 3) := by decide +kernel
theorem d_M_writeCode_31 : decode b_M_writeCode 31 = .ok (.return_, 1) := by decide +kernel
theorem d_M_difference_0 : decode b_M_difference 0 = .ok (.aload_n 0, 1) := by decide +kernel
theorem d_M_difference_1 : decode b_M_difference 1 = .ok (.getfield 63, 3) := by decide +kernel
theorem d_M_difference_4 : decode b_M_difference 4 = .ok (.iload_n 1, 1) := by decide +kernel
theorem d_M_difference_5 : decode b_M_difference 5 = .ok (.iconst 1, 1) := by decide +kernel
theorem d_M_difference_6 : decode b_M_difference 6 = .ok (.iadd, 1) := by decide +kernel
theorem d_M_difference_7 : decode b_M_difference 7 = .ok (.laload, 1) := by decide +kernel
theorem d_M_difference_8 : decode b_M_difference 8 = .ok (.aload_n 0, 1) := by decide +kernel
theorem d_M_difference_9 : decode b_M_difference 9 = .ok (.getfield 63, 3) := by decide +kernel
theorem d_M_difference_12 : decode b_M_difference 12 = .ok (.iload_n 1, 1) := by decide +kernel
theorem d_M_difference_13 : decode b_M_difference 13 = .ok (.laload, 1) := by decide +kernel
theorem d_M_difference_14 : decode b_M_difference 14 = .ok (.lsub, 1) := by decide +kernel
theorem d_M_difference_15 : decode b_M_difference 15 = .ok (.lreturn, 1) := by decide +kernel
theorem d_M_writeLongs_0 : decode b_M_writeLongs 0 = .ok (.aload_n 0, 1) := by decide +kernel
theorem d_M_writeLongs_1 : decode b_M_writeLongs 1 = .ok (.aload_n 0, 1) := by decide +kernel
theorem d_M_writeLongs_2 : decode b_M_writeLongs 2 = .ok (.getfield 135, 3) := by decide +kernel
theorem d_M_writeLongs_5 : decode b_M_writeLongs 5 = .ok (.i2l, 1) := by decide +kernel
theorem d_M_writeLongs_6 : decode b_M_writeLongs 6 = .ok (.invokevirtual 109, 3) := by decide +kernel
theorem d_M_writeLongs_9 : decode b_M_writeLongs 9 = .ok (.aload_n 0, 1) := by decide +kernel
theorem d_M_writeLongs_10 : decode b_M_writeLongs 10 = .ok (.getfield 135, 3) := by decide +kernel
theorem d_M_writeLongs_13 : decode b_M_writeLongs 13 = .ok (.ifCond .le 16, 3) := by decide +kernel
theorem d_M_writeLongs_16 : decode b_M_writeLongs 16 = .ok (.aload_n 0, 1) := by decide +kernel
theorem d_M_writeLongs_17 : decode b_M_writeLongs 17 = .ok (.aload_n 0, 1) := by decide +kernel
theorem d_M_writeLongs_18 : decode b_M_writeLongs 18 = .ok (.getfield 63, 3) := by decide +kernel
theorem d_M_writeLongs_21 : decode b_M_writeLongs 21 = .ok (.iconst 0, 1) := by decide +kernel
theorem d_M_writeLongs_22 : decode b_M_writeLongs 22 = .ok (.laload, 1) := by decide +kernel
theorem d_M_writeLongs_23 : decode b_M_writeLongs 23 = .ok (.invokestatic 138, 3) := by decide +kernel
theorem d_M_writeLongs_26 : decode b_M_writeLongs 26 = .ok (.invokevirtual 109, 3) := by decide +kernel
theorem d_M_writeLongs_29 : decode b_M_writeLongs 29 = .ok (.iconst 0, 1) := by decide +kernel
theorem d_M_writeLongs_30 : decode b_M_writeLongs 30 = .ok (.istore_n 1, 1) := by decide +kernel
theorem d_M_writeLongs_31 : decode b_M_writeLongs 31 = .ok (.iload_n 1, 1) := by decide +kernel
theorem d_M_writeLongs_32 : decode b_M_writeLongs 32 = .ok (.aload_n 0, 1) := by decide +kernel
theorem d_M_writeLongs_33 : decode b_M_writeLongs 33 = .ok (.getfield 135, 3) := by decide +kernel
theorem d_M_writeLongs_36 : decode b_M_writeLongs 36 = .ok (.iconst 1, 1) := by decide +kernel
theorem d_M_writeLongs_37 : decode b_M_writeLongs 37 = .ok (.isub, 1) := by decide +kernel
theorem d_M_writeLongs_38 : decode b_M_writeLongs 38 = .ok (.if_icmp .ge 148, 3) := by decide +kernel
theorem d_M_writeLongs_41 : decode b_M_writeLongs 41 = .ok (.iload_n 1, 1) := by decide +kernel
theorem d_M_writeLongs_42 : decode b_M_writeLongs 42 = .ok (.bipush 64, 2) := by decide +kernel
theorem d_M_writeLongs_44 : decode b_M_writeLongs 44 = .ok (.iadd, 1) := by decide +kernel
theorem d_M_writeLongs_45 : decode b_M_writeLongs 45 = .ok (.aload_n 0, 1) := by decide +kernel
theorem d_M_writeLongs_46 : decode b_M_writeLongs 46 = .ok (.getfield 135, 3) := by decide +kernel
theorem d_M_writeLongs_49 : decode b_M_writeLongs 49 = .ok (.iconst 1, 1) := by decide +kernel
theorem d_M_writeLongs_50 : decode b_M_writeLongs 50 = .ok (.isub, 1) := by decide +kernel
theorem d_M_writeLongs_51 : decode b_M_writeLongs 51 = .ok (.if_icmp .ge 10, 3) := by decide +kernel
theorem d_M_writeLongs_54 : decode b_M_writeLongs 54 = .ok (.iload_n 1, 1) := by decide +kernel
theorem d_M_writeLongs_55 : decode b_M_writeLongs 55 = .ok (.bipush 64, 2) := by decide +kernel
theorem d_M_writeLongs_57 : decode b_M_writeLongs 57 = .ok (.iadd, 1) := by decide +kernel
theorem d_M_writeLongs_58 : decode b_M_writeLongs 58 = .ok (.goto 9, 3) := by decide +kernel
theorem d_M_writeLongs_61 : decode b_M_writeLongs 61 = .ok (.aload_n 0, 1) := by decide +kernel
theorem d_M_writeLongs_62 : decode b_M_writeLongs 62 = .ok (.getfield 135, 3) := by decide +kernel
theorem d_M_writeLongs_65 : decode b_M_writeLongs 65 = .ok (.iconst 1, 1) := by decide +kernel
theorem d_M_writeLongs_66 : decode b_M_writeLongs 66 = .ok (.isub, 1) := by decide +kernel
theorem d_M_writeLongs_67 : decode b_M_writeLongs 67 = .ok (.istore_n 2, 1) := by decide +kernel
theorem d_M_writeLongs_68 : decode b_M_writeLongs 68 = .ok (.aload_n 0, 1) := by decide +kernel
theorem d_M_writeLongs_69 : decode b_M_writeLongs 69 = .ok (.iload_n 1, 1) := by decide +kernel
theorem d_M_writeLongs_70 : decode b_M_writeLongs 70 = .ok (.invokevirtual 142, 3) := by decide +kernel
theorem d_M_writeLongs_73 : decode b_M_writeLongs 73 = .ok (.lstore_n 3, 1) := by decide +kernel
theorem d_M_writeLongs_74 : decode b_M_writeLongs 74 = .ok (.iload_n 1, 1) := by decide +kernel
theorem d_M_writeLongs_75 : decode b_M_writeLongs 75 = .ok (.istore 5, 2) := by decide +kernel
theorem d_M_writeLongs_77 : decode b_M_writeLongs 77 = .ok (.iload 5, 2) := by decide +kernel
theorem d_M_writeLongs_79 : decode b_M_writeLongs 79 = .ok (.iload_n 2, 1) := by decide +kernel
theorem d_M_writeLongs_80 : decode b_M_writeLongs 80 = .ok (.if_icmp .ge 31, 3) := by decide +kernel
theorem d_M_writeLongs_83 : decode b_M_writeLongs 83 = .ok (.aload_n 0, 1) := by decide +kernel
theorem d_M_writeLongs_84 : decode b_M_writeLongs 84 = .ok (.iload 5, 2) := by decide +kernel
theorem d_M_writeLongs_86 : decode b_M_writeLongs 86 = .ok (.invokevirtual 142, 3) := by decide +kernel
theorem d_M_writeLongs_89 : decode b_M_writeLongs 89 = .ok (.lload_n 3, 1) := by decide +kernel
theorem d_M_writeLongs_90 : decode b_M_writeLongs 90 = .ok (.lcmp, 1) := by decide +kernel
theorem d_M_writeLongs_91 : decode b_M_writeLongs 91 = .ok (.ifCond .ge 12, 3) := by decide +kernel
theorem d_M_writeLongs_94 : decode b_M_writeLongs 94 = .ok (.aload_n 0, 1) := by decide +kernel
theorem d_M_writeLongs_95 : decode b_M_writeLongs 95 = .ok (.iload 5, 2) := by decide +kernel
theorem d_M_writeLongs_97 : decode b_M_writeLongs 97 = .ok (.invokevirtual 142, 3) := by decide +kernel
theorem d_M_writeLongs_100 : decode b_M_writeLongs 100 = .ok (.goto 4, 3) := by decide +kernel
theorem d_M_writeLongs_103 : decode b_M_writeLongs 103 = .ok (.lload_n 3, 1) := by decide +kernel
theorem d_M_writeLongs_104 : decode b_M_writeLongs 104 = .ok (.lstore_n 3, 1) := by decide +kernel
theorem d_M_writeLongs_105 : decode b_M_writeLongs 105 = .ok (.iinc 5 1, 3) := by decide +kernel
theorem d_M_writeLongs_108 : decode b_M_writeLongs 108 = .ok (.goto (-31), 3) := by decide +kernel
theorem d_M_writeLongs_111 : decode b_M_writeLongs 111 = .ok (.aload_n 0, 1) := by decide +kernel
theorem d_M_writeLongs_112 : decode b_M_writeLongs 112 = .ok (.lload_n 3, 1) := by decide +kernel
theorem d_M_writeLongs_113 : decode b_M_writeLongs 113 = .ok (.invokestatic 138, 3) := by decide +kernel
theorem d_M_writeLongs_116 : decode b_M_writeLongs 116 = .ok (.invokevirtual 109, 3) := by decide +kernel
theorem d_M_writeLongs_119 : decode b_M_writeLongs 119 = .ok (.iload_n 1, 1) := by decide +kernel
theorem d_M_writeLongs_120 : decode b_M_writeLongs 120 = .ok (.istore 5, 2) := by decide +kernel
theorem d_M_writeLongs_122 : decode b_M_writeLongs 122 = .ok (.iload 5, 2) := by decide +kernel
theorem d_M_writeLongs_124 : decode b_M_writeLongs 124 = .ok (.iload_n 1, 1) := by decide +kernel
theorem d_M_writeLongs_125 : decode b_M_writeLongs 125 = .ok (.bipush 64, 2) := by decide +kernel
theorem d_M_writeLongs_127 : decode b_M_writeLongs 127 = .ok (.iadd, 1) := by decide +kernel
theorem d_M_writeLongs_128 : decode b_M_writeLongs 128 = .ok (.if_icmp .ge 21, 3) := by decide +kernel
theorem d_M_writeLongs_131 : decode b_M_writeLongs 131 = .ok (.aload_n 0, 1) := by decide +kernel
theorem d_M_writeLongs_132 : decode b_M_writeLongs 132 = .ok (.aload_n 0, 1) := by decide +kernel
theorem d_M_writeLongs_133 : decode b_M_writeLongs 133 = .ok (.iload 5, 2) := by decide +kernel
theorem d_M_writeLongs_135 : decode b_M_writeLongs 135 = .ok (.iload_n 2, 1) := by decide +kernel
theorem d_M_writeLongs_136 : decode b_M_writeLongs 136 = .ok (.lload_n 3, 1) := by decide +kernel
theorem d_M_writeLongs_137 : decode b_M_writeLongs 137 = .ok (.invokevirtual 145, 3) := by decide +kernel
theorem d_M_writeLongs_140 : decode b_M_writeLongs 140 = .ok (.invokevirtual 99, 3) := by decide +kernel
theorem d_M_writeLongs_143 : decode b_M_writeLongs 143 = .ok (.iinc 5 16, 3) := by decide +kernel
theorem d_M_writeLongs_146 : decode b_M_writeLongs 146 = .ok (.goto (-24), 3) := by decide +kernel
theorem d_M_writeLongs_149 : decode b_M_writeLongs 149 = .ok (.iload_n 1, 1) := by decide +kernel
theorem d_M_writeLongs_150 : decode b_M_writeLongs 150 = .ok (.istore 5, 2) := by decide +kernel
theorem d_M_writeLongs_152 : decode b_M_writeLongs 152 = .ok (.iload 5, 2) := by decide +kernel
theorem d_M_writeLongs_154 : decode b_M_writeLongs 154 = .ok (.iload_n 2, 1) := by decide +kernel
theorem d_M_writeLongs_155 : decode b_M_writeLongs 155 = .ok (.if_icmp .ge 25, 3) := by decide +kernel
theorem d_M_writeLongs_158 : decode b_M_writeLongs 158 = .ok (.aload_n 0, 1) := by decide +kernel
theorem d_M_writeLongs_159 : decode b_M_writeLongs 159 = .ok (.iload 5, 2) := by decide +kernel
theorem d_M_writeLongs_161 : decode b_M_writeLongs 161 = .ok (.iload_n 2, 1) := by decide +kernel
theorem d_M_writeLongs_162 : decode b_M_writeLongs 162 = .ok (.lload_n 3, 1) := by decide +kernel
theorem d_M_writeLongs_163 : decode b_M_writeLongs 163 = .ok (.aload_n 0, 1) := by decide +kernel
theorem d_M_writeLongs_164 : decode b_M_writeLongs 164 = .ok (.iload 5, 2) := by decide +kernel
theorem d_M_writeLongs_166 : decode b_M_writeLongs 166 = .ok (.iload_n 2, 1) := by decide +kernel
theorem d_M_writeLongs_167 : decode b_M_writeLongs 167 = .ok (.lload_n 3, 1) := by decide +kernel
theorem d_M_writeLongs_168 : decode b_M_writeLongs 168 = .ok (.invokevirtual 145, 3) := by decide +kernel
theorem d_M_writeLongs_171 : decode b_M_writeLongs 171 = .ok (.invokevirtual 149, 3) := by decide +kernel
theorem d_M_writeLongs_174 : decode b_M_writeLongs 174 = .ok (.iinc 5 16, 3) := by decide +kernel
theorem d_M_writeLongs_177 : decode b_M_writeLongs 177 = .ok (.goto (-25), 3) := by decide +kernel
theorem d_M_writeLongs_180 : decode b_M_writeLongs 180 = .ok (.iinc 1 64, 3) := by decide +kernel
theorem d_M_writeLongs_183 : decode b_M_writeLongs 183 = .ok (.goto (-152), 3) := by decide +kernel
theorem d_M_writeLongs_186 : decode b_M_writeLongs 186 = .ok (.return_, 1) := by decide +kernel
theorem d_M_widthOf_0 : decode b_M_widthOf 0 = .ok (.iconst 0, 1) := by decide +kernel
theorem d_M_widthOf_1 : decode b_M_widthOf 1 = .ok (.istore 5, 2) := by decide +kernel
theorem d_M_widthOf_3 : decode b_M_widthOf 3 = .ok (.iload_n 1, 1) := by decide +kernel
theorem d_M_widthOf_4 : decode b_M_widthOf 4 = .ok (.istore 6, 2) := by decide +kernel
theorem d_M_widthOf_6 : decode b_M_widthOf 6 = .ok (.iload 6, 2) := by decide +kernel
theorem d_M_widthOf_8 : decode b_M_widthOf 8 = .ok (.iload_n 1, 1) := by decide +kernel
theorem d_M_widthOf_9 : decode b_M_widthOf 9 = .ok (.bipush 16, 2) := by decide +kernel
theorem d_M_widthOf_11 : decode b_M_widthOf 11 = .ok (.iadd, 1) := by decide +kernel
theorem d_M_widthOf_12 : decode b_M_widthOf 12 = .ok (.if_icmp .ge 44, 3) := by decide +kernel
theorem d_M_widthOf_15 : decode b_M_widthOf 15 = .ok (.iload 6, 2) := by decide +kernel
theorem d_M_widthOf_17 : decode b_M_widthOf 17 = .ok (.iload_n 2, 1) := by decide +kernel
theorem d_M_widthOf_18 : decode b_M_widthOf 18 = .ok (.if_icmp .ge 38, 3) := by decide +kernel
theorem d_M_widthOf_21 : decode b_M_widthOf 21 = .ok (.iload 5, 2) := by decide +kernel
theorem d_M_widthOf_23 : decode b_M_widthOf 23 = .ok (.bipush 64, 2) := by decide +kernel
theorem d_M_widthOf_25 : decode b_M_widthOf 25 = .ok (.if_icmp .ge 25, 3) := by decide +kernel
theorem d_M_widthOf_28 : decode b_M_widthOf 28 = .ok (.aload_n 0, 1) := by decide +kernel
theorem d_M_widthOf_29 : decode b_M_widthOf 29 = .ok (.iload 6, 2) := by decide +kernel
theorem d_M_widthOf_31 : decode b_M_widthOf 31 = .ok (.invokevirtual 142, 3) := by decide +kernel
theorem d_M_widthOf_34 : decode b_M_widthOf 34 = .ok (.lload_n 3, 1) := by decide +kernel
theorem d_M_widthOf_35 : decode b_M_widthOf 35 = .ok (.lsub, 1) := by decide +kernel
theorem d_M_widthOf_36 : decode b_M_widthOf 36 = .ok (.iload 5, 2) := by decide +kernel
theorem d_M_widthOf_38 : decode b_M_widthOf 38 = .ok (.lushr, 1) := by decide +kernel
theorem d_M_widthOf_39 : decode b_M_widthOf 39 = .ok (.lconst 0, 1) := by decide +kernel
theorem d_M_widthOf_40 : decode b_M_widthOf 40 = .ok (.lcmp, 1) := by decide +kernel
theorem d_M_widthOf_41 : decode b_M_widthOf 41 = .ok (.ifCond .eq 9, 3) := by decide +kernel
theorem d_M_widthOf_44 : decode b_M_widthOf 44 = .ok (.iinc 5 1, 3) := by decide +kernel
theorem d_M_widthOf_47 : decode b_M_widthOf 47 = .ok (.goto (-26), 3) := by decide +kernel
theorem d_M_widthOf_50 : decode b_M_widthOf 50 = .ok (.iinc 6 1, 3) := by decide +kernel
theorem d_M_widthOf_53 : decode b_M_widthOf 53 = .ok (.goto (-47), 3) := by decide +kernel
theorem d_M_widthOf_56 : decode b_M_widthOf 56 = .ok (.iload 5, 2) := by decide +kernel
theorem d_M_widthOf_58 : decode b_M_widthOf 58 = .ok (.ireturn, 1) := by decide +kernel
theorem d_M_writePart_0 : decode b_M_writePart 0 = .ok (.iconst 0, 1) := by decide +kernel
theorem d_M_writePart_1 : decode b_M_writePart 1 = .ok (.istore 6, 2) := by decide +kernel
theorem d_M_writePart_3 : decode b_M_writePart 3 = .ok (.iload 6, 2) := by decide +kernel
theorem d_M_writePart_5 : decode b_M_writePart 5 = .ok (.bipush 16, 2) := by decide +kernel
theorem d_M_writePart_7 : decode b_M_writePart 7 = .ok (.iload 5, 2) := by decide +kernel
theorem d_M_writePart_9 : decode b_M_writePart 9 = .ok (.imul, 1) := by decide +kernel
theorem d_M_writePart_10 : decode b_M_writePart 10 = .ok (.if_icmp .ge 80, 3) := by decide +kernel
theorem d_M_writePart_13 : decode b_M_writePart 13 = .ok (.iconst 0, 1) := by decide +kernel
theorem d_M_writePart_14 : decode b_M_writePart 14 = .ok (.istore 7, 2) := by decide +kernel
theorem d_M_writePart_16 : decode b_M_writePart 16 = .ok (.iconst 0, 1) := by decide +kernel
theorem d_M_writePart_17 : decode b_M_writePart 17 = .ok (.istore 8, 2) := by decide +kernel
theorem d_M_writePart_19 : decode b_M_writePart 19 = .ok (.iload 8, 2) := by decide +kernel
theorem d_M_writePart_21 : decode b_M_writePart 21 = .ok (.bipush 8, 2) := by decide +kernel
theorem d_M_writePart_23 : decode b_M_writePart 23 = .ok (.if_icmp .ge 55, 3) := by decide +kernel
theorem d_M_writePart_26 : decode b_M_writePart 26 = .ok (.iload_n 1, 1) := by decide +kernel
theorem d_M_writePart_27 : decode b_M_writePart 27 = .ok (.iload 6, 2) := by decide +kernel
theorem d_M_writePart_29 : decode b_M_writePart 29 = .ok (.iload 8, 2) := by decide +kernel
theorem d_M_writePart_31 : decode b_M_writePart 31 = .ok (.iadd, 1) := by decide +kernel
theorem d_M_writePart_32 : decode b_M_writePart 32 = .ok (.iload 5, 2) := by decide +kernel
theorem d_M_writePart_34 : decode b_M_writePart 34 = .ok (.idiv, 1) := by decide +kernel
theorem d_M_writePart_35 : decode b_M_writePart 35 = .ok (.iadd, 1) := by decide +kernel
theorem d_M_writePart_36 : decode b_M_writePart 36 = .ok (.istore 9, 2) := by decide +kernel
theorem d_M_writePart_38 : decode b_M_writePart 38 = .ok (.iload 9, 2) := by decide +kernel
theorem d_M_writePart_40 : decode b_M_writePart 40 = .ok (.iload_n 2, 1) := by decide +kernel
theorem d_M_writePart_41 : decode b_M_writePart 41 = .ok (.if_icmp .ge 31, 3) := by decide +kernel
theorem d_M_writePart_44 : decode b_M_writePart 44 = .ok (.iload 7, 2) := by decide +kernel
theorem d_M_writePart_46 : decode b_M_writePart 46 = .ok (.aload_n 0, 1) := by decide +kernel
theorem d_M_writePart_47 : decode b_M_writePart 47 = .ok (.iload 9, 2) := by decide +kernel
theorem d_M_writePart_49 : decode b_M_writePart 49 = .ok (.invokevirtual 142, 3) := by decide +kernel
theorem d_M_writePart_52 : decode b_M_writePart 52 = .ok (.lload_n 3, 1) := by decide +kernel
theorem d_M_writePart_53 : decode b_M_writePart 53 = .ok (.lsub, 1) := by decide +kernel
theorem d_M_writePart_54 : decode b_M_writePart 54 = .ok (.iload 6, 2) := by decide +kernel
theorem d_M_writePart_56 : decode b_M_writePart 56 = .ok (.iload 8, 2) := by decide +kernel
theorem d_M_writePart_58 : decode b_M_writePart 58 = .ok (.iadd, 1) := by decide +kernel
theorem d_M_writePart_59 : decode b_M_writePart 59 = .ok (.iload 5, 2) := by decide +kernel
theorem d_M_writePart_61 : decode b_M_writePart 61 = .ok (.irem, 1) := by decide +kernel
theorem d_M_writePart_62 : decode b_M_writePart 62 = .ok (.lushr, 1) := by decide +kernel
theorem d_M_writePart_63 : decode b_M_writePart 63 = .ok (.lconst 1, 1) := by decide +kernel
theorem d_M_writePart_64 : decode b_M_writePart 64 = .ok (.land, 1) := by decide +kernel
theorem d_M_writePart_65 : decode b_M_writePart 65 = .ok (.l2i, 1) := by decide +kernel
theorem d_M_writePart_66 : decode b_M_writePart 66 = .ok (.iload 8, 2) := by decide +kernel
theorem d_M_writePart_68 : decode b_M_writePart 68 = .ok (.ishl, 1) := by decide +kernel
theorem d_M_writePart_69 : decode b_M_writePart 69 = .ok (.ior, 1) := by decide +kernel
theorem d_M_writePart_70 : decode b_M_writePart 70 = .ok (.istore 7, 2) := by decide +kernel
theorem d_M_writePart_72 : decode b_M_writePart 72 = .ok (.iinc 8 1, 3) := by decide +kernel
theorem d_M_writePart_75 : decode b_M_writePart 75 = .ok (.goto (-56), 3) := by decide +kernel
theorem d_M_writePart_78 : decode b_M_writePart 78 = .ok (.aload_n 0, 1) := by decide +kernel
theorem d_M_writePart_79 : decode b_M_writePart 79 = .ok (.iload 7, 2) := by decide +kernel
theorem d_M_writePart_81 : decode b_M_writePart 81 = .ok (.invokevirtual 99, 3) := by decide +kernel
theorem d_M_writePart_84 : decode b_M_writePart 84 = .ok (.iinc 6 8, 3) := by decide +kernel
theorem d_M_writePart_87 : decode b_M_writePart 87 = .ok (.goto (-84), 3) := by decide +kernel
theorem d_M_writePart_90 : decode b_M_writePart 90 = .ok (.return_, 1) := by decide +kernel
theorem d_M_readCode_0 : decode b_M_readCode 0 = .ok (.aload_n 0, 1) := by decide +kernel
theorem d_M_readCode_1 : decode b_M_readCode 1 = .ok (.aload_n 0, 1) := by decide +kernel
theorem d_M_readCode_2 : decode b_M_readCode 2 = .ok (.getfield 153, 3) := by decide +kernel
theorem d_M_readCode_5 : decode b_M_readCode 5 = .ok (.invokevirtual 113, 3) := by decide +kernel
theorem d_M_readCode_8 : decode b_M_readCode 8 = .ok (.lstore_n 2, 1) := by decide +kernel
theorem d_M_readCode_9 : decode b_M_readCode 9 = .ok (.aload_n 0, 1) := by decide +kernel
theorem d_M_readCode_10 : decode b_M_readCode 10 = .ok (.getfield 91, 3) := by decide +kernel
theorem d_M_readCode_13 : decode b_M_readCode 13 = .ok (.ifCond .ne 29, 3) := by decide +kernel
theorem d_M_readCode_16 : decode b_M_readCode 16 = .ok (.lload_n 2, 1) := by decide +kernel
theorem d_M_readCode_17 : decode b_M_readCode 17 = .ok (.lconst 0, 1) := by decide +kernel
theorem d_M_readCode_18 : decode b_M_readCode 18 = .ok (.lcmp, 1) := by decide +kernel
theorem d_M_readCode_19 : decode b_M_readCode 19 = .ok (.ifCond .lt 18, 3) := by decide +kernel
theorem d_M_readCode_22 : decode b_M_readCode 22 = .ok (.lload_n 2, 1) := by decide +kernel
theorem d_M_readCode_23 : decode b_M_readCode 23 = .ok (.aload_n 0, 1) := by decide +kernel
theorem d_M_readCode_24 : decode b_M_readCode 24 = .ok (.getfield 153, 3) := by decide +kernel
theorem d_M_readCode_27 : decode b_M_readCode 27 = .ok (.aload_n 0, 1) := by decide +kernel
theorem d_M_readCode_28 : decode b_M_readCode 28 = .ok (.getfield 94, 3) := by decide +kernel
theorem d_M_readCode_31 : decode b_M_readCode 31 = .ok (.isub, 1) := by decide +kernel
theorem d_M_readCode_32 : decode b_M_readCode 32 = .ok (.i2l, 1) := by decide +kernel
theorem d_M_readCode_33 : decode b_M_readCode 33 = .ok (.lcmp, 1) := by decide +kernel
theorem d_M_readCode_34 : decode b_M_readCode 34 = .ok (.ifCond .le 8, 3) := by decide +kernel
theorem d_M_readCode_37 : decode b_M_readCode 37 = .ok (.aload_n 0, 1) := by decide +kernel
theorem d_M_readCode_38 : decode b_M_readCode 38 = .ok (.iconst 1, 1) := by decide +kernel
theorem d_M_readCode_39 : decode b_M_readCode 39 = .ok (.putfield 91, 3) := by decide +kernel
theorem d_M_readCode_42 : decode b_M_readCode 42 = .ok (.aload_n 0, 1) := by decide +kernel
theorem d_M_readCode_43 : decode b_M_readCode 43 = .ok (.getfield 91, 3) := by decide +kernel
theorem d_M_readCode_46 : decode b_M_readCode 46 = .ok (.ifCond .ne 15, 3) := by decide +kernel
theorem d_M_readCode_49 : decode b_M_readCode 49 = .ok (.aload_n 0, 1) := by decide +kernel
theorem d_M_readCode_50 : decode b_M_readCode 50 = .ok (.iload_n 1, 1) := by decide +kernel
theorem d_M_readCode_51 : decode b_M_readCode 51 = .ok (.aload_n 0, 1) := by decide +kernel
theorem d_M_readCode_52 : decode b_M_readCode 52 = .ok (.getfield 94, 3) := by decide +kernel
theorem d_M_readCode_55 : decode b_M_readCode 55 = .ok (.lload_n 2, 1) := by decide +kernel
theorem d_M_readCode_56 : decode b_M_readCode 56 = .ok (.l2i, 1) := by decide +kernel
theorem d_M_readCode_57 : decode b_M_readCode 57 = .ok (.iadd, 1) := by decide +kernel
theorem d_M_readCode_58 : decode b_M_readCode 58 = .ok (.invokevirtual 156, 3) := by decide +kernel
theorem d_M_readCode_61 : decode b_M_readCode 61 = .ok (.return_, 1) := by decide +kernel
theorem d_M_readLongs_0 : decode b_M_readLongs 0 = .ok (.aload_n 0, 1) := by decide +kernel
theorem d_M_readLongs_1 : decode b_M_readLongs 1 = .ok (.iload_n 2, 1) := by decide +kernel
theorem d_M_readLongs_2 : decode b_M_readLongs 2 = .ok (.invokevirtual 113, 3) := by decide +kernel
theorem d_M_readLongs_5 : decode b_M_readLongs 5 = .ok (.lstore_n 3, 1) := by decide +kernel
theorem d_M_readLongs_6 : decode b_M_readLongs 6 = .ok (.aload_n 0, 1) := by decide +kernel
theorem d_M_readLongs_7 : decode b_M_readLongs 7 = .ok (.getfield 91, 3) := by decide +kernel
theorem d_M_readLongs_10 : decode b_M_readLongs 10 = .ok (.ifCond .ne 22, 3) := by decide +kernel
theorem d_M_readLongs_13 : decode b_M_readLongs 13 = .ok (.lload_n 3, 1) := by decide +kernel
theorem d_M_readLongs_14 : decode b_M_readLongs 14 = .ok (.lconst 0, 1) := by decide +kernel
theorem d_M_readLongs_15 : decode b_M_readLongs 15 = .ok (.lcmp, 1) := by decide +kernel
theorem d_M_readLongs_16 : decode b_M_readLongs 16 = .ok (.ifCond .lt 11, 3) := by decide +kernel
theorem d_M_readLongs_19 : decode b_M_readLongs 19 = .ok (.lload_n 3, 1) := by decide +kernel
theorem d_M_readLongs_20 : decode b_M_readLongs 20 = .ok (.ldc2_w 160, 3) := by decide +kernel
theorem d_M_readLongs_23 : decode b_M_readLongs 23 = .ok (.lcmp, 1) := by decide +kernel
theorem d_M_readLongs_24 : decode b_M_readLongs 24 = .ok (.ifCond .le 8, 3) := by decide +kernel
theorem d_M_readLongs_27 : decode b_M_readLongs 27 = .ok (.aload_n 0, 1) := by decide +kernel
theorem d_M_readLongs_28 : decode b_M_readLongs 28 = .ok (.iconst 4, 1) := by decide +kernel
theorem d_M_readLongs_29 : decode b_M_readLongs 29 = .ok (.putfield 91, 3) := by decide +kernel
theorem d_M_readLongs_32 : decode b_M_readLongs 32 = .ok (.aload_n 0, 1) := by decide +kernel
theorem d_M_readLongs_33 : decode b_M_readLongs 33 = .ok (.getfield 91, 3) := by decide +kernel
theorem d_M_readLongs_36 : decode b_M_readLongs 36 = .ok (.ifCond .eq 4, 3) := by decide +kernel
theorem d_M_readLongs_39 : decode b_M_readLongs 39 = .ok (.return_, 1) := by decide +kernel
theorem d_M_readLongs_40 : decode b_M_readLongs 40 = .ok (.aload_n 0, 1) := by decide +kernel
theorem d_M_readLongs_41 : decode b_M_readLongs 41 = .ok (.lload_n 3, 1) := by decide +kernel
theorem d_M_readLongs_42 : decode b_M_readLongs 42 = .ok (.l2i, 1) := by decide +kernel
theorem d_M_readLongs_43 : decode b_M_readLongs 43 = .ok (.putfield 135, 3) := by decide +kernel
theorem d_M_readLongs_46 : decode b_M_readLongs 46 = .ok (.aload_n 0, 1) := by decide +kernel
theorem d_M_readLongs_47 : decode b_M_readLongs 47 = .ok (.getfield 135, 3) := by decide +kernel
theorem d_M_readLongs_50 : decode b_M_readLongs 50 = .ok (.ifCond .le 17, 3) := by decide +kernel
theorem d_M_readLongs_53 : decode b_M_readLongs 53 = .ok (.aload_n 0, 1) := by decide +kernel
theorem d_M_readLongs_54 : decode b_M_readLongs 54 = .ok (.getfield 63, 3) := by decide +kernel
theorem d_M_readLongs_57 : decode b_M_readLongs 57 = .ok (.iconst 0, 1) := by decide +kernel
theorem d_M_readLongs_58 : decode b_M_readLongs 58 = .ok (.aload_n 0, 1) := by decide +kernel
theorem d_M_readLongs_59 : decode b_M_readLongs 59 = .ok (.iload_n 2, 1) := by decide +kernel
theorem d_M_readLongs_60 : decode b_M_readLongs 60 = .ok (.invokevirtual 113, 3) := by decide +kernel
theorem d_M_readLongs_63 : decode b_M_readLongs 63 = .ok (.invokestatic 162, 3) := by decide +kernel
theorem d_M_readLongs_66 : decode b_M_readLongs 66 = .ok (.lastore, 1) := by decide +kernel
theorem d_M_readLongs_67 : decode b_M_readLongs 67 = .ok (.iconst 0, 1) := by decide +kernel
theorem d_M_readLongs_68 : decode b_M_readLongs 68 = .ok (.istore 5, 2) := by decide +kernel
theorem d_M_readLongs_70 : decode b_M_readLongs 70 = .ok (.iload 5, 2) := by decide +kernel
theorem d_M_readLongs_72 : decode b_M_readLongs 72 = .ok (.aload_n 0, 1) := by decide +kernel
theorem d_M_readLongs_73 : decode b_M_readLongs 73 = .ok (.getfield 135, 3) := by decide +kernel
theorem d_M_readLongs_76 : decode b_M_readLongs 76 = .ok (.iconst 1, 1) := by decide +kernel
theorem d_M_readLongs_77 : decode b_M_readLongs 77 = .ok (.isub, 1) := by decide +kernel
theorem d_M_readLongs_78 : decode b_M_readLongs 78 = .ok (.if_icmp .ge 51, 3) := by decide +kernel
theorem d_M_readLongs_81 : decode b_M_readLongs 81 = .ok (.aload_n 0, 1) := by decide +kernel
theorem d_M_readLongs_82 : decode b_M_readLongs 82 = .ok (.getfield 91, 3) := by decide +kernel
theorem d_M_readLongs_85 : decode b_M_readLongs 85 = .ok (.ifCond .ne 44, 3) := by decide +kernel
theorem d_M_readLongs_88 : decode b_M_readLongs 88 = .ok (.aload_n 0, 1) := by decide +kernel
theorem d_M_readLongs_89 : decode b_M_readLongs 89 = .ok (.iload 5, 2) := by decide +kernel
theorem d_M_readLongs_91 : decode b_M_readLongs 91 = .ok (.iload 5, 2) := by decide +kernel
theorem d_M_readLongs_93 : decode b_M_readLongs 93 = .ok (.bipush 64, 2) := by decide +kernel
theorem d_M_readLongs_95 : decode b_M_readLongs 95 = .ok (.iadd, 1) := by decide +kernel
theorem d_M_readLongs_96 : decode b_M_readLongs 96 = .ok (.aload_n 0, 1) := by decide +kernel
theorem d_M_readLongs_97 : decode b_M_readLongs 97 = .ok (.getfield 135, 3) := by decide +kernel
theorem d_M_readLongs_100 : decode b_M_readLongs 100 = .ok (.iconst 1, 1) := by decide +kernel
theorem d_M_readLongs_101 : decode b_M_readLongs 101 = .ok (.isub, 1) := by decide +kernel
theorem d_M_readLongs_102 : decode b_M_readLongs 102 = .ok (.if_icmp .ge 11, 3) := by decide +kernel
theorem d_M_readLongs_105 : decode b_M_readLongs 105 = .ok (.iload 5, 2) := by decide +kernel
theorem d_M_readLongs_107 : decode b_M_readLongs 107 = .ok (.bipush 64, 2) := by decide +kernel
theorem d_M_readLongs_109 : decode b_M_readLongs 109 = .ok (.iadd, 1) := by decide +kernel
theorem d_M_readLongs_110 : decode b_M_readLongs 110 = .ok (.goto 9, 3) := by decide +kernel
theorem d_M_readLongs_113 : decode b_M_readLongs 113 = .ok (.aload_n 0, 1) := by decide +kernel
theorem d_M_readLongs_114 : decode b_M_readLongs 114 = .ok (.getfield 135, 3) := by decide +kernel
theorem d_M_readLongs_117 : decode b_M_readLongs 117 = .ok (.iconst 1, 1) := by decide +kernel
theorem d_M_readLongs_118 : decode b_M_readLongs 118 = .ok (.isub, 1) := by decide +kernel
theorem d_M_readLongs_119 : decode b_M_readLongs 119 = .ok (.iload_n 2, 1) := by decide +kernel
theorem d_M_readLongs_120 : decode b_M_readLongs 120 = .ok (.invokevirtual 165, 3) := by decide +kernel
theorem d_M_readLongs_123 : decode b_M_readLongs 123 = .ok (.iinc 5 64, 3) := by decide +kernel
theorem d_M_readLongs_126 : decode b_M_readLongs 126 = .ok (.goto (-56), 3) := by decide +kernel
theorem d_M_readLongs_129 : decode b_M_readLongs 129 = .ok (.aload_n 0, 1) := by decide +kernel
theorem d_M_readLongs_130 : decode b_M_readLongs 130 = .ok (.getfield 91, 3) := by decide +kernel
theorem d_M_readLongs_133 : decode b_M_readLongs 133 = .ok (.ifCond .ne 17, 3) := by decide +kernel
theorem d_M_readLongs_136 : decode b_M_readLongs 136 = .ok (.aload_n 0, 1) := by decide +kernel
theorem d_M_readLongs_137 : decode b_M_readLongs 137 = .ok (.getfield 94, 3) := by decide +kernel
theorem d_M_readLongs_140 : decode b_M_readLongs 140 = .ok (.iload_n 2, 1) := by decide +kernel
theorem d_M_readLongs_141 : decode b_M_readLongs 141 = .ok (.if_icmp .ge 9, 3) := by decide +kernel
theorem d_M_readLongs_144 : decode b_M_readLongs 144 = .ok (.aload_n 0, 1) := by decide +kernel
theorem d_M_readLongs_145 : decode b_M_readLongs 145 = .ok (.bipush 6, 2) := by decide +kernel
theorem d_M_readLongs_147 : decode b_M_readLongs 147 = .ok (.putfield 91, 3) := by decide +kernel
theorem d_M_readLongs_150 : decode b_M_readLongs 150 = .ok (.aload_n 0, 1) := by decide +kernel
theorem d_M_readLongs_151 : decode b_M_readLongs 151 = .ok (.getfield 91, 3) := by decide +kernel
theorem d_M_readLongs_154 : decode b_M_readLongs 154 = .ok (.ifCond .ne 16, 3) := by decide +kernel
theorem d_M_readLongs_157 : decode b_M_readLongs 157 = .ok (.aload_n 0, 1) := by decide +kernel
theorem d_M_readLongs_158 : decode b_M_readLongs 158 = .ok (.getfield 135, 3) := by decide +kernel
theorem d_M_readLongs_161 : decode b_M_readLongs 161 = .ok (.iload_n 1, 1) := by decide +kernel
theorem d_M_readLongs_162 : decode b_M_readLongs 162 = .ok (.if_icmp .eq 8, 3) := by decide +kernel
theorem d_M_readLongs_165 : decode b_M_readLongs 165 = .ok (.aload_n 0, 1) := by decide +kernel
theorem d_M_readLongs_166 : decode b_M_readLongs 166 = .ok (.iconst 4, 1) := by decide +kernel
theorem d_M_readLongs_167 : decode b_M_readLongs 167 = .ok (.putfield 91, 3) := by decide +kernel
theorem d_M_readLongs_170 : decode b_M_readLongs 170 = .ok (.return_, 1) := by decide +kernel
theorem d_M_readBlock_0 : decode b_M_readBlock 0 = .ok (.aload_n 0, 1) := by decide +kernel
theorem d_M_readBlock_1 : decode b_M_readBlock 1 = .ok (.iload_n 3, 1) := by decide +kernel
theorem d_M_readBlock_2 : decode b_M_readBlock 2 = .ok (.invokevirtual 113, 3) := by decide +kernel
theorem d_M_readBlock_5 : decode b_M_readBlock 5 = .ok (.invokestatic 162, 3) := by decide +kernel
theorem d_M_readBlock_8 : decode b_M_readBlock 8 = .ok (.lstore 4, 2) := by decide +kernel
theorem d_M_readBlock_10 : decode b_M_readBlock 10 = .ok (.aload_n 0, 1) := by decide +kernel
theorem d_M_readBlock_11 : decode b_M_readBlock 11 = .ok (.getfield 94, 3) := by decide +kernel
theorem d_M_readBlock_14 : decode b_M_readBlock 14 = .ok (.istore 6, 2) := by decide +kernel
theorem d_M_readBlock_16 : decode b_M_readBlock 16 = .ok (.iconst 0, 1) := by decide +kernel
theorem d_M_readBlock_17 : decode b_M_readBlock 17 = .ok (.istore 7, 2) := by decide +kernel
theorem d_M_readBlock_19 : decode b_M_readBlock 19 = .ok (.iload 7, 2) := by decide +kernel
theorem d_M_readBlock_21 : decode b_M_readBlock 21 = .ok (.iconst 4, 1) := by decide +kernel
theorem d_M_readBlock_22 : decode b_M_readBlock 22 = .ok (.if_icmp .ge 84, 3) := by decide +kernel
theorem d_M_readBlock_25 : decode b_M_readBlock 25 = .ok (.aload_n 0, 1) := by decide +kernel
theorem d_M_readBlock_26 : decode b_M_readBlock 26 = .ok (.getfield 91, 3) := by decide +kernel
theorem d_M_readBlock_29 : decode b_M_readBlock 29 = .ok (.ifCond .ne 77, 3) := by decide +kernel
theorem d_M_readBlock_32 : decode b_M_readBlock 32 = .ok (.aload_n 0, 1) := by decide +kernel
theorem d_M_readBlock_33 : decode b_M_readBlock 33 = .ok (.getfield 94, 3) := by decide +kernel
theorem d_M_readBlock_36 : decode b_M_readBlock 36 = .ok (.iload_n 3, 1) := by decide +kernel
theorem d_M_readBlock_37 : decode b_M_readBlock 37 = .ok (.if_icmp .lt 11, 3) := by decide +kernel
theorem d_M_readBlock_40 : decode b_M_readBlock 40 = .ok (.aload_n 0, 1) := by decide +kernel
theorem d_M_readBlock_41 : decode b_M_readBlock 41 = .ok (.iconst 1, 1) := by decide +kernel
theorem d_M_readBlock_42 : decode b_M_readBlock 42 = .ok (.putfield 91, 3) := by decide +kernel
theorem d_M_readBlock_45 : decode b_M_readBlock 45 = .ok (.goto 45, 3) := by decide +kernel
theorem d_M_readBlock_48 : decode b_M_readBlock 48 = .ok (.aload_n 0, 1) := by decide +kernel
theorem d_M_readBlock_49 : decode b_M_readBlock 49 = .ok (.getfield 53, 3) := by decide +kernel
theorem d_M_readBlock_52 : decode b_M_readBlock 52 = .ok (.aload_n 0, 1) := by decide +kernel
theorem d_M_readBlock_53 : decode b_M_readBlock 53 = .ok (.getfield 94, 3) := by decide +kernel
theorem d_M_readBlock_56 : decode b_M_readBlock 56 = .ok (.iaload, 1) := by decide +kernel
theorem d_M_readBlock_57 : decode b_M_readBlock 57 = .ok (.bipush 64, 2) := by decide +kernel
theorem d_M_readBlock_59 : decode b_M_readBlock 59 = .ok (.if_icmp .gt 26, 3) := by decide +kernel
theorem d_M_readBlock_62 : decode b_M_readBlock 62 = .ok (.aload_n 0, 1) := by decide +kernel
theorem d_M_readBlock_63 : decode b_M_readBlock 63 = .ok (.getfield 53, 3) := by decide +kernel
theorem d_M_readBlock_66 : decode b_M_readBlock 66 = .ok (.aload_n 0, 1) := by decide +kernel
theorem d_M_readBlock_67 : decode b_M_readBlock 67 = .ok (.getfield 94, 3) := by decide +kernel
theorem d_M_readBlock_70 : decode b_M_readBlock 70 = .ok (.iaload, 1) := by decide +kernel
theorem d_M_readBlock_71 : decode b_M_readBlock 71 = .ok (.ifCond .le 19, 3) := by decide +kernel
theorem d_M_readBlock_74 : decode b_M_readBlock 74 = .ok (.iload_n 1, 1) := by decide +kernel
theorem d_M_readBlock_75 : decode b_M_readBlock 75 = .ok (.bipush 16, 2) := by decide +kernel
theorem d_M_readBlock_77 : decode b_M_readBlock 77 = .ok (.iload 7, 2) := by decide +kernel
theorem d_M_readBlock_79 : decode b_M_readBlock 79 = .ok (.imul, 1) := by decide +kernel
theorem d_M_readBlock_80 : decode b_M_readBlock 80 = .ok (.iadd, 1) := by decide +kernel
theorem d_M_readBlock_81 : decode b_M_readBlock 81 = .ok (.iload_n 2, 1) := by decide +kernel
theorem d_M_readBlock_82 : decode b_M_readBlock 82 = .ok (.if_icmp .lt 8, 3) := by decide +kernel
theorem d_M_readBlock_85 : decode b_M_readBlock 85 = .ok (.aload_n 0, 1) := by decide +kernel
theorem d_M_readBlock_86 : decode b_M_readBlock 86 = .ok (.iconst 5, 1) := by decide +kernel
theorem d_M_readBlock_87 : decode b_M_readBlock 87 = .ok (.putfield 91, 3) := by decide +kernel
theorem d_M_readBlock_90 : decode b_M_readBlock 90 = .ok (.aload_n 0, 1) := by decide +kernel
theorem d_M_readBlock_91 : decode b_M_readBlock 91 = .ok (.dup, 1) := by decide +kernel
theorem d_M_readBlock_92 : decode b_M_readBlock 92 = .ok (.getfield 94, 3) := by decide +kernel
theorem d_M_readBlock_95 : decode b_M_readBlock 95 = .ok (.iconst 1, 1) := by decide +kernel
theorem d_M_readBlock_96 : decode b_M_readBlock 96 = .ok (.iadd, 1) := by decide +kernel
theorem d_M_readBlock_97 : decode b_M_readBlock 97 = .ok (.putfield 94, 3) := by decide +kernel
theorem d_M_readBlock_100 : decode b_M_readBlock 100 = .ok (.iinc 7 1, 3) := by decide +kernel
theorem d_M_readBlock_103 : decode b_M_readBlock 103 = .ok (.goto (-84), 3) := by decide +kernel
theorem d_M_readBlock_106 : decode b_M_readBlock 106 = .ok (.iconst 0, 1) := by decide +kernel
theorem d_M_readBlock_107 : decode b_M_readBlock 107 = .ok (.istore 7, 2) := by decide +kernel
theorem d_M_readBlock_109 : decode b_M_readBlock 109 = .ok (.iload 7, 2) := by decide +kernel
theorem d_M_readBlock_111 : decode b_M_readBlock 111 = .ok (.iconst 4, 1) := by decide +kernel
theorem d_M_readBlock_112 : decode b_M_readBlock 112 = .ok (.if_icmp .ge 212, 3) := by decide +kernel
theorem d_M_readBlock_115 : decode b_M_readBlock 115 = .ok (.aload_n 0, 1) := by decide +kernel
theorem d_M_readBlock_116 : decode b_M_readBlock 116 = .ok (.getfield 91, 3) := by decide +kernel
theorem d_M_readBlock_119 : decode b_M_readBlock 119 = .ok (.ifCond .ne 205, 3) := by decide +kernel
theorem d_M_readBlock_122 : decode b_M_readBlock 122 = .ok (.iload_n 1, 1) := by decide +kernel
theorem d_M_readBlock_123 : decode b_M_readBlock 123 = .ok (.bipush 16, 2) := by decide +kernel
theorem d_M_readBlock_125 : decode b_M_readBlock 125 = .ok (.iload 7, 2) := by decide +kernel
theorem d_M_readBlock_127 : decode b_M_readBlock 127 = .ok (.imul, 1) := by decide +kernel
theorem d_M_readBlock_128 : decode b_M_readBlock 128 = .ok (.iadd, 1) := by decide +kernel
theorem d_M_readBlock_129 : decode b_M_readBlock 129 = .ok (.iload_n 2, 1) := by decide +kernel
theorem d_M_readBlock_130 : decode b_M_readBlock 130 = .ok (.if_icmp .ge 194, 3) := by decide +kernel
theorem d_M_readBlock_133 : decode b_M_readBlock 133 = .ok (.aload_n 0, 1) := by decide +kernel
theorem d_M_readBlock_134 : decode b_M_readBlock 134 = .ok (.getfield 53, 3) := by decide +kernel
theorem d_M_readBlock_137 : decode b_M_readBlock 137 = .ok (.iload 6, 2) := by decide +kernel
theorem d_M_readBlock_139 : decode b_M_readBlock 139 = .ok (.iload 7, 2) := by decide +kernel
theorem d_M_readBlock_141 : decode b_M_readBlock 141 = .ok (.iadd, 1) := by decide +kernel
theorem d_M_readBlock_142 : decode b_M_readBlock 142 = .ok (.iaload, 1) := by decide +kernel
theorem d_M_readBlock_143 : decode b_M_readBlock 143 = .ok (.istore 8, 2) := by decide +kernel
theorem d_M_readBlock_145 : decode b_M_readBlock 145 = .ok (.iload_n 3, 1) := by decide +kernel
theorem d_M_readBlock_146 : decode b_M_readBlock 146 = .ok (.aload_n 0, 1) := by decide +kernel
theorem d_M_readBlock_147 : decode b_M_readBlock 147 = .ok (.getfield 94, 3) := by decide +kernel
theorem d_M_readBlock_150 : decode b_M_readBlock 150 = .ok (.isub, 1) := by decide +kernel
theorem d_M_readBlock_151 : decode b_M_readBlock 151 = .ok (.iconst 2, 1) := by decide +kernel
theorem d_M_readBlock_152 : decode b_M_readBlock 152 = .ok (.iload 8, 2) := by decide +kernel
theorem d_M_readBlock_154 : decode b_M_readBlock 154 = .ok (.imul, 1) := by decide +kernel
theorem d_M_readBlock_155 : decode b_M_readBlock 155 = .ok (.if_icmp .ge 8, 3) := by decide +kernel
theorem d_M_readBlock_158 : decode b_M_readBlock 158 = .ok (.aload_n 0, 1) := by decide +kernel
theorem d_M_readBlock_159 : decode b_M_readBlock 159 = .ok (.iconst 1, 1) := by decide +kernel
theorem d_M_readBlock_160 : decode b_M_readBlock 160 = .ok (.putfield 91, 3) := by decide +kernel
theorem d_M_readBlock_163 : decode b_M_readBlock 163 = .ok (.iconst 0, 1) := by decide +kernel
theorem d_M_readBlock_164 : decode b_M_readBlock 164 = .ok (.istore 9, 2) := by decide +kernel
theorem d_M_readBlock_166 : decode b_M_readBlock 166 = .ok (.iload 9, 2) := by decide +kernel
theorem d_M_readBlock_168 : decode b_M_readBlock 168 = .ok (.bipush 16, 2) := by decide +kernel
theorem d_M_readBlock_170 : decode b_M_readBlock 170 = .ok (.if_icmp .ge 135, 3) := by decide +kernel
theorem d_M_readBlock_173 : decode b_M_readBlock 173 = .ok (.aload_n 0, 1) := by decide +kernel
theorem d_M_readBlock_174 : decode b_M_readBlock 174 = .ok (.getfield 91, 3) := by decide +kernel
theorem d_M_readBlock_177 : decode b_M_readBlock 177 = .ok (.iconst 1, 1) := by decide +kernel
theorem d_M_readBlock_178 : decode b_M_readBlock 178 = .ok (.if_icmp .eq 127, 3) := by decide +kernel
theorem d_M_readBlock_181 : decode b_M_readBlock 181 = .ok (.lconst 0, 1) := by decide +kernel
theorem d_M_readBlock_182 : decode b_M_readBlock 182 = .ok (.lstore 10, 2) := by decide +kernel
theorem d_M_readBlock_184 : decode b_M_readBlock 184 = .ok (.iconst 0, 1) := by decide +kernel
theorem d_M_readBlock_185 : decode b_M_readBlock 185 = .ok (.istore 12, 2) := by decide +kernel
theorem d_M_readBlock_187 : decode b_M_readBlock 187 = .ok (.iload 12, 2) := by decide +kernel
theorem d_M_readBlock_189 : decode b_M_readBlock 189 = .ok (.iload 8, 2) := by decide +kernel
theorem d_M_readBlock_191 : decode b_M_readBlock 191 = .ok (.if_icmp .ge 53, 3) := by decide +kernel
theorem d_M_readBlock_194 : decode b_M_readBlock 194 = .ok (.lload 10, 2) := by decide +kernel
theorem d_M_readBlock_196 : decode b_M_readBlock 196 = .ok (.aload_n 0, 1) := by decide +kernel
theorem d_M_readBlock_197 : decode b_M_readBlock 197 = .ok (.getfield 53, 3) := by decide +kernel
theorem d_M_readBlock_200 : decode b_M_readBlock 200 = .ok (.aload_n 0, 1) := by decide +kernel
theorem d_M_readBlock_201 : decode b_M_readBlock 201 = .ok (.getfield 94, 3) := by decide +kernel
theorem d_M_readBlock_204 : decode b_M_readBlock 204 = .ok (.iload 8, 2) := by decide +kernel
theorem d_M_readBlock_206 : decode b_M_readBlock 206 = .ok (.iload 9, 2) := by decide +kernel
theorem d_M_readBlock_208 : decode b_M_readBlock 208 = .ok (.imul, 1) := by decide +kernel
theorem d_M_readBlock_209 : decode b_M_readBlock 209 = .ok (.iload 12, 2) := by decide +kernel
theorem d_M_readBlock_211 : decode b_M_readBlock 211 = .ok (.iadd, 1) := by decide +kernel
theorem d_M_readBlock_212 : decode b_M_readBlock 212 = .ok (.bipush 8, 2) := by decide +kernel
theorem d_M_readBlock_214 : decode b_M_readBlock 214 = .ok (.idiv, 1) := by decide +kernel
theorem d_M_readBlock_215 : decode b_M_readBlock 215 = .ok (.iadd, 1) := by decide +kernel
theorem d_M_readBlock_216 : decode b_M_readBlock 216 = .ok (.iaload, 1) := by decide +kernel
theorem d_M_readBlock_217 : decode b_M_readBlock 217 = .ok (.iload 8, 2) := by decide +kernel
theorem d_M_readBlock_219 : decode b_M_readBlock 219 = .ok (.iload 9, 2) := by decide +kernel
theorem d_M_readBlock_221 : decode b_M_readBlock 221 = .ok (.imul, 1) := by decide +kernel
theorem d_M_readBlock_222 : decode b_M_readBlock 222 = .ok (.iload 12, 2) := by decide +kernel
theorem d_M_readBlock_224 : decode b_M_readBlock 224 = .ok (.iadd, 1) := by decide +kernel
theorem d_M_readBlock_225 : decode b_M_readBlock 225 = .ok (.bipush 8, 2) := by decide +kernel
theorem d_M_readBlock_227 : decode b_M_readBlock 227 = .ok (.irem, 1) := by decide +kernel
theorem d_M_readBlock_228 : decode b_M_readBlock 228 = .ok (.ishr, 1) := by decide +kernel
theorem d_M_readBlock_229 : decode b_M_readBlock 229 = .ok (.iconst 1, 1) := by decide +kernel
theorem d_M_readBlock_230 : decode b_M_readBlock 230 = .ok (.iand, 1) := by decide +kernel
theorem d_M_readBlock_231 : decode b_M_readBlock 231 = .ok (.i2l, 1) := by decide +kernel
theorem d_M_readBlock_232 : decode b_M_readBlock 232 = .ok (.iload 12, 2) := by decide +kernel
theorem d_M_readBlock_234 : decode b_M_readBlock 234 = .ok (.lshl, 1) := by decide +kernel
theorem d_M_readBlock_235 : decode b_M_readBlock 235 = .ok (.lor, 1) := by decide +kernel
theorem d_M_readBlock_236 : decode b_M_readBlock 236 = .ok (.lstore 10, 2) := by decide +kernel
theorem d_M_readBlock_238 : decode b_M_readBlock 238 = .ok (.iinc 12 1, 3) := by decide +kernel
theorem d_M_readBlock_241 : decode b_M_readBlock 241 = .ok (.goto (-54), 3) := by decide +kernel
theorem d_M_readBlock_244 : decode b_M_readBlock 244 = .ok (.iload_n 1, 1) := by decide +kernel
theorem d_M_readBlock_245 : decode b_M_readBlock 245 = .ok (.bipush 16, 2) := by decide +kernel
theorem d_M_readBlock_247 : decode b_M_readBlock 247 = .ok (.iload 7, 2) := by decide +kernel
theorem d_M_readBlock_249 : decode b_M_readBlock 249 = .ok (.imul, 1) := by decide +kernel
theorem d_M_readBlock_250 : decode b_M_readBlock 250 = .ok (.iadd, 1) := by decide +kernel
theorem d_M_readBlock_251 : decode b_M_readBlock 251 = .ok (.iload 9, 2) := by decide +kernel
theorem d_M_readBlock_253 : decode b_M_readBlock 253 = .ok (.iadd, 1) := by decide +kernel
theorem d_M_readBlock_254 : decode b_M_readBlock 254 = .ok (.istore 12, 2) := by decide +kernel
theorem d_M_readBlock_256 : decode b_M_readBlock 256 = .ok (.iload 12, 2) := by decide +kernel
theorem d_M_readBlock_258 : decode b_M_readBlock 258 = .ok (.iload_n 2, 1) := by decide +kernel
theorem d_M_readBlock_259 : decode b_M_readBlock 259 = .ok (.if_icmp .ge 28, 3) := by decide +kernel
theorem d_M_readBlock_262 : decode b_M_readBlock 262 = .ok (.aload_n 0, 1) := by decide +kernel
theorem d_M_readBlock_263 : decode b_M_readBlock 263 = .ok (.getfield 63, 3) := by decide +kernel
theorem d_M_readBlock_266 : decode b_M_readBlock 266 = .ok (.iload 12, 2) := by decide +kernel
theorem d_M_readBlock_268 : decode b_M_readBlock 268 = .ok (.iconst 1, 1) := by decide +kernel
theorem d_M_readBlock_269 : decode b_M_readBlock 269 = .ok (.iadd, 1) := by decide +kernel
theorem d_M_readBlock_270 : decode b_M_readBlock 270 = .ok (.aload_n 0, 1) := by decide +kernel
theorem d_M_readBlock_271 : decode b_M_readBlock 271 = .ok (.getfield 63, 3) := by decide +kernel
theorem d_M_readBlock_274 : decode b_M_readBlock 274 = .ok (.iload 12, 2) := by decide +kernel
theorem d_M_readBlock_276 : decode b_M_readBlock 276 = .ok (.laload, 1) := by decide +kernel
theorem d_M_readBlock_277 : decode b_M_readBlock 277 = .ok (.lload 4, 2) := by decide +kernel
theorem d_M_readBlock_279 : decode b_M_readBlock 279 = .ok (.ladd, 1) := by decide +kernel
theorem d_M_readBlock_280 : decode b_M_readBlock 280 = .ok (.lload 10, 2) := by decide +kernel
theorem d_M_readBlock_282 : decode b_M_readBlock 282 = .ok (.ladd, 1) := by decide +kernel
theorem d_M_readBlock_283 : decode b_M_readBlock 283 = .ok (.lastore, 1) := by decide +kernel
theorem d_M_readBlock_284 : decode b_M_readBlock 284 = .ok (.goto 15, 3) := by decide +kernel
theorem d_M_readBlock_287 : decode b_M_readBlock 287 = .ok (.lload 10, 2) := by decide +kernel
theorem d_M_readBlock_289 : decode b_M_readBlock 289 = .ok (.lconst 0, 1) := by decide +kernel
theorem d_M_readBlock_290 : decode b_M_readBlock 290 = .ok (.lcmp, 1) := by decide +kernel
theorem d_M_readBlock_291 : decode b_M_readBlock 291 = .ok (.ifCond .eq 8, 3) := by decide +kernel
theorem d_M_readBlock_294 : decode b_M_readBlock 294 = .ok (.aload_n 0, 1) := by decide +kernel
theorem d_M_readBlock_295 : decode b_M_readBlock 295 = .ok (.iconst 5, 1) := by decide +kernel
theorem d_M_readBlock_296 : decode b_M_readBlock 296 = .ok (.putfield 91, 3) := by decide +kernel
theorem d_M_readBlock_299 : decode b_M_readBlock 299 = .ok (.iinc 9 1, 3) := by decide +kernel
theorem d_M_readBlock_302 : decode b_M_readBlock 302 = .ok (.goto (-136), 3) := by decide +kernel
theorem d_M_readBlock_305 : decode b_M_readBlock 305 = .ok (.aload_n 0, 1) := by decide +kernel
theorem d_M_readBlock_306 : decode b_M_readBlock 306 = .ok (.dup, 1) := by decide +kernel
theorem d_M_readBlock_307 : decode b_M_readBlock 307 = .ok (.getfield 94, 3) := by decide +kernel
theorem d_M_readBlock_310 : decode b_M_readBlock 310 = .ok (.iconst 2, 1) := by decide +kernel
theorem d_M_readBlock_311 : decode b_M_readBlock 311 = .ok (.iload 8, 2) := by decide +kernel
theorem d_M_readBlock_313 : decode b_M_readBlock 313 = .ok (.imul, 1) := by decide +kernel
theorem d_M_readBlock_314 : decode b_M_readBlock 314 = .ok (.iadd, 1) := by decide +kernel
theorem d_M_readBlock_315 : decode b_M_readBlock 315 = .ok (.putfield 94, 3) := by decide +kernel
theorem d_M_readBlock_318 : decode b_M_readBlock 318 = .ok (.iinc 7 1, 3) := by decide +kernel
theorem d_M_readBlock_321 : decode b_M_readBlock 321 = .ok (.goto (-212), 3) := by decide +kernel
theorem d_M_readBlock_324 : decode b_M_readBlock 324 = .ok (.return_, 1) := by decide +kernel
theorem d_M_feed_0 : decode b_M_feed 0 = .ok (.aload_n 0, 1) := by decide +kernel
theorem d_M_feed_1 : decode b_M_feed 1 = .ok (.iconst 0, 1) := by decide +kernel
theorem d_M_feed_2 : decode b_M_feed 2 = .ok (.putfield 84, 3) := by decide +kernel
theorem d_M_feed_5 : decode b_M_feed 5 = .ok (.aload_n 0, 1) := by decide +kernel
theorem d_M_feed_6 : decode b_M_feed 6 = .ok (.getfield 169, 3) := by decide +kernel
theorem d_M_feed_9 : decode b_M_feed 9 = .ok (.bipush 20, 2) := by decide +kernel
theorem d_M_feed_11 : decode b_M_feed 11 = .ok (.iadd, 1) := by decide +kernel
theorem d_M_feed_12 : decode b_M_feed 12 = .ok (.sipush 30000, 3) := by decide +kernel
theorem d_M_feed_15 : decode b_M_feed 15 = .ok (.if_icmp .le 5, 3) := by decide +kernel
theorem d_M_feed_18 : decode b_M_feed 18 = .ok (.iconst 0, 1) := by decide +kernel
theorem d_M_feed_19 : decode b_M_feed 19 = .ok (.ireturn, 1) := by decide +kernel
theorem d_M_feed_20 : decode b_M_feed 20 = .ok (.iconst 0, 1) := by decide +kernel
theorem d_M_feed_21 : decode b_M_feed 21 = .ok (.istore 6, 2) := by decide +kernel
theorem d_M_feed_23 : decode b_M_feed 23 = .ok (.iload 6, 2) := by decide +kernel
theorem d_M_feed_25 : decode b_M_feed 25 = .ok (.bipush 20, 2) := by decide +kernel
theorem d_M_feed_27 : decode b_M_feed 27 = .ok (.if_icmp .ge 86, 3) := by decide +kernel
theorem d_M_feed_30 : decode b_M_feed 30 = .ok (.iload 6, 2) := by decide +kernel
theorem d_M_feed_32 : decode b_M_feed 32 = .ok (.iconst 4, 1) := by decide +kernel
theorem d_M_feed_33 : decode b_M_feed 33 = .ok (.if_icmp .ge 7, 3) := by decide +kernel
theorem d_M_feed_36 : decode b_M_feed 36 = .ok (.iload_n 1, 1) := by decide +kernel
theorem d_M_feed_37 : decode b_M_feed 37 = .ok (.goto 39, 3) := by decide +kernel
theorem d_M_feed_40 : decode b_M_feed 40 = .ok (.iload 6, 2) := by decide +kernel
theorem d_M_feed_42 : decode b_M_feed 42 = .ok (.bipush 8, 2) := by decide +kernel
theorem d_M_feed_44 : decode b_M_feed 44 = .ok (.if_icmp .ge 7, 3) := by decide +kernel
theorem d_M_feed_47 : decode b_M_feed 47 = .ok (.iload_n 2, 1) := by decide +kernel
theorem d_M_feed_48 : decode b_M_feed 48 = .ok (.goto 28, 3) := by decide +kernel
theorem d_M_feed_51 : decode b_M_feed 51 = .ok (.iload 6, 2) := by decide +kernel
theorem d_M_feed_53 : decode b_M_feed 53 = .ok (.bipush 12, 2) := by decide +kernel
theorem d_M_feed_55 : decode b_M_feed 55 = .ok (.if_icmp .ge 7, 3) := by decide +kernel
theorem d_M_feed_58 : decode b_M_feed 58 = .ok (.iload_n 3, 1) := by decide +kernel
theorem d_M_feed_59 : decode b_M_feed 59 = .ok (.goto 17, 3) := by decide +kernel
theorem d_M_feed_62 : decode b_M_feed 62 = .ok (.iload 6, 2) := by decide +kernel
theorem d_M_feed_64 : decode b_M_feed 64 = .ok (.bipush 16, 2) := by decide +kernel
theorem d_M_feed_66 : decode b_M_feed 66 = .ok (.if_icmp .ge 8, 3) := by decide +kernel
theorem d_M_feed_69 : decode b_M_feed 69 = .ok (.iload 4, 2) := by decide +kernel
theorem d_M_feed_71 : decode b_M_feed 71 = .ok (.goto 5, 3) := by decide +kernel
theorem d_M_feed_74 : decode b_M_feed 74 = .ok (.iload 5, 2) := by decide +kernel
theorem d_M_feed_76 : decode b_M_feed 76 = .ok (.istore 7, 2) := by decide +kernel
theorem d_M_feed_78 : decode b_M_feed 78 = .ok (.aload_n 0, 1) := by decide +kernel
theorem d_M_feed_79 : decode b_M_feed 79 = .ok (.getfield 50, 3) := by decide +kernel
theorem d_M_feed_82 : decode b_M_feed 82 = .ok (.aload_n 0, 1) := by decide +kernel
theorem d_M_feed_83 : decode b_M_feed 83 = .ok (.getfield 169, 3) := by decide +kernel
theorem d_M_feed_86 : decode b_M_feed 86 = .ok (.iload 6, 2) := by decide +kernel
theorem d_M_feed_88 : decode b_M_feed 88 = .ok (.iadd, 1) := by decide +kernel
theorem d_M_feed_89 : decode b_M_feed 89 = .ok (.iload 7, 2) := by decide +kernel
theorem d_M_feed_91 : decode b_M_feed 91 = .ok (.bipush 24, 2) := by decide +kernel
theorem d_M_feed_93 : decode b_M_feed 93 = .ok (.bipush 8, 2) := by decide +kernel
theorem d_M_feed_95 : decode b_M_feed 95 = .ok (.iload 6, 2) := by decide +kernel
theorem d_M_feed_97 : decode b_M_feed 97 = .ok (.iconst 4, 1) := by decide +kernel
theorem d_M_feed_98 : decode b_M_feed 98 = .ok (.irem, 1) := by decide +kernel
theorem d_M_feed_99 : decode b_M_feed 99 = .ok (.imul, 1) := by decide +kernel
theorem d_M_feed_100 : decode b_M_feed 100 = .ok (.isub, 1) := by decide +kernel
theorem d_M_feed_101 : decode b_M_feed 101 = .ok (.ishr, 1) := by decide +kernel
theorem d_M_feed_102 : decode b_M_feed 102 = .ok (.sipush 255, 3) := by decide +kernel
theorem d_M_feed_105 : decode b_M_feed 105 = .ok (.iand, 1) := by decide +kernel
theorem d_M_feed_106 : decode b_M_feed 106 = .ok (.iastore, 1) := by decide +kernel
theorem d_M_feed_107 : decode b_M_feed 107 = .ok (.iinc 6 1, 3) := by decide +kernel
theorem d_M_feed_110 : decode b_M_feed 110 = .ok (.goto (-87), 3) := by decide +kernel
theorem d_M_feed_113 : decode b_M_feed 113 = .ok (.aload_n 0, 1) := by decide +kernel
theorem d_M_feed_114 : decode b_M_feed 114 = .ok (.dup, 1) := by decide +kernel
theorem d_M_feed_115 : decode b_M_feed 115 = .ok (.getfield 169, 3) := by decide +kernel
theorem d_M_feed_118 : decode b_M_feed 118 = .ok (.bipush 20, 2) := by decide +kernel
theorem d_M_feed_120 : decode b_M_feed 120 = .ok (.iadd, 1) := by decide +kernel
theorem d_M_feed_121 : decode b_M_feed 121 = .ok (.putfield 169, 3) := by decide +kernel
theorem d_M_feed_124 : decode b_M_feed 124 = .ok (.iconst 1, 1) := by decide +kernel
theorem d_M_feed_125 : decode b_M_feed 125 = .ok (.ireturn, 1) := by decide +kernel
theorem d_M_end_0 : decode b_M_end 0 = .ok (.aload_n 0, 1) := by decide +kernel
theorem d_M_end_1 : decode b_M_end 1 = .ok (.iconst 0, 1) := by decide +kernel
theorem d_M_end_2 : decode b_M_end 2 = .ok (.putfield 84, 3) := by decide +kernel
theorem d_M_end_5 : decode b_M_end 5 = .ok (.iload_n 1, 1) := by decide +kernel
theorem d_M_end_6 : decode b_M_end 6 = .ok (.ifCond .lt 11, 3) := by decide +kernel
theorem d_M_end_9 : decode b_M_end 9 = .ok (.iload_n 1, 1) := by decide +kernel
theorem d_M_end_10 : decode b_M_end 10 = .ok (.aload_n 0, 1) := by decide +kernel
theorem d_M_end_11 : decode b_M_end 11 = .ok (.getfield 169, 3) := by decide +kernel
theorem d_M_end_14 : decode b_M_end 14 = .ok (.if_icmp .le 5, 3) := by decide +kernel
theorem d_M_end_17 : decode b_M_end 17 = .ok (.iconst 0, 1) := by decide +kernel
theorem d_M_end_18 : decode b_M_end 18 = .ok (.ireturn, 1) := by decide +kernel
theorem d_M_end_19 : decode b_M_end 19 = .ok (.iconst 0, 1) := by decide +kernel
theorem d_M_end_20 : decode b_M_end 20 = .ok (.istore_n 2, 1) := by decide +kernel
theorem d_M_end_21 : decode b_M_end 21 = .ok (.iload_n 2, 1) := by decide +kernel
theorem d_M_end_22 : decode b_M_end 22 = .ok (.iload_n 1, 1) := by decide +kernel
theorem d_M_end_23 : decode b_M_end 23 = .ok (.if_icmp .ge 21, 3) := by decide +kernel
theorem d_M_end_26 : decode b_M_end 26 = .ok (.aload_n 0, 1) := by decide +kernel
theorem d_M_end_27 : decode b_M_end 27 = .ok (.getfield 53, 3) := by decide +kernel
theorem d_M_end_30 : decode b_M_end 30 = .ok (.iload_n 2, 1) := by decide +kernel
theorem d_M_end_31 : decode b_M_end 31 = .ok (.aload_n 0, 1) := by decide +kernel
theorem d_M_end_32 : decode b_M_end 32 = .ok (.getfield 50, 3) := by decide +kernel
theorem d_M_end_35 : decode b_M_end 35 = .ok (.iload_n 2, 1) := by decide +kernel
theorem d_M_end_36 : decode b_M_end 36 = .ok (.iaload, 1) := by decide +kernel
theorem d_M_end_37 : decode b_M_end 37 = .ok (.iastore, 1) := by decide +kernel
theorem d_M_end_38 : decode b_M_end 38 = .ok (.iinc 2 1, 3) := by decide +kernel
theorem d_M_end_41 : decode b_M_end 41 = .ok (.goto (-20), 3) := by decide +kernel
theorem d_M_end_44 : decode b_M_end 44 = .ok (.aload_n 0, 1) := by decide +kernel
theorem d_M_end_45 : decode b_M_end 45 = .ok (.iload_n 1, 1) := by decide +kernel
theorem d_M_end_46 : decode b_M_end 46 = .ok (.putfield 172, 3) := by decide +kernel
theorem d_M_end_49 : decode b_M_end 49 = .ok (.aload_n 0, 1) := by decide +kernel
theorem d_M_end_50 : decode b_M_end 50 = .ok (.iconst 0, 1) := by decide +kernel
theorem d_M_end_51 : decode b_M_end 51 = .ok (.putfield 169, 3) := by decide +kernel
theorem d_M_end_54 : decode b_M_end 54 = .ok (.iconst 1, 1) := by decide +kernel
theorem d_M_end_55 : decode b_M_end 55 = .ok (.ireturn, 1) := by decide +kernel
theorem d_M_empty_0 : decode b_M_empty 0 = .ok (.aload_n 0, 1) := by decide +kernel
theorem d_M_empty_1 : decode b_M_empty 1 = .ok (.iconst 0, 1) := by decide +kernel
theorem d_M_empty_2 : decode b_M_empty 2 = .ok (.putfield 175, 3) := by decide +kernel
theorem d_M_empty_5 : decode b_M_empty 5 = .ok (.aload_n 0, 1) := by decide +kernel
theorem d_M_empty_6 : decode b_M_empty 6 = .ok (.iconst 0, 1) := by decide +kernel
theorem d_M_empty_7 : decode b_M_empty 7 = .ok (.putfield 178, 3) := by decide +kernel
theorem d_M_empty_10 : decode b_M_empty 10 = .ok (.return_, 1) := by decide +kernel
theorem d_M_column_0 : decode b_M_column 0 = .ok (.aload_n 0, 1) := by decide +kernel
theorem d_M_column_1 : decode b_M_column 1 = .ok (.iconst 0, 1) := by decide +kernel
theorem d_M_column_2 : decode b_M_column 2 = .ok (.putfield 84, 3) := by decide +kernel
theorem d_M_column_5 : decode b_M_column 5 = .ok (.iload_n 1, 1) := by decide +kernel
theorem d_M_column_6 : decode b_M_column 6 = .ok (.ifCond .lt 23, 3) := by decide +kernel
theorem d_M_column_9 : decode b_M_column 9 = .ok (.iload_n 1, 1) := by decide +kernel
theorem d_M_column_10 : decode b_M_column 10 = .ok (.iconst 3, 1) := by decide +kernel
theorem d_M_column_11 : decode b_M_column 11 = .ok (.if_icmp .gt 18, 3) := by decide +kernel
theorem d_M_column_14 : decode b_M_column 14 = .ok (.iload_n 2, 1) := by decide +kernel
theorem d_M_column_15 : decode b_M_column 15 = .ok (.ifCond .lt 14, 3) := by decide +kernel
theorem d_M_column_18 : decode b_M_column 18 = .ok (.iload_n 3, 1) := by decide +kernel
theorem d_M_column_19 : decode b_M_column 19 = .ok (.bipush 16, 2) := by decide +kernel
theorem d_M_column_21 : decode b_M_column 21 = .ok (.if_icmp .gt 8, 3) := by decide +kernel
theorem d_M_column_24 : decode b_M_column 24 = .ok (.iload_n 2, 1) := by decide +kernel
