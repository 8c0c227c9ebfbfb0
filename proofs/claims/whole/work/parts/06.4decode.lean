theorem d_M_readWords_22 : decode b_M_readWords 22 = .ok (.lload_n 2, 1) := by decide +kernel
theorem d_M_readWords_23 : decode b_M_readWords 23 = .ok (.iload_n 1, 1) := by decide +kernel
theorem d_M_readWords_24 : decode b_M_readWords 24 = .ok (.i2l, 1) := by decide +kernel
theorem d_M_readWords_25 : decode b_M_readWords 25 = .ok (.lcmp, 1) := by decide +kernel
theorem d_M_readWords_26 : decode b_M_readWords 26 = .ok (.ifCond .le 8, 3) := by decide +kernel
theorem d_M_readWords_29 : decode b_M_readWords 29 = .ok (.aload_n 0, 1) := by decide +kernel
theorem d_M_readWords_30 : decode b_M_readWords 30 = .ok (.iconst 4, 1) := by decide +kernel
theorem d_M_readWords_31 : decode b_M_readWords 31 = .ok (.putfield 91, 3) := by decide +kernel
theorem d_M_readWords_34 : decode b_M_readWords 34 = .ok (.iconst 0, 1) := by decide +kernel
theorem d_M_readWords_35 : decode b_M_readWords 35 = .ok (.istore 4, 2) := by decide +kernel
theorem d_M_readWords_37 : decode b_M_readWords 37 = .ok (.iload 4, 2) := by decide +kernel
theorem d_M_readWords_39 : decode b_M_readWords 39 = .ok (.i2l, 1) := by decide +kernel
theorem d_M_readWords_40 : decode b_M_readWords 40 = .ok (.lload_n 2, 1) := by decide +kernel
theorem d_M_readWords_41 : decode b_M_readWords 41 = .ok (.lcmp, 1) := by decide +kernel
theorem d_M_readWords_42 : decode b_M_readWords 42 = .ok (.ifCond .ge 27, 3) := by decide +kernel
theorem d_M_readWords_45 : decode b_M_readWords 45 = .ok (.aload_n 0, 1) := by decide +kernel
theorem d_M_readWords_46 : decode b_M_readWords 46 = .ok (.getfield 91, 3) := by decide +kernel
theorem d_M_readWords_49 : decode b_M_readWords 49 = .ok (.ifCond .ne 20, 3) := by decide +kernel
theorem d_M_readWords_52 : decode b_M_readWords 52 = .ok (.aload_n 0, 1) := by decide +kernel
theorem d_M_readWords_53 : decode b_M_readWords 53 = .ok (.getfield 29, 3) := by decide +kernel
theorem d_M_readWords_56 : decode b_M_readWords 56 = .ok (.iload 4, 2) := by decide +kernel
theorem d_M_readWords_58 : decode b_M_readWords 58 = .ok (.aload_n 0, 1) := by decide +kernel
theorem d_M_readWords_59 : decode b_M_readWords 59 = .ok (.invokevirtual 316, 3) := by decide +kernel
theorem d_M_readWords_62 : decode b_M_readWords 62 = .ok (.lastore, 1) := by decide +kernel
theorem d_M_readWords_63 : decode b_M_readWords 63 = .ok (.iinc 4 1, 3) := by decide +kernel
theorem d_M_readWords_66 : decode b_M_readWords 66 = .ok (.goto (-29), 3) := by decide +kernel
theorem d_M_readWords_69 : decode b_M_readWords 69 = .ok (.aload_n 0, 1) := by decide +kernel
theorem d_M_readWords_70 : decode b_M_readWords 70 = .ok (.iconst 1, 1) := by decide +kernel
theorem d_M_readWords_71 : decode b_M_readWords 71 = .ok (.aload_n 0, 1) := by decide +kernel
theorem d_M_readWords_72 : decode b_M_readWords 72 = .ok (.getfield 153, 3) := by decide +kernel
theorem d_M_readWords_75 : decode b_M_readWords 75 = .ok (.invokevirtual 312, 3) := by decide +kernel
theorem d_M_readWords_78 : decode b_M_readWords 78 = .ok (.l2i, 1) := by decide +kernel
theorem d_M_readWords_79 : decode b_M_readWords 79 = .ok (.istore 4, 2) := by decide +kernel
theorem d_M_readWords_81 : decode b_M_readWords 81 = .ok (.aload_n 0, 1) := by decide +kernel
theorem d_M_readWords_82 : decode b_M_readWords 82 = .ok (.getfield 91, 3) := by decide +kernel
theorem d_M_readWords_85 : decode b_M_readWords 85 = .ok (.ifCond .ne 15, 3) := by decide +kernel
theorem d_M_readWords_88 : decode b_M_readWords 88 = .ok (.iload 4, 2) := by decide +kernel
theorem d_M_readWords_90 : decode b_M_readWords 90 = .ok (.bipush 32, 2) := by decide +kernel
theorem d_M_readWords_92 : decode b_M_readWords 92 = .ok (.if_icmp .le 8, 3) := by decide +kernel
theorem d_M_readWords_95 : decode b_M_readWords 95 = .ok (.aload_n 0, 1) := by decide +kernel
theorem d_M_readWords_96 : decode b_M_readWords 96 = .ok (.iconst 5, 1) := by decide +kernel
theorem d_M_readWords_97 : decode b_M_readWords 97 = .ok (.putfield 91, 3) := by decide +kernel
theorem d_M_readWords_100 : decode b_M_readWords 100 = .ok (.aload_n 0, 1) := by decide +kernel
theorem d_M_readWords_101 : decode b_M_readWords 101 = .ok (.getfield 91, 3) := by decide +kernel
theorem d_M_readWords_104 : decode b_M_readWords 104 = .ok (.ifCond .ne 18, 3) := by decide +kernel
theorem d_M_readWords_107 : decode b_M_readWords 107 = .ok (.aload_n 0, 1) := by decide +kernel
theorem d_M_readWords_108 : decode b_M_readWords 108 = .ok (.aload_n 0, 1) := by decide +kernel
theorem d_M_readWords_109 : decode b_M_readWords 109 = .ok (.getfield 66, 3) := by decide +kernel
theorem d_M_readWords_112 : decode b_M_readWords 112 = .ok (.iload_n 1, 1) := by decide +kernel
theorem d_M_readWords_113 : decode b_M_readWords 113 = .ok (.iload 4, 2) := by decide +kernel
theorem d_M_readWords_115 : decode b_M_readWords 115 = .ok (.aload_n 0, 1) := by decide +kernel
theorem d_M_readWords_116 : decode b_M_readWords 116 = .ok (.getfield 153, 3) := by decide +kernel
theorem d_M_readWords_119 : decode b_M_readWords 119 = .ok (.invokevirtual 299, 3) := by decide +kernel
theorem d_M_readWords_122 : decode b_M_readWords 122 = .ok (.aload_n 0, 1) := by decide +kernel
theorem d_M_readWords_123 : decode b_M_readWords 123 = .ok (.getfield 91, 3) := by decide +kernel
theorem d_M_readWords_126 : decode b_M_readWords 126 = .ok (.ifCond .ne 20, 3) := by decide +kernel
theorem d_M_readWords_129 : decode b_M_readWords 129 = .ok (.aload_n 0, 1) := by decide +kernel
theorem d_M_readWords_130 : decode b_M_readWords 130 = .ok (.getfield 94, 3) := by decide +kernel
theorem d_M_readWords_133 : decode b_M_readWords 133 = .ok (.aload_n 0, 1) := by decide +kernel
theorem d_M_readWords_134 : decode b_M_readWords 134 = .ok (.getfield 153, 3) := by decide +kernel
theorem d_M_readWords_137 : decode b_M_readWords 137 = .ok (.if_icmp .ge 9, 3) := by decide +kernel
theorem d_M_readWords_140 : decode b_M_readWords 140 = .ok (.aload_n 0, 1) := by decide +kernel
theorem d_M_readWords_141 : decode b_M_readWords 141 = .ok (.bipush 6, 2) := by decide +kernel
theorem d_M_readWords_143 : decode b_M_readWords 143 = .ok (.putfield 91, 3) := by decide +kernel
theorem d_M_readWords_146 : decode b_M_readWords 146 = .ok (.iconst 0, 1) := by decide +kernel
theorem d_M_readWords_147 : decode b_M_readWords 147 = .ok (.istore 5, 2) := by decide +kernel
theorem d_M_readWords_149 : decode b_M_readWords 149 = .ok (.iload 5, 2) := by decide +kernel
theorem d_M_readWords_151 : decode b_M_readWords 151 = .ok (.iload_n 1, 1) := by decide +kernel
theorem d_M_readWords_152 : decode b_M_readWords 152 = .ok (.if_icmp .ge 67, 3) := by decide +kernel
theorem d_M_readWords_155 : decode b_M_readWords 155 = .ok (.aload_n 0, 1) := by decide +kernel
theorem d_M_readWords_156 : decode b_M_readWords 156 = .ok (.getfield 91, 3) := by decide +kernel
theorem d_M_readWords_159 : decode b_M_readWords 159 = .ok (.ifCond .ne 60, 3) := by decide +kernel
theorem d_M_readWords_162 : decode b_M_readWords 162 = .ok (.aload_n 0, 1) := by decide +kernel
theorem d_M_readWords_163 : decode b_M_readWords 163 = .ok (.getfield 66, 3) := by decide +kernel
theorem d_M_readWords_166 : decode b_M_readWords 166 = .ok (.iload 5, 2) := by decide +kernel
theorem d_M_readWords_168 : decode b_M_readWords 168 = .ok (.iaload, 1) := by decide +kernel
theorem d_M_readWords_169 : decode b_M_readWords 169 = .ok (.ifCond .lt 16, 3) := by decide +kernel
theorem d_M_readWords_172 : decode b_M_readWords 172 = .ok (.aload_n 0, 1) := by decide +kernel
theorem d_M_readWords_173 : decode b_M_readWords 173 = .ok (.getfield 66, 3) := by decide +kernel
theorem d_M_readWords_176 : decode b_M_readWords 176 = .ok (.iload 5, 2) := by decide +kernel
theorem d_M_readWords_178 : decode b_M_readWords 178 = .ok (.iaload, 1) := by decide +kernel
theorem d_M_readWords_179 : decode b_M_readWords 179 = .ok (.i2l, 1) := by decide +kernel
theorem d_M_readWords_180 : decode b_M_readWords 180 = .ok (.lload_n 2, 1) := by decide +kernel
theorem d_M_readWords_181 : decode b_M_readWords 181 = .ok (.lcmp, 1) := by decide +kernel
theorem d_M_readWords_182 : decode b_M_readWords 182 = .ok (.ifCond .lt 12, 3) := by decide +kernel
theorem d_M_readWords_185 : decode b_M_readWords 185 = .ok (.aload_n 0, 1) := by decide +kernel
theorem d_M_readWords_186 : decode b_M_readWords 186 = .ok (.bipush 7, 2) := by decide +kernel
theorem d_M_readWords_188 : decode b_M_readWords 188 = .ok (.putfield 91, 3) := by decide +kernel
theorem d_M_readWords_191 : decode b_M_readWords 191 = .ok (.goto 22, 3) := by decide +kernel
theorem d_M_readWords_194 : decode b_M_readWords 194 = .ok (.aload_n 0, 1) := by decide +kernel
theorem d_M_readWords_195 : decode b_M_readWords 195 = .ok (.getfield 26, 3) := by decide +kernel
theorem d_M_readWords_198 : decode b_M_readWords 198 = .ok (.iload 5, 2) := by decide +kernel
theorem d_M_readWords_200 : decode b_M_readWords 200 = .ok (.aload_n 0, 1) := by decide +kernel
theorem d_M_readWords_201 : decode b_M_readWords 201 = .ok (.getfield 29, 3) := by decide +kernel
theorem d_M_readWords_204 : decode b_M_readWords 204 = .ok (.aload_n 0, 1) := by decide +kernel
theorem d_M_readWords_205 : decode b_M_readWords 205 = .ok (.getfield 66, 3) := by decide +kernel
theorem d_M_readWords_208 : decode b_M_readWords 208 = .ok (.iload 5, 2) := by decide +kernel
theorem d_M_readWords_210 : decode b_M_readWords 210 = .ok (.iaload, 1) := by decide +kernel
theorem d_M_readWords_211 : decode b_M_readWords 211 = .ok (.laload, 1) := by decide +kernel
theorem d_M_readWords_212 : decode b_M_readWords 212 = .ok (.lastore, 1) := by decide +kernel
theorem d_M_readWords_213 : decode b_M_readWords 213 = .ok (.iinc 5 1, 3) := by decide +kernel
theorem d_M_readWords_216 : decode b_M_readWords 216 = .ok (.goto (-67), 3) := by decide +kernel
theorem d_M_readWords_219 : decode b_M_readWords 219 = .ok (.return_, 1) := by decide +kernel
theorem d_M_readLevels_0 : decode b_M_readLevels 0 = .ok (.iconst 0, 1) := by decide +kernel
theorem d_M_readLevels_1 : decode b_M_readLevels 1 = .ok (.istore 4, 2) := by decide +kernel
theorem d_M_readLevels_3 : decode b_M_readLevels 3 = .ok (.iload 4, 2) := by decide +kernel
theorem d_M_readLevels_5 : decode b_M_readLevels 5 = .ok (.iload_n 2, 1) := by decide +kernel
theorem d_M_readLevels_6 : decode b_M_readLevels 6 = .ok (.if_icmp .ge 18, 3) := by decide +kernel
theorem d_M_readLevels_9 : decode b_M_readLevels 9 = .ok (.iload_n 3, 1) := by decide +kernel
theorem d_M_readLevels_10 : decode b_M_readLevels 10 = .ok (.ifCond .ne 14, 3) := by decide +kernel
theorem d_M_readLevels_13 : decode b_M_readLevels 13 = .ok (.aload_n 1, 1) := by decide +kernel
theorem d_M_readLevels_14 : decode b_M_readLevels 14 = .ok (.iload 4, 2) := by decide +kernel
theorem d_M_readLevels_16 : decode b_M_readLevels 16 = .ok (.iconst 0, 1) := by decide +kernel
theorem d_M_readLevels_17 : decode b_M_readLevels 17 = .ok (.iastore, 1) := by decide +kernel
theorem d_M_readLevels_18 : decode b_M_readLevels 18 = .ok (.iinc 4 1, 3) := by decide +kernel
theorem d_M_readLevels_21 : decode b_M_readLevels 21 = .ok (.goto (-18), 3) := by decide +kernel
theorem d_M_readLevels_24 : decode b_M_readLevels 24 = .ok (.iload_n 3, 1) := by decide +kernel
theorem d_M_readLevels_25 : decode b_M_readLevels 25 = .ok (.ifCond .eq 10, 3) := by decide +kernel
theorem d_M_readLevels_28 : decode b_M_readLevels 28 = .ok (.aload_n 0, 1) := by decide +kernel
theorem d_M_readLevels_29 : decode b_M_readLevels 29 = .ok (.getfield 91, 3) := by decide +kernel
theorem d_M_readLevels_32 : decode b_M_readLevels 32 = .ok (.ifCond .eq 4, 3) := by decide +kernel
theorem d_M_readLevels_35 : decode b_M_readLevels 35 = .ok (.return_, 1) := by decide +kernel
theorem d_M_readLevels_36 : decode b_M_readLevels 36 = .ok (.aload_n 0, 1) := by decide +kernel
theorem d_M_readLevels_37 : decode b_M_readLevels 37 = .ok (.aload_n 0, 1) := by decide +kernel
theorem d_M_readLevels_38 : decode b_M_readLevels 38 = .ok (.getfield 153, 3) := by decide +kernel
theorem d_M_readLevels_41 : decode b_M_readLevels 41 = .ok (.invokevirtual 113, 3) := by decide +kernel
theorem d_M_readLevels_44 : decode b_M_readLevels 44 = .ok (.lstore 4, 2) := by decide +kernel
theorem d_M_readLevels_46 : decode b_M_readLevels 46 = .ok (.aload_n 0, 1) := by decide +kernel
theorem d_M_readLevels_47 : decode b_M_readLevels 47 = .ok (.getfield 91, 3) := by decide +kernel
theorem d_M_readLevels_50 : decode b_M_readLevels 50 = .ok (.ifCond .ne 31, 3) := by decide +kernel
theorem d_M_readLevels_53 : decode b_M_readLevels 53 = .ok (.lload 4, 2) := by decide +kernel
theorem d_M_readLevels_55 : decode b_M_readLevels 55 = .ok (.lconst 0, 1) := by decide +kernel
theorem d_M_readLevels_56 : decode b_M_readLevels 56 = .ok (.lcmp, 1) := by decide +kernel
theorem d_M_readLevels_57 : decode b_M_readLevels 57 = .ok (.ifCond .lt 19, 3) := by decide +kernel
theorem d_M_readLevels_60 : decode b_M_readLevels 60 = .ok (.lload 4, 2) := by decide +kernel
theorem d_M_readLevels_62 : decode b_M_readLevels 62 = .ok (.aload_n 0, 1) := by decide +kernel
theorem d_M_readLevels_63 : decode b_M_readLevels 63 = .ok (.getfield 153, 3) := by decide +kernel
theorem d_M_readLevels_66 : decode b_M_readLevels 66 = .ok (.aload_n 0, 1) := by decide +kernel
theorem d_M_readLevels_67 : decode b_M_readLevels 67 = .ok (.getfield 94, 3) := by decide +kernel
theorem d_M_readLevels_70 : decode b_M_readLevels 70 = .ok (.isub, 1) := by decide +kernel
theorem d_M_readLevels_71 : decode b_M_readLevels 71 = .ok (.i2l, 1) := by decide +kernel
theorem d_M_readLevels_72 : decode b_M_readLevels 72 = .ok (.lcmp, 1) := by decide +kernel
theorem d_M_readLevels_73 : decode b_M_readLevels 73 = .ok (.ifCond .le 8, 3) := by decide +kernel
theorem d_M_readLevels_76 : decode b_M_readLevels 76 = .ok (.aload_n 0, 1) := by decide +kernel
theorem d_M_readLevels_77 : decode b_M_readLevels 77 = .ok (.iconst 1, 1) := by decide +kernel
theorem d_M_readLevels_78 : decode b_M_readLevels 78 = .ok (.putfield 91, 3) := by decide +kernel
theorem d_M_readLevels_81 : decode b_M_readLevels 81 = .ok (.aload_n 0, 1) := by decide +kernel
theorem d_M_readLevels_82 : decode b_M_readLevels 82 = .ok (.getfield 91, 3) := by decide +kernel
theorem d_M_readLevels_85 : decode b_M_readLevels 85 = .ok (.ifCond .eq 4, 3) := by decide +kernel
theorem d_M_readLevels_88 : decode b_M_readLevels 88 = .ok (.return_, 1) := by decide +kernel
theorem d_M_readLevels_89 : decode b_M_readLevels 89 = .ok (.aload_n 0, 1) := by decide +kernel
theorem d_M_readLevels_90 : decode b_M_readLevels 90 = .ok (.getfield 94, 3) := by decide +kernel
theorem d_M_readLevels_93 : decode b_M_readLevels 93 = .ok (.lload 4, 2) := by decide +kernel
theorem d_M_readLevels_95 : decode b_M_readLevels 95 = .ok (.l2i, 1) := by decide +kernel
theorem d_M_readLevels_96 : decode b_M_readLevels 96 = .ok (.iadd, 1) := by decide +kernel
theorem d_M_readLevels_97 : decode b_M_readLevels 97 = .ok (.istore 6, 2) := by decide +kernel
theorem d_M_readLevels_99 : decode b_M_readLevels 99 = .ok (.iconst 0, 1) := by decide +kernel
theorem d_M_readLevels_100 : decode b_M_readLevels 100 = .ok (.istore 7, 2) := by decide +kernel
theorem d_M_readLevels_102 : decode b_M_readLevels 102 = .ok (.iload_n 3, 1) := by decide +kernel
theorem d_M_readLevels_103 : decode b_M_readLevels 103 = .ok (.iload 7, 2) := by decide +kernel
theorem d_M_readLevels_105 : decode b_M_readLevels 105 = .ok (.ishr, 1) := by decide +kernel
theorem d_M_readLevels_106 : decode b_M_readLevels 106 = .ok (.ifCond .le 9, 3) := by decide +kernel
theorem d_M_readLevels_109 : decode b_M_readLevels 109 = .ok (.iinc 7 1, 3) := by decide +kernel
theorem d_M_readLevels_112 : decode b_M_readLevels 112 = .ok (.goto (-10), 3) := by decide +kernel
theorem d_M_readLevels_115 : decode b_M_readLevels 115 = .ok (.aload_n 0, 1) := by decide +kernel
theorem d_M_readLevels_116 : decode b_M_readLevels 116 = .ok (.aload_n 1, 1) := by decide +kernel
theorem d_M_readLevels_117 : decode b_M_readLevels 117 = .ok (.iload_n 2, 1) := by decide +kernel
theorem d_M_readLevels_118 : decode b_M_readLevels 118 = .ok (.iload 7, 2) := by decide +kernel
theorem d_M_readLevels_120 : decode b_M_readLevels 120 = .ok (.iload 6, 2) := by decide +kernel
theorem d_M_readLevels_122 : decode b_M_readLevels 122 = .ok (.invokevirtual 299, 3) := by decide +kernel
theorem d_M_readLevels_125 : decode b_M_readLevels 125 = .ok (.aload_n 0, 1) := by decide +kernel
theorem d_M_readLevels_126 : decode b_M_readLevels 126 = .ok (.getfield 91, 3) := by decide +kernel
theorem d_M_readLevels_129 : decode b_M_readLevels 129 = .ok (.ifCond .ne 18, 3) := by decide +kernel
theorem d_M_readLevels_132 : decode b_M_readLevels 132 = .ok (.aload_n 0, 1) := by decide +kernel
theorem d_M_readLevels_133 : decode b_M_readLevels 133 = .ok (.getfield 94, 3) := by decide +kernel
theorem d_M_readLevels_136 : decode b_M_readLevels 136 = .ok (.iload 6, 2) := by decide +kernel
theorem d_M_readLevels_138 : decode b_M_readLevels 138 = .ok (.if_icmp .ge 9, 3) := by decide +kernel
theorem d_M_readLevels_141 : decode b_M_readLevels 141 = .ok (.aload_n 0, 1) := by decide +kernel
theorem d_M_readLevels_142 : decode b_M_readLevels 142 = .ok (.bipush 6, 2) := by decide +kernel
theorem d_M_readLevels_144 : decode b_M_readLevels 144 = .ok (.putfield 91, 3) := by decide +kernel
theorem d_M_readLevels_147 : decode b_M_readLevels 147 = .ok (.iconst 0, 1) := by decide +kernel
theorem d_M_readLevels_148 : decode b_M_readLevels 148 = .ok (.istore 8, 2) := by decide +kernel
theorem d_M_readLevels_150 : decode b_M_readLevels 150 = .ok (.iload 8, 2) := by decide +kernel
theorem d_M_readLevels_152 : decode b_M_readLevels 152 = .ok (.iload_n 2, 1) := by decide +kernel
theorem d_M_readLevels_153 : decode b_M_readLevels 153 = .ok (.if_icmp .ge 37, 3) := by decide +kernel
theorem d_M_readLevels_156 : decode b_M_readLevels 156 = .ok (.aload_n 0, 1) := by decide +kernel
theorem d_M_readLevels_157 : decode b_M_readLevels 157 = .ok (.getfield 91, 3) := by decide +kernel
theorem d_M_readLevels_160 : decode b_M_readLevels 160 = .ok (.ifCond .ne 30, 3) := by decide +kernel
theorem d_M_readLevels_163 : decode b_M_readLevels 163 = .ok (.aload_n 1, 1) := by decide +kernel
theorem d_M_readLevels_164 : decode b_M_readLevels 164 = .ok (.iload 8, 2) := by decide +kernel
theorem d_M_readLevels_166 : decode b_M_readLevels 166 = .ok (.iaload, 1) := by decide +kernel
theorem d_M_readLevels_167 : decode b_M_readLevels 167 = .ok (.ifCond .lt 11, 3) := by decide +kernel
theorem d_M_readLevels_170 : decode b_M_readLevels 170 = .ok (.aload_n 1, 1) := by decide +kernel
theorem d_M_readLevels_171 : decode b_M_readLevels 171 = .ok (.iload 8, 2) := by decide +kernel
theorem d_M_readLevels_173 : decode b_M_readLevels 173 = .ok (.iaload, 1) := by decide +kernel
theorem d_M_readLevels_174 : decode b_M_readLevels 174 = .ok (.iload_n 3, 1) := by decide +kernel
theorem d_M_readLevels_175 : decode b_M_readLevels 175 = .ok (.if_icmp .le 9, 3) := by decide +kernel
theorem d_M_readLevels_178 : decode b_M_readLevels 178 = .ok (.aload_n 0, 1) := by decide +kernel
theorem d_M_readLevels_179 : decode b_M_readLevels 179 = .ok (.bipush 9, 2) := by decide +kernel
theorem d_M_readLevels_181 : decode b_M_readLevels 181 = .ok (.putfield 91, 3) := by decide +kernel
theorem d_M_readLevels_184 : decode b_M_readLevels 184 = .ok (.iinc 8 1, 3) := by decide +kernel
theorem d_M_readLevels_187 : decode b_M_readLevels 187 = .ok (.goto (-37), 3) := by decide +kernel
theorem d_M_readLevels_190 : decode b_M_readLevels 190 = .ok (.return_, 1) := by decide +kernel
theorem d_M_readTold_0 : decode b_M_readTold 0 = .ok (.aload_n 0, 1) := by decide +kernel
theorem d_M_readTold_1 : decode b_M_readTold 1 = .ok (.getfield 181, 3) := by decide +kernel
theorem d_M_readTold_4 : decode b_M_readTold 4 = .ok (.ifCond .ne 45, 3) := by decide +kernel
theorem d_M_readTold_7 : decode b_M_readTold 7 = .ok (.aload_n 0, 1) := by decide +kernel
theorem d_M_readTold_8 : decode b_M_readTold 8 = .ok (.getfield 75, 3) := by decide +kernel
theorem d_M_readTold_11 : decode b_M_readTold 11 = .ok (.iload_n 1, 1) := by decide +kernel
theorem d_M_readTold_12 : decode b_M_readTold 12 = .ok (.aload_n 0, 1) := by decide +kernel
theorem d_M_readTold_13 : decode b_M_readTold 13 = .ok (.iconst 1, 1) := by decide +kernel
theorem d_M_readTold_14 : decode b_M_readTold 14 = .ok (.aload_n 0, 1) := by decide +kernel
theorem d_M_readTold_15 : decode b_M_readTold 15 = .ok (.getfield 153, 3) := by decide +kernel
theorem d_M_readTold_18 : decode b_M_readTold 18 = .ok (.invokevirtual 312, 3) := by decide +kernel
theorem d_M_readTold_21 : decode b_M_readTold 21 = .ok (.lastore, 1) := by decide +kernel
theorem d_M_readTold_22 : decode b_M_readTold 22 = .ok (.aload_n 0, 1) := by decide +kernel
theorem d_M_readTold_23 : decode b_M_readTold 23 = .ok (.getfield 91, 3) := by decide +kernel
theorem d_M_readTold_26 : decode b_M_readTold 26 = .ok (.ifCond .ne 209, 3) := by decide +kernel
theorem d_M_readTold_29 : decode b_M_readTold 29 = .ok (.aload_n 0, 1) := by decide +kernel
theorem d_M_readTold_30 : decode b_M_readTold 30 = .ok (.getfield 75, 3) := by decide +kernel
theorem d_M_readTold_33 : decode b_M_readTold 33 = .ok (.iload_n 1, 1) := by decide +kernel
theorem d_M_readTold_34 : decode b_M_readTold 34 = .ok (.laload, 1) := by decide +kernel
theorem d_M_readTold_35 : decode b_M_readTold 35 = .ok (.lconst 1, 1) := by decide +kernel
theorem d_M_readTold_36 : decode b_M_readTold 36 = .ok (.lcmp, 1) := by decide +kernel
theorem d_M_readTold_37 : decode b_M_readTold 37 = .ok (.ifCond .le 198, 3) := by decide +kernel
theorem d_M_readTold_40 : decode b_M_readTold 40 = .ok (.aload_n 0, 1) := by decide +kernel
theorem d_M_readTold_41 : decode b_M_readTold 41 = .ok (.bipush 7, 2) := by decide +kernel
theorem d_M_readTold_43 : decode b_M_readTold 43 = .ok (.putfield 91, 3) := by decide +kernel
theorem d_M_readTold_46 : decode b_M_readTold 46 = .ok (.goto 189, 3) := by decide +kernel
theorem d_M_readTold_49 : decode b_M_readTold 49 = .ok (.aload_n 0, 1) := by decide +kernel
theorem d_M_readTold_50 : decode b_M_readTold 50 = .ok (.getfield 181, 3) := by decide +kernel
theorem d_M_readTold_53 : decode b_M_readTold 53 = .ok (.iconst 3, 1) := by decide +kernel
theorem d_M_readTold_54 : decode b_M_readTold 54 = .ok (.if_icmp .eq 49, 3) := by decide +kernel
theorem d_M_readTold_57 : decode b_M_readTold 57 = .ok (.aload_n 0, 1) := by decide +kernel
theorem d_M_readTold_58 : decode b_M_readTold 58 = .ok (.getfield 75, 3) := by decide +kernel
theorem d_M_readTold_61 : decode b_M_readTold 61 = .ok (.iload_n 1, 1) := by decide +kernel
theorem d_M_readTold_62 : decode b_M_readTold 62 = .ok (.aload_n 0, 1) := by decide +kernel
theorem d_M_readTold_63 : decode b_M_readTold 63 = .ok (.aload_n 0, 1) := by decide +kernel
theorem d_M_readTold_64 : decode b_M_readTold 64 = .ok (.getfield 153, 3) := by decide +kernel
theorem d_M_readTold_67 : decode b_M_readTold 67 = .ok (.invokevirtual 113, 3) := by decide +kernel
theorem d_M_readTold_70 : decode b_M_readTold 70 = .ok (.invokestatic 162, 3) := by decide +kernel
theorem d_M_readTold_73 : decode b_M_readTold 73 = .ok (.lastore, 1) := by decide +kernel
theorem d_M_readTold_74 : decode b_M_readTold 74 = .ok (.aload_n 0, 1) := by decide +kernel
theorem d_M_readTold_75 : decode b_M_readTold 75 = .ok (.getfield 91, 3) := by decide +kernel
theorem d_M_readTold_78 : decode b_M_readTold 78 = .ok (.ifCond .ne 157, 3) := by decide +kernel
theorem d_M_readTold_81 : decode b_M_readTold 81 = .ok (.aload_n 0, 1) := by decide +kernel
theorem d_M_readTold_82 : decode b_M_readTold 82 = .ok (.aload_n 0, 1) := by decide +kernel
theorem d_M_readTold_83 : decode b_M_readTold 83 = .ok (.getfield 75, 3) := by decide +kernel
theorem d_M_readTold_86 : decode b_M_readTold 86 = .ok (.iload_n 1, 1) := by decide +kernel
theorem d_M_readTold_87 : decode b_M_readTold 87 = .ok (.laload, 1) := by decide +kernel
theorem d_M_readTold_88 : decode b_M_readTold 88 = .ok (.invokevirtual 193, 3) := by decide +kernel
theorem d_M_readTold_91 : decode b_M_readTold 91 = .ok (.ifCond .ne 144, 3) := by decide +kernel
theorem d_M_readTold_94 : decode b_M_readTold 94 = .ok (.aload_n 0, 1) := by decide +kernel
theorem d_M_readTold_95 : decode b_M_readTold 95 = .ok (.bipush 7, 2) := by decide +kernel
theorem d_M_readTold_97 : decode b_M_readTold 97 = .ok (.putfield 91, 3) := by decide +kernel
theorem d_M_readTold_100 : decode b_M_readTold 100 = .ok (.goto 135, 3) := by decide +kernel
theorem d_M_readTold_103 : decode b_M_readTold 103 = .ok (.aload_n 0, 1) := by decide +kernel
theorem d_M_readTold_104 : decode b_M_readTold 104 = .ok (.aload_n 0, 1) := by decide +kernel
theorem d_M_readTold_105 : decode b_M_readTold 105 = .ok (.getfield 153, 3) := by decide +kernel
theorem d_M_readTold_108 : decode b_M_readTold 108 = .ok (.invokevirtual 113, 3) := by decide +kernel
theorem d_M_readTold_111 : decode b_M_readTold 111 = .ok (.lstore_n 2, 1) := by decide +kernel
theorem d_M_readTold_112 : decode b_M_readTold 112 = .ok (.aload_n 0, 1) := by decide +kernel
theorem d_M_readTold_113 : decode b_M_readTold 113 = .ok (.getfield 91, 3) := by decide +kernel
theorem d_M_readTold_116 : decode b_M_readTold 116 = .ok (.ifCond .ne 23, 3) := by decide +kernel
theorem d_M_readTold_119 : decode b_M_readTold 119 = .ok (.lload_n 2, 1) := by decide +kernel
theorem d_M_readTold_120 : decode b_M_readTold 120 = .ok (.lconst 0, 1) := by decide +kernel
theorem d_M_readTold_121 : decode b_M_readTold 121 = .ok (.lcmp, 1) := by decide +kernel
theorem d_M_readTold_122 : decode b_M_readTold 122 = .ok (.ifCond .lt 11, 3) := by decide +kernel
theorem d_M_readTold_125 : decode b_M_readTold 125 = .ok (.lload_n 2, 1) := by decide +kernel
theorem d_M_readTold_126 : decode b_M_readTold 126 = .ok (.ldc2_w 281, 3) := by decide +kernel
theorem d_M_readTold_129 : decode b_M_readTold 129 = .ok (.lcmp, 1) := by decide +kernel
theorem d_M_readTold_130 : decode b_M_readTold 130 = .ok (.ifCond .le 9, 3) := by decide +kernel
theorem d_M_readTold_133 : decode b_M_readTold 133 = .ok (.aload_n 0, 1) := by decide +kernel
theorem d_M_readTold_134 : decode b_M_readTold 134 = .ok (.bipush 7, 2) := by decide +kernel
theorem d_M_readTold_136 : decode b_M_readTold 136 = .ok (.putfield 91, 3) := by decide +kernel
theorem d_M_readTold_139 : decode b_M_readTold 139 = .ok (.aload_n 0, 1) := by decide +kernel
theorem d_M_readTold_140 : decode b_M_readTold 140 = .ok (.getfield 91, 3) := by decide +kernel
theorem d_M_readTold_143 : decode b_M_readTold 143 = .ok (.ifCond .ne 23, 3) := by decide +kernel
theorem d_M_readTold_146 : decode b_M_readTold 146 = .ok (.aload_n 0, 1) := by decide +kernel
theorem d_M_readTold_147 : decode b_M_readTold 147 = .ok (.getfield 153, 3) := by decide +kernel
theorem d_M_readTold_150 : decode b_M_readTold 150 = .ok (.aload_n 0, 1) := by decide +kernel
theorem d_M_readTold_151 : decode b_M_readTold 151 = .ok (.getfield 94, 3) := by decide +kernel
theorem d_M_readTold_154 : decode b_M_readTold 154 = .ok (.isub, 1) := by decide +kernel
theorem d_M_readTold_155 : decode b_M_readTold 155 = .ok (.i2l, 1) := by decide +kernel
theorem d_M_readTold_156 : decode b_M_readTold 156 = .ok (.lload_n 2, 1) := by decide +kernel
theorem d_M_readTold_157 : decode b_M_readTold 157 = .ok (.lcmp, 1) := by decide +kernel
theorem d_M_readTold_158 : decode b_M_readTold 158 = .ok (.ifCond .ge 8, 3) := by decide +kernel
theorem d_M_readTold_161 : decode b_M_readTold 161 = .ok (.aload_n 0, 1) := by decide +kernel
theorem d_M_readTold_162 : decode b_M_readTold 162 = .ok (.iconst 1, 1) := by decide +kernel
theorem d_M_readTold_163 : decode b_M_readTold 163 = .ok (.putfield 91, 3) := by decide +kernel
theorem d_M_readTold_166 : decode b_M_readTold 166 = .ok (.aload_n 0, 1) := by decide +kernel
theorem d_M_readTold_167 : decode b_M_readTold 167 = .ok (.getfield 91, 3) := by decide +kernel
theorem d_M_readTold_170 : decode b_M_readTold 170 = .ok (.ifCond .eq 4, 3) := by decide +kernel
theorem d_M_readTold_173 : decode b_M_readTold 173 = .ok (.return_, 1) := by decide +kernel
theorem d_M_readTold_174 : decode b_M_readTold 174 = .ok (.aload_n 0, 1) := by decide +kernel
theorem d_M_readTold_175 : decode b_M_readTold 175 = .ok (.getfield 78, 3) := by decide +kernel
theorem d_M_readTold_178 : decode b_M_readTold 178 = .ok (.iload_n 1, 1) := by decide +kernel
theorem d_M_readTold_179 : decode b_M_readTold 179 = .ok (.lload_n 2, 1) := by decide +kernel
theorem d_M_readTold_180 : decode b_M_readTold 180 = .ok (.l2i, 1) := by decide +kernel
theorem d_M_readTold_181 : decode b_M_readTold 181 = .ok (.iastore, 1) := by decide +kernel
theorem d_M_readTold_182 : decode b_M_readTold 182 = .ok (.iconst 0, 1) := by decide +kernel
theorem d_M_readTold_183 : decode b_M_readTold 183 = .ok (.istore 4, 2) := by decide +kernel
theorem d_M_readTold_185 : decode b_M_readTold 185 = .ok (.iload 4, 2) := by decide +kernel
theorem d_M_readTold_187 : decode b_M_readTold 187 = .ok (.i2l, 1) := by decide +kernel
theorem d_M_readTold_188 : decode b_M_readTold 188 = .ok (.lload_n 2, 1) := by decide +kernel
theorem d_M_readTold_189 : decode b_M_readTold 189 = .ok (.lcmp, 1) := by decide +kernel
theorem d_M_readTold_190 : decode b_M_readTold 190 = .ok (.ifCond .ge 34, 3) := by decide +kernel
theorem d_M_readTold_193 : decode b_M_readTold 193 = .ok (.aload_n 0, 1) := by decide +kernel
theorem d_M_readTold_194 : decode b_M_readTold 194 = .ok (.getfield 81, 3) := by decide +kernel
theorem d_M_readTold_197 : decode b_M_readTold 197 = .ok (.sipush 256, 3) := by decide +kernel
theorem d_M_readTold_200 : decode b_M_readTold 200 = .ok (.iload_n 1, 1) := by decide +kernel
theorem d_M_readTold_201 : decode b_M_readTold 201 = .ok (.imul, 1) := by decide +kernel
theorem d_M_readTold_202 : decode b_M_readTold 202 = .ok (.iload 4, 2) := by decide +kernel
theorem d_M_readTold_204 : decode b_M_readTold 204 = .ok (.iadd, 1) := by decide +kernel
theorem d_M_readTold_205 : decode b_M_readTold 205 = .ok (.aload_n 0, 1) := by decide +kernel
theorem d_M_readTold_206 : decode b_M_readTold 206 = .ok (.getfield 53, 3) := by decide +kernel
theorem d_M_readTold_209 : decode b_M_readTold 209 = .ok (.aload_n 0, 1) := by decide +kernel
theorem d_M_readTold_210 : decode b_M_readTold 210 = .ok (.getfield 94, 3) := by decide +kernel
theorem d_M_readTold_213 : decode b_M_readTold 213 = .ok (.iload 4, 2) := by decide +kernel
theorem d_M_readTold_215 : decode b_M_readTold 215 = .ok (.iadd, 1) := by decide +kernel
theorem d_M_readTold_216 : decode b_M_readTold 216 = .ok (.iaload, 1) := by decide +kernel
theorem d_M_readTold_217 : decode b_M_readTold 217 = .ok (.iastore, 1) := by decide +kernel
theorem d_M_readTold_218 : decode b_M_readTold 218 = .ok (.iinc 4 1, 3) := by decide +kernel
theorem d_M_readTold_221 : decode b_M_readTold 221 = .ok (.goto (-36), 3) := by decide +kernel
theorem d_M_readTold_224 : decode b_M_readTold 224 = .ok (.aload_n 0, 1) := by decide +kernel
theorem d_M_readTold_225 : decode b_M_readTold 225 = .ok (.dup, 1) := by decide +kernel
theorem d_M_readTold_226 : decode b_M_readTold 226 = .ok (.getfield 94, 3) := by decide +kernel
theorem d_M_readTold_229 : decode b_M_readTold 229 = .ok (.lload_n 2, 1) := by decide +kernel
theorem d_M_readTold_230 : decode b_M_readTold 230 = .ok (.l2i, 1) := by decide +kernel
theorem d_M_readTold_231 : decode b_M_readTold 231 = .ok (.iadd, 1) := by decide +kernel
theorem d_M_readTold_232 : decode b_M_readTold 232 = .ok (.putfield 94, 3) := by decide +kernel
theorem d_M_readTold_235 : decode b_M_readTold 235 = .ok (.return_, 1) := by decide +kernel
theorem d_M_against_0 : decode b_M_against 0 = .ok (.aload_n 0, 1) := by decide +kernel
theorem d_M_against_1 : decode b_M_against 1 = .ok (.getfield 181, 3) := by decide +kernel
theorem d_M_against_4 : decode b_M_against 4 = .ok (.iconst 3, 1) := by decide +kernel
theorem d_M_against_5 : decode b_M_against 5 = .ok (.if_icmp .eq 45, 3) := by decide +kernel
theorem d_M_against_8 : decode b_M_against 8 = .ok (.aload_n 0, 1) := by decide +kernel
theorem d_M_against_9 : decode b_M_against 9 = .ok (.getfield 26, 3) := by decide +kernel
theorem d_M_against_12 : decode b_M_against 12 = .ok (.iload_n 1, 1) := by decide +kernel
theorem d_M_against_13 : decode b_M_against 13 = .ok (.laload, 1) := by decide +kernel
theorem d_M_against_14 : decode b_M_against 14 = .ok (.aload_n 0, 1) := by decide +kernel
theorem d_M_against_15 : decode b_M_against 15 = .ok (.getfield 75, 3) := by decide +kernel
theorem d_M_against_18 : decode b_M_against 18 = .ok (.iload_n 2, 1) := by decide +kernel
theorem d_M_against_19 : decode b_M_against 19 = .ok (.laload, 1) := by decide +kernel
theorem d_M_against_20 : decode b_M_against 20 = .ok (.lcmp, 1) := by decide +kernel
theorem d_M_against_21 : decode b_M_against 21 = .ok (.ifCond .ge 7, 3) := by decide +kernel
theorem d_M_against_24 : decode b_M_against 24 = .ok (.iconst (-1), 1) := by decide +kernel
theorem d_M_against_25 : decode b_M_against 25 = .ok (.goto 24, 3) := by decide +kernel
theorem d_M_against_28 : decode b_M_against 28 = .ok (.aload_n 0, 1) := by decide +kernel
theorem d_M_against_29 : decode b_M_against 29 = .ok (.getfield 26, 3) := by decide +kernel
theorem d_M_against_32 : decode b_M_against 32 = .ok (.iload_n 1, 1) := by decide +kernel
theorem d_M_against_33 : decode b_M_against 33 = .ok (.laload, 1) := by decide +kernel
theorem d_M_against_34 : decode b_M_against 34 = .ok (.aload_n 0, 1) := by decide +kernel
theorem d_M_against_35 : decode b_M_against 35 = .ok (.getfield 75, 3) := by decide +kernel
theorem d_M_against_38 : decode b_M_against 38 = .ok (.iload_n 2, 1) := by decide +kernel
theorem d_M_against_39 : decode b_M_against 39 = .ok (.laload, 1) := by decide +kernel
theorem d_M_against_40 : decode b_M_against 40 = .ok (.lcmp, 1) := by decide +kernel
theorem d_M_against_41 : decode b_M_against 41 = .ok (.ifCond .le 7, 3) := by decide +kernel
theorem d_M_against_44 : decode b_M_against 44 = .ok (.iconst 1, 1) := by decide +kernel
theorem d_M_against_45 : decode b_M_against 45 = .ok (.goto 4, 3) := by decide +kernel
theorem d_M_against_48 : decode b_M_against 48 = .ok (.iconst 0, 1) := by decide +kernel
theorem d_M_against_49 : decode b_M_against 49 = .ok (.ireturn, 1) := by decide +kernel
theorem d_M_against_50 : decode b_M_against 50 = .ok (.aload_n 0, 1) := by decide +kernel
theorem d_M_against_51 : decode b_M_against 51 = .ok (.getfield 35, 3) := by decide +kernel
theorem d_M_against_54 : decode b_M_against 54 = .ok (.iload_n 1, 1) := by decide +kernel
theorem d_M_against_55 : decode b_M_against 55 = .ok (.iconst 1, 1) := by decide +kernel
theorem d_M_against_56 : decode b_M_against 56 = .ok (.iadd, 1) := by decide +kernel
theorem d_M_against_57 : decode b_M_against 57 = .ok (.iaload, 1) := by decide +kernel
theorem d_M_against_58 : decode b_M_against 58 = .ok (.aload_n 0, 1) := by decide +kernel
theorem d_M_against_59 : decode b_M_against 59 = .ok (.getfield 35, 3) := by decide +kernel
theorem d_M_against_62 : decode b_M_against 62 = .ok (.iload_n 1, 1) := by decide +kernel
theorem d_M_against_63 : decode b_M_against 63 = .ok (.iaload, 1) := by decide +kernel
theorem d_M_against_64 : decode b_M_against 64 = .ok (.isub, 1) := by decide +kernel
theorem d_M_against_65 : decode b_M_against 65 = .ok (.istore_n 3, 1) := by decide +kernel
theorem d_M_against_66 : decode b_M_against 66 = .ok (.iconst 0, 1) := by decide +kernel
theorem d_M_against_67 : decode b_M_against 67 = .ok (.istore 4, 2) := by decide +kernel
theorem d_M_against_69 : decode b_M_against 69 = .ok (.iload 4, 2) := by decide +kernel
theorem d_M_against_71 : decode b_M_against 71 = .ok (.iload_n 3, 1) := by decide +kernel
theorem d_M_against_72 : decode b_M_against 72 = .ok (.if_icmp .ge 79, 3) := by decide +kernel
theorem d_M_against_75 : decode b_M_against 75 = .ok (.iload 4, 2) := by decide +kernel
theorem d_M_against_77 : decode b_M_against 77 = .ok (.aload_n 0, 1) := by decide +kernel
theorem d_M_against_78 : decode b_M_against 78 = .ok (.getfield 78, 3) := by decide +kernel
theorem d_M_against_81 : decode b_M_against 81 = .ok (.iload_n 2, 1) := by decide +kernel
theorem d_M_against_82 : decode b_M_against 82 = .ok (.iaload, 1) := by decide +kernel
theorem d_M_against_83 : decode b_M_against 83 = .ok (.if_icmp .ge 68, 3) := by decide +kernel
theorem d_M_against_86 : decode b_M_against 86 = .ok (.aload_n 0, 1) := by decide +kernel
theorem d_M_against_87 : decode b_M_against 87 = .ok (.getfield 44, 3) := by decide +kernel
theorem d_M_against_90 : decode b_M_against 90 = .ok (.aload_n 0, 1) := by decide +kernel
theorem d_M_against_91 : decode b_M_against 91 = .ok (.getfield 35, 3) := by decide +kernel
theorem d_M_against_94 : decode b_M_against 94 = .ok (.iload_n 1, 1) := by decide +kernel
theorem d_M_against_95 : decode b_M_against 95 = .ok (.iaload, 1) := by decide +kernel
theorem d_M_against_96 : decode b_M_against 96 = .ok (.iload 4, 2) := by decide +kernel
theorem d_M_against_98 : decode b_M_against 98 = .ok (.iadd, 1) := by decide +kernel
theorem d_M_against_99 : decode b_M_against 99 = .ok (.iaload, 1) := by decide +kernel
theorem d_M_against_100 : decode b_M_against 100 = .ok (.aload_n 0, 1) := by decide +kernel
theorem d_M_against_101 : decode b_M_against 101 = .ok (.getfield 81, 3) := by decide +kernel
theorem d_M_against_104 : decode b_M_against 104 = .ok (.sipush 256, 3) := by decide +kernel
theorem d_M_against_107 : decode b_M_against 107 = .ok (.iload_n 2, 1) := by decide +kernel
theorem d_M_against_108 : decode b_M_against 108 = .ok (.imul, 1) := by decide +kernel
theorem d_M_against_109 : decode b_M_against 109 = .ok (.iload 4, 2) := by decide +kernel
theorem d_M_against_111 : decode b_M_against 111 = .ok (.iadd, 1) := by decide +kernel
theorem d_M_against_112 : decode b_M_against 112 = .ok (.iaload, 1) := by decide +kernel
theorem d_M_against_113 : decode b_M_against 113 = .ok (.if_icmp .eq 32, 3) := by decide +kernel
theorem d_M_against_116 : decode b_M_against 116 = .ok (.aload_n 0, 1) := by decide +kernel
theorem d_M_against_117 : decode b_M_against 117 = .ok (.getfield 44, 3) := by decide +kernel
theorem d_M_against_120 : decode b_M_against 120 = .ok (.aload_n 0, 1) := by decide +kernel
theorem d_M_against_121 : decode b_M_against 121 = .ok (.getfield 35, 3) := by decide +kernel
theorem d_M_against_124 : decode b_M_against 124 = .ok (.iload_n 1, 1) := by decide +kernel
theorem d_M_against_125 : decode b_M_against 125 = .ok (.iaload, 1) := by decide +kernel
theorem d_M_against_126 : decode b_M_against 126 = .ok (.iload 4, 2) := by decide +kernel
theorem d_M_against_128 : decode b_M_against 128 = .ok (.iadd, 1) := by decide +kernel
theorem d_M_against_129 : decode b_M_against 129 = .ok (.iaload, 1) := by decide +kernel
theorem d_M_against_130 : decode b_M_against 130 = .ok (.aload_n 0, 1) := by decide +kernel
theorem d_M_against_131 : decode b_M_against 131 = .ok (.getfield 81, 3) := by decide +kernel
theorem d_M_against_134 : decode b_M_against 134 = .ok (.sipush 256, 3) := by decide +kernel
theorem d_M_against_137 : decode b_M_against 137 = .ok (.iload_n 2, 1) := by decide +kernel
theorem d_M_against_138 : decode b_M_against 138 = .ok (.imul, 1) := by decide +kernel
theorem d_M_against_139 : decode b_M_against 139 = .ok (.iload 4, 2) := by decide +kernel
theorem d_M_against_141 : decode b_M_against 141 = .ok (.iadd, 1) := by decide +kernel
theorem d_M_against_142 : decode b_M_against 142 = .ok (.iaload, 1) := by decide +kernel
theorem d_M_against_143 : decode b_M_against 143 = .ok (.isub, 1) := by decide +kernel
theorem d_M_against_144 : decode b_M_against 144 = .ok (.ireturn, 1) := by decide +kernel
theorem d_M_against_145 : decode b_M_against 145 = .ok (.iinc 4 1, 3) := by decide +kernel
theorem d_M_against_148 : decode b_M_against 148 = .ok (.goto (-79), 3) := by decide +kernel
theorem d_M_against_151 : decode b_M_against 151 = .ok (.iload_n 3, 1) := by decide +kernel
theorem d_M_against_152 : decode b_M_against 152 = .ok (.aload_n 0, 1) := by decide +kernel
theorem d_M_against_153 : decode b_M_against 153 = .ok (.getfield 78, 3) := by decide +kernel
theorem d_M_against_156 : decode b_M_against 156 = .ok (.iload_n 2, 1) := by decide +kernel
theorem d_M_against_157 : decode b_M_against 157 = .ok (.iaload, 1) := by decide +kernel
theorem d_M_against_158 : decode b_M_against 158 = .ok (.isub, 1) := by decide +kernel
theorem d_M_against_159 : decode b_M_against 159 = .ok (.ireturn, 1) := by decide +kernel
theorem d_M_isMost_0 : decode b_M_isMost 0 = .ok (.iconst 0, 1) := by decide +kernel
theorem d_M_isMost_1 : decode b_M_isMost 1 = .ok (.istore_n 3, 1) := by decide +kernel
theorem d_M_isMost_2 : decode b_M_isMost 2 = .ok (.iconst 0, 1) := by decide +kernel
theorem d_M_isMost_3 : decode b_M_isMost 3 = .ok (.istore 4, 2) := by decide +kernel
theorem d_M_isMost_5 : decode b_M_isMost 5 = .ok (.iconst 0, 1) := by decide +kernel
theorem d_M_isMost_6 : decode b_M_isMost 6 = .ok (.istore 5, 2) := by decide +kernel
theorem d_M_isMost_8 : decode b_M_isMost 8 = .ok (.iload 5, 2) := by decide +kernel
theorem d_M_isMost_10 : decode b_M_isMost 10 = .ok (.iload_n 1, 1) := by decide +kernel
theorem d_M_isMost_11 : decode b_M_isMost 11 = .ok (.if_icmp .ge 62, 3) := by decide +kernel
theorem d_M_isMost_14 : decode b_M_isMost 14 = .ok (.aload_n 0, 1) := by decide +kernel
theorem d_M_isMost_15 : decode b_M_isMost 15 = .ok (.iload 5, 2) := by decide +kernel
theorem d_M_isMost_17 : decode b_M_isMost 17 = .ok (.iload_n 2, 1) := by decide +kernel
theorem d_M_isMost_18 : decode b_M_isMost 18 = .ok (.invokevirtual 323, 3) := by decide +kernel
theorem d_M_isMost_21 : decode b_M_isMost 21 = .ok (.istore 6, 2) := by decide +kernel
theorem d_M_isMost_23 : decode b_M_isMost 23 = .ok (.iload_n 3, 1) := by decide +kernel
theorem d_M_isMost_24 : decode b_M_isMost 24 = .ok (.ifCond .ne 8, 3) := by decide +kernel
theorem d_M_isMost_27 : decode b_M_isMost 27 = .ok (.iload 6, 2) := by decide +kernel
theorem d_M_isMost_29 : decode b_M_isMost 29 = .ok (.ifCond .ne 7, 3) := by decide +kernel
theorem d_M_isMost_32 : decode b_M_isMost 32 = .ok (.iconst 1, 1) := by decide +kernel
theorem d_M_isMost_33 : decode b_M_isMost 33 = .ok (.goto 4, 3) := by decide +kernel
theorem d_M_isMost_36 : decode b_M_isMost 36 = .ok (.iconst 0, 1) := by decide +kernel
theorem d_M_isMost_37 : decode b_M_isMost 37 = .ok (.istore_n 3, 1) := by decide +kernel
theorem d_M_isMost_38 : decode b_M_isMost 38 = .ok (.iload 4, 2) := by decide +kernel
theorem d_M_isMost_40 : decode b_M_isMost 40 = .ok (.ifCond .ne 20, 3) := by decide +kernel
theorem d_M_isMost_43 : decode b_M_isMost 43 = .ok (.iload_n 2, 1) := by decide +kernel
theorem d_M_isMost_44 : decode b_M_isMost 44 = .ok (.ifCond .ne 11, 3) := by decide +kernel
theorem d_M_isMost_47 : decode b_M_isMost 47 = .ok (.iload 6, 2) := by decide +kernel
theorem d_M_isMost_49 : decode b_M_isMost 49 = .ok (.ifCond .ge 15, 3) := by decide +kernel
theorem d_M_isMost_52 : decode b_M_isMost 52 = .ok (.goto 8, 3) := by decide +kernel
theorem d_M_isMost_55 : decode b_M_isMost 55 = .ok (.iload 6, 2) := by decide +kernel
theorem d_M_isMost_57 : decode b_M_isMost 57 = .ok (.ifCond .le 7, 3) := by decide +kernel
theorem d_M_isMost_60 : decode b_M_isMost 60 = .ok (.iconst 1, 1) := by decide +kernel
theorem d_M_isMost_61 : decode b_M_isMost 61 = .ok (.goto 4, 3) := by decide +kernel
theorem d_M_isMost_64 : decode b_M_isMost 64 = .ok (.iconst 0, 1) := by decide +kernel
theorem d_M_isMost_65 : decode b_M_isMost 65 = .ok (.istore 4, 2) := by decide +kernel
theorem d_M_isMost_67 : decode b_M_isMost 67 = .ok (.iinc 5 1, 3) := by decide +kernel
theorem d_M_isMost_70 : decode b_M_isMost 70 = .ok (.goto (-62), 3) := by decide +kernel
theorem d_M_isMost_73 : decode b_M_isMost 73 = .ok (.iload_n 3, 1) := by decide +kernel
theorem d_M_isMost_74 : decode b_M_isMost 74 = .ok (.ifCond .eq 12, 3) := by decide +kernel
theorem d_M_isMost_77 : decode b_M_isMost 77 = .ok (.iload 4, 2) := by decide +kernel
theorem d_M_isMost_79 : decode b_M_isMost 79 = .ok (.ifCond .ne 7, 3) := by decide +kernel
theorem d_M_isMost_82 : decode b_M_isMost 82 = .ok (.iconst 1, 1) := by decide +kernel
theorem d_M_isMost_83 : decode b_M_isMost 83 = .ok (.goto 4, 3) := by decide +kernel
theorem d_M_isMost_86 : decode b_M_isMost 86 = .ok (.iconst 0, 1) := by decide +kernel
theorem d_M_isMost_87 : decode b_M_isMost 87 = .ok (.ireturn, 1) := by decide +kernel
theorem d_M_readBody_0 : decode b_M_readBody 0 = .ok (.aload_n 0, 1) := by decide +kernel
theorem d_M_readBody_1 : decode b_M_readBody 1 = .ok (.aload_n 0, 1) := by decide +kernel
theorem d_M_readBody_2 : decode b_M_readBody 2 = .ok (.getfield 16, 3) := by decide +kernel
theorem d_M_readBody_5 : decode b_M_readBody 5 = .ok (.iload_n 1, 1) := by decide +kernel
theorem d_M_readBody_6 : decode b_M_readBody 6 = .ok (.aload_n 0, 1) := by decide +kernel
theorem d_M_readBody_7 : decode b_M_readBody 7 = .ok (.getfield 184, 3) := by decide +kernel
theorem d_M_readBody_10 : decode b_M_readBody 10 = .ok (.invokevirtual 326, 3) := by decide +kernel
theorem d_M_readBody_13 : decode b_M_readBody 13 = .ok (.aload_n 0, 1) := by decide +kernel
theorem d_M_readBody_14 : decode b_M_readBody 14 = .ok (.aload_n 0, 1) := by decide +kernel
theorem d_M_readBody_15 : decode b_M_readBody 15 = .ok (.getfield 19, 3) := by decide +kernel
theorem d_M_readBody_18 : decode b_M_readBody 18 = .ok (.iload_n 1, 1) := by decide +kernel
theorem d_M_readBody_19 : decode b_M_readBody 19 = .ok (.aload_n 0, 1) := by decide +kernel
theorem d_M_readBody_20 : decode b_M_readBody 20 = .ok (.getfield 187, 3) := by decide +kernel
theorem d_M_readBody_23 : decode b_M_readBody 23 = .ok (.invokevirtual 326, 3) := by decide +kernel
theorem d_M_readBody_26 : decode b_M_readBody 26 = .ok (.iconst 0, 1) := by decide +kernel
theorem d_M_readBody_27 : decode b_M_readBody 27 = .ok (.istore 4, 2) := by decide +kernel
theorem d_M_readBody_29 : decode b_M_readBody 29 = .ok (.iconst 0, 1) := by decide +kernel
theorem d_M_readBody_30 : decode b_M_readBody 30 = .ok (.istore 5, 2) := by decide +kernel
theorem d_M_readBody_32 : decode b_M_readBody 32 = .ok (.iload 5, 2) := by decide +kernel
theorem d_M_readBody_34 : decode b_M_readBody 34 = .ok (.iload_n 1, 1) := by decide +kernel
theorem d_M_readBody_35 : decode b_M_readBody 35 = .ok (.if_icmp .ge 33, 3) := by decide +kernel
theorem d_M_readBody_38 : decode b_M_readBody 38 = .ok (.iload 4, 2) := by decide +kernel
theorem d_M_readBody_40 : decode b_M_readBody 40 = .ok (.aload_n 0, 1) := by decide +kernel
theorem d_M_readBody_41 : decode b_M_readBody 41 = .ok (.getfield 19, 3) := by decide +kernel
theorem d_M_readBody_44 : decode b_M_readBody 44 = .ok (.iload 5, 2) := by decide +kernel
theorem d_M_readBody_46 : decode b_M_readBody 46 = .ok (.iaload, 1) := by decide +kernel
theorem d_M_readBody_47 : decode b_M_readBody 47 = .ok (.aload_n 0, 1) := by decide +kernel
theorem d_M_readBody_48 : decode b_M_readBody 48 = .ok (.getfield 187, 3) := by decide +kernel
theorem d_M_readBody_51 : decode b_M_readBody 51 = .ok (.if_icmp .ne 7, 3) := by decide +kernel
theorem d_M_readBody_54 : decode b_M_readBody 54 = .ok (.iconst 1, 1) := by decide +kernel
theorem d_M_readBody_55 : decode b_M_readBody 55 = .ok (.goto 4, 3) := by decide +kernel
theorem d_M_readBody_58 : decode b_M_readBody 58 = .ok (.iconst 0, 1) := by decide +kernel
theorem d_M_readBody_59 : decode b_M_readBody 59 = .ok (.iadd, 1) := by decide +kernel
theorem d_M_readBody_60 : decode b_M_readBody 60 = .ok (.istore 4, 2) := by decide +kernel
theorem d_M_readBody_62 : decode b_M_readBody 62 = .ok (.iinc 5 1, 3) := by decide +kernel
theorem d_M_readBody_65 : decode b_M_readBody 65 = .ok (.goto (-33), 3) := by decide +kernel
theorem d_M_readBody_68 : decode b_M_readBody 68 = .ok (.aload_n 0, 1) := by decide +kernel
theorem d_M_readBody_69 : decode b_M_readBody 69 = .ok (.getfield 91, 3) := by decide +kernel
theorem d_M_readBody_72 : decode b_M_readBody 72 = .ok (.ifCond .ne 15, 3) := by decide +kernel
theorem d_M_readBody_75 : decode b_M_readBody 75 = .ok (.iload 4, 2) := by decide +kernel
theorem d_M_readBody_77 : decode b_M_readBody 77 = .ok (.iload_n 2, 1) := by decide +kernel
theorem d_M_readBody_78 : decode b_M_readBody 78 = .ok (.if_icmp .eq 9, 3) := by decide +kernel
theorem d_M_readBody_81 : decode b_M_readBody 81 = .ok (.aload_n 0, 1) := by decide +kernel
theorem d_M_readBody_82 : decode b_M_readBody 82 = .ok (.bipush 10, 2) := by decide +kernel
theorem d_M_readBody_84 : decode b_M_readBody 84 = .ok (.putfield 91, 3) := by decide +kernel
theorem d_M_readBody_87 : decode b_M_readBody 87 = .ok (.aload_n 0, 1) := by decide +kernel
theorem d_M_readBody_88 : decode b_M_readBody 88 = .ok (.getfield 91, 3) := by decide +kernel
theorem d_M_readBody_91 : decode b_M_readBody 91 = .ok (.ifCond .eq 4, 3) := by decide +kernel
theorem d_M_readBody_94 : decode b_M_readBody 94 = .ok (.return_, 1) := by decide +kernel
theorem d_M_readBody_95 : decode b_M_readBody 95 = .ok (.aload_n 0, 1) := by decide +kernel
theorem d_M_readBody_96 : decode b_M_readBody 96 = .ok (.getfield 181, 3) := by decide +kernel
theorem d_M_readBody_99 : decode b_M_readBody 99 = .ok (.ifCond .ne 12, 3) := by decide +kernel
theorem d_M_readBody_102 : decode b_M_readBody 102 = .ok (.aload_n 0, 1) := by decide +kernel
theorem d_M_readBody_103 : decode b_M_readBody 103 = .ok (.iload_n 3, 1) := by decide +kernel
theorem d_M_readBody_104 : decode b_M_readBody 104 = .ok (.iload_n 2, 1) := by decide +kernel
theorem d_M_readBody_105 : decode b_M_readBody 105 = .ok (.invokevirtual 329, 3) := by decide +kernel
theorem d_M_readBody_108 : decode b_M_readBody 108 = .ok (.goto 26, 3) := by decide +kernel
theorem d_M_readBody_111 : decode b_M_readBody 111 = .ok (.aload_n 0, 1) := by decide +kernel
theorem d_M_readBody_112 : decode b_M_readBody 112 = .ok (.getfield 181, 3) := by decide +kernel
theorem d_M_readBody_115 : decode b_M_readBody 115 = .ok (.iconst 3, 1) := by decide +kernel
theorem d_M_readBody_116 : decode b_M_readBody 116 = .ok (.if_icmp .ne 12, 3) := by decide +kernel
theorem d_M_readBody_119 : decode b_M_readBody 119 = .ok (.aload_n 0, 1) := by decide +kernel
theorem d_M_readBody_120 : decode b_M_readBody 120 = .ok (.iload_n 3, 1) := by decide +kernel
theorem d_M_readBody_121 : decode b_M_readBody 121 = .ok (.iload_n 2, 1) := by decide +kernel
theorem d_M_readBody_122 : decode b_M_readBody 122 = .ok (.invokevirtual 332, 3) := by decide +kernel
theorem d_M_readBody_125 : decode b_M_readBody 125 = .ok (.goto 9, 3) := by decide +kernel
theorem d_M_readBody_128 : decode b_M_readBody 128 = .ok (.aload_n 0, 1) := by decide +kernel
theorem d_M_readBody_129 : decode b_M_readBody 129 = .ok (.iload_n 3, 1) := by decide +kernel
theorem d_M_readBody_130 : decode b_M_readBody 130 = .ok (.iload_n 2, 1) := by decide +kernel
theorem d_M_readBody_131 : decode b_M_readBody 131 = .ok (.invokevirtual 335, 3) := by decide +kernel
theorem d_M_readBody_134 : decode b_M_readBody 134 = .ok (.aload_n 0, 1) := by decide +kernel
theorem d_M_readBody_135 : decode b_M_readBody 135 = .ok (.getfield 91, 3) := by decide +kernel
theorem d_M_readBody_138 : decode b_M_readBody 138 = .ok (.ifCond .ne 20, 3) := by decide +kernel
theorem d_M_readBody_141 : decode b_M_readBody 141 = .ok (.aload_n 0, 1) := by decide +kernel
theorem d_M_readBody_142 : decode b_M_readBody 142 = .ok (.getfield 94, 3) := by decide +kernel
theorem d_M_readBody_145 : decode b_M_readBody 145 = .ok (.aload_n 0, 1) := by decide +kernel
theorem d_M_readBody_146 : decode b_M_readBody 146 = .ok (.getfield 153, 3) := by decide +kernel
theorem d_M_readBody_149 : decode b_M_readBody 149 = .ok (.if_icmp .ge 9, 3) := by decide +kernel
theorem d_M_readBody_152 : decode b_M_readBody 152 = .ok (.aload_n 0, 1) := by decide +kernel
theorem d_M_readBody_153 : decode b_M_readBody 153 = .ok (.bipush 6, 2) := by decide +kernel
theorem d_M_readBody_155 : decode b_M_readBody 155 = .ok (.putfield 91, 3) := by decide +kernel
theorem d_M_readBody_158 : decode b_M_readBody 158 = .ok (.aload_n 0, 1) := by decide +kernel
theorem d_M_readBody_159 : decode b_M_readBody 159 = .ok (.getfield 91, 3) := by decide +kernel
theorem d_M_readBody_162 : decode b_M_readBody 162 = .ok (.ifCond .ne 22, 3) := by decide +kernel
theorem d_M_readBody_165 : decode b_M_readBody 165 = .ok (.iload_n 2, 1) := by decide +kernel
theorem d_M_readBody_166 : decode b_M_readBody 166 = .ok (.ifCond .le 18, 3) := by decide +kernel
theorem d_M_readBody_169 : decode b_M_readBody 169 = .ok (.aload_n 0, 1) := by decide +kernel
theorem d_M_readBody_170 : decode b_M_readBody 170 = .ok (.iload_n 2, 1) := by decide +kernel
theorem d_M_readBody_171 : decode b_M_readBody 171 = .ok (.iconst 0, 1) := by decide +kernel
theorem d_M_readBody_172 : decode b_M_readBody 172 = .ok (.invokevirtual 338, 3) := by decide +kernel
theorem d_M_readBody_175 : decode b_M_readBody 175 = .ok (.ifCond .ne 9, 3) := by decide +kernel
theorem d_M_readBody_178 : decode b_M_readBody 178 = .ok (.aload_n 0, 1) := by decide +kernel
theorem d_M_readBody_179 : decode b_M_readBody 179 = .ok (.bipush 11, 2) := by decide +kernel
theorem d_M_readBody_181 : decode b_M_readBody 181 = .ok (.putfield 91, 3) := by decide +kernel
theorem d_M_readBody_184 : decode b_M_readBody 184 = .ok (.aload_n 0, 1) := by decide +kernel
theorem d_M_readBody_185 : decode b_M_readBody 185 = .ok (.getfield 91, 3) := by decide +kernel
theorem d_M_readBody_188 : decode b_M_readBody 188 = .ok (.ifCond .ne 22, 3) := by decide +kernel
theorem d_M_readBody_191 : decode b_M_readBody 191 = .ok (.iload_n 2, 1) := by decide +kernel
theorem d_M_readBody_192 : decode b_M_readBody 192 = .ok (.ifCond .le 18, 3) := by decide +kernel
theorem d_M_readBody_195 : decode b_M_readBody 195 = .ok (.aload_n 0, 1) := by decide +kernel
theorem d_M_readBody_196 : decode b_M_readBody 196 = .ok (.iload_n 2, 1) := by decide +kernel
theorem d_M_readBody_197 : decode b_M_readBody 197 = .ok (.iconst 1, 1) := by decide +kernel
theorem d_M_readBody_198 : decode b_M_readBody 198 = .ok (.invokevirtual 338, 3) := by decide +kernel
theorem d_M_readBody_201 : decode b_M_readBody 201 = .ok (.ifCond .ne 9, 3) := by decide +kernel
theorem d_M_readBody_204 : decode b_M_readBody 204 = .ok (.aload_n 0, 1) := by decide +kernel
theorem d_M_readBody_205 : decode b_M_readBody 205 = .ok (.bipush 12, 2) := by decide +kernel
theorem d_M_readBody_207 : decode b_M_readBody 207 = .ok (.putfield 91, 3) := by decide +kernel
theorem d_M_readBody_210 : decode b_M_readBody 210 = .ok (.return_, 1) := by decide +kernel
theorem d_M_read_0 : decode b_M_read 0 = .ok (.aload_n 0, 1) := by decide +kernel
theorem d_M_read_1 : decode b_M_read 1 = .ok (.iconst 0, 1) := by decide +kernel
theorem d_M_read_2 : decode b_M_read 2 = .ok (.putfield 84, 3) := by decide +kernel
theorem d_M_read_5 : decode b_M_read 5 = .ok (.aload_n 0, 1) := by decide +kernel
theorem d_M_read_6 : decode b_M_read 6 = .ok (.iconst 0, 1) := by decide +kernel
theorem d_M_read_7 : decode b_M_read 7 = .ok (.putfield 94, 3) := by decide +kernel
theorem d_M_read_10 : decode b_M_read 10 = .ok (.aload_n 0, 1) := by decide +kernel
theorem d_M_read_11 : decode b_M_read 11 = .ok (.iconst 0, 1) := by decide +kernel
theorem d_M_read_12 : decode b_M_read 12 = .ok (.putfield 91, 3) := by decide +kernel
theorem d_M_read_15 : decode b_M_read 15 = .ok (.aload_n 0, 1) := by decide +kernel
theorem d_M_read_16 : decode b_M_read 16 = .ok (.aload_n 0, 1) := by decide +kernel
theorem d_M_read_17 : decode b_M_read 17 = .ok (.getfield 172, 3) := by decide +kernel
theorem d_M_read_20 : decode b_M_read 20 = .ok (.putfield 153, 3) := by decide +kernel
theorem d_M_read_23 : decode b_M_read 23 = .ok (.aload_n 0, 1) := by decide +kernel
theorem d_M_read_24 : decode b_M_read 24 = .ok (.aload_n 0, 1) := by decide +kernel
theorem d_M_read_25 : decode b_M_read 25 = .ok (.getfield 153, 3) := by decide +kernel
theorem d_M_read_28 : decode b_M_read 28 = .ok (.invokevirtual 113, 3) := by decide +kernel
theorem d_M_read_31 : decode b_M_read 31 = .ok (.lstore_n 1, 1) := by decide +kernel
theorem d_M_read_32 : decode b_M_read 32 = .ok (.aload_n 0, 1) := by decide +kernel
theorem d_M_read_33 : decode b_M_read 33 = .ok (.getfield 91, 3) := by decide +kernel
theorem d_M_read_36 : decode b_M_read 36 = .ok (.ifCond .ne 32, 3) := by decide +kernel
theorem d_M_read_39 : decode b_M_read 39 = .ok (.lload_n 1, 1) := by decide +kernel
theorem d_M_read_40 : decode b_M_read 40 = .ok (.lconst 1, 1) := by decide +kernel
theorem d_M_read_41 : decode b_M_read 41 = .ok (.lcmp, 1) := by decide +kernel
theorem d_M_read_42 : decode b_M_read 42 = .ok (.ifCond .lt 11, 3) := by decide +kernel
theorem d_M_read_45 : decode b_M_read 45 = .ok (.lload_n 1, 1) := by decide +kernel
theorem d_M_read_46 : decode b_M_read 46 = .ok (.ldc2_w 341, 3) := by decide +kernel
theorem d_M_read_49 : decode b_M_read 49 = .ok (.lcmp, 1) := by decide +kernel
theorem d_M_read_50 : decode b_M_read 50 = .ok (.ifCond .le 18, 3) := by decide +kernel
theorem d_M_read_53 : decode b_M_read 53 = .ok (.aload_n 0, 1) := by decide +kernel
theorem d_M_read_54 : decode b_M_read 54 = .ok (.lload_n 1, 1) := by decide +kernel
theorem d_M_read_55 : decode b_M_read 55 = .ok (.lconst 0, 1) := by decide +kernel
theorem d_M_read_56 : decode b_M_read 56 = .ok (.lcmp, 1) := by decide +kernel
theorem d_M_read_57 : decode b_M_read 57 = .ok (.ifCond .ne 7, 3) := by decide +kernel
theorem d_M_read_60 : decode b_M_read 60 = .ok (.iconst 3, 1) := by decide +kernel
theorem d_M_read_61 : decode b_M_read 61 = .ok (.goto 4, 3) := by decide +kernel
theorem d_M_read_64 : decode b_M_read 64 = .ok (.iconst 4, 1) := by decide +kernel
theorem d_M_read_65 : decode b_M_read 65 = .ok (.putfield 91, 3) := by decide +kernel
theorem d_M_read_68 : decode b_M_read 68 = .ok (.aload_n 0, 1) := by decide +kernel
theorem d_M_read_69 : decode b_M_read 69 = .ok (.aload_n 0, 1) := by decide +kernel
theorem d_M_read_70 : decode b_M_read 70 = .ok (.getfield 153, 3) := by decide +kernel
theorem d_M_read_73 : decode b_M_read 73 = .ok (.invokevirtual 113, 3) := by decide +kernel
theorem d_M_read_76 : decode b_M_read 76 = .ok (.lstore_n 3, 1) := by decide +kernel
theorem d_M_read_77 : decode b_M_read 77 = .ok (.aload_n 0, 1) := by decide +kernel
theorem d_M_read_78 : decode b_M_read 78 = .ok (.getfield 91, 3) := by decide +kernel
theorem d_M_read_81 : decode b_M_read 81 = .ok (.ifCond .ne 21, 3) := by decide +kernel
theorem d_M_read_84 : decode b_M_read 84 = .ok (.lload_n 3, 1) := by decide +kernel
theorem d_M_read_85 : decode b_M_read 85 = .ok (.lconst 0, 1) := by decide +kernel
theorem d_M_read_86 : decode b_M_read 86 = .ok (.lcmp, 1) := by decide +kernel
theorem d_M_read_87 : decode b_M_read 87 = .ok (.ifCond .lt 9, 3) := by decide +kernel
theorem d_M_read_90 : decode b_M_read 90 = .ok (.lload_n 3, 1) := by decide +kernel
theorem d_M_read_91 : decode b_M_read 91 = .ok (.lload_n 1, 1) := by decide +kernel
theorem d_M_read_92 : decode b_M_read 92 = .ok (.lcmp, 1) := by decide +kernel
theorem d_M_read_93 : decode b_M_read 93 = .ok (.ifCond .le 9, 3) := by decide +kernel
theorem d_M_read_96 : decode b_M_read 96 = .ok (.aload_n 0, 1) := by decide +kernel
theorem d_M_read_97 : decode b_M_read 97 = .ok (.bipush 7, 2) := by decide +kernel
theorem d_M_read_99 : decode b_M_read 99 = .ok (.putfield 91, 3) := by decide +kernel
theorem d_M_read_102 : decode b_M_read 102 = .ok (.aload_n 0, 1) := by decide +kernel
theorem d_M_read_103 : decode b_M_read 103 = .ok (.iconst 1, 1) := by decide +kernel
theorem d_M_read_104 : decode b_M_read 104 = .ok (.aload_n 0, 1) := by decide +kernel
theorem d_M_read_105 : decode b_M_read 105 = .ok (.getfield 153, 3) := by decide +kernel
theorem d_M_read_108 : decode b_M_read 108 = .ok (.invokevirtual 312, 3) := by decide +kernel
theorem d_M_read_111 : decode b_M_read 111 = .ok (.l2i, 1) := by decide +kernel
theorem d_M_read_112 : decode b_M_read 112 = .ok (.istore 5, 2) := by decide +kernel
theorem d_M_read_114 : decode b_M_read 114 = .ok (.aload_n 0, 1) := by decide +kernel
theorem d_M_read_115 : decode b_M_read 115 = .ok (.getfield 91, 3) := by decide +kernel
theorem d_M_read_118 : decode b_M_read 118 = .ok (.ifCond .ne 18, 3) := by decide +kernel
theorem d_M_read_121 : decode b_M_read 121 = .ok (.iload 5, 2) := by decide +kernel
theorem d_M_read_123 : decode b_M_read 123 = .ok (.aload_n 0, 1) := by decide +kernel
theorem d_M_read_124 : decode b_M_read 124 = .ok (.invokevirtual 252, 3) := by decide +kernel
theorem d_M_read_127 : decode b_M_read 127 = .ok (.if_icmp .lt 9, 3) := by decide +kernel
theorem d_M_read_130 : decode b_M_read 130 = .ok (.aload_n 0, 1) := by decide +kernel
theorem d_M_read_131 : decode b_M_read 131 = .ok (.bipush 7, 2) := by decide +kernel
theorem d_M_read_133 : decode b_M_read 133 = .ok (.putfield 91, 3) := by decide +kernel
theorem d_M_read_136 : decode b_M_read 136 = .ok (.iconst 0, 1) := by decide +kernel
theorem d_M_read_137 : decode b_M_read 137 = .ok (.istore 6, 2) := by decide +kernel
theorem d_M_read_139 : decode b_M_read 139 = .ok (.iload 6, 2) := by decide +kernel
theorem d_M_read_141 : decode b_M_read 141 = .ok (.iconst 2, 1) := by decide +kernel
theorem d_M_read_142 : decode b_M_read 142 = .ok (.if_icmp .ge 28, 3) := by decide +kernel
theorem d_M_read_145 : decode b_M_read 145 = .ok (.aload_n 0, 1) := by decide +kernel
theorem d_M_read_146 : decode b_M_read 146 = .ok (.getfield 91, 3) := by decide +kernel
theorem d_M_read_149 : decode b_M_read 149 = .ok (.ifCond .ne 21, 3) := by decide +kernel
theorem d_M_read_152 : decode b_M_read 152 = .ok (.lload_n 3, 1) := by decide +kernel
theorem d_M_read_153 : decode b_M_read 153 = .ok (.lload_n 1, 1) := by decide +kernel
theorem d_M_read_154 : decode b_M_read 154 = .ok (.lcmp, 1) := by decide +kernel
theorem d_M_read_155 : decode b_M_read 155 = .ok (.ifCond .ge 15, 3) := by decide +kernel
theorem d_M_read_158 : decode b_M_read 158 = .ok (.aload_n 0, 1) := by decide +kernel
theorem d_M_read_159 : decode b_M_read 159 = .ok (.iload 6, 2) := by decide +kernel
theorem d_M_read_161 : decode b_M_read 161 = .ok (.invokevirtual 343, 3) := by decide +kernel
theorem d_M_read_164 : decode b_M_read 164 = .ok (.iinc 6 1, 3) := by decide +kernel
theorem d_M_read_167 : decode b_M_read 167 = .ok (.goto (-28), 3) := by decide +kernel
theorem d_M_read_170 : decode b_M_read 170 = .ok (.aload_n 0, 1) := by decide +kernel
theorem d_M_read_171 : decode b_M_read 171 = .ok (.aload_n 0, 1) := by decide +kernel
theorem d_M_read_172 : decode b_M_read 172 = .ok (.getfield 153, 3) := by decide +kernel
theorem d_M_read_175 : decode b_M_read 175 = .ok (.invokevirtual 113, 3) := by decide +kernel
theorem d_M_read_178 : decode b_M_read 178 = .ok (.lstore 6, 2) := by decide +kernel
theorem d_M_read_180 : decode b_M_read 180 = .ok (.aload_n 0, 1) := by decide +kernel
theorem d_M_read_181 : decode b_M_read 181 = .ok (.iconst 4, 1) := by decide +kernel
theorem d_M_read_182 : decode b_M_read 182 = .ok (.aload_n 0, 1) := by decide +kernel
theorem d_M_read_183 : decode b_M_read 183 = .ok (.getfield 153, 3) := by decide +kernel
theorem d_M_read_186 : decode b_M_read 186 = .ok (.invokevirtual 312, 3) := by decide +kernel
theorem d_M_read_189 : decode b_M_read 189 = .ok (.l2i, 1) := by decide +kernel
theorem d_M_read_190 : decode b_M_read 190 = .ok (.istore 8, 2) := by decide +kernel
theorem d_M_read_192 : decode b_M_read 192 = .ok (.aload_n 0, 1) := by decide +kernel
theorem d_M_read_193 : decode b_M_read 193 = .ok (.getfield 91, 3) := by decide +kernel
theorem d_M_read_196 : decode b_M_read 196 = .ok (.ifCond .ne 31, 3) := by decide +kernel
theorem d_M_read_199 : decode b_M_read 199 = .ok (.lload 6, 2) := by decide +kernel
theorem d_M_read_201 : decode b_M_read 201 = .ok (.lconst 0, 1) := by decide +kernel
theorem d_M_read_202 : decode b_M_read 202 = .ok (.lcmp, 1) := by decide +kernel
theorem d_M_read_203 : decode b_M_read 203 = .ok (.ifCond .lt 19, 3) := by decide +kernel
theorem d_M_read_206 : decode b_M_read 206 = .ok (.lload 6, 2) := by decide +kernel
theorem d_M_read_208 : decode b_M_read 208 = .ok (.aload_n 0, 1) := by decide +kernel
theorem d_M_read_209 : decode b_M_read 209 = .ok (.getfield 153, 3) := by decide +kernel
theorem d_M_read_212 : decode b_M_read 212 = .ok (.aload_n 0, 1) := by decide +kernel
theorem d_M_read_213 : decode b_M_read 213 = .ok (.getfield 94, 3) := by decide +kernel
theorem d_M_read_216 : decode b_M_read 216 = .ok (.isub, 1) := by decide +kernel
theorem d_M_read_217 : decode b_M_read 217 = .ok (.i2l, 1) := by decide +kernel
theorem d_M_read_218 : decode b_M_read 218 = .ok (.lcmp, 1) := by decide +kernel
theorem d_M_read_219 : decode b_M_read 219 = .ok (.ifCond .le 8, 3) := by decide +kernel
theorem d_M_read_222 : decode b_M_read 222 = .ok (.aload_n 0, 1) := by decide +kernel
theorem d_M_read_223 : decode b_M_read 223 = .ok (.iconst 1, 1) := by decide +kernel
theorem d_M_read_224 : decode b_M_read 224 = .ok (.putfield 91, 3) := by decide +kernel
theorem d_M_read_227 : decode b_M_read 227 = .ok (.aload_n 0, 1) := by decide +kernel
theorem d_M_read_228 : decode b_M_read 228 = .ok (.getfield 91, 3) := by decide +kernel
theorem d_M_read_231 : decode b_M_read 231 = .ok (.ifCond .eq 8, 3) := by decide +kernel
theorem d_M_read_234 : decode b_M_read 234 = .ok (.aload_n 0, 1) := by decide +kernel
theorem d_M_read_235 : decode b_M_read 235 = .ok (.getfield 91, 3) := by decide +kernel
theorem d_M_read_238 : decode b_M_read 238 = .ok (.ireturn, 1) := by decide +kernel
theorem d_M_read_239 : decode b_M_read 239 = .ok (.aload_n 0, 1) := by decide +kernel
theorem d_M_read_240 : decode b_M_read 240 = .ok (.aload_n 0, 1) := by decide +kernel
theorem d_M_read_241 : decode b_M_read 241 = .ok (.getfield 94, 3) := by decide +kernel
theorem d_M_read_244 : decode b_M_read 244 = .ok (.lload 6, 2) := by decide +kernel
theorem d_M_read_246 : decode b_M_read 246 = .ok (.l2i, 1) := by decide +kernel
theorem d_M_read_247 : decode b_M_read 247 = .ok (.iadd, 1) := by decide +kernel
theorem d_M_read_248 : decode b_M_read 248 = .ok (.putfield 153, 3) := by decide +kernel
theorem d_M_read_251 : decode b_M_read 251 = .ok (.aload_n 0, 1) := by decide +kernel
theorem d_M_read_252 : decode b_M_read 252 = .ok (.getfield 53, 3) := by decide +kernel
theorem d_M_read_255 : decode b_M_read 255 = .ok (.aload_n 0, 1) := by decide +kernel
theorem d_M_read_256 : decode b_M_read 256 = .ok (.getfield 94, 3) := by decide +kernel
theorem d_M_read_259 : decode b_M_read 259 = .ok (.aload_n 0, 1) := by decide +kernel
theorem d_M_read_260 : decode b_M_read 260 = .ok (.getfield 153, 3) := by decide +kernel
theorem d_M_read_263 : decode b_M_read 263 = .ok (.invokestatic 275, 3) := by decide +kernel
theorem d_M_read_266 : decode b_M_read 266 = .ok (.iload 8, 2) := by decide +kernel
theorem d_M_read_268 : decode b_M_read 268 = .ok (.if_icmp .eq 12, 3) := by decide +kernel
theorem d_M_read_271 : decode b_M_read 271 = .ok (.aload_n 0, 1) := by decide +kernel
theorem d_M_read_272 : decode b_M_read 272 = .ok (.bipush 8, 2) := by decide +kernel
theorem d_M_read_274 : decode b_M_read 274 = .ok (.putfield 91, 3) := by decide +kernel
theorem d_M_read_277 : decode b_M_read 277 = .ok (.goto 20, 3) := by decide +kernel
theorem d_M_read_280 : decode b_M_read 280 = .ok (.aload_n 0, 1) := by decide +kernel
theorem d_M_read_281 : decode b_M_read 281 = .ok (.getfield 153, 3) := by decide +kernel
theorem d_M_read_284 : decode b_M_read 284 = .ok (.aload_n 0, 1) := by decide +kernel
theorem d_M_read_285 : decode b_M_read 285 = .ok (.getfield 172, 3) := by decide +kernel
theorem d_M_read_288 : decode b_M_read 288 = .ok (.if_icmp .ge 9, 3) := by decide +kernel
theorem d_M_read_291 : decode b_M_read 291 = .ok (.aload_n 0, 1) := by decide +kernel
theorem d_M_read_292 : decode b_M_read 292 = .ok (.bipush 6, 2) := by decide +kernel
theorem d_M_read_294 : decode b_M_read 294 = .ok (.putfield 91, 3) := by decide +kernel
theorem d_M_read_297 : decode b_M_read 297 = .ok (.aload_n 0, 1) := by decide +kernel
theorem d_M_read_298 : decode b_M_read 298 = .ok (.getfield 91, 3) := by decide +kernel
theorem d_M_read_301 : decode b_M_read 301 = .ok (.ifCond .ne 15, 3) := by decide +kernel
theorem d_M_read_304 : decode b_M_read 304 = .ok (.aload_n 0, 1) := by decide +kernel
theorem d_M_read_305 : decode b_M_read 305 = .ok (.lload_n 1, 1) := by decide +kernel
theorem d_M_read_306 : decode b_M_read 306 = .ok (.l2i, 1) := by decide +kernel
theorem d_M_read_307 : decode b_M_read 307 = .ok (.lload_n 1, 1) := by decide +kernel
theorem d_M_read_308 : decode b_M_read 308 = .ok (.lload_n 3, 1) := by decide +kernel
theorem d_M_read_309 : decode b_M_read 309 = .ok (.lsub, 1) := by decide +kernel
theorem d_M_read_310 : decode b_M_read 310 = .ok (.l2i, 1) := by decide +kernel
theorem d_M_read_311 : decode b_M_read 311 = .ok (.iload 5, 2) := by decide +kernel
theorem d_M_read_313 : decode b_M_read 313 = .ok (.invokevirtual 346, 3) := by decide +kernel
theorem d_M_read_316 : decode b_M_read 316 = .ok (.aload_n 0, 1) := by decide +kernel
theorem d_M_read_317 : decode b_M_read 317 = .ok (.getfield 91, 3) := by decide +kernel
theorem d_M_read_320 : decode b_M_read 320 = .ok (.ifCond .eq 8, 3) := by decide +kernel
theorem d_M_read_323 : decode b_M_read 323 = .ok (.aload_n 0, 1) := by decide +kernel
theorem d_M_read_324 : decode b_M_read 324 = .ok (.getfield 91, 3) := by decide +kernel
theorem d_M_read_327 : decode b_M_read 327 = .ok (.ireturn, 1) := by decide +kernel
theorem d_M_read_328 : decode b_M_read 328 = .ok (.aload_n 0, 1) := by decide +kernel
theorem d_M_read_329 : decode b_M_read 329 = .ok (.lload_n 1, 1) := by decide +kernel
theorem d_M_read_330 : decode b_M_read 330 = .ok (.l2i, 1) := by decide +kernel
theorem d_M_read_331 : decode b_M_read 331 = .ok (.putfield 175, 3) := by decide +kernel
theorem d_M_read_334 : decode b_M_read 334 = .ok (.aload_n 0, 1) := by decide +kernel
theorem d_M_read_335 : decode b_M_read 335 = .ok (.lload_n 1, 1) := by decide +kernel
theorem d_M_read_336 : decode b_M_read 336 = .ok (.lload_n 3, 1) := by decide +kernel
theorem d_M_read_337 : decode b_M_read 337 = .ok (.lsub, 1) := by decide +kernel
theorem d_M_read_338 : decode b_M_read 338 = .ok (.l2i, 1) := by decide +kernel
theorem d_M_read_339 : decode b_M_read 339 = .ok (.putfield 178, 3) := by decide +kernel
theorem d_M_read_342 : decode b_M_read 342 = .ok (.aload_n 0, 1) := by decide +kernel
theorem d_M_read_343 : decode b_M_read 343 = .ok (.iload 5, 2) := by decide +kernel
theorem d_M_read_345 : decode b_M_read 345 = .ok (.putfield 255, 3) := by decide +kernel
theorem d_M_read_348 : decode b_M_read 348 = .ok (.aload_n 0, 1) := by decide +kernel
theorem d_M_read_349 : decode b_M_read 349 = .ok (.lload 6, 2) := by decide +kernel
theorem d_M_read_351 : decode b_M_read 351 = .ok (.l2i, 1) := by decide +kernel
theorem d_M_read_352 : decode b_M_read 352 = .ok (.putfield 265, 3) := by decide +kernel
theorem d_M_read_355 : decode b_M_read 355 = .ok (.iconst 0, 1) := by decide +kernel
theorem d_M_read_356 : decode b_M_read 356 = .ok (.istore 9, 2) := by decide +kernel
theorem d_M_read_358 : decode b_M_read 358 = .ok (.iload 9, 2) := by decide +kernel
theorem d_M_read_360 : decode b_M_read 360 = .ok (.aload_n 0, 1) := by decide +kernel
theorem d_M_read_361 : decode b_M_read 361 = .ok (.getfield 175, 3) := by decide +kernel
theorem d_M_read_364 : decode b_M_read 364 = .ok (.if_icmp .ge 37, 3) := by decide +kernel
theorem d_M_read_367 : decode b_M_read 367 = .ok (.aload_n 0, 1) := by decide +kernel
theorem d_M_read_368 : decode b_M_read 368 = .ok (.getfield 7, 3) := by decide +kernel
theorem d_M_read_371 : decode b_M_read 371 = .ok (.iload 9, 2) := by decide +kernel
theorem d_M_read_373 : decode b_M_read 373 = .ok (.aload_n 0, 1) := by decide +kernel
theorem d_M_read_374 : decode b_M_read 374 = .ok (.getfield 16, 3) := by decide +kernel
theorem d_M_read_377 : decode b_M_read 377 = .ok (.iload 9, 2) := by decide +kernel
theorem d_M_read_379 : decode b_M_read 379 = .ok (.iaload, 1) := by decide +kernel
theorem d_M_read_380 : decode b_M_read 380 = .ok (.iastore, 1) := by decide +kernel
theorem d_M_read_381 : decode b_M_read 381 = .ok (.aload_n 0, 1) := by decide +kernel
theorem d_M_read_382 : decode b_M_read 382 = .ok (.getfield 13, 3) := by decide +kernel
theorem d_M_read_385 : decode b_M_read 385 = .ok (.iload 9, 2) := by decide +kernel
theorem d_M_read_387 : decode b_M_read 387 = .ok (.aload_n 0, 1) := by decide +kernel
theorem d_M_read_388 : decode b_M_read 388 = .ok (.getfield 19, 3) := by decide +kernel
theorem d_M_read_391 : decode b_M_read 391 = .ok (.iload 9, 2) := by decide +kernel
theorem d_M_read_393 : decode b_M_read 393 = .ok (.iaload, 1) := by decide +kernel
theorem d_M_read_394 : decode b_M_read 394 = .ok (.iastore, 1) := by decide +kernel
theorem d_M_read_395 : decode b_M_read 395 = .ok (.iinc 9 1, 3) := by decide +kernel
theorem d_M_read_398 : decode b_M_read 398 = .ok (.goto (-40), 3) := by decide +kernel
theorem d_M_read_401 : decode b_M_read 401 = .ok (.iconst 0, 1) := by decide +kernel
theorem d_M_read_402 : decode b_M_read 402 = .ok (.istore 9, 2) := by decide +kernel
theorem d_M_read_404 : decode b_M_read 404 = .ok (.iload 9, 2) := by decide +kernel
theorem d_M_read_406 : decode b_M_read 406 = .ok (.aload_n 0, 1) := by decide +kernel
theorem d_M_read_407 : decode b_M_read 407 = .ok (.getfield 178, 3) := by decide +kernel
theorem d_M_read_410 : decode b_M_read 410 = .ok (.if_icmp .ge 31, 3) := by decide +kernel
theorem d_M_read_413 : decode b_M_read 413 = .ok (.aload_n 0, 1) := by decide +kernel
theorem d_M_read_414 : decode b_M_read 414 = .ok (.getfield 181, 3) := by decide +kernel
theorem d_M_read_417 : decode b_M_read 417 = .ok (.iconst 3, 1) := by decide +kernel
theorem d_M_read_418 : decode b_M_read 418 = .ok (.if_icmp .eq 23, 3) := by decide +kernel
theorem d_M_read_421 : decode b_M_read 421 = .ok (.aload_n 0, 1) := by decide +kernel
theorem d_M_read_422 : decode b_M_read 422 = .ok (.getfield 22, 3) := by decide +kernel
theorem d_M_read_425 : decode b_M_read 425 = .ok (.iload 9, 2) := by decide +kernel
theorem d_M_read_427 : decode b_M_read 427 = .ok (.aload_n 0, 1) := by decide +kernel
theorem d_M_read_428 : decode b_M_read 428 = .ok (.getfield 26, 3) := by decide +kernel
theorem d_M_read_431 : decode b_M_read 431 = .ok (.iload 9, 2) := by decide +kernel
theorem d_M_read_433 : decode b_M_read 433 = .ok (.laload, 1) := by decide +kernel
theorem d_M_read_434 : decode b_M_read 434 = .ok (.lastore, 1) := by decide +kernel
theorem d_M_read_435 : decode b_M_read 435 = .ok (.iinc 9 1, 3) := by decide +kernel
theorem d_M_read_438 : decode b_M_read 438 = .ok (.goto (-34), 3) := by decide +kernel
theorem d_M_read_441 : decode b_M_read 441 = .ok (.iconst 0, 1) := by decide +kernel
theorem d_M_read_442 : decode b_M_read 442 = .ok (.istore 9, 2) := by decide +kernel
theorem d_M_read_444 : decode b_M_read 444 = .ok (.iload 9, 2) := by decide +kernel
theorem d_M_read_446 : decode b_M_read 446 = .ok (.aload_n 0, 1) := by decide +kernel
theorem d_M_read_447 : decode b_M_read 447 = .ok (.getfield 178, 3) := by decide +kernel
theorem d_M_read_450 : decode b_M_read 450 = .ok (.if_icmp .gt 31, 3) := by decide +kernel
theorem d_M_read_453 : decode b_M_read 453 = .ok (.aload_n 0, 1) := by decide +kernel
theorem d_M_read_454 : decode b_M_read 454 = .ok (.getfield 181, 3) := by decide +kernel
theorem d_M_read_457 : decode b_M_read 457 = .ok (.iconst 3, 1) := by decide +kernel
theorem d_M_read_458 : decode b_M_read 458 = .ok (.if_icmp .ne 23, 3) := by decide +kernel
theorem d_M_read_461 : decode b_M_read 461 = .ok (.aload_n 0, 1) := by decide +kernel
theorem d_M_read_462 : decode b_M_read 462 = .ok (.getfield 32, 3) := by decide +kernel
theorem d_M_read_465 : decode b_M_read 465 = .ok (.iload 9, 2) := by decide +kernel
theorem d_M_read_467 : decode b_M_read 467 = .ok (.aload_n 0, 1) := by decide +kernel
theorem d_M_read_468 : decode b_M_read 468 = .ok (.getfield 35, 3) := by decide +kernel
theorem d_M_read_471 : decode b_M_read 471 = .ok (.iload 9, 2) := by decide +kernel
theorem d_M_read_473 : decode b_M_read 473 = .ok (.iaload, 1) := by decide +kernel
theorem d_M_read_474 : decode b_M_read 474 = .ok (.iastore, 1) := by decide +kernel
theorem d_M_read_475 : decode b_M_read 475 = .ok (.iinc 9 1, 3) := by decide +kernel
theorem d_M_read_478 : decode b_M_read 478 = .ok (.goto (-34), 3) := by decide +kernel
theorem d_M_read_481 : decode b_M_read 481 = .ok (.iconst 0, 1) := by decide +kernel
theorem d_M_read_482 : decode b_M_read 482 = .ok (.istore 9, 2) := by decide +kernel
theorem d_M_read_484 : decode b_M_read 484 = .ok (.aload_n 0, 1) := by decide +kernel
theorem d_M_read_485 : decode b_M_read 485 = .ok (.getfield 181, 3) := by decide +kernel
theorem d_M_read_488 : decode b_M_read 488 = .ok (.iconst 3, 1) := by decide +kernel
theorem d_M_read_489 : decode b_M_read 489 = .ok (.if_icmp .ne 37, 3) := by decide +kernel
theorem d_M_read_492 : decode b_M_read 492 = .ok (.iload 9, 2) := by decide +kernel
theorem d_M_read_494 : decode b_M_read 494 = .ok (.aload_n 0, 1) := by decide +kernel
theorem d_M_read_495 : decode b_M_read 495 = .ok (.getfield 32, 3) := by decide +kernel
theorem d_M_read_498 : decode b_M_read 498 = .ok (.aload_n 0, 1) := by decide +kernel
theorem d_M_read_499 : decode b_M_read 499 = .ok (.getfield 178, 3) := by decide +kernel
theorem d_M_read_502 : decode b_M_read 502 = .ok (.iaload, 1) := by decide +kernel
theorem d_M_read_503 : decode b_M_read 503 = .ok (.if_icmp .ge 23, 3) := by decide +kernel
theorem d_M_read_506 : decode b_M_read 506 = .ok (.aload_n 0, 1) := by decide +kernel
theorem d_M_read_507 : decode b_M_read 507 = .ok (.getfield 41, 3) := by decide +kernel
theorem d_M_read_510 : decode b_M_read 510 = .ok (.iload 9, 2) := by decide +kernel
theorem d_M_read_512 : decode b_M_read 512 = .ok (.aload_n 0, 1) := by decide +kernel
theorem d_M_read_513 : decode b_M_read 513 = .ok (.getfield 44, 3) := by decide +kernel
theorem d_M_read_516 : decode b_M_read 516 = .ok (.iload 9, 2) := by decide +kernel
theorem d_M_read_518 : decode b_M_read 518 = .ok (.iaload, 1) := by decide +kernel
theorem d_M_read_519 : decode b_M_read 519 = .ok (.iastore, 1) := by decide +kernel
theorem d_M_read_520 : decode b_M_read 520 = .ok (.iinc 9 1, 3) := by decide +kernel
theorem d_M_read_523 : decode b_M_read 523 = .ok (.goto (-39), 3) := by decide +kernel
theorem d_M_read_526 : decode b_M_read 526 = .ok (.iconst 0, 1) := by decide +kernel
theorem d_M_read_527 : decode b_M_read 527 = .ok (.ireturn, 1) := by decide +kernel
theorem d_M_turn_0 : decode b_M_turn 0 = .ok (.aload_n 0, 1) := by decide +kernel
theorem d_M_turn_1 : decode b_M_turn 1 = .ok (.iconst 0, 1) := by decide +kernel
theorem d_M_turn_2 : decode b_M_turn 2 = .ok (.putfield 84, 3) := by decide +kernel
theorem d_M_turn_5 : decode b_M_turn 5 = .ok (.aload_n 0, 1) := by decide +kernel
theorem d_M_turn_6 : decode b_M_turn 6 = .ok (.getfield 88, 3) := by decide +kernel
theorem d_M_turn_9 : decode b_M_turn 9 = .ok (.sipush 30000, 3) := by decide +kernel
theorem d_M_turn_12 : decode b_M_turn 12 = .ok (.if_icmp .le 5, 3) := by decide +kernel
theorem d_M_turn_15 : decode b_M_turn 15 = .ok (.iconst 0, 1) := by decide +kernel
theorem d_M_turn_16 : decode b_M_turn 16 = .ok (.ireturn, 1) := by decide +kernel
theorem d_M_turn_17 : decode b_M_turn 17 = .ok (.iconst 0, 1) := by decide +kernel
theorem d_M_turn_18 : decode b_M_turn 18 = .ok (.istore_n 1, 1) := by decide +kernel
theorem d_M_turn_19 : decode b_M_turn 19 = .ok (.iload_n 1, 1) := by decide +kernel
theorem d_M_turn_20 : decode b_M_turn 20 = .ok (.aload_n 0, 1) := by decide +kernel
theorem d_M_turn_21 : decode b_M_turn 21 = .ok (.getfield 88, 3) := by decide +kernel
theorem d_M_turn_24 : decode b_M_turn 24 = .ok (.if_icmp .ge 21, 3) := by decide +kernel
theorem d_M_turn_27 : decode b_M_turn 27 = .ok (.aload_n 0, 1) := by decide +kernel
theorem d_M_turn_28 : decode b_M_turn 28 = .ok (.getfield 53, 3) := by decide +kernel
theorem d_M_turn_31 : decode b_M_turn 31 = .ok (.iload_n 1, 1) := by decide +kernel
theorem d_M_turn_32 : decode b_M_turn 32 = .ok (.aload_n 0, 1) := by decide +kernel
theorem d_M_turn_33 : decode b_M_turn 33 = .ok (.getfield 57, 3) := by decide +kernel
theorem d_M_turn_36 : decode b_M_turn 36 = .ok (.iload_n 1, 1) := by decide +kernel
theorem d_M_turn_37 : decode b_M_turn 37 = .ok (.iaload, 1) := by decide +kernel
theorem d_M_turn_38 : decode b_M_turn 38 = .ok (.iastore, 1) := by decide +kernel
theorem d_M_turn_39 : decode b_M_turn 39 = .ok (.iinc 1 1, 3) := by decide +kernel
theorem d_M_turn_42 : decode b_M_turn 42 = .ok (.goto (-23), 3) := by decide +kernel
theorem d_M_turn_45 : decode b_M_turn 45 = .ok (.aload_n 0, 1) := by decide +kernel
theorem d_M_turn_46 : decode b_M_turn 46 = .ok (.aload_n 0, 1) := by decide +kernel
theorem d_M_turn_47 : decode b_M_turn 47 = .ok (.getfield 88, 3) := by decide +kernel
theorem d_M_turn_50 : decode b_M_turn 50 = .ok (.putfield 172, 3) := by decide +kernel
theorem d_M_turn_53 : decode b_M_turn 53 = .ok (.iconst 1, 1) := by decide +kernel
theorem d_M_turn_54 : decode b_M_turn 54 = .ok (.ireturn, 1) := by decide +kernel
theorem d_M_about_0 : decode b_M_about 0 = .ok (.aload_n 0, 1) := by decide +kernel
theorem d_M_about_1 : decode b_M_about 1 = .ok (.iconst 0, 1) := by decide +kernel
theorem d_M_about_2 : decode b_M_about 2 = .ok (.putfield 84, 3) := by decide +kernel
theorem d_M_about_5 : decode b_M_about 5 = .ok (.iload_n 1, 1) := by decide +kernel
theorem d_M_about_6 : decode b_M_about 6 = .ok (.ifCond .ne 10, 3) := by decide +kernel
theorem d_M_about_9 : decode b_M_about 9 = .ok (.aload_n 0, 1) := by decide +kernel
theorem d_M_about_10 : decode b_M_about 10 = .ok (.getfield 175, 3) := by decide +kernel
theorem d_M_about_13 : decode b_M_about 13 = .ok (.goto 45, 3) := by decide +kernel
theorem d_M_about_16 : decode b_M_about 16 = .ok (.iload_n 1, 1) := by decide +kernel
theorem d_M_about_17 : decode b_M_about 17 = .ok (.iconst 1, 1) := by decide +kernel
theorem d_M_about_18 : decode b_M_about 18 = .ok (.if_icmp .ne 15, 3) := by decide +kernel
theorem d_M_about_21 : decode b_M_about 21 = .ok (.aload_n 0, 1) := by decide +kernel
theorem d_M_about_22 : decode b_M_about 22 = .ok (.getfield 175, 3) := by decide +kernel
theorem d_M_about_25 : decode b_M_about 25 = .ok (.aload_n 0, 1) := by decide +kernel
theorem d_M_about_26 : decode b_M_about 26 = .ok (.getfield 178, 3) := by decide +kernel
theorem d_M_about_29 : decode b_M_about 29 = .ok (.isub, 1) := by decide +kernel
theorem d_M_about_30 : decode b_M_about 30 = .ok (.goto 28, 3) := by decide +kernel
theorem d_M_about_33 : decode b_M_about 33 = .ok (.iload_n 1, 1) := by decide +kernel
theorem d_M_about_34 : decode b_M_about 34 = .ok (.iconst 2, 1) := by decide +kernel
theorem d_M_about_35 : decode b_M_about 35 = .ok (.if_icmp .ne 10, 3) := by decide +kernel
theorem d_M_about_38 : decode b_M_about 38 = .ok (.aload_n 0, 1) := by decide +kernel
theorem d_M_about_39 : decode b_M_about 39 = .ok (.getfield 255, 3) := by decide +kernel
theorem d_M_about_42 : decode b_M_about 42 = .ok (.goto 16, 3) := by decide +kernel
theorem d_M_about_45 : decode b_M_about 45 = .ok (.iload_n 1, 1) := by decide +kernel
theorem d_M_about_46 : decode b_M_about 46 = .ok (.iconst 3, 1) := by decide +kernel
theorem d_M_about_47 : decode b_M_about 47 = .ok (.if_icmp .ne 10, 3) := by decide +kernel
theorem d_M_about_50 : decode b_M_about 50 = .ok (.aload_n 0, 1) := by decide +kernel
theorem d_M_about_51 : decode b_M_about 51 = .ok (.getfield 265, 3) := by decide +kernel
theorem d_M_about_54 : decode b_M_about 54 = .ok (.goto 4, 3) := by decide +kernel
theorem d_M_about_57 : decode b_M_about 57 = .ok (.iconst (-1), 1) := by decide +kernel
theorem d_M_about_58 : decode b_M_about 58 = .ok (.ireturn, 1) := by decide +kernel
theorem d_M_level_0 : decode b_M_level 0 = .ok (.aload_n 0, 1) := by decide +kernel
theorem d_M_level_1 : decode b_M_level 1 = .ok (.iconst 0, 1) := by decide +kernel
theorem d_M_level_2 : decode b_M_level 2 = .ok (.putfield 84, 3) := by decide +kernel
theorem d_M_level_5 : decode b_M_level 5 = .ok (.iload_n 1, 1) := by decide +kernel
theorem d_M_level_6 : decode b_M_level 6 = .ok (.ifCond .lt 20, 3) := by decide +kernel
theorem d_M_level_9 : decode b_M_level 9 = .ok (.iload_n 1, 1) := by decide +kernel
theorem d_M_level_10 : decode b_M_level 10 = .ok (.aload_n 0, 1) := by decide +kernel
theorem d_M_level_11 : decode b_M_level 11 = .ok (.getfield 175, 3) := by decide +kernel
theorem d_M_level_14 : decode b_M_level 14 = .ok (.if_icmp .ge 12, 3) := by decide +kernel
theorem d_M_level_17 : decode b_M_level 17 = .ok (.iload_n 2, 1) := by decide +kernel
theorem d_M_level_18 : decode b_M_level 18 = .ok (.ifCond .lt 8, 3) := by decide +kernel
theorem d_M_level_21 : decode b_M_level 21 = .ok (.iload_n 2, 1) := by decide +kernel
theorem d_M_level_22 : decode b_M_level 22 = .ok (.iconst 2, 1) := by decide +kernel
theorem d_M_level_23 : decode b_M_level 23 = .ok (.if_icmp .le 5, 3) := by decide +kernel
theorem d_M_level_26 : decode b_M_level 26 = .ok (.iconst (-1), 1) := by decide +kernel
theorem d_M_level_27 : decode b_M_level 27 = .ok (.ireturn, 1) := by decide +kernel
theorem d_M_level_28 : decode b_M_level 28 = .ok (.iload_n 2, 1) := by decide +kernel
theorem d_M_level_29 : decode b_M_level 29 = .ok (.ifCond .ne 10, 3) := by decide +kernel
theorem d_M_level_32 : decode b_M_level 32 = .ok (.aload_n 0, 1) := by decide +kernel
theorem d_M_level_33 : decode b_M_level 33 = .ok (.getfield 7, 3) := by decide +kernel
theorem d_M_level_36 : decode b_M_level 36 = .ok (.iload_n 1, 1) := by decide +kernel
theorem d_M_level_37 : decode b_M_level 37 = .ok (.iaload, 1) := by decide +kernel
theorem d_M_level_38 : decode b_M_level 38 = .ok (.ireturn, 1) := by decide +kernel
theorem d_M_level_39 : decode b_M_level 39 = .ok (.iload_n 2, 1) := by decide +kernel
theorem d_M_level_40 : decode b_M_level 40 = .ok (.iconst 1, 1) := by decide +kernel
theorem d_M_level_41 : decode b_M_level 41 = .ok (.if_icmp .ne 10, 3) := by decide +kernel
theorem d_M_level_44 : decode b_M_level 44 = .ok (.aload_n 0, 1) := by decide +kernel
theorem d_M_level_45 : decode b_M_level 45 = .ok (.getfield 13, 3) := by decide +kernel
theorem d_M_level_48 : decode b_M_level 48 = .ok (.iload_n 1, 1) := by decide +kernel
theorem d_M_level_49 : decode b_M_level 49 = .ok (.iaload, 1) := by decide +kernel
theorem d_M_level_50 : decode b_M_level 50 = .ok (.ireturn, 1) := by decide +kernel
theorem d_M_level_51 : decode b_M_level 51 = .ok (.iconst 0, 1) := by decide +kernel
theorem d_M_level_52 : decode b_M_level 52 = .ok (.istore_n 3, 1) := by decide +kernel
theorem d_M_level_53 : decode b_M_level 53 = .ok (.iconst 0, 1) := by decide +kernel
theorem d_M_level_54 : decode b_M_level 54 = .ok (.istore 4, 2) := by decide +kernel
theorem d_M_level_56 : decode b_M_level 56 = .ok (.iload 4, 2) := by decide +kernel
theorem d_M_level_58 : decode b_M_level 58 = .ok (.iload_n 1, 1) := by decide +kernel
theorem d_M_level_59 : decode b_M_level 59 = .ok (.if_icmp .ge 31, 3) := by decide +kernel
theorem d_M_level_62 : decode b_M_level 62 = .ok (.iload_n 3, 1) := by decide +kernel
theorem d_M_level_63 : decode b_M_level 63 = .ok (.aload_n 0, 1) := by decide +kernel
theorem d_M_level_64 : decode b_M_level 64 = .ok (.getfield 13, 3) := by decide +kernel
theorem d_M_level_67 : decode b_M_level 67 = .ok (.iload 4, 2) := by decide +kernel
theorem d_M_level_69 : decode b_M_level 69 = .ok (.iaload, 1) := by decide +kernel
theorem d_M_level_70 : decode b_M_level 70 = .ok (.aload_n 0, 1) := by decide +kernel
theorem d_M_level_71 : decode b_M_level 71 = .ok (.getfield 187, 3) := by decide +kernel
theorem d_M_level_74 : decode b_M_level 74 = .ok (.if_icmp .ne 7, 3) := by decide +kernel
theorem d_M_level_77 : decode b_M_level 77 = .ok (.iconst 1, 1) := by decide +kernel
theorem d_M_level_78 : decode b_M_level 78 = .ok (.goto 4, 3) := by decide +kernel
theorem d_M_level_81 : decode b_M_level 81 = .ok (.iconst 0, 1) := by decide +kernel
theorem d_M_level_82 : decode b_M_level 82 = .ok (.iadd, 1) := by decide +kernel
theorem d_M_level_83 : decode b_M_level 83 = .ok (.istore_n 3, 1) := by decide +kernel
theorem d_M_level_84 : decode b_M_level 84 = .ok (.iinc 4 1, 3) := by decide +kernel
theorem d_M_level_87 : decode b_M_level 87 = .ok (.goto (-31), 3) := by decide +kernel
theorem d_M_level_90 : decode b_M_level 90 = .ok (.aload_n 0, 1) := by decide +kernel
theorem d_M_level_91 : decode b_M_level 91 = .ok (.getfield 13, 3) := by decide +kernel
theorem d_M_level_94 : decode b_M_level 94 = .ok (.iload_n 1, 1) := by decide +kernel
theorem d_M_level_95 : decode b_M_level 95 = .ok (.iaload, 1) := by decide +kernel
theorem d_M_level_96 : decode b_M_level 96 = .ok (.aload_n 0, 1) := by decide +kernel
theorem d_M_level_97 : decode b_M_level 97 = .ok (.getfield 187, 3) := by decide +kernel
theorem d_M_level_100 : decode b_M_level 100 = .ok (.if_icmp .ne 7, 3) := by decide +kernel
theorem d_M_level_103 : decode b_M_level 103 = .ok (.iload_n 3, 1) := by decide +kernel
theorem d_M_level_104 : decode b_M_level 104 = .ok (.goto 4, 3) := by decide +kernel
theorem d_M_level_107 : decode b_M_level 107 = .ok (.iconst (-1), 1) := by decide +kernel
theorem d_M_level_108 : decode b_M_level 108 = .ok (.ireturn, 1) := by decide +kernel
theorem d_M_isValue_0 : decode b_M_isValue 0 = .ok (.iload_n 1, 1) := by decide +kernel
theorem d_M_isValue_1 : decode b_M_isValue 1 = .ok (.ifCond .lt 15, 3) := by decide +kernel
theorem d_M_isValue_4 : decode b_M_isValue 4 = .ok (.iload_n 1, 1) := by decide +kernel
theorem d_M_isValue_5 : decode b_M_isValue 5 = .ok (.aload_n 0, 1) := by decide +kernel
theorem d_M_isValue_6 : decode b_M_isValue 6 = .ok (.getfield 178, 3) := by decide +kernel
theorem d_M_isValue_9 : decode b_M_isValue 9 = .ok (.if_icmp .ge 7, 3) := by decide +kernel
theorem d_M_isValue_12 : decode b_M_isValue 12 = .ok (.iconst 1, 1) := by decide +kernel
theorem d_M_isValue_13 : decode b_M_isValue 13 = .ok (.goto 4, 3) := by decide +kernel
theorem d_M_isValue_16 : decode b_M_isValue 16 = .ok (.iconst 0, 1) := by decide +kernel
theorem d_M_isValue_17 : decode b_M_isValue 17 = .ok (.ireturn, 1) := by decide +kernel
