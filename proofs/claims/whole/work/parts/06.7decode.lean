theorem d_S_runs_47 : decode b_S_runs 47 = .ok (.iload_n 2, 1) := by decide +kernel
theorem d_S_runs_48 : decode b_S_runs 48 = .ok (.iload 4, 2) := by decide +kernel
theorem d_S_runs_50 : decode b_S_runs 50 = .ok (.isub, 1) := by decide +kernel
theorem d_S_runs_51 : decode b_S_runs 51 = .ok (.istore 9, 2) := by decide +kernel
theorem d_S_runs_53 : decode b_S_runs 53 = .ok (.aload_n 0, 1) := by decide +kernel
theorem d_S_runs_54 : decode b_S_runs 54 = .ok (.lload 6, 2) := by decide +kernel
theorem d_S_runs_56 : decode b_S_runs 56 = .ok (.iconst 1, 1) := by decide +kernel
theorem d_S_runs_57 : decode b_S_runs 57 = .ok (.lushr, 1) := by decide +kernel
theorem d_S_runs_58 : decode b_S_runs 58 = .ok (.iload 8, 2) := by decide +kernel
theorem d_S_runs_60 : decode b_S_runs 60 = .ok (.ifCond .eq 8, 3) := by decide +kernel
theorem d_S_runs_63 : decode b_S_runs 63 = .ok (.iload 9, 2) := by decide +kernel
theorem d_S_runs_65 : decode b_S_runs 65 = .ok (.goto 13, 3) := by decide +kernel
theorem d_S_runs_68 : decode b_S_runs 68 = .ok (.iload 9, 2) := by decide +kernel
theorem d_S_runs_70 : decode b_S_runs 70 = .ok (.bipush 8, 2) := by decide +kernel
theorem d_S_runs_72 : decode b_S_runs 72 = .ok (.iadd, 1) := by decide +kernel
theorem d_S_runs_73 : decode b_S_runs 73 = .ok (.iconst 1, 1) := by decide +kernel
theorem d_S_runs_74 : decode b_S_runs 74 = .ok (.isub, 1) := by decide +kernel
theorem d_S_runs_75 : decode b_S_runs 75 = .ok (.bipush 8, 2) := by decide +kernel
theorem d_S_runs_77 : decode b_S_runs 77 = .ok (.idiv, 1) := by decide +kernel
theorem d_S_runs_78 : decode b_S_runs 78 = .ok (.invokevirtual 59, 3) := by decide +kernel
theorem d_S_runs_81 : decode b_S_runs 81 = .ok (.istore 10, 2) := by decide +kernel
theorem d_S_runs_83 : decode b_S_runs 83 = .ok (.iload 8, 2) := by decide +kernel
theorem d_S_runs_85 : decode b_S_runs 85 = .ok (.ifCond .eq 23, 3) := by decide +kernel
theorem d_S_runs_88 : decode b_S_runs 88 = .ok (.aload_n 0, 1) := by decide +kernel
theorem d_S_runs_89 : decode b_S_runs 89 = .ok (.aload_n 1, 1) := by decide +kernel
theorem d_S_runs_90 : decode b_S_runs 90 = .ok (.iload 4, 2) := by decide +kernel
theorem d_S_runs_92 : decode b_S_runs 92 = .ok (.iload 10, 2) := by decide +kernel
theorem d_S_runs_94 : decode b_S_runs 94 = .ok (.iload_n 3, 1) := by decide +kernel
theorem d_S_runs_95 : decode b_S_runs 95 = .ok (.invokevirtual 63, 3) := by decide +kernel
theorem d_S_runs_98 : decode b_S_runs 98 = .ok (.iload 4, 2) := by decide +kernel
theorem d_S_runs_100 : decode b_S_runs 100 = .ok (.iload 10, 2) := by decide +kernel
theorem d_S_runs_102 : decode b_S_runs 102 = .ok (.iadd, 1) := by decide +kernel
theorem d_S_runs_103 : decode b_S_runs 103 = .ok (.istore 4, 2) := by decide +kernel
theorem d_S_runs_105 : decode b_S_runs 105 = .ok (.goto 24, 3) := by decide +kernel
theorem d_S_runs_108 : decode b_S_runs 108 = .ok (.aload_n 0, 1) := by decide +kernel
theorem d_S_runs_109 : decode b_S_runs 109 = .ok (.aload_n 1, 1) := by decide +kernel
theorem d_S_runs_110 : decode b_S_runs 110 = .ok (.iload 4, 2) := by decide +kernel
theorem d_S_runs_112 : decode b_S_runs 112 = .ok (.iload_n 2, 1) := by decide +kernel
theorem d_S_runs_113 : decode b_S_runs 113 = .ok (.iload 10, 2) := by decide +kernel
theorem d_S_runs_115 : decode b_S_runs 115 = .ok (.iload_n 3, 1) := by decide +kernel
theorem d_S_runs_116 : decode b_S_runs 116 = .ok (.invokevirtual 67, 3) := by decide +kernel
theorem d_S_runs_119 : decode b_S_runs 119 = .ok (.iload 4, 2) := by decide +kernel
theorem d_S_runs_121 : decode b_S_runs 121 = .ok (.bipush 8, 2) := by decide +kernel
theorem d_S_runs_123 : decode b_S_runs 123 = .ok (.iload 10, 2) := by decide +kernel
theorem d_S_runs_125 : decode b_S_runs 125 = .ok (.imul, 1) := by decide +kernel
theorem d_S_runs_126 : decode b_S_runs 126 = .ok (.iadd, 1) := by decide +kernel
theorem d_S_runs_127 : decode b_S_runs 127 = .ok (.istore 4, 2) := by decide +kernel
theorem d_S_runs_129 : decode b_S_runs 129 = .ok (.iinc 5 1, 3) := by decide +kernel
theorem d_S_runs_132 : decode b_S_runs 132 = .ok (.goto (-126), 3) := by decide +kernel
theorem d_S_runs_135 : decode b_S_runs 135 = .ok (.aload_n 0, 1) := by decide +kernel
theorem d_S_runs_136 : decode b_S_runs 136 = .ok (.invokevirtual 71, 3) := by decide +kernel
theorem d_S_runs_139 : decode b_S_runs 139 = .ok (.return_, 1) := by decide +kernel
theorem d_S_takeCount_0 : decode b_S_takeCount 0 = .ok (.lload_n 1, 1) := by decide +kernel
theorem d_S_takeCount_1 : decode b_S_takeCount 1 = .ok (.lconst 0, 1) := by decide +kernel
theorem d_S_takeCount_2 : decode b_S_takeCount 2 = .ok (.lcmp, 1) := by decide +kernel
theorem d_S_takeCount_3 : decode b_S_takeCount 3 = .ok (.ifCond .ne 8, 3) := by decide +kernel
theorem d_S_takeCount_6 : decode b_S_takeCount 6 = .ok (.aload_n 0, 1) := by decide +kernel
theorem d_S_takeCount_7 : decode b_S_takeCount 7 = .ok (.iconst 3, 1) := by decide +kernel
theorem d_S_takeCount_8 : decode b_S_takeCount 8 = .ok (.invokevirtual 51, 3) := by decide +kernel
theorem d_S_takeCount_11 : decode b_S_takeCount 11 = .ok (.lload_n 1, 1) := by decide +kernel
theorem d_S_takeCount_12 : decode b_S_takeCount 12 = .ok (.iload_n 3, 1) := by decide +kernel
theorem d_S_takeCount_13 : decode b_S_takeCount 13 = .ok (.i2l, 1) := by decide +kernel
theorem d_S_takeCount_14 : decode b_S_takeCount 14 = .ok (.lcmp, 1) := by decide +kernel
theorem d_S_takeCount_15 : decode b_S_takeCount 15 = .ok (.ifCond .le 8, 3) := by decide +kernel
theorem d_S_takeCount_18 : decode b_S_takeCount 18 = .ok (.aload_n 0, 1) := by decide +kernel
theorem d_S_takeCount_19 : decode b_S_takeCount 19 = .ok (.iconst 4, 1) := by decide +kernel
theorem d_S_takeCount_20 : decode b_S_takeCount 20 = .ok (.invokevirtual 51, 3) := by decide +kernel
theorem d_S_takeCount_23 : decode b_S_takeCount 23 = .ok (.aload_n 0, 1) := by decide +kernel
theorem d_S_takeCount_24 : decode b_S_takeCount 24 = .ok (.getfield 36, 3) := by decide +kernel
theorem d_S_takeCount_27 : decode b_S_takeCount 27 = .ok (.ifCond .ne 8, 3) := by decide +kernel
theorem d_S_takeCount_30 : decode b_S_takeCount 30 = .ok (.lload_n 1, 1) := by decide +kernel
theorem d_S_takeCount_31 : decode b_S_takeCount 31 = .ok (.l2i, 1) := by decide +kernel
theorem d_S_takeCount_32 : decode b_S_takeCount 32 = .ok (.goto 4, 3) := by decide +kernel
theorem d_S_takeCount_35 : decode b_S_takeCount 35 = .ok (.iconst 0, 1) := by decide +kernel
theorem d_S_takeCount_36 : decode b_S_takeCount 36 = .ok (.ireturn, 1) := by decide +kernel
theorem d_S_takeOne_0 : decode b_S_takeOne 0 = .ok (.aload_n 0, 1) := by decide +kernel
theorem d_S_takeOne_1 : decode b_S_takeOne 1 = .ok (.iload 4, 2) := by decide +kernel
theorem d_S_takeOne_3 : decode b_S_takeOne 3 = .ok (.bipush 7, 2) := by decide +kernel
theorem d_S_takeOne_5 : decode b_S_takeOne 5 = .ok (.iadd, 1) := by decide +kernel
theorem d_S_takeOne_6 : decode b_S_takeOne 6 = .ok (.bipush 8, 2) := by decide +kernel
theorem d_S_takeOne_8 : decode b_S_takeOne 8 = .ok (.idiv, 1) := by decide +kernel
theorem d_S_takeOne_9 : decode b_S_takeOne 9 = .ok (.invokevirtual 74, 3) := by decide +kernel
theorem d_S_takeOne_12 : decode b_S_takeOne 12 = .ok (.lstore 5, 2) := by decide +kernel
theorem d_S_takeOne_14 : decode b_S_takeOne 14 = .ok (.lload 5, 2) := by decide +kernel
theorem d_S_takeOne_16 : decode b_S_takeOne 16 = .ok (.iload 4, 2) := by decide +kernel
theorem d_S_takeOne_18 : decode b_S_takeOne 18 = .ok (.lushr, 1) := by decide +kernel
theorem d_S_takeOne_19 : decode b_S_takeOne 19 = .ok (.lconst 0, 1) := by decide +kernel
theorem d_S_takeOne_20 : decode b_S_takeOne 20 = .ok (.lcmp, 1) := by decide +kernel
theorem d_S_takeOne_21 : decode b_S_takeOne 21 = .ok (.ifCond .eq 8, 3) := by decide +kernel
theorem d_S_takeOne_24 : decode b_S_takeOne 24 = .ok (.aload_n 0, 1) := by decide +kernel
theorem d_S_takeOne_25 : decode b_S_takeOne 25 = .ok (.iconst 5, 1) := by decide +kernel
theorem d_S_takeOne_26 : decode b_S_takeOne 26 = .ok (.invokevirtual 51, 3) := by decide +kernel
theorem d_S_takeOne_29 : decode b_S_takeOne 29 = .ok (.aload_n 1, 1) := by decide +kernel
theorem d_S_takeOne_30 : decode b_S_takeOne 30 = .ok (.iload_n 2, 1) := by decide +kernel
theorem d_S_takeOne_31 : decode b_S_takeOne 31 = .ok (.iload_n 2, 1) := by decide +kernel
theorem d_S_takeOne_32 : decode b_S_takeOne 32 = .ok (.iload_n 3, 1) := by decide +kernel
theorem d_S_takeOne_33 : decode b_S_takeOne 33 = .ok (.iadd, 1) := by decide +kernel
theorem d_S_takeOne_34 : decode b_S_takeOne 34 = .ok (.lload 5, 2) := by decide +kernel
theorem d_S_takeOne_36 : decode b_S_takeOne 36 = .ok (.invokestatic 78, 3) := by decide +kernel
theorem d_S_takeOne_39 : decode b_S_takeOne 39 = .ok (.return_, 1) := by decide +kernel
theorem d_S_takeGroups_0 : decode b_S_takeGroups 0 = .ok (.aload_n 0, 1) := by decide +kernel
theorem d_S_takeGroups_1 : decode b_S_takeGroups 1 = .ok (.iload 4, 2) := by decide +kernel
theorem d_S_takeGroups_3 : decode b_S_takeGroups 3 = .ok (.i2l, 1) := by decide +kernel
theorem d_S_takeGroups_4 : decode b_S_takeGroups 4 = .ok (.iload 5, 2) := by decide +kernel
theorem d_S_takeGroups_6 : decode b_S_takeGroups 6 = .ok (.i2l, 1) := by decide +kernel
theorem d_S_takeGroups_7 : decode b_S_takeGroups 7 = .ok (.lmul, 1) := by decide +kernel
theorem d_S_takeGroups_8 : decode b_S_takeGroups 8 = .ok (.invokevirtual 39, 3) := by decide +kernel
theorem d_S_takeGroups_11 : decode b_S_takeGroups 11 = .ok (.ifCond .ne 4, 3) := by decide +kernel
theorem d_S_takeGroups_14 : decode b_S_takeGroups 14 = .ok (.return_, 1) := by decide +kernel
theorem d_S_takeGroups_15 : decode b_S_takeGroups 15 = .ok (.iconst 0, 1) := by decide +kernel
theorem d_S_takeGroups_16 : decode b_S_takeGroups 16 = .ok (.istore 6, 2) := by decide +kernel
theorem d_S_takeGroups_18 : decode b_S_takeGroups 18 = .ok (.iload 6, 2) := by decide +kernel
theorem d_S_takeGroups_20 : decode b_S_takeGroups 20 = .ok (.bipush 8, 2) := by decide +kernel
theorem d_S_takeGroups_22 : decode b_S_takeGroups 22 = .ok (.iload 4, 2) := by decide +kernel
theorem d_S_takeGroups_24 : decode b_S_takeGroups 24 = .ok (.imul, 1) := by decide +kernel
theorem d_S_takeGroups_25 : decode b_S_takeGroups 25 = .ok (.if_icmp .ge 61, 3) := by decide +kernel
theorem d_S_takeGroups_28 : decode b_S_takeGroups 28 = .ok (.aload_n 0, 1) := by decide +kernel
theorem d_S_takeGroups_29 : decode b_S_takeGroups 29 = .ok (.bipush 8, 2) := by decide +kernel
theorem d_S_takeGroups_31 : decode b_S_takeGroups 31 = .ok (.aload_n 0, 1) := by decide +kernel
theorem d_S_takeGroups_32 : decode b_S_takeGroups 32 = .ok (.getfield 26, 3) := by decide +kernel
theorem d_S_takeGroups_35 : decode b_S_takeGroups 35 = .ok (.imul, 1) := by decide +kernel
theorem d_S_takeGroups_36 : decode b_S_takeGroups 36 = .ok (.iload 5, 2) := by decide +kernel
theorem d_S_takeGroups_38 : decode b_S_takeGroups 38 = .ok (.iload 6, 2) := by decide +kernel
theorem d_S_takeGroups_40 : decode b_S_takeGroups 40 = .ok (.imul, 1) := by decide +kernel
theorem d_S_takeGroups_41 : decode b_S_takeGroups 41 = .ok (.iadd, 1) := by decide +kernel
theorem d_S_takeGroups_42 : decode b_S_takeGroups 42 = .ok (.iload 5, 2) := by decide +kernel
theorem d_S_takeGroups_44 : decode b_S_takeGroups 44 = .ok (.invokevirtual 43, 3) := by decide +kernel
theorem d_S_takeGroups_47 : decode b_S_takeGroups 47 = .ok (.lstore 7, 2) := by decide +kernel
theorem d_S_takeGroups_49 : decode b_S_takeGroups 49 = .ok (.iload_n 2, 1) := by decide +kernel
theorem d_S_takeGroups_50 : decode b_S_takeGroups 50 = .ok (.iload 6, 2) := by decide +kernel
theorem d_S_takeGroups_52 : decode b_S_takeGroups 52 = .ok (.iadd, 1) := by decide +kernel
theorem d_S_takeGroups_53 : decode b_S_takeGroups 53 = .ok (.iload_n 3, 1) := by decide +kernel
theorem d_S_takeGroups_54 : decode b_S_takeGroups 54 = .ok (.if_icmp .ge 14, 3) := by decide +kernel
theorem d_S_takeGroups_57 : decode b_S_takeGroups 57 = .ok (.aload_n 1, 1) := by decide +kernel
theorem d_S_takeGroups_58 : decode b_S_takeGroups 58 = .ok (.iload_n 2, 1) := by decide +kernel
theorem d_S_takeGroups_59 : decode b_S_takeGroups 59 = .ok (.iload 6, 2) := by decide +kernel
theorem d_S_takeGroups_61 : decode b_S_takeGroups 61 = .ok (.iadd, 1) := by decide +kernel
theorem d_S_takeGroups_62 : decode b_S_takeGroups 62 = .ok (.lload 7, 2) := by decide +kernel
theorem d_S_takeGroups_64 : decode b_S_takeGroups 64 = .ok (.lastore, 1) := by decide +kernel
theorem d_S_takeGroups_65 : decode b_S_takeGroups 65 = .ok (.goto 15, 3) := by decide +kernel
theorem d_S_takeGroups_68 : decode b_S_takeGroups 68 = .ok (.lload 7, 2) := by decide +kernel
theorem d_S_takeGroups_70 : decode b_S_takeGroups 70 = .ok (.lconst 0, 1) := by decide +kernel
theorem d_S_takeGroups_71 : decode b_S_takeGroups 71 = .ok (.lcmp, 1) := by decide +kernel
theorem d_S_takeGroups_72 : decode b_S_takeGroups 72 = .ok (.ifCond .eq 8, 3) := by decide +kernel
theorem d_S_takeGroups_75 : decode b_S_takeGroups 75 = .ok (.aload_n 0, 1) := by decide +kernel
theorem d_S_takeGroups_76 : decode b_S_takeGroups 76 = .ok (.iconst 5, 1) := by decide +kernel
theorem d_S_takeGroups_77 : decode b_S_takeGroups 77 = .ok (.invokevirtual 51, 3) := by decide +kernel
theorem d_S_takeGroups_80 : decode b_S_takeGroups 80 = .ok (.iinc 6 1, 3) := by decide +kernel
theorem d_S_takeGroups_83 : decode b_S_takeGroups 83 = .ok (.goto (-65), 3) := by decide +kernel
theorem d_S_takeGroups_86 : decode b_S_takeGroups 86 = .ok (.aload_n 0, 1) := by decide +kernel
theorem d_S_takeGroups_87 : decode b_S_takeGroups 87 = .ok (.dup, 1) := by decide +kernel
theorem d_S_takeGroups_88 : decode b_S_takeGroups 88 = .ok (.getfield 26, 3) := by decide +kernel
theorem d_S_takeGroups_91 : decode b_S_takeGroups 91 = .ok (.iload 4, 2) := by decide +kernel
theorem d_S_takeGroups_93 : decode b_S_takeGroups 93 = .ok (.iload 5, 2) := by decide +kernel
theorem d_S_takeGroups_95 : decode b_S_takeGroups 95 = .ok (.imul, 1) := by decide +kernel
theorem d_S_takeGroups_96 : decode b_S_takeGroups 96 = .ok (.iadd, 1) := by decide +kernel
theorem d_S_takeGroups_97 : decode b_S_takeGroups 97 = .ok (.putfield 26, 3) := by decide +kernel
theorem d_S_takeGroups_100 : decode b_S_takeGroups 100 = .ok (.return_, 1) := by decide +kernel
theorem d_S_code_0 : decode b_S_code 0 = .ok (.aload_n 0, 1) := by decide +kernel
theorem d_S_code_1 : decode b_S_code 1 = .ok (.invokevirtual 55, 3) := by decide +kernel
theorem d_S_code_4 : decode b_S_code 4 = .ok (.lstore_n 2, 1) := by decide +kernel
theorem d_S_code_5 : decode b_S_code 5 = .ok (.lload_n 2, 1) := by decide +kernel
theorem d_S_code_6 : decode b_S_code 6 = .ok (.lconst 0, 1) := by decide +kernel
theorem d_S_code_7 : decode b_S_code 7 = .ok (.lcmp, 1) := by decide +kernel
theorem d_S_code_8 : decode b_S_code 8 = .ok (.ifCond .lt 11, 3) := by decide +kernel
theorem d_S_code_11 : decode b_S_code 11 = .ok (.lload_n 2, 1) := by decide +kernel
theorem d_S_code_12 : decode b_S_code 12 = .ok (.ldc2_w 84, 3) := by decide +kernel
theorem d_S_code_15 : decode b_S_code 15 = .ok (.lcmp, 1) := by decide +kernel
theorem d_S_code_16 : decode b_S_code 16 = .ok (.ifCond .le 8, 3) := by decide +kernel
theorem d_S_code_19 : decode b_S_code 19 = .ok (.aload_n 0, 1) := by decide +kernel
theorem d_S_code_20 : decode b_S_code 20 = .ok (.iconst 4, 1) := by decide +kernel
theorem d_S_code_21 : decode b_S_code 21 = .ok (.invokevirtual 51, 3) := by decide +kernel
theorem d_S_code_24 : decode b_S_code 24 = .ok (.aload_n 0, 1) := by decide +kernel
theorem d_S_code_25 : decode b_S_code 25 = .ok (.getfield 36, 3) := by decide +kernel
theorem d_S_code_28 : decode b_S_code 28 = .ok (.ifCond .eq 5, 3) := by decide +kernel
theorem d_S_code_31 : decode b_S_code 31 = .ok (.iconst 0, 1) := by decide +kernel
theorem d_S_code_32 : decode b_S_code 32 = .ok (.ireturn, 1) := by decide +kernel
theorem d_S_code_33 : decode b_S_code 33 = .ok (.lload_n 2, 1) := by decide +kernel
theorem d_S_code_34 : decode b_S_code 34 = .ok (.l2i, 1) := by decide +kernel
theorem d_S_code_35 : decode b_S_code 35 = .ok (.istore 4, 2) := by decide +kernel
theorem d_S_code_37 : decode b_S_code 37 = .ok (.iload 4, 2) := by decide +kernel
theorem d_S_code_39 : decode b_S_code 39 = .ok (.ifCond .le 13, 3) := by decide +kernel
theorem d_S_code_42 : decode b_S_code 42 = .ok (.aload_n 1, 1) := by decide +kernel
theorem d_S_code_43 : decode b_S_code 43 = .ok (.iconst 0, 1) := by decide +kernel
theorem d_S_code_44 : decode b_S_code 44 = .ok (.aload_n 0, 1) := by decide +kernel
theorem d_S_code_45 : decode b_S_code 45 = .ok (.invokevirtual 55, 3) := by decide +kernel
theorem d_S_code_48 : decode b_S_code 48 = .ok (.invokestatic 86, 3) := by decide +kernel
theorem d_S_code_51 : decode b_S_code 51 = .ok (.lastore, 1) := by decide +kernel
theorem d_S_code_52 : decode b_S_code 52 = .ok (.iconst 1, 1) := by decide +kernel
theorem d_S_code_53 : decode b_S_code 53 = .ok (.istore 5, 2) := by decide +kernel
theorem d_S_code_55 : decode b_S_code 55 = .ok (.iload 5, 2) := by decide +kernel
theorem d_S_code_57 : decode b_S_code 57 = .ok (.iload 4, 2) := by decide +kernel
theorem d_S_code_59 : decode b_S_code 59 = .ok (.if_icmp .ge 33, 3) := by decide +kernel
theorem d_S_code_62 : decode b_S_code 62 = .ok (.aload_n 0, 1) := by decide +kernel
theorem d_S_code_63 : decode b_S_code 63 = .ok (.getfield 36, 3) := by decide +kernel
theorem d_S_code_66 : decode b_S_code 66 = .ok (.ifCond .ne 26, 3) := by decide +kernel
theorem d_S_code_69 : decode b_S_code 69 = .ok (.aload_n 0, 1) := by decide +kernel
theorem d_S_code_70 : decode b_S_code 70 = .ok (.aload_n 1, 1) := by decide +kernel
theorem d_S_code_71 : decode b_S_code 71 = .ok (.iload 5, 2) := by decide +kernel
theorem d_S_code_73 : decode b_S_code 73 = .ok (.iload 5, 2) := by decide +kernel
theorem d_S_code_75 : decode b_S_code 75 = .ok (.bipush 64, 2) := by decide +kernel
theorem d_S_code_77 : decode b_S_code 77 = .ok (.iadd, 1) := by decide +kernel
theorem d_S_code_78 : decode b_S_code 78 = .ok (.iload 4, 2) := by decide +kernel
theorem d_S_code_80 : decode b_S_code 80 = .ok (.invokestatic 90, 3) := by decide +kernel
theorem d_S_code_83 : decode b_S_code 83 = .ok (.invokevirtual 96, 3) := by decide +kernel
theorem d_S_code_86 : decode b_S_code 86 = .ok (.iinc 5 64, 3) := by decide +kernel
theorem d_S_code_89 : decode b_S_code 89 = .ok (.goto (-34), 3) := by decide +kernel
theorem d_S_code_92 : decode b_S_code 92 = .ok (.aload_n 0, 1) := by decide +kernel
theorem d_S_code_93 : decode b_S_code 93 = .ok (.invokevirtual 71, 3) := by decide +kernel
theorem d_S_code_96 : decode b_S_code 96 = .ok (.iload 4, 2) := by decide +kernel
theorem d_S_code_98 : decode b_S_code 98 = .ok (.ireturn, 1) := by decide +kernel
theorem d_S_takeBlock_0 : decode b_S_takeBlock 0 = .ok (.aload_n 0, 1) := by decide +kernel
theorem d_S_takeBlock_1 : decode b_S_takeBlock 1 = .ok (.invokevirtual 55, 3) := by decide +kernel
theorem d_S_takeBlock_4 : decode b_S_takeBlock 4 = .ok (.invokestatic 86, 3) := by decide +kernel
theorem d_S_takeBlock_7 : decode b_S_takeBlock 7 = .ok (.lstore 4, 2) := by decide +kernel
theorem d_S_takeBlock_9 : decode b_S_takeBlock 9 = .ok (.iconst 0, 1) := by decide +kernel
theorem d_S_takeBlock_10 : decode b_S_takeBlock 10 = .ok (.istore 6, 2) := by decide +kernel
theorem d_S_takeBlock_12 : decode b_S_takeBlock 12 = .ok (.iload 6, 2) := by decide +kernel
theorem d_S_takeBlock_14 : decode b_S_takeBlock 14 = .ok (.iconst 4, 1) := by decide +kernel
theorem d_S_takeBlock_15 : decode b_S_takeBlock 15 = .ok (.if_icmp .ge 70, 3) := by decide +kernel
theorem d_S_takeBlock_18 : decode b_S_takeBlock 18 = .ok (.aload_n 0, 1) := by decide +kernel
theorem d_S_takeBlock_19 : decode b_S_takeBlock 19 = .ok (.getfield 9, 3) := by decide +kernel
theorem d_S_takeBlock_22 : decode b_S_takeBlock 22 = .ok (.iload 6, 2) := by decide +kernel
theorem d_S_takeBlock_24 : decode b_S_takeBlock 24 = .ok (.aload_n 0, 1) := by decide +kernel
theorem d_S_takeBlock_25 : decode b_S_takeBlock 25 = .ok (.invokevirtual 47, 3) := by decide +kernel
theorem d_S_takeBlock_28 : decode b_S_takeBlock 28 = .ok (.iastore, 1) := by decide +kernel
theorem d_S_takeBlock_29 : decode b_S_takeBlock 29 = .ok (.iload_n 2, 1) := by decide +kernel
theorem d_S_takeBlock_30 : decode b_S_takeBlock 30 = .ok (.bipush 16, 2) := by decide +kernel
theorem d_S_takeBlock_32 : decode b_S_takeBlock 32 = .ok (.iload 6, 2) := by decide +kernel
theorem d_S_takeBlock_34 : decode b_S_takeBlock 34 = .ok (.imul, 1) := by decide +kernel
theorem d_S_takeBlock_35 : decode b_S_takeBlock 35 = .ok (.iadd, 1) := by decide +kernel
theorem d_S_takeBlock_36 : decode b_S_takeBlock 36 = .ok (.iload_n 3, 1) := by decide +kernel
theorem d_S_takeBlock_37 : decode b_S_takeBlock 37 = .ok (.if_icmp .lt 7, 3) := by decide +kernel
theorem d_S_takeBlock_40 : decode b_S_takeBlock 40 = .ok (.iconst 1, 1) := by decide +kernel
theorem d_S_takeBlock_41 : decode b_S_takeBlock 41 = .ok (.goto 4, 3) := by decide +kernel
theorem d_S_takeBlock_44 : decode b_S_takeBlock 44 = .ok (.iconst 0, 1) := by decide +kernel
theorem d_S_takeBlock_45 : decode b_S_takeBlock 45 = .ok (.istore 7, 2) := by decide +kernel
theorem d_S_takeBlock_47 : decode b_S_takeBlock 47 = .ok (.aload_n 0, 1) := by decide +kernel
theorem d_S_takeBlock_48 : decode b_S_takeBlock 48 = .ok (.getfield 9, 3) := by decide +kernel
theorem d_S_takeBlock_51 : decode b_S_takeBlock 51 = .ok (.iload 6, 2) := by decide +kernel
theorem d_S_takeBlock_53 : decode b_S_takeBlock 53 = .ok (.iaload, 1) := by decide +kernel
theorem d_S_takeBlock_54 : decode b_S_takeBlock 54 = .ok (.bipush 64, 2) := by decide +kernel
theorem d_S_takeBlock_56 : decode b_S_takeBlock 56 = .ok (.if_icmp .gt 18, 3) := by decide +kernel
theorem d_S_takeBlock_59 : decode b_S_takeBlock 59 = .ok (.iload 7, 2) := by decide +kernel
theorem d_S_takeBlock_61 : decode b_S_takeBlock 61 = .ok (.ifCond .eq 18, 3) := by decide +kernel
theorem d_S_takeBlock_64 : decode b_S_takeBlock 64 = .ok (.aload_n 0, 1) := by decide +kernel
theorem d_S_takeBlock_65 : decode b_S_takeBlock 65 = .ok (.getfield 9, 3) := by decide +kernel
theorem d_S_takeBlock_68 : decode b_S_takeBlock 68 = .ok (.iload 6, 2) := by decide +kernel
theorem d_S_takeBlock_70 : decode b_S_takeBlock 70 = .ok (.iaload, 1) := by decide +kernel
theorem d_S_takeBlock_71 : decode b_S_takeBlock 71 = .ok (.ifCond .le 8, 3) := by decide +kernel
theorem d_S_takeBlock_74 : decode b_S_takeBlock 74 = .ok (.aload_n 0, 1) := by decide +kernel
theorem d_S_takeBlock_75 : decode b_S_takeBlock 75 = .ok (.iconst 5, 1) := by decide +kernel
theorem d_S_takeBlock_76 : decode b_S_takeBlock 76 = .ok (.invokevirtual 51, 3) := by decide +kernel
theorem d_S_takeBlock_79 : decode b_S_takeBlock 79 = .ok (.iinc 6 1, 3) := by decide +kernel
theorem d_S_takeBlock_82 : decode b_S_takeBlock 82 = .ok (.goto (-70), 3) := by decide +kernel
theorem d_S_takeBlock_85 : decode b_S_takeBlock 85 = .ok (.iconst 0, 1) := by decide +kernel
theorem d_S_takeBlock_86 : decode b_S_takeBlock 86 = .ok (.istore 6, 2) := by decide +kernel
theorem d_S_takeBlock_88 : decode b_S_takeBlock 88 = .ok (.iload 6, 2) := by decide +kernel
theorem d_S_takeBlock_90 : decode b_S_takeBlock 90 = .ok (.iconst 4, 1) := by decide +kernel
theorem d_S_takeBlock_91 : decode b_S_takeBlock 91 = .ok (.if_icmp .ge 48, 3) := by decide +kernel
theorem d_S_takeBlock_94 : decode b_S_takeBlock 94 = .ok (.aload_n 0, 1) := by decide +kernel
theorem d_S_takeBlock_95 : decode b_S_takeBlock 95 = .ok (.getfield 36, 3) := by decide +kernel
theorem d_S_takeBlock_98 : decode b_S_takeBlock 98 = .ok (.ifCond .ne 41, 3) := by decide +kernel
theorem d_S_takeBlock_101 : decode b_S_takeBlock 101 = .ok (.iload_n 2, 1) := by decide +kernel
theorem d_S_takeBlock_102 : decode b_S_takeBlock 102 = .ok (.bipush 16, 2) := by decide +kernel
theorem d_S_takeBlock_104 : decode b_S_takeBlock 104 = .ok (.iload 6, 2) := by decide +kernel
theorem d_S_takeBlock_106 : decode b_S_takeBlock 106 = .ok (.imul, 1) := by decide +kernel
theorem d_S_takeBlock_107 : decode b_S_takeBlock 107 = .ok (.iadd, 1) := by decide +kernel
theorem d_S_takeBlock_108 : decode b_S_takeBlock 108 = .ok (.istore 7, 2) := by decide +kernel
theorem d_S_takeBlock_110 : decode b_S_takeBlock 110 = .ok (.iload 7, 2) := by decide +kernel
theorem d_S_takeBlock_112 : decode b_S_takeBlock 112 = .ok (.iload_n 3, 1) := by decide +kernel
theorem d_S_takeBlock_113 : decode b_S_takeBlock 113 = .ok (.if_icmp .ge 20, 3) := by decide +kernel
theorem d_S_takeBlock_116 : decode b_S_takeBlock 116 = .ok (.aload_n 0, 1) := by decide +kernel
theorem d_S_takeBlock_117 : decode b_S_takeBlock 117 = .ok (.aload_n 1, 1) := by decide +kernel
theorem d_S_takeBlock_118 : decode b_S_takeBlock 118 = .ok (.iload 7, 2) := by decide +kernel
theorem d_S_takeBlock_120 : decode b_S_takeBlock 120 = .ok (.iload_n 3, 1) := by decide +kernel
theorem d_S_takeBlock_121 : decode b_S_takeBlock 121 = .ok (.lload 4, 2) := by decide +kernel
theorem d_S_takeBlock_123 : decode b_S_takeBlock 123 = .ok (.aload_n 0, 1) := by decide +kernel
theorem d_S_takeBlock_124 : decode b_S_takeBlock 124 = .ok (.getfield 9, 3) := by decide +kernel
theorem d_S_takeBlock_127 : decode b_S_takeBlock 127 = .ok (.iload 6, 2) := by decide +kernel
theorem d_S_takeBlock_129 : decode b_S_takeBlock 129 = .ok (.iaload, 1) := by decide +kernel
theorem d_S_takeBlock_130 : decode b_S_takeBlock 130 = .ok (.invokevirtual 100, 3) := by decide +kernel
theorem d_S_takeBlock_133 : decode b_S_takeBlock 133 = .ok (.iinc 6 1, 3) := by decide +kernel
theorem d_S_takeBlock_136 : decode b_S_takeBlock 136 = .ok (.goto (-48), 3) := by decide +kernel
theorem d_S_takeBlock_139 : decode b_S_takeBlock 139 = .ok (.return_, 1) := by decide +kernel
theorem d_S_takePart_0 : decode b_S_takePart 0 = .ok (.aload_n 0, 1) := by decide +kernel
theorem d_S_takePart_1 : decode b_S_takePart 1 = .ok (.iconst 2, 1) := by decide +kernel
theorem d_S_takePart_2 : decode b_S_takePart 2 = .ok (.iload 6, 2) := by decide +kernel
theorem d_S_takePart_4 : decode b_S_takePart 4 = .ok (.imul, 1) := by decide +kernel
theorem d_S_takePart_5 : decode b_S_takePart 5 = .ok (.i2l, 1) := by decide +kernel
theorem d_S_takePart_6 : decode b_S_takePart 6 = .ok (.invokevirtual 39, 3) := by decide +kernel
theorem d_S_takePart_9 : decode b_S_takePart 9 = .ok (.ifCond .ne 4, 3) := by decide +kernel
theorem d_S_takePart_12 : decode b_S_takePart 12 = .ok (.return_, 1) := by decide +kernel
theorem d_S_takePart_13 : decode b_S_takePart 13 = .ok (.iconst 0, 1) := by decide +kernel
theorem d_S_takePart_14 : decode b_S_takePart 14 = .ok (.istore 7, 2) := by decide +kernel
theorem d_S_takePart_16 : decode b_S_takePart 16 = .ok (.iload 7, 2) := by decide +kernel
theorem d_S_takePart_18 : decode b_S_takePart 18 = .ok (.bipush 16, 2) := by decide +kernel
theorem d_S_takePart_20 : decode b_S_takePart 20 = .ok (.if_icmp .ge 73, 3) := by decide +kernel
theorem d_S_takePart_23 : decode b_S_takePart 23 = .ok (.aload_n 0, 1) := by decide +kernel
theorem d_S_takePart_24 : decode b_S_takePart 24 = .ok (.bipush 8, 2) := by decide +kernel
theorem d_S_takePart_26 : decode b_S_takePart 26 = .ok (.aload_n 0, 1) := by decide +kernel
theorem d_S_takePart_27 : decode b_S_takePart 27 = .ok (.getfield 26, 3) := by decide +kernel
theorem d_S_takePart_30 : decode b_S_takePart 30 = .ok (.imul, 1) := by decide +kernel
theorem d_S_takePart_31 : decode b_S_takePart 31 = .ok (.iload 6, 2) := by decide +kernel
theorem d_S_takePart_33 : decode b_S_takePart 33 = .ok (.iload 7, 2) := by decide +kernel
theorem d_S_takePart_35 : decode b_S_takePart 35 = .ok (.imul, 1) := by decide +kernel
theorem d_S_takePart_36 : decode b_S_takePart 36 = .ok (.iadd, 1) := by decide +kernel
theorem d_S_takePart_37 : decode b_S_takePart 37 = .ok (.iload 6, 2) := by decide +kernel
theorem d_S_takePart_39 : decode b_S_takePart 39 = .ok (.invokevirtual 43, 3) := by decide +kernel
theorem d_S_takePart_42 : decode b_S_takePart 42 = .ok (.lstore 8, 2) := by decide +kernel
theorem d_S_takePart_44 : decode b_S_takePart 44 = .ok (.iload_n 2, 1) := by decide +kernel
theorem d_S_takePart_45 : decode b_S_takePart 45 = .ok (.iload 7, 2) := by decide +kernel
theorem d_S_takePart_47 : decode b_S_takePart 47 = .ok (.iadd, 1) := by decide +kernel
theorem d_S_takePart_48 : decode b_S_takePart 48 = .ok (.iload_n 3, 1) := by decide +kernel
theorem d_S_takePart_49 : decode b_S_takePart 49 = .ok (.if_icmp .ge 26, 3) := by decide +kernel
theorem d_S_takePart_52 : decode b_S_takePart 52 = .ok (.aload_n 1, 1) := by decide +kernel
theorem d_S_takePart_53 : decode b_S_takePart 53 = .ok (.iload_n 2, 1) := by decide +kernel
theorem d_S_takePart_54 : decode b_S_takePart 54 = .ok (.iload 7, 2) := by decide +kernel
theorem d_S_takePart_56 : decode b_S_takePart 56 = .ok (.iadd, 1) := by decide +kernel
theorem d_S_takePart_57 : decode b_S_takePart 57 = .ok (.aload_n 1, 1) := by decide +kernel
theorem d_S_takePart_58 : decode b_S_takePart 58 = .ok (.iload_n 2, 1) := by decide +kernel
theorem d_S_takePart_59 : decode b_S_takePart 59 = .ok (.iload 7, 2) := by decide +kernel
theorem d_S_takePart_61 : decode b_S_takePart 61 = .ok (.iadd, 1) := by decide +kernel
theorem d_S_takePart_62 : decode b_S_takePart 62 = .ok (.iconst 1, 1) := by decide +kernel
theorem d_S_takePart_63 : decode b_S_takePart 63 = .ok (.isub, 1) := by decide +kernel
theorem d_S_takePart_64 : decode b_S_takePart 64 = .ok (.laload, 1) := by decide +kernel
theorem d_S_takePart_65 : decode b_S_takePart 65 = .ok (.lload 4, 2) := by decide +kernel
theorem d_S_takePart_67 : decode b_S_takePart 67 = .ok (.ladd, 1) := by decide +kernel
theorem d_S_takePart_68 : decode b_S_takePart 68 = .ok (.lload 8, 2) := by decide +kernel
theorem d_S_takePart_70 : decode b_S_takePart 70 = .ok (.ladd, 1) := by decide +kernel
theorem d_S_takePart_71 : decode b_S_takePart 71 = .ok (.lastore, 1) := by decide +kernel
theorem d_S_takePart_72 : decode b_S_takePart 72 = .ok (.goto 15, 3) := by decide +kernel
theorem d_S_takePart_75 : decode b_S_takePart 75 = .ok (.lload 8, 2) := by decide +kernel
theorem d_S_takePart_77 : decode b_S_takePart 77 = .ok (.lconst 0, 1) := by decide +kernel
theorem d_S_takePart_78 : decode b_S_takePart 78 = .ok (.lcmp, 1) := by decide +kernel
theorem d_S_takePart_79 : decode b_S_takePart 79 = .ok (.ifCond .eq 8, 3) := by decide +kernel
theorem d_S_takePart_82 : decode b_S_takePart 82 = .ok (.aload_n 0, 1) := by decide +kernel
theorem d_S_takePart_83 : decode b_S_takePart 83 = .ok (.iconst 5, 1) := by decide +kernel
theorem d_S_takePart_84 : decode b_S_takePart 84 = .ok (.invokevirtual 51, 3) := by decide +kernel
theorem d_S_takePart_87 : decode b_S_takePart 87 = .ok (.iinc 7 1, 3) := by decide +kernel
theorem d_S_takePart_90 : decode b_S_takePart 90 = .ok (.goto (-74), 3) := by decide +kernel
theorem d_S_takePart_93 : decode b_S_takePart 93 = .ok (.aload_n 0, 1) := by decide +kernel
theorem d_S_takePart_94 : decode b_S_takePart 94 = .ok (.dup, 1) := by decide +kernel
theorem d_S_takePart_95 : decode b_S_takePart 95 = .ok (.getfield 26, 3) := by decide +kernel
theorem d_S_takePart_98 : decode b_S_takePart 98 = .ok (.iconst 2, 1) := by decide +kernel
theorem d_S_takePart_99 : decode b_S_takePart 99 = .ok (.iload 6, 2) := by decide +kernel
theorem d_S_takePart_101 : decode b_S_takePart 101 = .ok (.imul, 1) := by decide +kernel
theorem d_S_takePart_102 : decode b_S_takePart 102 = .ok (.iadd, 1) := by decide +kernel
theorem d_S_takePart_103 : decode b_S_takePart 103 = .ok (.putfield 26, 3) := by decide +kernel
theorem d_S_takePart_106 : decode b_S_takePart 106 = .ok (.return_, 1) := by decide +kernel
theorem d_V_init_0 : decode b_V_init 0 = .ok (.aload_n 0, 1) := by decide +kernel
theorem d_V_init_1 : decode b_V_init 1 = .ok (.invokespecial 3, 3) := by decide +kernel
theorem d_V_init_4 : decode b_V_init 4 = .ok (.aload_n 0, 1) := by decide +kernel
theorem d_V_init_5 : decode b_V_init 5 = .ok (.iload_n 1, 1) := by decide +kernel
theorem d_V_init_6 : decode b_V_init 6 = .ok (.newarray .long, 2) := by decide +kernel
theorem d_V_init_8 : decode b_V_init 8 = .ok (.putfield 9, 3) := by decide +kernel
theorem d_V_init_11 : decode b_V_init 11 = .ok (.aload_n 0, 1) := by decide +kernel
theorem d_V_init_12 : decode b_V_init 12 = .ok (.iload_n 2, 1) := by decide +kernel
theorem d_V_init_13 : decode b_V_init 13 = .ok (.newarray .byte, 2) := by decide +kernel
theorem d_V_init_15 : decode b_V_init 15 = .ok (.putfield 15, 3) := by decide +kernel
theorem d_V_init_18 : decode b_V_init 18 = .ok (.aload_n 0, 1) := by decide +kernel
theorem d_V_init_19 : decode b_V_init 19 = .ok (.iload_n 1, 1) := by decide +kernel
theorem d_V_init_20 : decode b_V_init 20 = .ok (.iconst 1, 1) := by decide +kernel
theorem d_V_init_21 : decode b_V_init 21 = .ok (.iadd, 1) := by decide +kernel
theorem d_V_init_22 : decode b_V_init 22 = .ok (.newarray .int, 2) := by decide +kernel
theorem d_V_init_24 : decode b_V_init 24 = .ok (.putfield 19, 3) := by decide +kernel
theorem d_V_init_27 : decode b_V_init 27 = .ok (.return_, 1) := by decide +kernel
theorem d_V_makeEmpty_0 : decode b_V_makeEmpty 0 = .ok (.aload_n 0, 1) := by decide +kernel
theorem d_V_makeEmpty_1 : decode b_V_makeEmpty 1 = .ok (.iload_n 1, 1) := by decide +kernel
theorem d_V_makeEmpty_2 : decode b_V_makeEmpty 2 = .ok (.putfield 23, 3) := by decide +kernel
theorem d_V_makeEmpty_5 : decode b_V_makeEmpty 5 = .ok (.aload_n 0, 1) := by decide +kernel
theorem d_V_makeEmpty_6 : decode b_V_makeEmpty 6 = .ok (.iconst 0, 1) := by decide +kernel
theorem d_V_makeEmpty_7 : decode b_V_makeEmpty 7 = .ok (.putfield 27, 3) := by decide +kernel
theorem d_V_makeEmpty_10 : decode b_V_makeEmpty 10 = .ok (.return_, 1) := by decide +kernel
theorem d_V_textBytes_0 : decode b_V_textBytes 0 = .ok (.aload_n 0, 1) := by decide +kernel
theorem d_V_textBytes_1 : decode b_V_textBytes 1 = .ok (.getfield 19, 3) := by decide +kernel
theorem d_V_textBytes_4 : decode b_V_textBytes 4 = .ok (.aload_n 0, 1) := by decide +kernel
theorem d_V_textBytes_5 : decode b_V_textBytes 5 = .ok (.getfield 27, 3) := by decide +kernel
theorem d_V_textBytes_8 : decode b_V_textBytes 8 = .ok (.iaload, 1) := by decide +kernel
theorem d_V_textBytes_9 : decode b_V_textBytes 9 = .ok (.ireturn, 1) := by decide +kernel
theorem d_V_sizeOf_0 : decode b_V_sizeOf 0 = .ok (.aload_n 0, 1) := by decide +kernel
theorem d_V_sizeOf_1 : decode b_V_sizeOf 1 = .ok (.getfield 19, 3) := by decide +kernel
theorem d_V_sizeOf_4 : decode b_V_sizeOf 4 = .ok (.iload_n 1, 1) := by decide +kernel
theorem d_V_sizeOf_5 : decode b_V_sizeOf 5 = .ok (.iconst 1, 1) := by decide +kernel
theorem d_V_sizeOf_6 : decode b_V_sizeOf 6 = .ok (.iadd, 1) := by decide +kernel
theorem d_V_sizeOf_7 : decode b_V_sizeOf 7 = .ok (.iaload, 1) := by decide +kernel
theorem d_V_sizeOf_8 : decode b_V_sizeOf 8 = .ok (.aload_n 0, 1) := by decide +kernel
theorem d_V_sizeOf_9 : decode b_V_sizeOf 9 = .ok (.getfield 19, 3) := by decide +kernel
theorem d_V_sizeOf_12 : decode b_V_sizeOf 12 = .ok (.iload_n 1, 1) := by decide +kernel
theorem d_V_sizeOf_13 : decode b_V_sizeOf 13 = .ok (.iaload, 1) := by decide +kernel
theorem d_V_sizeOf_14 : decode b_V_sizeOf 14 = .ok (.isub, 1) := by decide +kernel
theorem d_V_sizeOf_15 : decode b_V_sizeOf 15 = .ok (.ireturn, 1) := by decide +kernel
theorem d_V_octetOf_0 : decode b_V_octetOf 0 = .ok (.aload_n 0, 1) := by decide +kernel
theorem d_V_octetOf_1 : decode b_V_octetOf 1 = .ok (.getfield 15, 3) := by decide +kernel
theorem d_V_octetOf_4 : decode b_V_octetOf 4 = .ok (.aload_n 0, 1) := by decide +kernel
theorem d_V_octetOf_5 : decode b_V_octetOf 5 = .ok (.getfield 19, 3) := by decide +kernel
theorem d_V_octetOf_8 : decode b_V_octetOf 8 = .ok (.iload_n 1, 1) := by decide +kernel
theorem d_V_octetOf_9 : decode b_V_octetOf 9 = .ok (.iaload, 1) := by decide +kernel
theorem d_V_octetOf_10 : decode b_V_octetOf 10 = .ok (.iload_n 2, 1) := by decide +kernel
theorem d_V_octetOf_11 : decode b_V_octetOf 11 = .ok (.iadd, 1) := by decide +kernel
theorem d_V_octetOf_12 : decode b_V_octetOf 12 = .ok (.baload, 1) := by decide +kernel
theorem d_V_octetOf_13 : decode b_V_octetOf 13 = .ok (.sipush 255, 3) := by decide +kernel
theorem d_V_octetOf_16 : decode b_V_octetOf 16 = .ok (.iand, 1) := by decide +kernel
theorem d_V_octetOf_17 : decode b_V_octetOf 17 = .ok (.ireturn, 1) := by decide +kernel
theorem d_V_lastSize_0 : decode b_V_lastSize 0 = .ok (.aload_n 0, 1) := by decide +kernel
theorem d_V_lastSize_1 : decode b_V_lastSize 1 = .ok (.getfield 27, 3) := by decide +kernel
theorem d_V_lastSize_4 : decode b_V_lastSize 4 = .ok (.ifCond .ne 7, 3) := by decide +kernel
theorem d_V_lastSize_7 : decode b_V_lastSize 7 = .ok (.iconst 0, 1) := by decide +kernel
theorem d_V_lastSize_8 : decode b_V_lastSize 8 = .ok (.goto 24, 3) := by decide +kernel
theorem d_V_lastSize_11 : decode b_V_lastSize 11 = .ok (.aload_n 0, 1) := by decide +kernel
theorem d_V_lastSize_12 : decode b_V_lastSize 12 = .ok (.getfield 19, 3) := by decide +kernel
theorem d_V_lastSize_15 : decode b_V_lastSize 15 = .ok (.aload_n 0, 1) := by decide +kernel
theorem d_V_lastSize_16 : decode b_V_lastSize 16 = .ok (.getfield 27, 3) := by decide +kernel
theorem d_V_lastSize_19 : decode b_V_lastSize 19 = .ok (.iaload, 1) := by decide +kernel
theorem d_V_lastSize_20 : decode b_V_lastSize 20 = .ok (.aload_n 0, 1) := by decide +kernel
theorem d_V_lastSize_21 : decode b_V_lastSize 21 = .ok (.getfield 19, 3) := by decide +kernel
theorem d_V_lastSize_24 : decode b_V_lastSize 24 = .ok (.aload_n 0, 1) := by decide +kernel
theorem d_V_lastSize_25 : decode b_V_lastSize 25 = .ok (.getfield 27, 3) := by decide +kernel
theorem d_V_lastSize_28 : decode b_V_lastSize 28 = .ok (.iconst 1, 1) := by decide +kernel
theorem d_V_lastSize_29 : decode b_V_lastSize 29 = .ok (.isub, 1) := by decide +kernel
theorem d_V_lastSize_30 : decode b_V_lastSize 30 = .ok (.iaload, 1) := by decide +kernel
theorem d_V_lastSize_31 : decode b_V_lastSize 31 = .ok (.isub, 1) := by decide +kernel
theorem d_V_lastSize_32 : decode b_V_lastSize 32 = .ok (.ireturn, 1) := by decide +kernel
theorem d_V_addNumber_0 : decode b_V_addNumber 0 = .ok (.aload_n 0, 1) := by decide +kernel
theorem d_V_addNumber_1 : decode b_V_addNumber 1 = .ok (.getfield 27, 3) := by decide +kernel
theorem d_V_addNumber_4 : decode b_V_addNumber 4 = .ok (.aload_n 0, 1) := by decide +kernel
theorem d_V_addNumber_5 : decode b_V_addNumber 5 = .ok (.getfield 9, 3) := by decide +kernel
theorem d_V_addNumber_8 : decode b_V_addNumber 8 = .ok (.arraylength, 1) := by decide +kernel
theorem d_V_addNumber_9 : decode b_V_addNumber 9 = .ok (.if_icmp .lt 5, 3) := by decide +kernel
theorem d_V_addNumber_12 : decode b_V_addNumber 12 = .ok (.iconst 0, 1) := by decide +kernel
theorem d_V_addNumber_13 : decode b_V_addNumber 13 = .ok (.ireturn, 1) := by decide +kernel
theorem d_V_addNumber_14 : decode b_V_addNumber 14 = .ok (.aload_n 0, 1) := by decide +kernel
theorem d_V_addNumber_15 : decode b_V_addNumber 15 = .ok (.getfield 9, 3) := by decide +kernel
theorem d_V_addNumber_18 : decode b_V_addNumber 18 = .ok (.aload_n 0, 1) := by decide +kernel
theorem d_V_addNumber_19 : decode b_V_addNumber 19 = .ok (.getfield 27, 3) := by decide +kernel
theorem d_V_addNumber_22 : decode b_V_addNumber 22 = .ok (.lload_n 1, 1) := by decide +kernel
theorem d_V_addNumber_23 : decode b_V_addNumber 23 = .ok (.lastore, 1) := by decide +kernel
theorem d_V_addNumber_24 : decode b_V_addNumber 24 = .ok (.aload_n 0, 1) := by decide +kernel
theorem d_V_addNumber_25 : decode b_V_addNumber 25 = .ok (.dup, 1) := by decide +kernel
theorem d_V_addNumber_26 : decode b_V_addNumber 26 = .ok (.getfield 27, 3) := by decide +kernel
theorem d_V_addNumber_29 : decode b_V_addNumber 29 = .ok (.iconst 1, 1) := by decide +kernel
theorem d_V_addNumber_30 : decode b_V_addNumber 30 = .ok (.iadd, 1) := by decide +kernel
theorem d_V_addNumber_31 : decode b_V_addNumber 31 = .ok (.putfield 27, 3) := by decide +kernel
theorem d_V_addNumber_34 : decode b_V_addNumber 34 = .ok (.iconst 1, 1) := by decide +kernel
theorem d_V_addNumber_35 : decode b_V_addNumber 35 = .ok (.ireturn, 1) := by decide +kernel
theorem d_V_addText_0 : decode b_V_addText 0 = .ok (.iload_n 1, 1) := by decide +kernel
theorem d_V_addText_1 : decode b_V_addText 1 = .ok (.ifCond .lt 29, 3) := by decide +kernel
theorem d_V_addText_4 : decode b_V_addText 4 = .ok (.iload_n 1, 1) := by decide +kernel
theorem d_V_addText_5 : decode b_V_addText 5 = .ok (.aload_n 0, 1) := by decide +kernel
theorem d_V_addText_6 : decode b_V_addText 6 = .ok (.invokevirtual 31, 3) := by decide +kernel
theorem d_V_addText_9 : decode b_V_addText 9 = .ok (.if_icmp .gt 21, 3) := by decide +kernel
theorem d_V_addText_12 : decode b_V_addText 12 = .ok (.iload 4, 2) := by decide +kernel
theorem d_V_addText_14 : decode b_V_addText 14 = .ok (.ifCond .lt 16, 3) := by decide +kernel
theorem d_V_addText_17 : decode b_V_addText 17 = .ok (.iload_n 3, 1) := by decide +kernel
theorem d_V_addText_18 : decode b_V_addText 18 = .ok (.ifCond .lt 12, 3) := by decide +kernel
theorem d_V_addText_21 : decode b_V_addText 21 = .ok (.iload 4, 2) := by decide +kernel
theorem d_V_addText_23 : decode b_V_addText 23 = .ok (.aload_n 2, 1) := by decide +kernel
theorem d_V_addText_24 : decode b_V_addText 24 = .ok (.arraylength, 1) := by decide +kernel
theorem d_V_addText_25 : decode b_V_addText 25 = .ok (.iload_n 3, 1) := by decide +kernel
theorem d_V_addText_26 : decode b_V_addText 26 = .ok (.isub, 1) := by decide +kernel
theorem d_V_addText_27 : decode b_V_addText 27 = .ok (.if_icmp .le 5, 3) := by decide +kernel
theorem d_V_addText_30 : decode b_V_addText 30 = .ok (.iconst 0, 1) := by decide +kernel
theorem d_V_addText_31 : decode b_V_addText 31 = .ok (.ireturn, 1) := by decide +kernel
theorem d_V_addText_32 : decode b_V_addText 32 = .ok (.aload_n 0, 1) := by decide +kernel
theorem d_V_addText_33 : decode b_V_addText 33 = .ok (.getfield 19, 3) := by decide +kernel
theorem d_V_addText_36 : decode b_V_addText 36 = .ok (.aload_n 0, 1) := by decide +kernel
theorem d_V_addText_37 : decode b_V_addText 37 = .ok (.getfield 27, 3) := by decide +kernel
theorem d_V_addText_40 : decode b_V_addText 40 = .ok (.iaload, 1) := by decide +kernel
theorem d_V_addText_41 : decode b_V_addText 41 = .ok (.istore 5, 2) := by decide +kernel
theorem d_V_addText_43 : decode b_V_addText 43 = .ok (.aload_n 0, 1) := by decide +kernel
theorem d_V_addText_44 : decode b_V_addText 44 = .ok (.getfield 27, 3) := by decide +kernel
theorem d_V_addText_47 : decode b_V_addText 47 = .ok (.aload_n 0, 1) := by decide +kernel
theorem d_V_addText_48 : decode b_V_addText 48 = .ok (.getfield 9, 3) := by decide +kernel
theorem d_V_addText_51 : decode b_V_addText 51 = .ok (.arraylength, 1) := by decide +kernel
theorem d_V_addText_52 : decode b_V_addText 52 = .ok (.if_icmp .ge 18, 3) := by decide +kernel
theorem d_V_addText_55 : decode b_V_addText 55 = .ok (.iload_n 1, 1) := by decide +kernel
theorem d_V_addText_56 : decode b_V_addText 56 = .ok (.iload 4, 2) := by decide +kernel
theorem d_V_addText_58 : decode b_V_addText 58 = .ok (.iadd, 1) := by decide +kernel
theorem d_V_addText_59 : decode b_V_addText 59 = .ok (.aload_n 0, 1) := by decide +kernel
theorem d_V_addText_60 : decode b_V_addText 60 = .ok (.getfield 15, 3) := by decide +kernel
theorem d_V_addText_63 : decode b_V_addText 63 = .ok (.arraylength, 1) := by decide +kernel
theorem d_V_addText_64 : decode b_V_addText 64 = .ok (.iload 5, 2) := by decide +kernel
theorem d_V_addText_66 : decode b_V_addText 66 = .ok (.isub, 1) := by decide +kernel
theorem d_V_addText_67 : decode b_V_addText 67 = .ok (.if_icmp .le 5, 3) := by decide +kernel
theorem d_V_addText_70 : decode b_V_addText 70 = .ok (.iconst 0, 1) := by decide +kernel
theorem d_V_addText_71 : decode b_V_addText 71 = .ok (.ireturn, 1) := by decide +kernel
theorem d_V_addText_72 : decode b_V_addText 72 = .ok (.aload_n 0, 1) := by decide +kernel
theorem d_V_addText_73 : decode b_V_addText 73 = .ok (.getfield 15, 3) := by decide +kernel
theorem d_V_addText_76 : decode b_V_addText 76 = .ok (.iload 5, 2) := by decide +kernel
theorem d_V_addText_78 : decode b_V_addText 78 = .ok (.aload_n 0, 1) := by decide +kernel
theorem d_V_addText_79 : decode b_V_addText 79 = .ok (.invokevirtual 31, 3) := by decide +kernel
theorem d_V_addText_82 : decode b_V_addText 82 = .ok (.isub, 1) := by decide +kernel
theorem d_V_addText_83 : decode b_V_addText 83 = .ok (.aload_n 0, 1) := by decide +kernel
theorem d_V_addText_84 : decode b_V_addText 84 = .ok (.getfield 15, 3) := by decide +kernel
theorem d_V_addText_87 : decode b_V_addText 87 = .ok (.iload 5, 2) := by decide +kernel
theorem d_V_addText_89 : decode b_V_addText 89 = .ok (.iload_n 1, 1) := by decide +kernel
theorem d_V_addText_90 : decode b_V_addText 90 = .ok (.invokestatic 35, 3) := by decide +kernel
theorem d_V_addText_93 : decode b_V_addText 93 = .ok (.aload_n 2, 1) := by decide +kernel
theorem d_V_addText_94 : decode b_V_addText 94 = .ok (.iload_n 3, 1) := by decide +kernel
theorem d_V_addText_95 : decode b_V_addText 95 = .ok (.aload_n 0, 1) := by decide +kernel
theorem d_V_addText_96 : decode b_V_addText 96 = .ok (.getfield 15, 3) := by decide +kernel
theorem d_V_addText_99 : decode b_V_addText 99 = .ok (.iload 5, 2) := by decide +kernel
theorem d_V_addText_101 : decode b_V_addText 101 = .ok (.iload_n 1, 1) := by decide +kernel
theorem d_V_addText_102 : decode b_V_addText 102 = .ok (.iadd, 1) := by decide +kernel
theorem d_V_addText_103 : decode b_V_addText 103 = .ok (.iload 4, 2) := by decide +kernel
theorem d_V_addText_105 : decode b_V_addText 105 = .ok (.invokestatic 35, 3) := by decide +kernel
theorem d_V_addText_108 : decode b_V_addText 108 = .ok (.aload_n 0, 1) := by decide +kernel
theorem d_V_addText_109 : decode b_V_addText 109 = .ok (.dup, 1) := by decide +kernel
theorem d_V_addText_110 : decode b_V_addText 110 = .ok (.getfield 27, 3) := by decide +kernel
theorem d_V_addText_113 : decode b_V_addText 113 = .ok (.iconst 1, 1) := by decide +kernel
theorem d_V_addText_114 : decode b_V_addText 114 = .ok (.iadd, 1) := by decide +kernel
theorem d_V_addText_115 : decode b_V_addText 115 = .ok (.putfield 27, 3) := by decide +kernel
theorem d_V_addText_118 : decode b_V_addText 118 = .ok (.aload_n 0, 1) := by decide +kernel
theorem d_V_addText_119 : decode b_V_addText 119 = .ok (.getfield 19, 3) := by decide +kernel
theorem d_V_addText_122 : decode b_V_addText 122 = .ok (.aload_n 0, 1) := by decide +kernel
theorem d_V_addText_123 : decode b_V_addText 123 = .ok (.getfield 27, 3) := by decide +kernel
theorem d_V_addText_126 : decode b_V_addText 126 = .ok (.iload 5, 2) := by decide +kernel
theorem d_V_addText_128 : decode b_V_addText 128 = .ok (.iload_n 1, 1) := by decide +kernel
theorem d_V_addText_129 : decode b_V_addText 129 = .ok (.iadd, 1) := by decide +kernel
theorem d_V_addText_130 : decode b_V_addText 130 = .ok (.iload 4, 2) := by decide +kernel
theorem d_V_addText_132 : decode b_V_addText 132 = .ok (.iadd, 1) := by decide +kernel
theorem d_V_addText_133 : decode b_V_addText 133 = .ok (.iastore, 1) := by decide +kernel
theorem d_V_addText_134 : decode b_V_addText 134 = .ok (.iconst 1, 1) := by decide +kernel
theorem d_V_addText_135 : decode b_V_addText 135 = .ok (.ireturn, 1) := by decide +kernel
theorem d_V_addFrom_0 : decode b_V_addFrom 0 = .ok (.aload_n 0, 1) := by decide +kernel
theorem d_V_addFrom_1 : decode b_V_addFrom 1 = .ok (.getfield 23, 3) := by decide +kernel
theorem d_V_addFrom_4 : decode b_V_addFrom 4 = .ok (.ifCond .eq 26, 3) := by decide +kernel
theorem d_V_addFrom_7 : decode b_V_addFrom 7 = .ok (.aload_n 0, 1) := by decide +kernel
theorem d_V_addFrom_8 : decode b_V_addFrom 8 = .ok (.iconst 0, 1) := by decide +kernel
theorem d_V_addFrom_9 : decode b_V_addFrom 9 = .ok (.aload_n 1, 1) := by decide +kernel
theorem d_V_addFrom_10 : decode b_V_addFrom 10 = .ok (.getfield 15, 3) := by decide +kernel
theorem d_V_addFrom_13 : decode b_V_addFrom 13 = .ok (.aload_n 1, 1) := by decide +kernel
theorem d_V_addFrom_14 : decode b_V_addFrom 14 = .ok (.getfield 19, 3) := by decide +kernel
theorem d_V_addFrom_17 : decode b_V_addFrom 17 = .ok (.iload_n 2, 1) := by decide +kernel
theorem d_V_addFrom_18 : decode b_V_addFrom 18 = .ok (.iaload, 1) := by decide +kernel
theorem d_V_addFrom_19 : decode b_V_addFrom 19 = .ok (.aload_n 1, 1) := by decide +kernel
theorem d_V_addFrom_20 : decode b_V_addFrom 20 = .ok (.iload_n 2, 1) := by decide +kernel
theorem d_V_addFrom_21 : decode b_V_addFrom 21 = .ok (.invokevirtual 41, 3) := by decide +kernel
theorem d_V_addFrom_24 : decode b_V_addFrom 24 = .ok (.invokevirtual 45, 3) := by decide +kernel
theorem d_V_addFrom_27 : decode b_V_addFrom 27 = .ok (.goto 13, 3) := by decide +kernel
theorem d_V_addFrom_30 : decode b_V_addFrom 30 = .ok (.aload_n 0, 1) := by decide +kernel
theorem d_V_addFrom_31 : decode b_V_addFrom 31 = .ok (.aload_n 1, 1) := by decide +kernel
theorem d_V_addFrom_32 : decode b_V_addFrom 32 = .ok (.getfield 9, 3) := by decide +kernel
theorem d_V_addFrom_35 : decode b_V_addFrom 35 = .ok (.iload_n 2, 1) := by decide +kernel
theorem d_V_addFrom_36 : decode b_V_addFrom 36 = .ok (.laload, 1) := by decide +kernel
theorem d_V_addFrom_37 : decode b_V_addFrom 37 = .ok (.invokevirtual 49, 3) := by decide +kernel
theorem d_V_addFrom_40 : decode b_V_addFrom 40 = .ok (.ireturn, 1) := by decide +kernel
theorem d_V_inCommon_0 : decode b_V_inCommon 0 = .ok (.aload_n 0, 1) := by decide +kernel
theorem d_V_inCommon_1 : decode b_V_inCommon 1 = .ok (.iload_n 1, 1) := by decide +kernel
theorem d_V_inCommon_2 : decode b_V_inCommon 2 = .ok (.invokevirtual 41, 3) := by decide +kernel
theorem d_V_inCommon_5 : decode b_V_inCommon 5 = .ok (.aload_n 2, 1) := by decide +kernel
theorem d_V_inCommon_6 : decode b_V_inCommon 6 = .ok (.iload_n 3, 1) := by decide +kernel
theorem d_V_inCommon_7 : decode b_V_inCommon 7 = .ok (.invokevirtual 41, 3) := by decide +kernel
theorem d_V_inCommon_10 : decode b_V_inCommon 10 = .ok (.invokestatic 53, 3) := by decide +kernel
theorem d_V_inCommon_13 : decode b_V_inCommon 13 = .ok (.istore 4, 2) := by decide +kernel
theorem d_V_inCommon_15 : decode b_V_inCommon 15 = .ok (.iconst 0, 1) := by decide +kernel
theorem d_V_inCommon_16 : decode b_V_inCommon 16 = .ok (.istore 5, 2) := by decide +kernel
theorem d_V_inCommon_18 : decode b_V_inCommon 18 = .ok (.iload 5, 2) := by decide +kernel
theorem d_V_inCommon_20 : decode b_V_inCommon 20 = .ok (.iload 4, 2) := by decide +kernel
theorem d_V_inCommon_22 : decode b_V_inCommon 22 = .ok (.if_icmp .ge 40, 3) := by decide +kernel
theorem d_V_inCommon_25 : decode b_V_inCommon 25 = .ok (.aload_n 0, 1) := by decide +kernel
theorem d_V_inCommon_26 : decode b_V_inCommon 26 = .ok (.getfield 15, 3) := by decide +kernel
theorem d_V_inCommon_29 : decode b_V_inCommon 29 = .ok (.aload_n 0, 1) := by decide +kernel
theorem d_V_inCommon_30 : decode b_V_inCommon 30 = .ok (.getfield 19, 3) := by decide +kernel
theorem d_V_inCommon_33 : decode b_V_inCommon 33 = .ok (.iload_n 1, 1) := by decide +kernel
theorem d_V_inCommon_34 : decode b_V_inCommon 34 = .ok (.iaload, 1) := by decide +kernel
theorem d_V_inCommon_35 : decode b_V_inCommon 35 = .ok (.iload 5, 2) := by decide +kernel
theorem d_V_inCommon_37 : decode b_V_inCommon 37 = .ok (.iadd, 1) := by decide +kernel
theorem d_V_inCommon_38 : decode b_V_inCommon 38 = .ok (.baload, 1) := by decide +kernel
theorem d_V_inCommon_39 : decode b_V_inCommon 39 = .ok (.aload_n 2, 1) := by decide +kernel
theorem d_V_inCommon_40 : decode b_V_inCommon 40 = .ok (.getfield 15, 3) := by decide +kernel
theorem d_V_inCommon_43 : decode b_V_inCommon 43 = .ok (.aload_n 2, 1) := by decide +kernel
theorem d_V_inCommon_44 : decode b_V_inCommon 44 = .ok (.getfield 19, 3) := by decide +kernel
theorem d_V_inCommon_47 : decode b_V_inCommon 47 = .ok (.iload_n 3, 1) := by decide +kernel
theorem d_V_inCommon_48 : decode b_V_inCommon 48 = .ok (.iaload, 1) := by decide +kernel
theorem d_V_inCommon_49 : decode b_V_inCommon 49 = .ok (.iload 5, 2) := by decide +kernel
theorem d_V_inCommon_51 : decode b_V_inCommon 51 = .ok (.iadd, 1) := by decide +kernel
theorem d_V_inCommon_52 : decode b_V_inCommon 52 = .ok (.baload, 1) := by decide +kernel
theorem d_V_inCommon_53 : decode b_V_inCommon 53 = .ok (.if_icmp .ne 9, 3) := by decide +kernel
theorem d_V_inCommon_56 : decode b_V_inCommon 56 = .ok (.iinc 5 1, 3) := by decide +kernel
theorem d_V_inCommon_59 : decode b_V_inCommon 59 = .ok (.goto (-41), 3) := by decide +kernel
theorem d_V_inCommon_62 : decode b_V_inCommon 62 = .ok (.iload 5, 2) := by decide +kernel
theorem d_V_inCommon_64 : decode b_V_inCommon 64 = .ok (.ireturn, 1) := by decide +kernel
theorem d_V_compare_0 : decode b_V_compare 0 = .ok (.aload_n 0, 1) := by decide +kernel
theorem d_V_compare_1 : decode b_V_compare 1 = .ok (.getfield 23, 3) := by decide +kernel
theorem d_V_compare_4 : decode b_V_compare 4 = .ok (.ifCond .ne 19, 3) := by decide +kernel
theorem d_V_compare_7 : decode b_V_compare 7 = .ok (.aload_n 0, 1) := by decide +kernel
theorem d_V_compare_8 : decode b_V_compare 8 = .ok (.getfield 9, 3) := by decide +kernel
theorem d_V_compare_11 : decode b_V_compare 11 = .ok (.iload_n 1, 1) := by decide +kernel
theorem d_V_compare_12 : decode b_V_compare 12 = .ok (.laload, 1) := by decide +kernel
theorem d_V_compare_13 : decode b_V_compare 13 = .ok (.aload_n 2, 1) := by decide +kernel
theorem d_V_compare_14 : decode b_V_compare 14 = .ok (.getfield 9, 3) := by decide +kernel
theorem d_V_compare_17 : decode b_V_compare 17 = .ok (.iload_n 3, 1) := by decide +kernel
theorem d_V_compare_18 : decode b_V_compare 18 = .ok (.laload, 1) := by decide +kernel
theorem d_V_compare_19 : decode b_V_compare 19 = .ok (.invokestatic 59, 3) := by decide +kernel
theorem d_V_compare_22 : decode b_V_compare 22 = .ok (.ireturn, 1) := by decide +kernel
theorem d_V_compare_23 : decode b_V_compare 23 = .ok (.aload_n 0, 1) := by decide +kernel
theorem d_V_compare_24 : decode b_V_compare 24 = .ok (.iload_n 1, 1) := by decide +kernel
theorem d_V_compare_25 : decode b_V_compare 25 = .ok (.aload_n 2, 1) := by decide +kernel
theorem d_V_compare_26 : decode b_V_compare 26 = .ok (.iload_n 3, 1) := by decide +kernel
theorem d_V_compare_27 : decode b_V_compare 27 = .ok (.invokevirtual 65, 3) := by decide +kernel
theorem d_V_compare_30 : decode b_V_compare 30 = .ok (.istore 4, 2) := by decide +kernel
theorem d_V_compare_32 : decode b_V_compare 32 = .ok (.iload 4, 2) := by decide +kernel
theorem d_V_compare_34 : decode b_V_compare 34 = .ok (.aload_n 0, 1) := by decide +kernel
theorem d_V_compare_35 : decode b_V_compare 35 = .ok (.iload_n 1, 1) := by decide +kernel
theorem d_V_compare_36 : decode b_V_compare 36 = .ok (.invokevirtual 41, 3) := by decide +kernel
theorem d_V_compare_39 : decode b_V_compare 39 = .ok (.if_icmp .eq 13, 3) := by decide +kernel
theorem d_V_compare_42 : decode b_V_compare 42 = .ok (.iload 4, 2) := by decide +kernel
theorem d_V_compare_44 : decode b_V_compare 44 = .ok (.aload_n 2, 1) := by decide +kernel
theorem d_V_compare_45 : decode b_V_compare 45 = .ok (.iload_n 3, 1) := by decide +kernel
theorem d_V_compare_46 : decode b_V_compare 46 = .ok (.invokevirtual 41, 3) := by decide +kernel
theorem d_V_compare_49 : decode b_V_compare 49 = .ok (.if_icmp .ne 17, 3) := by decide +kernel
theorem d_V_compare_52 : decode b_V_compare 52 = .ok (.aload_n 0, 1) := by decide +kernel
theorem d_V_compare_53 : decode b_V_compare 53 = .ok (.iload_n 1, 1) := by decide +kernel
theorem d_V_compare_54 : decode b_V_compare 54 = .ok (.invokevirtual 41, 3) := by decide +kernel
theorem d_V_compare_57 : decode b_V_compare 57 = .ok (.aload_n 2, 1) := by decide +kernel
theorem d_V_compare_58 : decode b_V_compare 58 = .ok (.iload_n 3, 1) := by decide +kernel
theorem d_V_compare_59 : decode b_V_compare 59 = .ok (.invokevirtual 41, 3) := by decide +kernel
theorem d_V_compare_62 : decode b_V_compare 62 = .ok (.invokestatic 69, 3) := by decide +kernel
theorem d_V_compare_65 : decode b_V_compare 65 = .ok (.ireturn, 1) := by decide +kernel
theorem d_V_compare_66 : decode b_V_compare 66 = .ok (.aload_n 0, 1) := by decide +kernel
theorem d_V_compare_67 : decode b_V_compare 67 = .ok (.iload_n 1, 1) := by decide +kernel
theorem d_V_compare_68 : decode b_V_compare 68 = .ok (.iload 4, 2) := by decide +kernel
theorem d_V_compare_70 : decode b_V_compare 70 = .ok (.invokevirtual 73, 3) := by decide +kernel
theorem d_V_compare_73 : decode b_V_compare 73 = .ok (.aload_n 2, 1) := by decide +kernel
theorem d_V_compare_74 : decode b_V_compare 74 = .ok (.iload_n 3, 1) := by decide +kernel
theorem d_V_compare_75 : decode b_V_compare 75 = .ok (.iload 4, 2) := by decide +kernel
theorem d_V_compare_77 : decode b_V_compare 77 = .ok (.invokevirtual 73, 3) := by decide +kernel
theorem d_V_compare_80 : decode b_V_compare 80 = .ok (.invokestatic 69, 3) := by decide +kernel
theorem d_V_compare_83 : decode b_V_compare 83 = .ok (.ireturn, 1) := by decide +kernel
theorem d_V_firstMost_0 : decode b_V_firstMost 0 = .ok (.aload_n 0, 1) := by decide +kernel
theorem d_V_firstMost_1 : decode b_V_firstMost 1 = .ok (.getfield 27, 3) := by decide +kernel
theorem d_V_firstMost_4 : decode b_V_firstMost 4 = .ok (.ifCond .ne 5, 3) := by decide +kernel
theorem d_V_firstMost_7 : decode b_V_firstMost 7 = .ok (.iconst (-1), 1) := by decide +kernel
theorem d_V_firstMost_8 : decode b_V_firstMost 8 = .ok (.ireturn, 1) := by decide +kernel
theorem d_V_firstMost_9 : decode b_V_firstMost 9 = .ok (.iconst 0, 1) := by decide +kernel
theorem d_V_firstMost_10 : decode b_V_firstMost 10 = .ok (.istore_n 2, 1) := by decide +kernel
theorem d_V_firstMost_11 : decode b_V_firstMost 11 = .ok (.iconst 1, 1) := by decide +kernel
theorem d_V_firstMost_12 : decode b_V_firstMost 12 = .ok (.istore_n 3, 1) := by decide +kernel
theorem d_V_firstMost_13 : decode b_V_firstMost 13 = .ok (.iload_n 3, 1) := by decide +kernel
theorem d_V_firstMost_14 : decode b_V_firstMost 14 = .ok (.aload_n 0, 1) := by decide +kernel
theorem d_V_firstMost_15 : decode b_V_firstMost 15 = .ok (.getfield 27, 3) := by decide +kernel
theorem d_V_firstMost_18 : decode b_V_firstMost 18 = .ok (.if_icmp .ge 37, 3) := by decide +kernel
theorem d_V_firstMost_21 : decode b_V_firstMost 21 = .ok (.aload_n 0, 1) := by decide +kernel
theorem d_V_firstMost_22 : decode b_V_firstMost 22 = .ok (.iload_n 3, 1) := by decide +kernel
theorem d_V_firstMost_23 : decode b_V_firstMost 23 = .ok (.aload_n 0, 1) := by decide +kernel
theorem d_V_firstMost_24 : decode b_V_firstMost 24 = .ok (.iload_n 2, 1) := by decide +kernel
theorem d_V_firstMost_25 : decode b_V_firstMost 25 = .ok (.invokevirtual 76, 3) := by decide +kernel
theorem d_V_firstMost_28 : decode b_V_firstMost 28 = .ok (.istore 4, 2) := by decide +kernel
theorem d_V_firstMost_30 : decode b_V_firstMost 30 = .ok (.iload_n 1, 1) := by decide +kernel
theorem d_V_firstMost_31 : decode b_V_firstMost 31 = .ok (.ifCond .eq 11, 3) := by decide +kernel
theorem d_V_firstMost_34 : decode b_V_firstMost 34 = .ok (.iload 4, 2) := by decide +kernel
theorem d_V_firstMost_36 : decode b_V_firstMost 36 = .ok (.ifCond .le 13, 3) := by decide +kernel
theorem d_V_firstMost_39 : decode b_V_firstMost 39 = .ok (.goto 8, 3) := by decide +kernel
theorem d_V_firstMost_42 : decode b_V_firstMost 42 = .ok (.iload 4, 2) := by decide +kernel
theorem d_V_firstMost_44 : decode b_V_firstMost 44 = .ok (.ifCond .ge 5, 3) := by decide +kernel
theorem d_V_firstMost_47 : decode b_V_firstMost 47 = .ok (.iload_n 3, 1) := by decide +kernel
theorem d_V_firstMost_48 : decode b_V_firstMost 48 = .ok (.istore_n 2, 1) := by decide +kernel
theorem d_V_firstMost_49 : decode b_V_firstMost 49 = .ok (.iinc 3 1, 3) := by decide +kernel
theorem d_V_firstMost_52 : decode b_V_firstMost 52 = .ok (.goto (-39), 3) := by decide +kernel
theorem d_V_firstMost_55 : decode b_V_firstMost 55 = .ok (.iload_n 2, 1) := by decide +kernel
theorem d_V_firstMost_56 : decode b_V_firstMost 56 = .ok (.ireturn, 1) := by decide +kernel
theorem d_V_slotOf_0 : decode b_V_slotOf 0 = .ok (.iconst 0, 1) := by decide +kernel
theorem d_V_slotOf_1 : decode b_V_slotOf 1 = .ok (.istore_n 2, 1) := by decide +kernel
theorem d_V_slotOf_2 : decode b_V_slotOf 2 = .ok (.aload_n 0, 1) := by decide +kernel
theorem d_V_slotOf_3 : decode b_V_slotOf 3 = .ok (.getfield 23, 3) := by decide +kernel
theorem d_V_slotOf_6 : decode b_V_slotOf 6 = .ok (.ifCond .eq 43, 3) := by decide +kernel
theorem d_V_slotOf_9 : decode b_V_slotOf 9 = .ok (.aload_n 0, 1) := by decide +kernel
theorem d_V_slotOf_10 : decode b_V_slotOf 10 = .ok (.getfield 19, 3) := by decide +kernel
theorem d_V_slotOf_13 : decode b_V_slotOf 13 = .ok (.iload_n 1, 1) := by decide +kernel
theorem d_V_slotOf_14 : decode b_V_slotOf 14 = .ok (.iaload, 1) := by decide +kernel
theorem d_V_slotOf_15 : decode b_V_slotOf 15 = .ok (.istore_n 3, 1) := by decide +kernel
theorem d_V_slotOf_16 : decode b_V_slotOf 16 = .ok (.iload_n 3, 1) := by decide +kernel
theorem d_V_slotOf_17 : decode b_V_slotOf 17 = .ok (.aload_n 0, 1) := by decide +kernel
theorem d_V_slotOf_18 : decode b_V_slotOf 18 = .ok (.getfield 19, 3) := by decide +kernel
theorem d_V_slotOf_21 : decode b_V_slotOf 21 = .ok (.iload_n 1, 1) := by decide +kernel
theorem d_V_slotOf_22 : decode b_V_slotOf 22 = .ok (.iconst 1, 1) := by decide +kernel
theorem d_V_slotOf_23 : decode b_V_slotOf 23 = .ok (.iadd, 1) := by decide +kernel
theorem d_V_slotOf_24 : decode b_V_slotOf 24 = .ok (.iaload, 1) := by decide +kernel
theorem d_V_slotOf_25 : decode b_V_slotOf 25 = .ok (.if_icmp .ge 21, 3) := by decide +kernel
theorem d_V_slotOf_28 : decode b_V_slotOf 28 = .ok (.bipush 31, 2) := by decide +kernel
theorem d_V_slotOf_30 : decode b_V_slotOf 30 = .ok (.iload_n 2, 1) := by decide +kernel
theorem d_V_slotOf_31 : decode b_V_slotOf 31 = .ok (.imul, 1) := by decide +kernel
theorem d_V_slotOf_32 : decode b_V_slotOf 32 = .ok (.aload_n 0, 1) := by decide +kernel
theorem d_V_slotOf_33 : decode b_V_slotOf 33 = .ok (.getfield 15, 3) := by decide +kernel
theorem d_V_slotOf_36 : decode b_V_slotOf 36 = .ok (.iload_n 3, 1) := by decide +kernel
theorem d_V_slotOf_37 : decode b_V_slotOf 37 = .ok (.baload, 1) := by decide +kernel
theorem d_V_slotOf_38 : decode b_V_slotOf 38 = .ok (.iadd, 1) := by decide +kernel
theorem d_V_slotOf_39 : decode b_V_slotOf 39 = .ok (.istore_n 2, 1) := by decide +kernel
theorem d_V_slotOf_40 : decode b_V_slotOf 40 = .ok (.iinc 3 1, 3) := by decide +kernel
theorem d_V_slotOf_43 : decode b_V_slotOf 43 = .ok (.goto (-27), 3) := by decide +kernel
theorem d_V_slotOf_46 : decode b_V_slotOf 46 = .ok (.goto 21, 3) := by decide +kernel
theorem d_V_slotOf_49 : decode b_V_slotOf 49 = .ok (.aload_n 0, 1) := by decide +kernel
theorem d_V_slotOf_50 : decode b_V_slotOf 50 = .ok (.getfield 9, 3) := by decide +kernel
theorem d_V_slotOf_53 : decode b_V_slotOf 53 = .ok (.iload_n 1, 1) := by decide +kernel
theorem d_V_slotOf_54 : decode b_V_slotOf 54 = .ok (.laload, 1) := by decide +kernel
theorem d_V_slotOf_55 : decode b_V_slotOf 55 = .ok (.aload_n 0, 1) := by decide +kernel
theorem d_V_slotOf_56 : decode b_V_slotOf 56 = .ok (.getfield 9, 3) := by decide +kernel
theorem d_V_slotOf_59 : decode b_V_slotOf 59 = .ok (.iload_n 1, 1) := by decide +kernel
theorem d_V_slotOf_60 : decode b_V_slotOf 60 = .ok (.laload, 1) := by decide +kernel
theorem d_V_slotOf_61 : decode b_V_slotOf 61 = .ok (.bipush 32, 2) := by decide +kernel
theorem d_V_slotOf_63 : decode b_V_slotOf 63 = .ok (.lushr, 1) := by decide +kernel
theorem d_V_slotOf_64 : decode b_V_slotOf 64 = .ok (.lxor, 1) := by decide +kernel
theorem d_V_slotOf_65 : decode b_V_slotOf 65 = .ok (.l2i, 1) := by decide +kernel
theorem d_V_slotOf_66 : decode b_V_slotOf 66 = .ok (.istore_n 2, 1) := by decide +kernel
theorem d_V_slotOf_67 : decode b_V_slotOf 67 = .ok (.iload_n 2, 1) := by decide +kernel
theorem d_V_slotOf_68 : decode b_V_slotOf 68 = .ok (.ldc 78, 2) := by decide +kernel
theorem d_V_slotOf_70 : decode b_V_slotOf 70 = .ok (.imul, 1) := by decide +kernel
theorem d_V_slotOf_71 : decode b_V_slotOf 71 = .ok (.bipush 21, 2) := by decide +kernel
theorem d_V_slotOf_73 : decode b_V_slotOf 73 = .ok (.iushr, 1) := by decide +kernel
theorem d_V_slotOf_74 : decode b_V_slotOf 74 = .ok (.sipush 2047, 3) := by decide +kernel
theorem d_V_slotOf_77 : decode b_V_slotOf 77 = .ok (.iand, 1) := by decide +kernel
theorem d_V_slotOf_78 : decode b_V_slotOf 78 = .ok (.ireturn, 1) := by decide +kernel
theorem d_W_init_0 : decode b_W_init 0 = .ok (.aload_n 0, 1) := by decide +kernel
theorem d_W_init_1 : decode b_W_init 1 = .ok (.invokespecial 3, 3) := by decide +kernel
theorem d_W_init_4 : decode b_W_init 4 = .ok (.aload_n 0, 1) := by decide +kernel
theorem d_W_init_5 : decode b_W_init 5 = .ok (.new 9, 3) := by decide +kernel
theorem d_W_init_8 : decode b_W_init 8 = .ok (.dup, 1) := by decide +kernel
theorem d_W_init_9 : decode b_W_init 9 = .ok (.sipush 32000, 3) := by decide +kernel
theorem d_W_init_12 : decode b_W_init 12 = .ok (.invokespecial 11, 3) := by decide +kernel
theorem d_W_init_15 : decode b_W_init 15 = .ok (.putfield 14, 3) := by decide +kernel
theorem d_W_init_18 : decode b_W_init 18 = .ok (.aload_n 0, 1) := by decide +kernel
theorem d_W_init_19 : decode b_W_init 19 = .ok (.new 9, 3) := by decide +kernel
theorem d_W_init_22 : decode b_W_init 22 = .ok (.dup, 1) := by decide +kernel
theorem d_W_init_23 : decode b_W_init 23 = .ok (.sipush 4000, 3) := by decide +kernel
theorem d_W_init_26 : decode b_W_init 26 = .ok (.invokespecial 11, 3) := by decide +kernel
theorem d_W_init_29 : decode b_W_init 29 = .ok (.putfield 20, 3) := by decide +kernel
theorem d_W_init_32 : decode b_W_init 32 = .ok (.aload_n 0, 1) := by decide +kernel
theorem d_W_init_33 : decode b_W_init 33 = .ok (.sipush 1000, 3) := by decide +kernel
theorem d_W_init_36 : decode b_W_init 36 = .ok (.newarray .long, 2) := by decide +kernel
theorem d_W_init_38 : decode b_W_init 38 = .ok (.putfield 23, 3) := by decide +kernel
theorem d_W_init_41 : decode b_W_init 41 = .ok (.aload_n 0, 1) := by decide +kernel
theorem d_W_init_42 : decode b_W_init 42 = .ok (.sipush 1000, 3) := by decide +kernel
theorem d_W_init_45 : decode b_W_init 45 = .ok (.newarray .long, 2) := by decide +kernel
theorem d_W_init_47 : decode b_W_init 47 = .ok (.putfield 27, 3) := by decide +kernel
theorem d_W_init_50 : decode b_W_init 50 = .ok (.aload_n 0, 1) := by decide +kernel
theorem d_W_init_51 : decode b_W_init 51 = .ok (.new 30, 3) := by decide +kernel
theorem d_W_init_54 : decode b_W_init 54 = .ok (.dup, 1) := by decide +kernel
theorem d_W_init_55 : decode b_W_init 55 = .ok (.invokespecial 32, 3) := by decide +kernel
theorem d_W_init_58 : decode b_W_init 58 = .ok (.putfield 33, 3) := by decide +kernel
theorem d_W_init_61 : decode b_W_init 61 = .ok (.aload_n 0, 1) := by decide +kernel
theorem d_W_init_62 : decode b_W_init 62 = .ok (.aload_n 1, 1) := by decide +kernel
theorem d_W_init_63 : decode b_W_init 63 = .ok (.putfield 37, 3) := by decide +kernel
theorem d_W_init_66 : decode b_W_init 66 = .ok (.return_, 1) := by decide +kernel
theorem d_W_putLevels_0 : decode b_W_putLevels 0 = .ok (.aload_n 0, 1) := by decide +kernel
theorem d_W_putLevels_1 : decode b_W_putLevels 1 = .ok (.aload_n 1, 1) := by decide +kernel
theorem d_W_putLevels_2 : decode b_W_putLevels 2 = .ok (.getfield 41, 3) := by decide +kernel
theorem d_W_putLevels_5 : decode b_W_putLevels 5 = .ok (.putfield 47, 3) := by decide +kernel
theorem d_W_putLevels_8 : decode b_W_putLevels 8 = .ok (.aload_n 0, 1) := by decide +kernel
theorem d_W_putLevels_9 : decode b_W_putLevels 9 = .ok (.aload_n 1, 1) := by decide +kernel
theorem d_W_putLevels_10 : decode b_W_putLevels 10 = .ok (.getfield 48, 3) := by decide +kernel
theorem d_W_putLevels_13 : decode b_W_putLevels 13 = .ok (.putfield 52, 3) := by decide +kernel
theorem d_W_putLevels_16 : decode b_W_putLevels 16 = .ok (.aload_n 0, 1) := by decide +kernel
theorem d_W_putLevels_17 : decode b_W_putLevels 17 = .ok (.getfield 14, 3) := by decide +kernel
theorem d_W_putLevels_20 : decode b_W_putLevels 20 = .ok (.iconst 0, 1) := by decide +kernel
theorem d_W_putLevels_21 : decode b_W_putLevels 21 = .ok (.invokevirtual 53, 3) := by decide +kernel
theorem d_W_putLevels_24 : decode b_W_putLevels 24 = .ok (.aload_n 0, 1) := by decide +kernel
theorem d_W_putLevels_25 : decode b_W_putLevels 25 = .ok (.aload_n 1, 1) := by decide +kernel
theorem d_W_putLevels_26 : decode b_W_putLevels 26 = .ok (.getfield 56, 3) := by decide +kernel
theorem d_W_putLevels_29 : decode b_W_putLevels 29 = .ok (.aload_n 0, 1) := by decide +kernel
theorem d_W_putLevels_30 : decode b_W_putLevels 30 = .ok (.getfield 37, 3) := by decide +kernel
theorem d_W_putLevels_33 : decode b_W_putLevels 33 = .ok (.getfield 60, 3) := by decide +kernel
theorem d_W_putLevels_36 : decode b_W_putLevels 36 = .ok (.invokevirtual 65, 3) := by decide +kernel
theorem d_W_putLevels_39 : decode b_W_putLevels 39 = .ok (.aload_n 0, 1) := by decide +kernel
theorem d_W_putLevels_40 : decode b_W_putLevels 40 = .ok (.aload_n 1, 1) := by decide +kernel
theorem d_W_putLevels_41 : decode b_W_putLevels 41 = .ok (.getfield 69, 3) := by decide +kernel
theorem d_W_putLevels_44 : decode b_W_putLevels 44 = .ok (.aload_n 0, 1) := by decide +kernel
theorem d_W_putLevels_45 : decode b_W_putLevels 45 = .ok (.getfield 37, 3) := by decide +kernel
theorem d_W_putLevels_48 : decode b_W_putLevels 48 = .ok (.getfield 72, 3) := by decide +kernel
theorem d_W_putLevels_51 : decode b_W_putLevels 51 = .ok (.invokevirtual 65, 3) := by decide +kernel
theorem d_W_putLevels_54 : decode b_W_putLevels 54 = .ok (.aload_n 0, 1) := by decide +kernel
theorem d_W_putLevels_55 : decode b_W_putLevels 55 = .ok (.aload_n 0, 1) := by decide +kernel
theorem d_W_putLevels_56 : decode b_W_putLevels 56 = .ok (.getfield 14, 3) := by decide +kernel
theorem d_W_putLevels_59 : decode b_W_putLevels 59 = .ok (.getfield 75, 3) := by decide +kernel
theorem d_W_putLevels_62 : decode b_W_putLevels 62 = .ok (.putfield 78, 3) := by decide +kernel
theorem d_W_putLevels_65 : decode b_W_putLevels 65 = .ok (.return_, 1) := by decide +kernel
theorem d_W_putLevelsOf_0 : decode b_W_putLevelsOf 0 = .ok (.iload_n 2, 1) := by decide +kernel
theorem d_W_putLevelsOf_1 : decode b_W_putLevelsOf 1 = .ok (.ifCond .ne 4, 3) := by decide +kernel
theorem d_W_putLevelsOf_4 : decode b_W_putLevelsOf 4 = .ok (.return_, 1) := by decide +kernel
theorem d_W_putLevelsOf_5 : decode b_W_putLevelsOf 5 = .ok (.iconst 0, 1) := by decide +kernel
theorem d_W_putLevelsOf_6 : decode b_W_putLevelsOf 6 = .ok (.istore_n 3, 1) := by decide +kernel
theorem d_W_putLevelsOf_7 : decode b_W_putLevelsOf 7 = .ok (.iload_n 3, 1) := by decide +kernel
theorem d_W_putLevelsOf_8 : decode b_W_putLevelsOf 8 = .ok (.aload_n 0, 1) := by decide +kernel
theorem d_W_putLevelsOf_9 : decode b_W_putLevelsOf 9 = .ok (.getfield 52, 3) := by decide +kernel
theorem d_W_putLevelsOf_12 : decode b_W_putLevelsOf 12 = .ok (.if_icmp .ge 19, 3) := by decide +kernel
theorem d_W_putLevelsOf_15 : decode b_W_putLevelsOf 15 = .ok (.aload_n 0, 1) := by decide +kernel
theorem d_W_putLevelsOf_16 : decode b_W_putLevelsOf 16 = .ok (.getfield 23, 3) := by decide +kernel
theorem d_W_putLevelsOf_19 : decode b_W_putLevelsOf 19 = .ok (.iload_n 3, 1) := by decide +kernel
theorem d_W_putLevelsOf_20 : decode b_W_putLevelsOf 20 = .ok (.aload_n 1, 1) := by decide +kernel
theorem d_W_putLevelsOf_21 : decode b_W_putLevelsOf 21 = .ok (.iload_n 3, 1) := by decide +kernel
theorem d_W_putLevelsOf_22 : decode b_W_putLevelsOf 22 = .ok (.baload, 1) := by decide +kernel
theorem d_W_putLevelsOf_23 : decode b_W_putLevelsOf 23 = .ok (.i2l, 1) := by decide +kernel
theorem d_W_putLevelsOf_24 : decode b_W_putLevelsOf 24 = .ok (.lastore, 1) := by decide +kernel
theorem d_W_putLevelsOf_25 : decode b_W_putLevelsOf 25 = .ok (.iinc 3 1, 3) := by decide +kernel
theorem d_W_putLevelsOf_28 : decode b_W_putLevelsOf 28 = .ok (.goto (-21), 3) := by decide +kernel
theorem d_W_putLevelsOf_31 : decode b_W_putLevelsOf 31 = .ok (.aload_n 0, 1) := by decide +kernel
theorem d_W_putLevelsOf_32 : decode b_W_putLevelsOf 32 = .ok (.getfield 20, 3) := by decide +kernel
theorem d_W_putLevelsOf_35 : decode b_W_putLevelsOf 35 = .ok (.iconst 0, 1) := by decide +kernel
theorem d_W_putLevelsOf_36 : decode b_W_putLevelsOf 36 = .ok (.invokevirtual 53, 3) := by decide +kernel
theorem d_W_putLevelsOf_39 : decode b_W_putLevelsOf 39 = .ok (.aload_n 0, 1) := by decide +kernel
theorem d_W_putLevelsOf_40 : decode b_W_putLevelsOf 40 = .ok (.getfield 20, 3) := by decide +kernel
theorem d_W_putLevelsOf_43 : decode b_W_putLevelsOf 43 = .ok (.aload_n 0, 1) := by decide +kernel
theorem d_W_putLevelsOf_44 : decode b_W_putLevelsOf 44 = .ok (.getfield 23, 3) := by decide +kernel
theorem d_W_putLevelsOf_47 : decode b_W_putLevelsOf 47 = .ok (.aload_n 0, 1) := by decide +kernel
theorem d_W_putLevelsOf_48 : decode b_W_putLevelsOf 48 = .ok (.getfield 52, 3) := by decide +kernel
theorem d_W_putLevelsOf_51 : decode b_W_putLevelsOf 51 = .ok (.iload_n 2, 1) := by decide +kernel
theorem d_W_putLevelsOf_52 : decode b_W_putLevelsOf 52 = .ok (.i2l, 1) := by decide +kernel
theorem d_W_putLevelsOf_53 : decode b_W_putLevelsOf 53 = .ok (.invokestatic 81, 3) := by decide +kernel
theorem d_W_putLevelsOf_56 : decode b_W_putLevelsOf 56 = .ok (.invokevirtual 85, 3) := by decide +kernel
theorem d_W_putLevelsOf_59 : decode b_W_putLevelsOf 59 = .ok (.aload_n 0, 1) := by decide +kernel
theorem d_W_putLevelsOf_60 : decode b_W_putLevelsOf 60 = .ok (.getfield 14, 3) := by decide +kernel
theorem d_W_putLevelsOf_63 : decode b_W_putLevelsOf 63 = .ok (.aload_n 0, 1) := by decide +kernel
theorem d_W_putLevelsOf_64 : decode b_W_putLevelsOf 64 = .ok (.getfield 20, 3) := by decide +kernel
theorem d_W_putLevelsOf_67 : decode b_W_putLevelsOf 67 = .ok (.invokevirtual 89, 3) := by decide +kernel
theorem d_W_putLevelsOf_70 : decode b_W_putLevelsOf 70 = .ok (.return_, 1) := by decide +kernel
theorem d_W_putValues_0 : decode b_W_putValues 0 = .ok (.aload_n 0, 1) := by decide +kernel
theorem d_W_putValues_1 : decode b_W_putValues 1 = .ok (.getfield 47, 3) := by decide +kernel
theorem d_W_putValues_4 : decode b_W_putValues 4 = .ok (.ifnonnull 5, 3) := by decide +kernel
theorem d_W_putValues_7 : decode b_W_putValues 7 = .ok (.iconst 0, 1) := by decide +kernel
theorem d_W_putValues_8 : decode b_W_putValues 8 = .ok (.ireturn, 1) := by decide +kernel
theorem d_W_putValues_9 : decode b_W_putValues 9 = .ok (.aload_n 0, 1) := by decide +kernel
theorem d_W_putValues_10 : decode b_W_putValues 10 = .ok (.getfield 14, 3) := by decide +kernel
theorem d_W_putValues_13 : decode b_W_putValues 13 = .ok (.aload_n 0, 1) := by decide +kernel
theorem d_W_putValues_14 : decode b_W_putValues 14 = .ok (.getfield 78, 3) := by decide +kernel
theorem d_W_putValues_17 : decode b_W_putValues 17 = .ok (.invokevirtual 53, 3) := by decide +kernel
theorem d_W_putValues_20 : decode b_W_putValues 20 = .ok (.aload_n 0, 1) := by decide +kernel
theorem d_W_putValues_21 : decode b_W_putValues 21 = .ok (.getfield 37, 3) := by decide +kernel
theorem d_W_putValues_24 : decode b_W_putValues 24 = .ok (.getfield 93, 3) := by decide +kernel
theorem d_W_putValues_27 : decode b_W_putValues 27 = .ok (.ifCond .ne 11, 3) := by decide +kernel
theorem d_W_putValues_30 : decode b_W_putValues 30 = .ok (.aload_n 0, 1) := by decide +kernel
theorem d_W_putValues_31 : decode b_W_putValues 31 = .ok (.iload_n 1, 1) := by decide +kernel
theorem d_W_putValues_32 : decode b_W_putValues 32 = .ok (.invokevirtual 96, 3) := by decide +kernel
theorem d_W_putValues_35 : decode b_W_putValues 35 = .ok (.goto 141, 3) := by decide +kernel
theorem d_W_putValues_38 : decode b_W_putValues 38 = .ok (.iload_n 1, 1) := by decide +kernel
theorem d_W_putValues_39 : decode b_W_putValues 39 = .ok (.ifCond .ne 30, 3) := by decide +kernel
theorem d_W_putValues_42 : decode b_W_putValues 42 = .ok (.iconst 0, 1) := by decide +kernel
theorem d_W_putValues_43 : decode b_W_putValues 43 = .ok (.istore_n 2, 1) := by decide +kernel
theorem d_W_putValues_44 : decode b_W_putValues 44 = .ok (.iload_n 2, 1) := by decide +kernel
theorem d_W_putValues_45 : decode b_W_putValues 45 = .ok (.aload_n 0, 1) := by decide +kernel
theorem d_W_putValues_46 : decode b_W_putValues 46 = .ok (.getfield 47, 3) := by decide +kernel
theorem d_W_putValues_49 : decode b_W_putValues 49 = .ok (.getfield 99, 3) := by decide +kernel
theorem d_W_putValues_52 : decode b_W_putValues 52 = .ok (.if_icmp .ge 14, 3) := by decide +kernel
theorem d_W_putValues_55 : decode b_W_putValues 55 = .ok (.aload_n 0, 1) := by decide +kernel
theorem d_W_putValues_56 : decode b_W_putValues 56 = .ok (.iload_n 2, 1) := by decide +kernel
theorem d_W_putValues_57 : decode b_W_putValues 57 = .ok (.invokevirtual 104, 3) := by decide +kernel
theorem d_W_putValues_60 : decode b_W_putValues 60 = .ok (.iinc 2 1, 3) := by decide +kernel
theorem d_W_putValues_63 : decode b_W_putValues 63 = .ok (.goto (-19), 3) := by decide +kernel
theorem d_W_putValues_66 : decode b_W_putValues 66 = .ok (.goto 110, 3) := by decide +kernel
theorem d_W_putValues_69 : decode b_W_putValues 69 = .ok (.iload_n 1, 1) := by decide +kernel
theorem d_W_putValues_70 : decode b_W_putValues 70 = .ok (.aload_n 0, 1) := by decide +kernel
theorem d_W_putValues_71 : decode b_W_putValues 71 = .ok (.getfield 37, 3) := by decide +kernel
theorem d_W_putValues_74 : decode b_W_putValues 74 = .ok (.invokevirtual 107, 3) := by decide +kernel
theorem d_W_putValues_77 : decode b_W_putValues 77 = .ok (.if_icmp .ne 25, 3) := by decide +kernel
theorem d_W_putValues_80 : decode b_W_putValues 80 = .ok (.aload_n 0, 1) := by decide +kernel
theorem d_W_putValues_81 : decode b_W_putValues 81 = .ok (.getfield 33, 3) := by decide +kernel
theorem d_W_putValues_84 : decode b_W_putValues 84 = .ok (.aload_n 0, 1) := by decide +kernel
theorem d_W_putValues_85 : decode b_W_putValues 85 = .ok (.getfield 47, 3) := by decide +kernel
theorem d_W_putValues_88 : decode b_W_putValues 88 = .ok (.aload_n 0, 1) := by decide +kernel
theorem d_W_putValues_89 : decode b_W_putValues 89 = .ok (.getfield 23, 3) := by decide +kernel
theorem d_W_putValues_92 : decode b_W_putValues 92 = .ok (.invokevirtual 111, 3) := by decide +kernel
theorem d_W_putValues_95 : decode b_W_putValues 95 = .ok (.aload_n 0, 1) := by decide +kernel
theorem d_W_putValues_96 : decode b_W_putValues 96 = .ok (.invokevirtual 115, 3) := by decide +kernel
theorem d_W_putValues_99 : decode b_W_putValues 99 = .ok (.goto 77, 3) := by decide +kernel
theorem d_W_putValues_102 : decode b_W_putValues 102 = .ok (.aload_n 0, 1) := by decide +kernel
theorem d_W_putValues_103 : decode b_W_putValues 103 = .ok (.getfield 37, 3) := by decide +kernel
theorem d_W_putValues_106 : decode b_W_putValues 106 = .ok (.getfield 93, 3) := by decide +kernel
theorem d_W_putValues_109 : decode b_W_putValues 109 = .ok (.iconst 3, 1) := by decide +kernel
theorem d_W_putValues_110 : decode b_W_putValues 110 = .ok (.if_icmp .ne 45, 3) := by decide +kernel
theorem d_W_putValues_113 : decode b_W_putValues 113 = .ok (.aload_n 0, 1) := by decide +kernel
theorem d_W_putValues_114 : decode b_W_putValues 114 = .ok (.iload_n 1, 1) := by decide +kernel
theorem d_W_putValues_115 : decode b_W_putValues 115 = .ok (.iconst 2, 1) := by decide +kernel
theorem d_W_putValues_116 : decode b_W_putValues 116 = .ok (.if_icmp .ne 7, 3) := by decide +kernel
theorem d_W_putValues_119 : decode b_W_putValues 119 = .ok (.iconst 1, 1) := by decide +kernel
theorem d_W_putValues_120 : decode b_W_putValues 120 = .ok (.goto 4, 3) := by decide +kernel
theorem d_W_putValues_123 : decode b_W_putValues 123 = .ok (.iconst 0, 1) := by decide +kernel
theorem d_W_putValues_124 : decode b_W_putValues 124 = .ok (.invokevirtual 118, 3) := by decide +kernel
theorem d_W_putValues_127 : decode b_W_putValues 127 = .ok (.iload_n 1, 1) := by decide +kernel
theorem d_W_putValues_128 : decode b_W_putValues 128 = .ok (.iconst 2, 1) := by decide +kernel
theorem d_W_putValues_129 : decode b_W_putValues 129 = .ok (.if_icmp .ne 11, 3) := by decide +kernel
theorem d_W_putValues_132 : decode b_W_putValues 132 = .ok (.aload_n 0, 1) := by decide +kernel
theorem d_W_putValues_133 : decode b_W_putValues 133 = .ok (.aload_n 0, 1) := by decide +kernel
theorem d_W_putValues_134 : decode b_W_putValues 134 = .ok (.getfield 27, 3) := by decide +kernel
theorem d_W_putValues_137 : decode b_W_putValues 137 = .ok (.invokevirtual 122, 3) := by decide +kernel
theorem d_W_putValues_140 : decode b_W_putValues 140 = .ok (.aload_n 0, 1) := by decide +kernel
theorem d_W_putValues_141 : decode b_W_putValues 141 = .ok (.aload_n 0, 1) := by decide +kernel
theorem d_W_putValues_142 : decode b_W_putValues 142 = .ok (.getfield 23, 3) := by decide +kernel
theorem d_W_putValues_145 : decode b_W_putValues 145 = .ok (.invokevirtual 122, 3) := by decide +kernel
theorem d_W_putValues_148 : decode b_W_putValues 148 = .ok (.aload_n 0, 1) := by decide +kernel
theorem d_W_putValues_149 : decode b_W_putValues 149 = .ok (.invokevirtual 126, 3) := by decide +kernel
theorem d_W_putValues_152 : decode b_W_putValues 152 = .ok (.goto 24, 3) := by decide +kernel
theorem d_W_putValues_155 : decode b_W_putValues 155 = .ok (.aload_n 0, 1) := by decide +kernel
theorem d_W_putValues_156 : decode b_W_putValues 156 = .ok (.getfield 14, 3) := by decide +kernel
theorem d_W_putValues_159 : decode b_W_putValues 159 = .ok (.aload_n 0, 1) := by decide +kernel
theorem d_W_putValues_160 : decode b_W_putValues 160 = .ok (.getfield 47, 3) := by decide +kernel
theorem d_W_putValues_163 : decode b_W_putValues 163 = .ok (.getfield 129, 3) := by decide +kernel
theorem d_W_putValues_166 : decode b_W_putValues 166 = .ok (.aload_n 0, 1) := by decide +kernel
theorem d_W_putValues_167 : decode b_W_putValues 167 = .ok (.getfield 47, 3) := by decide +kernel
theorem d_W_putValues_170 : decode b_W_putValues 170 = .ok (.getfield 99, 3) := by decide +kernel
theorem d_W_putValues_173 : decode b_W_putValues 173 = .ok (.invokevirtual 130, 3) := by decide +kernel
theorem d_W_putValues_176 : decode b_W_putValues 176 = .ok (.aload_n 0, 1) := by decide +kernel
theorem d_W_putValues_177 : decode b_W_putValues 177 = .ok (.getfield 14, 3) := by decide +kernel
theorem d_W_putValues_180 : decode b_W_putValues 180 = .ok (.getfield 75, 3) := by decide +kernel
theorem d_W_putValues_183 : decode b_W_putValues 183 = .ok (.ireturn, 1) := by decide +kernel
theorem d_W_putBools_0 : decode b_W_putBools 0 = .ok (.iload_n 1, 1) := by decide +kernel
theorem d_W_putBools_1 : decode b_W_putBools 1 = .ok (.ifCond .eq 26, 3) := by decide +kernel
theorem d_W_putBools_4 : decode b_W_putBools 4 = .ok (.aload_n 0, 1) := by decide +kernel
theorem d_W_putBools_5 : decode b_W_putBools 5 = .ok (.getfield 14, 3) := by decide +kernel
theorem d_W_putBools_8 : decode b_W_putBools 8 = .ok (.aload_n 0, 1) := by decide +kernel
theorem d_W_putBools_9 : decode b_W_putBools 9 = .ok (.getfield 47, 3) := by decide +kernel
theorem d_W_putBools_12 : decode b_W_putBools 12 = .ok (.getfield 129, 3) := by decide +kernel
theorem d_W_putBools_15 : decode b_W_putBools 15 = .ok (.aload_n 0, 1) := by decide +kernel
theorem d_W_putBools_16 : decode b_W_putBools 16 = .ok (.getfield 47, 3) := by decide +kernel
theorem d_W_putBools_19 : decode b_W_putBools 19 = .ok (.getfield 99, 3) := by decide +kernel
theorem d_W_putBools_22 : decode b_W_putBools 22 = .ok (.iconst 1, 1) := by decide +kernel
theorem d_W_putBools_23 : decode b_W_putBools 23 = .ok (.invokevirtual 85, 3) := by decide +kernel
theorem d_W_putBools_26 : decode b_W_putBools 26 = .ok (.return_, 1) := by decide +kernel
theorem d_W_putBools_27 : decode b_W_putBools 27 = .ok (.bipush 8, 2) := by decide +kernel
theorem d_W_putBools_29 : decode b_W_putBools 29 = .ok (.aload_n 0, 1) := by decide +kernel
theorem d_W_putBools_30 : decode b_W_putBools 30 = .ok (.getfield 14, 3) := by decide +kernel
theorem d_W_putBools_33 : decode b_W_putBools 33 = .ok (.getfield 75, 3) := by decide +kernel
theorem d_W_putBools_36 : decode b_W_putBools 36 = .ok (.imul, 1) := by decide +kernel
theorem d_W_putBools_37 : decode b_W_putBools 37 = .ok (.istore_n 2, 1) := by decide +kernel
theorem d_W_putBools_38 : decode b_W_putBools 38 = .ok (.aload_n 0, 1) := by decide +kernel
theorem d_W_putBools_39 : decode b_W_putBools 39 = .ok (.getfield 14, 3) := by decide +kernel
theorem d_W_putBools_42 : decode b_W_putBools 42 = .ok (.aload_n 0, 1) := by decide +kernel
theorem d_W_putBools_43 : decode b_W_putBools 43 = .ok (.getfield 47, 3) := by decide +kernel
theorem d_W_putBools_46 : decode b_W_putBools 46 = .ok (.getfield 99, 3) := by decide +kernel
theorem d_W_putBools_49 : decode b_W_putBools 49 = .ok (.bipush 7, 2) := by decide +kernel
theorem d_W_putBools_51 : decode b_W_putBools 51 = .ok (.iadd, 1) := by decide +kernel
theorem d_W_putBools_52 : decode b_W_putBools 52 = .ok (.bipush 8, 2) := by decide +kernel
theorem d_W_putBools_54 : decode b_W_putBools 54 = .ok (.idiv, 1) := by decide +kernel
theorem d_W_putBools_55 : decode b_W_putBools 55 = .ok (.invokevirtual 134, 3) := by decide +kernel
theorem d_W_putBools_58 : decode b_W_putBools 58 = .ok (.iconst 0, 1) := by decide +kernel
theorem d_W_putBools_59 : decode b_W_putBools 59 = .ok (.istore_n 3, 1) := by decide +kernel
theorem d_W_putBools_60 : decode b_W_putBools 60 = .ok (.iload_n 3, 1) := by decide +kernel
theorem d_W_putBools_61 : decode b_W_putBools 61 = .ok (.aload_n 0, 1) := by decide +kernel
theorem d_W_putBools_62 : decode b_W_putBools 62 = .ok (.getfield 47, 3) := by decide +kernel
theorem d_W_putBools_65 : decode b_W_putBools 65 = .ok (.getfield 99, 3) := by decide +kernel
theorem d_W_putBools_68 : decode b_W_putBools 68 = .ok (.if_icmp .ge 29, 3) := by decide +kernel
theorem d_W_putBools_71 : decode b_W_putBools 71 = .ok (.aload_n 0, 1) := by decide +kernel
theorem d_W_putBools_72 : decode b_W_putBools 72 = .ok (.getfield 14, 3) := by decide +kernel
theorem d_W_putBools_75 : decode b_W_putBools 75 = .ok (.iload_n 2, 1) := by decide +kernel
theorem d_W_putBools_76 : decode b_W_putBools 76 = .ok (.iload_n 3, 1) := by decide +kernel
theorem d_W_putBools_77 : decode b_W_putBools 77 = .ok (.iadd, 1) := by decide +kernel
theorem d_W_putBools_78 : decode b_W_putBools 78 = .ok (.aload_n 0, 1) := by decide +kernel
theorem d_W_putBools_79 : decode b_W_putBools 79 = .ok (.getfield 47, 3) := by decide +kernel
theorem d_W_putBools_82 : decode b_W_putBools 82 = .ok (.getfield 129, 3) := by decide +kernel
theorem d_W_putBools_85 : decode b_W_putBools 85 = .ok (.iload_n 3, 1) := by decide +kernel
theorem d_W_putBools_86 : decode b_W_putBools 86 = .ok (.laload, 1) := by decide +kernel
theorem d_W_putBools_87 : decode b_W_putBools 87 = .ok (.iconst 1, 1) := by decide +kernel
theorem d_W_putBools_88 : decode b_W_putBools 88 = .ok (.invokevirtual 137, 3) := by decide +kernel
theorem d_W_putBools_91 : decode b_W_putBools 91 = .ok (.iinc 3 1, 3) := by decide +kernel
theorem d_W_putBools_94 : decode b_W_putBools 94 = .ok (.goto (-34), 3) := by decide +kernel
theorem d_W_putBools_97 : decode b_W_putBools 97 = .ok (.return_, 1) := by decide +kernel
theorem d_W_putPlain_0 : decode b_W_putPlain 0 = .ok (.aload_n 0, 1) := by decide +kernel
theorem d_W_putPlain_1 : decode b_W_putPlain 1 = .ok (.getfield 37, 3) := by decide +kernel
theorem d_W_putPlain_4 : decode b_W_putPlain 4 = .ok (.getfield 93, 3) := by decide +kernel
theorem d_W_putPlain_7 : decode b_W_putPlain 7 = .ok (.iconst 3, 1) := by decide +kernel
theorem d_W_putPlain_8 : decode b_W_putPlain 8 = .ok (.if_icmp .ne 15, 3) := by decide +kernel
theorem d_W_putPlain_11 : decode b_W_putPlain 11 = .ok (.aload_n 0, 1) := by decide +kernel
theorem d_W_putPlain_12 : decode b_W_putPlain 12 = .ok (.aload_n 0, 1) := by decide +kernel
theorem d_W_putPlain_13 : decode b_W_putPlain 13 = .ok (.getfield 14, 3) := by decide +kernel
theorem d_W_putPlain_16 : decode b_W_putPlain 16 = .ok (.iload_n 1, 1) := by decide +kernel
theorem d_W_putPlain_17 : decode b_W_putPlain 17 = .ok (.invokevirtual 141, 3) := by decide +kernel
theorem d_W_putPlain_20 : decode b_W_putPlain 20 = .ok (.goto 36, 3) := by decide +kernel
theorem d_W_putPlain_23 : decode b_W_putPlain 23 = .ok (.aload_n 0, 1) := by decide +kernel
theorem d_W_putPlain_24 : decode b_W_putPlain 24 = .ok (.getfield 14, 3) := by decide +kernel
theorem d_W_putPlain_27 : decode b_W_putPlain 27 = .ok (.aload_n 0, 1) := by decide +kernel
theorem d_W_putPlain_28 : decode b_W_putPlain 28 = .ok (.getfield 47, 3) := by decide +kernel
theorem d_W_putPlain_31 : decode b_W_putPlain 31 = .ok (.getfield 129, 3) := by decide +kernel
theorem d_W_putPlain_34 : decode b_W_putPlain 34 = .ok (.iload_n 1, 1) := by decide +kernel
theorem d_W_putPlain_35 : decode b_W_putPlain 35 = .ok (.laload, 1) := by decide +kernel
theorem d_W_putPlain_36 : decode b_W_putPlain 36 = .ok (.aload_n 0, 1) := by decide +kernel
theorem d_W_putPlain_37 : decode b_W_putPlain 37 = .ok (.getfield 37, 3) := by decide +kernel
theorem d_W_putPlain_40 : decode b_W_putPlain 40 = .ok (.getfield 93, 3) := by decide +kernel
theorem d_W_putPlain_43 : decode b_W_putPlain 43 = .ok (.iconst 1, 1) := by decide +kernel
theorem d_W_putPlain_44 : decode b_W_putPlain 44 = .ok (.if_icmp .ne 7, 3) := by decide +kernel
theorem d_W_putPlain_47 : decode b_W_putPlain 47 = .ok (.iconst 4, 1) := by decide +kernel
theorem d_W_putPlain_48 : decode b_W_putPlain 48 = .ok (.goto 5, 3) := by decide +kernel
theorem d_W_putPlain_51 : decode b_W_putPlain 51 = .ok (.bipush 8, 2) := by decide +kernel
theorem d_W_putPlain_53 : decode b_W_putPlain 53 = .ok (.invokevirtual 145, 3) := by decide +kernel
theorem d_W_putPlain_56 : decode b_W_putPlain 56 = .ok (.return_, 1) := by decide +kernel
theorem d_W_putText_0 : decode b_W_putText 0 = .ok (.aload_n 1, 1) := by decide +kernel
theorem d_W_putText_1 : decode b_W_putText 1 = .ok (.aload_n 0, 1) := by decide +kernel
theorem d_W_putText_2 : decode b_W_putText 2 = .ok (.getfield 47, 3) := by decide +kernel
theorem d_W_putText_5 : decode b_W_putText 5 = .ok (.iload_n 2, 1) := by decide +kernel
theorem d_W_putText_6 : decode b_W_putText 6 = .ok (.invokevirtual 149, 3) := by decide +kernel
theorem d_W_putText_9 : decode b_W_putText 9 = .ok (.i2l, 1) := by decide +kernel
theorem d_W_putText_10 : decode b_W_putText 10 = .ok (.invokevirtual 153, 3) := by decide +kernel
theorem d_W_putText_13 : decode b_W_putText 13 = .ok (.aload_n 1, 1) := by decide +kernel
theorem d_W_putText_14 : decode b_W_putText 14 = .ok (.aload_n 0, 1) := by decide +kernel
theorem d_W_putText_15 : decode b_W_putText 15 = .ok (.getfield 47, 3) := by decide +kernel
theorem d_W_putText_18 : decode b_W_putText 18 = .ok (.getfield 157, 3) := by decide +kernel
theorem d_W_putText_21 : decode b_W_putText 21 = .ok (.aload_n 0, 1) := by decide +kernel
theorem d_W_putText_22 : decode b_W_putText 22 = .ok (.getfield 47, 3) := by decide +kernel
theorem d_W_putText_25 : decode b_W_putText 25 = .ok (.getfield 160, 3) := by decide +kernel
theorem d_W_putText_28 : decode b_W_putText 28 = .ok (.iload_n 2, 1) := by decide +kernel
theorem d_W_putText_29 : decode b_W_putText 29 = .ok (.iaload, 1) := by decide +kernel
theorem d_W_putText_30 : decode b_W_putText 30 = .ok (.aload_n 0, 1) := by decide +kernel
theorem d_W_putText_31 : decode b_W_putText 31 = .ok (.getfield 47, 3) := by decide +kernel
