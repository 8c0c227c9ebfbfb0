theorem d_R_takeNones_37 : decode b_R_takeNones 37 = .ok (.getfield 102, 3) := by decide +kernel
theorem d_R_takeNones_40 : decode b_R_takeNones 40 = .ok (.ifCond .ne 8, 3) := by decide +kernel
theorem d_R_takeNones_43 : decode b_R_takeNones 43 = .ok (.lload_n 1, 1) := by decide +kernel
theorem d_R_takeNones_44 : decode b_R_takeNones 44 = .ok (.l2i, 1) := by decide +kernel
theorem d_R_takeNones_45 : decode b_R_takeNones 45 = .ok (.goto 4, 3) := by decide +kernel
theorem d_R_takeNones_48 : decode b_R_takeNones 48 = .ok (.iconst 0, 1) := by decide +kernel
theorem d_R_takeNones_49 : decode b_R_takeNones 49 = .ok (.ireturn, 1) := by decide +kernel
theorem d_R_takeTold_0 : decode b_R_takeTold 0 = .ok (.aload_n 0, 1) := by decide +kernel
theorem d_R_takeTold_1 : decode b_R_takeTold 1 = .ok (.getfield 30, 3) := by decide +kernel
theorem d_R_takeTold_4 : decode b_R_takeTold 4 = .ok (.getfield 75, 3) := by decide +kernel
theorem d_R_takeTold_7 : decode b_R_takeTold 7 = .ok (.iconst 3, 1) := by decide +kernel
theorem d_R_takeTold_8 : decode b_R_takeTold 8 = .ok (.if_icmp .ne 20, 3) := by decide +kernel
theorem d_R_takeTold_11 : decode b_R_takeTold 11 = .ok (.aload_n 0, 1) := by decide +kernel
theorem d_R_takeTold_12 : decode b_R_takeTold 12 = .ok (.aload_n 0, 1) := by decide +kernel
theorem d_R_takeTold_13 : decode b_R_takeTold 13 = .ok (.getfield 14, 3) := by decide +kernel
theorem d_R_takeTold_16 : decode b_R_takeTold 16 = .ok (.lconst 0, 1) := by decide +kernel
theorem d_R_takeTold_17 : decode b_R_takeTold 17 = .ok (.aload_n 0, 1) := by decide +kernel
theorem d_R_takeTold_18 : decode b_R_takeTold 18 = .ok (.getfield 39, 3) := by decide +kernel
theorem d_R_takeTold_21 : decode b_R_takeTold 21 = .ok (.invokevirtual 85, 3) := by decide +kernel
theorem d_R_takeTold_24 : decode b_R_takeTold 24 = .ok (.invokevirtual 105, 3) := by decide +kernel
theorem d_R_takeTold_27 : decode b_R_takeTold 27 = .ok (.return_, 1) := by decide +kernel
theorem d_R_takeTold_28 : decode b_R_takeTold 28 = .ok (.aload_n 0, 1) := by decide +kernel
theorem d_R_takeTold_29 : decode b_R_takeTold 29 = .ok (.getfield 30, 3) := by decide +kernel
theorem d_R_takeTold_32 : decode b_R_takeTold 32 = .ok (.getfield 75, 3) := by decide +kernel
theorem d_R_takeTold_35 : decode b_R_takeTold 35 = .ok (.ifCond .ne 14, 3) := by decide +kernel
theorem d_R_takeTold_38 : decode b_R_takeTold 38 = .ok (.aload_n 0, 1) := by decide +kernel
theorem d_R_takeTold_39 : decode b_R_takeTold 39 = .ok (.getfield 39, 3) := by decide +kernel
theorem d_R_takeTold_42 : decode b_R_takeTold 42 = .ok (.invokevirtual 60, 3) := by decide +kernel
theorem d_R_takeTold_45 : decode b_R_takeTold 45 = .ok (.i2l, 1) := by decide +kernel
theorem d_R_takeTold_46 : decode b_R_takeTold 46 = .ok (.goto 13, 3) := by decide +kernel
theorem d_R_takeTold_49 : decode b_R_takeTold 49 = .ok (.aload_n 0, 1) := by decide +kernel
theorem d_R_takeTold_50 : decode b_R_takeTold 50 = .ok (.getfield 39, 3) := by decide +kernel
theorem d_R_takeTold_53 : decode b_R_takeTold 53 = .ok (.invokevirtual 85, 3) := by decide +kernel
theorem d_R_takeTold_56 : decode b_R_takeTold 56 = .ok (.invokestatic 109, 3) := by decide +kernel
theorem d_R_takeTold_59 : decode b_R_takeTold 59 = .ok (.lstore_n 1, 1) := by decide +kernel
theorem d_R_takeTold_60 : decode b_R_takeTold 60 = .ok (.aload_n 0, 1) := by decide +kernel
theorem d_R_takeTold_61 : decode b_R_takeTold 61 = .ok (.aload_n 0, 1) := by decide +kernel
theorem d_R_takeTold_62 : decode b_R_takeTold 62 = .ok (.getfield 14, 3) := by decide +kernel
theorem d_R_takeTold_65 : decode b_R_takeTold 65 = .ok (.lload_n 1, 1) := by decide +kernel
theorem d_R_takeTold_66 : decode b_R_takeTold 66 = .ok (.invokevirtual 113, 3) := by decide +kernel
theorem d_R_takeTold_69 : decode b_R_takeTold 69 = .ok (.return_, 1) := by decide +kernel
theorem d_R_takeNumber_0 : decode b_R_takeNumber 0 = .ok (.aload_n 0, 1) := by decide +kernel
theorem d_R_takeNumber_1 : decode b_R_takeNumber 1 = .ok (.getfield 30, 3) := by decide +kernel
theorem d_R_takeNumber_4 : decode b_R_takeNumber 4 = .ok (.lload_n 2, 1) := by decide +kernel
theorem d_R_takeNumber_5 : decode b_R_takeNumber 5 = .ok (.invokevirtual 117, 3) := by decide +kernel
theorem d_R_takeNumber_8 : decode b_R_takeNumber 8 = .ok (.ifCond .ne 12, 3) := by decide +kernel
theorem d_R_takeNumber_11 : decode b_R_takeNumber 11 = .ok (.aload_n 0, 1) := by decide +kernel
theorem d_R_takeNumber_12 : decode b_R_takeNumber 12 = .ok (.getfield 39, 3) := by decide +kernel
theorem d_R_takeNumber_15 : decode b_R_takeNumber 15 = .ok (.bipush 7, 2) := by decide +kernel
theorem d_R_takeNumber_17 : decode b_R_takeNumber 17 = .ok (.invokevirtual 71, 3) := by decide +kernel
theorem d_R_takeNumber_20 : decode b_R_takeNumber 20 = .ok (.aload_n 1, 1) := by decide +kernel
theorem d_R_takeNumber_21 : decode b_R_takeNumber 21 = .ok (.lload_n 2, 1) := by decide +kernel
theorem d_R_takeNumber_22 : decode b_R_takeNumber 22 = .ok (.invokevirtual 121, 3) := by decide +kernel
theorem d_R_takeNumber_25 : decode b_R_takeNumber 25 = .ok (.pop, 1) := by decide +kernel
theorem d_R_takeNumber_26 : decode b_R_takeNumber 26 = .ok (.return_, 1) := by decide +kernel
theorem d_R_takeText_0 : decode b_R_takeText 0 = .ok (.lload_n 2, 1) := by decide +kernel
theorem d_R_takeText_1 : decode b_R_takeText 1 = .ok (.lconst 0, 1) := by decide +kernel
theorem d_R_takeText_2 : decode b_R_takeText 2 = .ok (.lcmp, 1) := by decide +kernel
theorem d_R_takeText_3 : decode b_R_takeText 3 = .ok (.ifCond .lt 35, 3) := by decide +kernel
theorem d_R_takeText_6 : decode b_R_takeText 6 = .ok (.lload_n 2, 1) := by decide +kernel
theorem d_R_takeText_7 : decode b_R_takeText 7 = .ok (.aload_n 1, 1) := by decide +kernel
theorem d_R_takeText_8 : decode b_R_takeText 8 = .ok (.invokevirtual 124, 3) := by decide +kernel
theorem d_R_takeText_11 : decode b_R_takeText 11 = .ok (.i2l, 1) := by decide +kernel
theorem d_R_takeText_12 : decode b_R_takeText 12 = .ok (.lcmp, 1) := by decide +kernel
theorem d_R_takeText_13 : decode b_R_takeText 13 = .ok (.ifCond .gt 25, 3) := by decide +kernel
theorem d_R_takeText_16 : decode b_R_takeText 16 = .ok (.lload 4, 2) := by decide +kernel
theorem d_R_takeText_18 : decode b_R_takeText 18 = .ok (.lconst 0, 1) := by decide +kernel
theorem d_R_takeText_19 : decode b_R_takeText 19 = .ok (.lcmp, 1) := by decide +kernel
theorem d_R_takeText_20 : decode b_R_takeText 20 = .ok (.ifCond .lt 18, 3) := by decide +kernel
theorem d_R_takeText_23 : decode b_R_takeText 23 = .ok (.lload 4, 2) := by decide +kernel
theorem d_R_takeText_25 : decode b_R_takeText 25 = .ok (.ldc2_w 127, 3) := by decide +kernel
theorem d_R_takeText_28 : decode b_R_takeText 28 = .ok (.lload_n 2, 1) := by decide +kernel
theorem d_R_takeText_29 : decode b_R_takeText 29 = .ok (.lsub, 1) := by decide +kernel
theorem d_R_takeText_30 : decode b_R_takeText 30 = .ok (.lcmp, 1) := by decide +kernel
theorem d_R_takeText_31 : decode b_R_takeText 31 = .ok (.ifCond .gt 7, 3) := by decide +kernel
theorem d_R_takeText_34 : decode b_R_takeText 34 = .ok (.iconst 1, 1) := by decide +kernel
theorem d_R_takeText_35 : decode b_R_takeText 35 = .ok (.goto 4, 3) := by decide +kernel
theorem d_R_takeText_38 : decode b_R_takeText 38 = .ok (.iconst 0, 1) := by decide +kernel
theorem d_R_takeText_39 : decode b_R_takeText 39 = .ok (.istore 6, 2) := by decide +kernel
theorem d_R_takeText_41 : decode b_R_takeText 41 = .ok (.iload 6, 2) := by decide +kernel
theorem d_R_takeText_43 : decode b_R_takeText 43 = .ok (.ifCond .ne 13, 3) := by decide +kernel
theorem d_R_takeText_46 : decode b_R_takeText 46 = .ok (.aload_n 0, 1) := by decide +kernel
theorem d_R_takeText_47 : decode b_R_takeText 47 = .ok (.getfield 39, 3) := by decide +kernel
theorem d_R_takeText_50 : decode b_R_takeText 50 = .ok (.bipush 7, 2) := by decide +kernel
theorem d_R_takeText_52 : decode b_R_takeText 52 = .ok (.invokevirtual 71, 3) := by decide +kernel
theorem d_R_takeText_55 : decode b_R_takeText 55 = .ok (.return_, 1) := by decide +kernel
theorem d_R_takeText_56 : decode b_R_takeText 56 = .ok (.aload_n 0, 1) := by decide +kernel
theorem d_R_takeText_57 : decode b_R_takeText 57 = .ok (.getfield 39, 3) := by decide +kernel
theorem d_R_takeText_60 : decode b_R_takeText 60 = .ok (.lload 4, 2) := by decide +kernel
theorem d_R_takeText_62 : decode b_R_takeText 62 = .ok (.invokevirtual 129, 3) := by decide +kernel
theorem d_R_takeText_65 : decode b_R_takeText 65 = .ok (.ifCond .ne 4, 3) := by decide +kernel
theorem d_R_takeText_68 : decode b_R_takeText 68 = .ok (.return_, 1) := by decide +kernel
theorem d_R_takeText_69 : decode b_R_takeText 69 = .ok (.aload_n 1, 1) := by decide +kernel
theorem d_R_takeText_70 : decode b_R_takeText 70 = .ok (.lload_n 2, 1) := by decide +kernel
theorem d_R_takeText_71 : decode b_R_takeText 71 = .ok (.l2i, 1) := by decide +kernel
theorem d_R_takeText_72 : decode b_R_takeText 72 = .ok (.aload_n 0, 1) := by decide +kernel
theorem d_R_takeText_73 : decode b_R_takeText 73 = .ok (.getfield 39, 3) := by decide +kernel
theorem d_R_takeText_76 : decode b_R_takeText 76 = .ok (.getfield 132, 3) := by decide +kernel
theorem d_R_takeText_79 : decode b_R_takeText 79 = .ok (.aload_n 0, 1) := by decide +kernel
theorem d_R_takeText_80 : decode b_R_takeText 80 = .ok (.getfield 39, 3) := by decide +kernel
theorem d_R_takeText_83 : decode b_R_takeText 83 = .ok (.getfield 136, 3) := by decide +kernel
theorem d_R_takeText_86 : decode b_R_takeText 86 = .ok (.lload 4, 2) := by decide +kernel
theorem d_R_takeText_88 : decode b_R_takeText 88 = .ok (.l2i, 1) := by decide +kernel
theorem d_R_takeText_89 : decode b_R_takeText 89 = .ok (.invokevirtual 139, 3) := by decide +kernel
theorem d_R_takeText_92 : decode b_R_takeText 92 = .ok (.ifCond .ne 12, 3) := by decide +kernel
theorem d_R_takeText_95 : decode b_R_takeText 95 = .ok (.aload_n 0, 1) := by decide +kernel
theorem d_R_takeText_96 : decode b_R_takeText 96 = .ok (.getfield 39, 3) := by decide +kernel
theorem d_R_takeText_99 : decode b_R_takeText 99 = .ok (.bipush 7, 2) := by decide +kernel
theorem d_R_takeText_101 : decode b_R_takeText 101 = .ok (.invokevirtual 71, 3) := by decide +kernel
theorem d_R_takeText_104 : decode b_R_takeText 104 = .ok (.aload_n 0, 1) := by decide +kernel
theorem d_R_takeText_105 : decode b_R_takeText 105 = .ok (.getfield 39, 3) := by decide +kernel
theorem d_R_takeText_108 : decode b_R_takeText 108 = .ok (.dup, 1) := by decide +kernel
theorem d_R_takeText_109 : decode b_R_takeText 109 = .ok (.getfield 136, 3) := by decide +kernel
theorem d_R_takeText_112 : decode b_R_takeText 112 = .ok (.lload 4, 2) := by decide +kernel
theorem d_R_takeText_114 : decode b_R_takeText 114 = .ok (.l2i, 1) := by decide +kernel
theorem d_R_takeText_115 : decode b_R_takeText 115 = .ok (.iadd, 1) := by decide +kernel
theorem d_R_takeText_116 : decode b_R_takeText 116 = .ok (.putfield 136, 3) := by decide +kernel
theorem d_R_takeText_119 : decode b_R_takeText 119 = .ok (.return_, 1) := by decide +kernel
theorem d_R_openBody_0 : decode b_R_openBody 0 = .ok (.aload_n 0, 1) := by decide +kernel
theorem d_R_openBody_1 : decode b_R_openBody 1 = .ok (.getfield 39, 3) := by decide +kernel
theorem d_R_openBody_4 : decode b_R_openBody 4 = .ok (.aload_n 0, 1) := by decide +kernel
theorem d_R_openBody_5 : decode b_R_openBody 5 = .ok (.getfield 89, 3) := by decide +kernel
theorem d_R_openBody_8 : decode b_R_openBody 8 = .ok (.invokevirtual 129, 3) := by decide +kernel
theorem d_R_openBody_11 : decode b_R_openBody 11 = .ok (.ifCond .ne 4, 3) := by decide +kernel
theorem d_R_openBody_14 : decode b_R_openBody 14 = .ok (.return_, 1) := by decide +kernel
theorem d_R_openBody_15 : decode b_R_openBody 15 = .ok (.aload_n 0, 1) := by decide +kernel
theorem d_R_openBody_16 : decode b_R_openBody 16 = .ok (.aload_n 0, 1) := by decide +kernel
theorem d_R_openBody_17 : decode b_R_openBody 17 = .ok (.getfield 89, 3) := by decide +kernel
theorem d_R_openBody_20 : decode b_R_openBody 20 = .ok (.l2i, 1) := by decide +kernel
theorem d_R_openBody_21 : decode b_R_openBody 21 = .ok (.putfield 143, 3) := by decide +kernel
theorem d_R_openBody_24 : decode b_R_openBody 24 = .ok (.aload_n 0, 1) := by decide +kernel
theorem d_R_openBody_25 : decode b_R_openBody 25 = .ok (.getfield 39, 3) := by decide +kernel
theorem d_R_openBody_28 : decode b_R_openBody 28 = .ok (.getfield 136, 3) := by decide +kernel
theorem d_R_openBody_31 : decode b_R_openBody 31 = .ok (.aload_n 0, 1) := by decide +kernel
theorem d_R_openBody_32 : decode b_R_openBody 32 = .ok (.getfield 143, 3) := by decide +kernel
theorem d_R_openBody_35 : decode b_R_openBody 35 = .ok (.iadd, 1) := by decide +kernel
theorem d_R_openBody_36 : decode b_R_openBody 36 = .ok (.istore_n 1, 1) := by decide +kernel
theorem d_R_openBody_37 : decode b_R_openBody 37 = .ok (.aload_n 0, 1) := by decide +kernel
theorem d_R_openBody_38 : decode b_R_openBody 38 = .ok (.getfield 39, 3) := by decide +kernel
theorem d_R_openBody_41 : decode b_R_openBody 41 = .ok (.getfield 132, 3) := by decide +kernel
theorem d_R_openBody_44 : decode b_R_openBody 44 = .ok (.aload_n 0, 1) := by decide +kernel
theorem d_R_openBody_45 : decode b_R_openBody 45 = .ok (.getfield 39, 3) := by decide +kernel
theorem d_R_openBody_48 : decode b_R_openBody 48 = .ok (.getfield 136, 3) := by decide +kernel
theorem d_R_openBody_51 : decode b_R_openBody 51 = .ok (.iload_n 1, 1) := by decide +kernel
theorem d_R_openBody_52 : decode b_R_openBody 52 = .ok (.invokestatic 146, 3) := by decide +kernel
theorem d_R_openBody_55 : decode b_R_openBody 55 = .ok (.aload_n 0, 1) := by decide +kernel
theorem d_R_openBody_56 : decode b_R_openBody 56 = .ok (.getfield 97, 3) := by decide +kernel
theorem d_R_openBody_59 : decode b_R_openBody 59 = .ok (.if_icmp .eq 12, 3) := by decide +kernel
theorem d_R_openBody_62 : decode b_R_openBody 62 = .ok (.aload_n 0, 1) := by decide +kernel
theorem d_R_openBody_63 : decode b_R_openBody 63 = .ok (.getfield 39, 3) := by decide +kernel
theorem d_R_openBody_66 : decode b_R_openBody 66 = .ok (.bipush 8, 2) := by decide +kernel
theorem d_R_openBody_68 : decode b_R_openBody 68 = .ok (.invokevirtual 71, 3) := by decide +kernel
theorem d_R_openBody_71 : decode b_R_openBody 71 = .ok (.iload_n 1, 1) := by decide +kernel
theorem d_R_openBody_72 : decode b_R_openBody 72 = .ok (.aload_n 0, 1) := by decide +kernel
theorem d_R_openBody_73 : decode b_R_openBody 73 = .ok (.getfield 39, 3) := by decide +kernel
theorem d_R_openBody_76 : decode b_R_openBody 76 = .ok (.getfield 150, 3) := by decide +kernel
theorem d_R_openBody_79 : decode b_R_openBody 79 = .ok (.if_icmp .ge 12, 3) := by decide +kernel
theorem d_R_openBody_82 : decode b_R_openBody 82 = .ok (.aload_n 0, 1) := by decide +kernel
theorem d_R_openBody_83 : decode b_R_openBody 83 = .ok (.getfield 39, 3) := by decide +kernel
theorem d_R_openBody_86 : decode b_R_openBody 86 = .ok (.bipush 6, 2) := by decide +kernel
theorem d_R_openBody_88 : decode b_R_openBody 88 = .ok (.invokevirtual 71, 3) := by decide +kernel
theorem d_R_openBody_91 : decode b_R_openBody 91 = .ok (.aload_n 0, 1) := by decide +kernel
theorem d_R_openBody_92 : decode b_R_openBody 92 = .ok (.getfield 39, 3) := by decide +kernel
theorem d_R_openBody_95 : decode b_R_openBody 95 = .ok (.iload_n 1, 1) := by decide +kernel
theorem d_R_openBody_96 : decode b_R_openBody 96 = .ok (.putfield 150, 3) := by decide +kernel
theorem d_R_openBody_99 : decode b_R_openBody 99 = .ok (.return_, 1) := by decide +kernel
theorem d_R_takeLevels_0 : decode b_R_takeLevels 0 = .ok (.aload_n 1, 1) := by decide +kernel
theorem d_R_takeLevels_1 : decode b_R_takeLevels 1 = .ok (.aload_n 0, 1) := by decide +kernel
theorem d_R_takeLevels_2 : decode b_R_takeLevels 2 = .ok (.getfield 30, 3) := by decide +kernel
theorem d_R_takeLevels_5 : decode b_R_takeLevels 5 = .ok (.invokevirtual 153, 3) := by decide +kernel
theorem d_R_takeLevels_8 : decode b_R_takeLevels 8 = .ok (.aload_n 0, 1) := by decide +kernel
theorem d_R_takeLevels_9 : decode b_R_takeLevels 9 = .ok (.aload_n 1, 1) := by decide +kernel
theorem d_R_takeLevels_10 : decode b_R_takeLevels 10 = .ok (.getfield 158, 3) := by decide +kernel
theorem d_R_takeLevels_13 : decode b_R_takeLevels 13 = .ok (.aload_n 0, 1) := by decide +kernel
theorem d_R_takeLevels_14 : decode b_R_takeLevels 14 = .ok (.getfield 30, 3) := by decide +kernel
theorem d_R_takeLevels_17 : decode b_R_takeLevels 17 = .ok (.getfield 161, 3) := by decide +kernel
theorem d_R_takeLevels_20 : decode b_R_takeLevels 20 = .ok (.invokevirtual 164, 3) := by decide +kernel
theorem d_R_takeLevels_23 : decode b_R_takeLevels 23 = .ok (.aload_n 0, 1) := by decide +kernel
theorem d_R_takeLevels_24 : decode b_R_takeLevels 24 = .ok (.aload_n 1, 1) := by decide +kernel
theorem d_R_takeLevels_25 : decode b_R_takeLevels 25 = .ok (.getfield 168, 3) := by decide +kernel
theorem d_R_takeLevels_28 : decode b_R_takeLevels 28 = .ok (.aload_n 0, 1) := by decide +kernel
theorem d_R_takeLevels_29 : decode b_R_takeLevels 29 = .ok (.getfield 30, 3) := by decide +kernel
theorem d_R_takeLevels_32 : decode b_R_takeLevels 32 = .ok (.getfield 171, 3) := by decide +kernel
theorem d_R_takeLevels_35 : decode b_R_takeLevels 35 = .ok (.invokevirtual 164, 3) := by decide +kernel
theorem d_R_takeLevels_38 : decode b_R_takeLevels 38 = .ok (.aload_n 0, 1) := by decide +kernel
theorem d_R_takeLevels_39 : decode b_R_takeLevels 39 = .ok (.getfield 39, 3) := by decide +kernel
theorem d_R_takeLevels_42 : decode b_R_takeLevels 42 = .ok (.getfield 102, 3) := by decide +kernel
theorem d_R_takeLevels_45 : decode b_R_takeLevels 45 = .ok (.ifCond .eq 4, 3) := by decide +kernel
theorem d_R_takeLevels_48 : decode b_R_takeLevels 48 = .ok (.return_, 1) := by decide +kernel
theorem d_R_takeLevels_49 : decode b_R_takeLevels 49 = .ok (.iconst 0, 1) := by decide +kernel
theorem d_R_takeLevels_50 : decode b_R_takeLevels 50 = .ok (.istore_n 2, 1) := by decide +kernel
theorem d_R_takeLevels_51 : decode b_R_takeLevels 51 = .ok (.iload_n 2, 1) := by decide +kernel
theorem d_R_takeLevels_52 : decode b_R_takeLevels 52 = .ok (.aload_n 0, 1) := by decide +kernel
theorem d_R_takeLevels_53 : decode b_R_takeLevels 53 = .ok (.getfield 50, 3) := by decide +kernel
theorem d_R_takeLevels_56 : decode b_R_takeLevels 56 = .ok (.if_icmp .ge 43, 3) := by decide +kernel
theorem d_R_takeLevels_59 : decode b_R_takeLevels 59 = .ok (.aload_n 1, 1) := by decide +kernel
theorem d_R_takeLevels_60 : decode b_R_takeLevels 60 = .ok (.getfield 168, 3) := by decide +kernel
theorem d_R_takeLevels_63 : decode b_R_takeLevels 63 = .ok (.iload_n 2, 1) := by decide +kernel
theorem d_R_takeLevels_64 : decode b_R_takeLevels 64 = .ok (.baload, 1) := by decide +kernel
theorem d_R_takeLevels_65 : decode b_R_takeLevels 65 = .ok (.istore_n 3, 1) := by decide +kernel
theorem d_R_takeLevels_66 : decode b_R_takeLevels 66 = .ok (.aload_n 1, 1) := by decide +kernel
theorem d_R_takeLevels_67 : decode b_R_takeLevels 67 = .ok (.aload_n 1, 1) := by decide +kernel
theorem d_R_takeLevels_68 : decode b_R_takeLevels 68 = .ok (.getfield 158, 3) := by decide +kernel
theorem d_R_takeLevels_71 : decode b_R_takeLevels 71 = .ok (.iload_n 2, 1) := by decide +kernel
theorem d_R_takeLevels_72 : decode b_R_takeLevels 72 = .ok (.baload, 1) := by decide +kernel
theorem d_R_takeLevels_73 : decode b_R_takeLevels 73 = .ok (.iload_n 3, 1) := by decide +kernel
theorem d_R_takeLevels_74 : decode b_R_takeLevels 74 = .ok (.iload_n 3, 1) := by decide +kernel
theorem d_R_takeLevels_75 : decode b_R_takeLevels 75 = .ok (.aload_n 0, 1) := by decide +kernel
theorem d_R_takeLevels_76 : decode b_R_takeLevels 76 = .ok (.getfield 30, 3) := by decide +kernel
theorem d_R_takeLevels_79 : decode b_R_takeLevels 79 = .ok (.getfield 171, 3) := by decide +kernel
theorem d_R_takeLevels_82 : decode b_R_takeLevels 82 = .ok (.if_icmp .ne 7, 3) := by decide +kernel
theorem d_R_takeLevels_85 : decode b_R_takeLevels 85 = .ok (.iconst 1, 1) := by decide +kernel
theorem d_R_takeLevels_86 : decode b_R_takeLevels 86 = .ok (.goto 4, 3) := by decide +kernel
theorem d_R_takeLevels_89 : decode b_R_takeLevels 89 = .ok (.iconst 0, 1) := by decide +kernel
theorem d_R_takeLevels_90 : decode b_R_takeLevels 90 = .ok (.invokevirtual 174, 3) := by decide +kernel
theorem d_R_takeLevels_93 : decode b_R_takeLevels 93 = .ok (.iinc 2 1, 3) := by decide +kernel
theorem d_R_takeLevels_96 : decode b_R_takeLevels 96 = .ok (.goto (-45), 3) := by decide +kernel
theorem d_R_takeLevels_99 : decode b_R_takeLevels 99 = .ok (.aload_n 1, 1) := by decide +kernel
theorem d_R_takeLevels_100 : decode b_R_takeLevels 100 = .ok (.getfield 178, 3) := by decide +kernel
theorem d_R_takeLevels_103 : decode b_R_takeLevels 103 = .ok (.aload_n 0, 1) := by decide +kernel
theorem d_R_takeLevels_104 : decode b_R_takeLevels 104 = .ok (.getfield 57, 3) := by decide +kernel
theorem d_R_takeLevels_107 : decode b_R_takeLevels 107 = .ok (.if_icmp .eq 12, 3) := by decide +kernel
theorem d_R_takeLevels_110 : decode b_R_takeLevels 110 = .ok (.aload_n 0, 1) := by decide +kernel
theorem d_R_takeLevels_111 : decode b_R_takeLevels 111 = .ok (.getfield 39, 3) := by decide +kernel
theorem d_R_takeLevels_114 : decode b_R_takeLevels 114 = .ok (.bipush 10, 2) := by decide +kernel
theorem d_R_takeLevels_116 : decode b_R_takeLevels 116 = .ok (.invokevirtual 71, 3) := by decide +kernel
theorem d_R_takeLevels_119 : decode b_R_takeLevels 119 = .ok (.return_, 1) := by decide +kernel
theorem d_R_takeLevelsOf_0 : decode b_R_takeLevelsOf 0 = .ok (.iload_n 2, 1) := by decide +kernel
theorem d_R_takeLevelsOf_1 : decode b_R_takeLevelsOf 1 = .ok (.ifCond .ne 14, 3) := by decide +kernel
theorem d_R_takeLevelsOf_4 : decode b_R_takeLevelsOf 4 = .ok (.aload_n 1, 1) := by decide +kernel
theorem d_R_takeLevelsOf_5 : decode b_R_takeLevelsOf 5 = .ok (.iconst 0, 1) := by decide +kernel
theorem d_R_takeLevelsOf_6 : decode b_R_takeLevelsOf 6 = .ok (.aload_n 0, 1) := by decide +kernel
theorem d_R_takeLevelsOf_7 : decode b_R_takeLevelsOf 7 = .ok (.getfield 50, 3) := by decide +kernel
theorem d_R_takeLevelsOf_10 : decode b_R_takeLevelsOf 10 = .ok (.iconst 0, 1) := by decide +kernel
theorem d_R_takeLevelsOf_11 : decode b_R_takeLevelsOf 11 = .ok (.invokestatic 181, 3) := by decide +kernel
theorem d_R_takeLevelsOf_14 : decode b_R_takeLevelsOf 14 = .ok (.return_, 1) := by decide +kernel
theorem d_R_takeLevelsOf_15 : decode b_R_takeLevelsOf 15 = .ok (.aload_n 0, 1) := by decide +kernel
theorem d_R_takeLevelsOf_16 : decode b_R_takeLevelsOf 16 = .ok (.getfield 39, 3) := by decide +kernel
theorem d_R_takeLevelsOf_19 : decode b_R_takeLevelsOf 19 = .ok (.invokevirtual 187, 3) := by decide +kernel
theorem d_R_takeLevelsOf_22 : decode b_R_takeLevelsOf 22 = .ok (.istore_n 3, 1) := by decide +kernel
theorem d_R_takeLevelsOf_23 : decode b_R_takeLevelsOf 23 = .ok (.aload_n 0, 1) := by decide +kernel
theorem d_R_takeLevelsOf_24 : decode b_R_takeLevelsOf 24 = .ok (.getfield 39, 3) := by decide +kernel
theorem d_R_takeLevelsOf_27 : decode b_R_takeLevelsOf 27 = .ok (.aload_n 0, 1) := by decide +kernel
theorem d_R_takeLevelsOf_28 : decode b_R_takeLevelsOf 28 = .ok (.getfield 23, 3) := by decide +kernel
theorem d_R_takeLevelsOf_31 : decode b_R_takeLevelsOf 31 = .ok (.aload_n 0, 1) := by decide +kernel
theorem d_R_takeLevelsOf_32 : decode b_R_takeLevelsOf 32 = .ok (.getfield 50, 3) := by decide +kernel
theorem d_R_takeLevelsOf_35 : decode b_R_takeLevelsOf 35 = .ok (.iload_n 2, 1) := by decide +kernel
theorem d_R_takeLevelsOf_36 : decode b_R_takeLevelsOf 36 = .ok (.i2l, 1) := by decide +kernel
theorem d_R_takeLevelsOf_37 : decode b_R_takeLevelsOf 37 = .ok (.invokestatic 190, 3) := by decide +kernel
theorem d_R_takeLevelsOf_40 : decode b_R_takeLevelsOf 40 = .ok (.invokevirtual 194, 3) := by decide +kernel
theorem d_R_takeLevelsOf_43 : decode b_R_takeLevelsOf 43 = .ok (.iconst 0, 1) := by decide +kernel
theorem d_R_takeLevelsOf_44 : decode b_R_takeLevelsOf 44 = .ok (.istore 4, 2) := by decide +kernel
theorem d_R_takeLevelsOf_46 : decode b_R_takeLevelsOf 46 = .ok (.iload 4, 2) := by decide +kernel
theorem d_R_takeLevelsOf_48 : decode b_R_takeLevelsOf 48 = .ok (.aload_n 0, 1) := by decide +kernel
theorem d_R_takeLevelsOf_49 : decode b_R_takeLevelsOf 49 = .ok (.getfield 50, 3) := by decide +kernel
theorem d_R_takeLevelsOf_52 : decode b_R_takeLevelsOf 52 = .ok (.if_icmp .ge 54, 3) := by decide +kernel
theorem d_R_takeLevelsOf_55 : decode b_R_takeLevelsOf 55 = .ok (.aload_n 0, 1) := by decide +kernel
theorem d_R_takeLevelsOf_56 : decode b_R_takeLevelsOf 56 = .ok (.getfield 39, 3) := by decide +kernel
theorem d_R_takeLevelsOf_59 : decode b_R_takeLevelsOf 59 = .ok (.getfield 102, 3) := by decide +kernel
theorem d_R_takeLevelsOf_62 : decode b_R_takeLevelsOf 62 = .ok (.ifCond .ne 44, 3) := by decide +kernel
theorem d_R_takeLevelsOf_65 : decode b_R_takeLevelsOf 65 = .ok (.aload_n 0, 1) := by decide +kernel
theorem d_R_takeLevelsOf_66 : decode b_R_takeLevelsOf 66 = .ok (.getfield 23, 3) := by decide +kernel
theorem d_R_takeLevelsOf_69 : decode b_R_takeLevelsOf 69 = .ok (.iload 4, 2) := by decide +kernel
theorem d_R_takeLevelsOf_71 : decode b_R_takeLevelsOf 71 = .ok (.laload, 1) := by decide +kernel
theorem d_R_takeLevelsOf_72 : decode b_R_takeLevelsOf 72 = .ok (.iload_n 2, 1) := by decide +kernel
theorem d_R_takeLevelsOf_73 : decode b_R_takeLevelsOf 73 = .ok (.i2l, 1) := by decide +kernel
theorem d_R_takeLevelsOf_74 : decode b_R_takeLevelsOf 74 = .ok (.lcmp, 1) := by decide +kernel
theorem d_R_takeLevelsOf_75 : decode b_R_takeLevelsOf 75 = .ok (.ifCond .le 12, 3) := by decide +kernel
theorem d_R_takeLevelsOf_78 : decode b_R_takeLevelsOf 78 = .ok (.aload_n 0, 1) := by decide +kernel
theorem d_R_takeLevelsOf_79 : decode b_R_takeLevelsOf 79 = .ok (.getfield 39, 3) := by decide +kernel
theorem d_R_takeLevelsOf_82 : decode b_R_takeLevelsOf 82 = .ok (.bipush 9, 2) := by decide +kernel
theorem d_R_takeLevelsOf_84 : decode b_R_takeLevelsOf 84 = .ok (.invokevirtual 71, 3) := by decide +kernel
theorem d_R_takeLevelsOf_87 : decode b_R_takeLevelsOf 87 = .ok (.aload_n 1, 1) := by decide +kernel
theorem d_R_takeLevelsOf_88 : decode b_R_takeLevelsOf 88 = .ok (.iload 4, 2) := by decide +kernel
theorem d_R_takeLevelsOf_90 : decode b_R_takeLevelsOf 90 = .ok (.aload_n 0, 1) := by decide +kernel
theorem d_R_takeLevelsOf_91 : decode b_R_takeLevelsOf 91 = .ok (.getfield 23, 3) := by decide +kernel
theorem d_R_takeLevelsOf_94 : decode b_R_takeLevelsOf 94 = .ok (.iload 4, 2) := by decide +kernel
theorem d_R_takeLevelsOf_96 : decode b_R_takeLevelsOf 96 = .ok (.laload, 1) := by decide +kernel
theorem d_R_takeLevelsOf_97 : decode b_R_takeLevelsOf 97 = .ok (.l2i, 1) := by decide +kernel
theorem d_R_takeLevelsOf_98 : decode b_R_takeLevelsOf 98 = .ok (.i2b, 1) := by decide +kernel
theorem d_R_takeLevelsOf_99 : decode b_R_takeLevelsOf 99 = .ok (.bastore, 1) := by decide +kernel
theorem d_R_takeLevelsOf_100 : decode b_R_takeLevelsOf 100 = .ok (.iinc 4 1, 3) := by decide +kernel
theorem d_R_takeLevelsOf_103 : decode b_R_takeLevelsOf 103 = .ok (.goto (-57), 3) := by decide +kernel
theorem d_R_takeLevelsOf_106 : decode b_R_takeLevelsOf 106 = .ok (.aload_n 0, 1) := by decide +kernel
theorem d_R_takeLevelsOf_107 : decode b_R_takeLevelsOf 107 = .ok (.getfield 39, 3) := by decide +kernel
theorem d_R_takeLevelsOf_110 : decode b_R_takeLevelsOf 110 = .ok (.iload_n 3, 1) := by decide +kernel
theorem d_R_takeLevelsOf_111 : decode b_R_takeLevelsOf 111 = .ok (.putfield 150, 3) := by decide +kernel
theorem d_R_takeLevelsOf_114 : decode b_R_takeLevelsOf 114 = .ok (.return_, 1) := by decide +kernel
theorem d_R_takeValues_0 : decode b_R_takeValues 0 = .ok (.aload_n 0, 1) := by decide +kernel
theorem d_R_takeValues_1 : decode b_R_takeValues 1 = .ok (.getfield 39, 3) := by decide +kernel
theorem d_R_takeValues_4 : decode b_R_takeValues 4 = .ok (.getfield 102, 3) := by decide +kernel
theorem d_R_takeValues_7 : decode b_R_takeValues 7 = .ok (.ifCond .eq 4, 3) := by decide +kernel
theorem d_R_takeValues_10 : decode b_R_takeValues 10 = .ok (.return_, 1) := by decide +kernel
theorem d_R_takeValues_11 : decode b_R_takeValues 11 = .ok (.aload_n 0, 1) := by decide +kernel
theorem d_R_takeValues_12 : decode b_R_takeValues 12 = .ok (.getfield 30, 3) := by decide +kernel
theorem d_R_takeValues_15 : decode b_R_takeValues 15 = .ok (.getfield 75, 3) := by decide +kernel
theorem d_R_takeValues_18 : decode b_R_takeValues 18 = .ok (.ifCond .ne 11, 3) := by decide +kernel
theorem d_R_takeValues_21 : decode b_R_takeValues 21 = .ok (.aload_n 0, 1) := by decide +kernel
theorem d_R_takeValues_22 : decode b_R_takeValues 22 = .ok (.aload_n 1, 1) := by decide +kernel
theorem d_R_takeValues_23 : decode b_R_takeValues 23 = .ok (.invokevirtual 198, 3) := by decide +kernel
theorem d_R_takeValues_26 : decode b_R_takeValues 26 = .ok (.goto 132, 3) := by decide +kernel
theorem d_R_takeValues_29 : decode b_R_takeValues 29 = .ok (.aload_n 0, 1) := by decide +kernel
theorem d_R_takeValues_30 : decode b_R_takeValues 30 = .ok (.getfield 63, 3) := by decide +kernel
theorem d_R_takeValues_33 : decode b_R_takeValues 33 = .ok (.ifCond .ne 15, 3) := by decide +kernel
theorem d_R_takeValues_36 : decode b_R_takeValues 36 = .ok (.aload_n 0, 1) := by decide +kernel
theorem d_R_takeValues_37 : decode b_R_takeValues 37 = .ok (.aload_n 1, 1) := by decide +kernel
theorem d_R_takeValues_38 : decode b_R_takeValues 38 = .ok (.aload_n 0, 1) := by decide +kernel
theorem d_R_takeValues_39 : decode b_R_takeValues 39 = .ok (.getfield 57, 3) := by decide +kernel
theorem d_R_takeValues_42 : decode b_R_takeValues 42 = .ok (.invokevirtual 202, 3) := by decide +kernel
theorem d_R_takeValues_45 : decode b_R_takeValues 45 = .ok (.goto 113, 3) := by decide +kernel
theorem d_R_takeValues_48 : decode b_R_takeValues 48 = .ok (.aload_n 0, 1) := by decide +kernel
theorem d_R_takeValues_49 : decode b_R_takeValues 49 = .ok (.getfield 63, 3) := by decide +kernel
theorem d_R_takeValues_52 : decode b_R_takeValues 52 = .ok (.aload_n 0, 1) := by decide +kernel
theorem d_R_takeValues_53 : decode b_R_takeValues 53 = .ok (.getfield 30, 3) := by decide +kernel
theorem d_R_takeValues_56 : decode b_R_takeValues 56 = .ok (.invokevirtual 66, 3) := by decide +kernel
theorem d_R_takeValues_59 : decode b_R_takeValues 59 = .ok (.if_icmp .ne 11, 3) := by decide +kernel
theorem d_R_takeValues_62 : decode b_R_takeValues 62 = .ok (.aload_n 0, 1) := by decide +kernel
theorem d_R_takeValues_63 : decode b_R_takeValues 63 = .ok (.aload_n 1, 1) := by decide +kernel
theorem d_R_takeValues_64 : decode b_R_takeValues 64 = .ok (.invokevirtual 206, 3) := by decide +kernel
theorem d_R_takeValues_67 : decode b_R_takeValues 67 = .ok (.goto 91, 3) := by decide +kernel
theorem d_R_takeValues_70 : decode b_R_takeValues 70 = .ok (.aload_n 0, 1) := by decide +kernel
theorem d_R_takeValues_71 : decode b_R_takeValues 71 = .ok (.getfield 30, 3) := by decide +kernel
theorem d_R_takeValues_74 : decode b_R_takeValues 74 = .ok (.getfield 75, 3) := by decide +kernel
theorem d_R_takeValues_77 : decode b_R_takeValues 77 = .ok (.iconst 3, 1) := by decide +kernel
theorem d_R_takeValues_78 : decode b_R_takeValues 78 = .ok (.if_icmp .ne 60, 3) := by decide +kernel
theorem d_R_takeValues_81 : decode b_R_takeValues 81 = .ok (.aload_n 0, 1) := by decide +kernel
theorem d_R_takeValues_82 : decode b_R_takeValues 82 = .ok (.getfield 27, 3) := by decide +kernel
theorem d_R_takeValues_85 : decode b_R_takeValues 85 = .ok (.iconst 0, 1) := by decide +kernel
theorem d_R_takeValues_86 : decode b_R_takeValues 86 = .ok (.aload_n 0, 1) := by decide +kernel
theorem d_R_takeValues_87 : decode b_R_takeValues 87 = .ok (.getfield 57, 3) := by decide +kernel
theorem d_R_takeValues_90 : decode b_R_takeValues 90 = .ok (.lconst 0, 1) := by decide +kernel
theorem d_R_takeValues_91 : decode b_R_takeValues 91 = .ok (.invokestatic 209, 3) := by decide +kernel
theorem d_R_takeValues_94 : decode b_R_takeValues 94 = .ok (.aload_n 0, 1) := by decide +kernel
theorem d_R_takeValues_95 : decode b_R_takeValues 95 = .ok (.getfield 63, 3) := by decide +kernel
theorem d_R_takeValues_98 : decode b_R_takeValues 98 = .ok (.iconst 2, 1) := by decide +kernel
theorem d_R_takeValues_99 : decode b_R_takeValues 99 = .ok (.if_icmp .ne 11, 3) := by decide +kernel
theorem d_R_takeValues_102 : decode b_R_takeValues 102 = .ok (.aload_n 0, 1) := by decide +kernel
theorem d_R_takeValues_103 : decode b_R_takeValues 103 = .ok (.aload_n 0, 1) := by decide +kernel
theorem d_R_takeValues_104 : decode b_R_takeValues 104 = .ok (.getfield 27, 3) := by decide +kernel
theorem d_R_takeValues_107 : decode b_R_takeValues 107 = .ok (.invokevirtual 212, 3) := by decide +kernel
theorem d_R_takeValues_110 : decode b_R_takeValues 110 = .ok (.aload_n 0, 1) := by decide +kernel
theorem d_R_takeValues_111 : decode b_R_takeValues 111 = .ok (.aload_n 0, 1) := by decide +kernel
theorem d_R_takeValues_112 : decode b_R_takeValues 112 = .ok (.getfield 23, 3) := by decide +kernel
theorem d_R_takeValues_115 : decode b_R_takeValues 115 = .ok (.invokevirtual 212, 3) := by decide +kernel
theorem d_R_takeValues_118 : decode b_R_takeValues 118 = .ok (.aload_n 0, 1) := by decide +kernel
theorem d_R_takeValues_119 : decode b_R_takeValues 119 = .ok (.getfield 63, 3) := by decide +kernel
theorem d_R_takeValues_122 : decode b_R_takeValues 122 = .ok (.iconst 2, 1) := by decide +kernel
theorem d_R_takeValues_123 : decode b_R_takeValues 123 = .ok (.if_icmp .eq 7, 3) := by decide +kernel
theorem d_R_takeValues_126 : decode b_R_takeValues 126 = .ok (.aload_n 0, 1) := by decide +kernel
theorem d_R_takeValues_127 : decode b_R_takeValues 127 = .ok (.invokevirtual 216, 3) := by decide +kernel
theorem d_R_takeValues_130 : decode b_R_takeValues 130 = .ok (.aload_n 0, 1) := by decide +kernel
theorem d_R_takeValues_131 : decode b_R_takeValues 131 = .ok (.aload_n 1, 1) := by decide +kernel
theorem d_R_takeValues_132 : decode b_R_takeValues 132 = .ok (.invokevirtual 219, 3) := by decide +kernel
theorem d_R_takeValues_135 : decode b_R_takeValues 135 = .ok (.goto 23, 3) := by decide +kernel
theorem d_R_takeValues_138 : decode b_R_takeValues 138 = .ok (.aload_n 0, 1) := by decide +kernel
theorem d_R_takeValues_139 : decode b_R_takeValues 139 = .ok (.aload_n 0, 1) := by decide +kernel
theorem d_R_takeValues_140 : decode b_R_takeValues 140 = .ok (.getfield 39, 3) := by decide +kernel
theorem d_R_takeValues_143 : decode b_R_takeValues 143 = .ok (.aload_n 0, 1) := by decide +kernel
theorem d_R_takeValues_144 : decode b_R_takeValues 144 = .ok (.getfield 23, 3) := by decide +kernel
theorem d_R_takeValues_147 : decode b_R_takeValues 147 = .ok (.invokevirtual 222, 3) := by decide +kernel
theorem d_R_takeValues_150 : decode b_R_takeValues 150 = .ok (.invokevirtual 226, 3) := by decide +kernel
theorem d_R_takeValues_153 : decode b_R_takeValues 153 = .ok (.aload_n 0, 1) := by decide +kernel
theorem d_R_takeValues_154 : decode b_R_takeValues 154 = .ok (.aload_n 1, 1) := by decide +kernel
theorem d_R_takeValues_155 : decode b_R_takeValues 155 = .ok (.invokevirtual 229, 3) := by decide +kernel
theorem d_R_takeValues_158 : decode b_R_takeValues 158 = .ok (.aload_n 0, 1) := by decide +kernel
theorem d_R_takeValues_159 : decode b_R_takeValues 159 = .ok (.getfield 39, 3) := by decide +kernel
theorem d_R_takeValues_162 : decode b_R_takeValues 162 = .ok (.invokevirtual 232, 3) := by decide +kernel
theorem d_R_takeValues_165 : decode b_R_takeValues 165 = .ok (.return_, 1) := by decide +kernel
theorem d_R_takeBools_0 : decode b_R_takeBools 0 = .ok (.aload_n 0, 1) := by decide +kernel
theorem d_R_takeBools_1 : decode b_R_takeBools 1 = .ok (.getfield 63, 3) := by decide +kernel
theorem d_R_takeBools_4 : decode b_R_takeBools 4 = .ok (.ifCond .eq 25, 3) := by decide +kernel
theorem d_R_takeBools_7 : decode b_R_takeBools 7 = .ok (.aload_n 0, 1) := by decide +kernel
theorem d_R_takeBools_8 : decode b_R_takeBools 8 = .ok (.getfield 39, 3) := by decide +kernel
theorem d_R_takeBools_11 : decode b_R_takeBools 11 = .ok (.aload_n 0, 1) := by decide +kernel
theorem d_R_takeBools_12 : decode b_R_takeBools 12 = .ok (.getfield 23, 3) := by decide +kernel
theorem d_R_takeBools_15 : decode b_R_takeBools 15 = .ok (.aload_n 0, 1) := by decide +kernel
theorem d_R_takeBools_16 : decode b_R_takeBools 16 = .ok (.getfield 57, 3) := by decide +kernel
theorem d_R_takeBools_19 : decode b_R_takeBools 19 = .ok (.iconst 1, 1) := by decide +kernel
theorem d_R_takeBools_20 : decode b_R_takeBools 20 = .ok (.invokevirtual 194, 3) := by decide +kernel
theorem d_R_takeBools_23 : decode b_R_takeBools 23 = .ok (.aload_n 0, 1) := by decide +kernel
theorem d_R_takeBools_24 : decode b_R_takeBools 24 = .ok (.aload_n 1, 1) := by decide +kernel
theorem d_R_takeBools_25 : decode b_R_takeBools 25 = .ok (.invokevirtual 229, 3) := by decide +kernel
theorem d_R_takeBools_28 : decode b_R_takeBools 28 = .ok (.return_, 1) := by decide +kernel
theorem d_R_takeBools_29 : decode b_R_takeBools 29 = .ok (.aload_n 0, 1) := by decide +kernel
theorem d_R_takeBools_30 : decode b_R_takeBools 30 = .ok (.getfield 57, 3) := by decide +kernel
theorem d_R_takeBools_33 : decode b_R_takeBools 33 = .ok (.bipush 7, 2) := by decide +kernel
theorem d_R_takeBools_35 : decode b_R_takeBools 35 = .ok (.iadd, 1) := by decide +kernel
theorem d_R_takeBools_36 : decode b_R_takeBools 36 = .ok (.bipush 8, 2) := by decide +kernel
theorem d_R_takeBools_38 : decode b_R_takeBools 38 = .ok (.idiv, 1) := by decide +kernel
theorem d_R_takeBools_39 : decode b_R_takeBools 39 = .ok (.istore_n 2, 1) := by decide +kernel
theorem d_R_takeBools_40 : decode b_R_takeBools 40 = .ok (.aload_n 0, 1) := by decide +kernel
theorem d_R_takeBools_41 : decode b_R_takeBools 41 = .ok (.getfield 39, 3) := by decide +kernel
theorem d_R_takeBools_44 : decode b_R_takeBools 44 = .ok (.iload_n 2, 1) := by decide +kernel
theorem d_R_takeBools_45 : decode b_R_takeBools 45 = .ok (.i2l, 1) := by decide +kernel
theorem d_R_takeBools_46 : decode b_R_takeBools 46 = .ok (.invokevirtual 129, 3) := by decide +kernel
theorem d_R_takeBools_49 : decode b_R_takeBools 49 = .ok (.ifCond .ne 4, 3) := by decide +kernel
theorem d_R_takeBools_52 : decode b_R_takeBools 52 = .ok (.return_, 1) := by decide +kernel
theorem d_R_takeBools_53 : decode b_R_takeBools 53 = .ok (.iconst 0, 1) := by decide +kernel
theorem d_R_takeBools_54 : decode b_R_takeBools 54 = .ok (.istore_n 3, 1) := by decide +kernel
theorem d_R_takeBools_55 : decode b_R_takeBools 55 = .ok (.iload_n 3, 1) := by decide +kernel
theorem d_R_takeBools_56 : decode b_R_takeBools 56 = .ok (.bipush 8, 2) := by decide +kernel
theorem d_R_takeBools_58 : decode b_R_takeBools 58 = .ok (.iload_n 2, 1) := by decide +kernel
theorem d_R_takeBools_59 : decode b_R_takeBools 59 = .ok (.imul, 1) := by decide +kernel
theorem d_R_takeBools_60 : decode b_R_takeBools 60 = .ok (.if_icmp .ge 64, 3) := by decide +kernel
theorem d_R_takeBools_63 : decode b_R_takeBools 63 = .ok (.aload_n 0, 1) := by decide +kernel
theorem d_R_takeBools_64 : decode b_R_takeBools 64 = .ok (.getfield 39, 3) := by decide +kernel
theorem d_R_takeBools_67 : decode b_R_takeBools 67 = .ok (.bipush 8, 2) := by decide +kernel
theorem d_R_takeBools_69 : decode b_R_takeBools 69 = .ok (.aload_n 0, 1) := by decide +kernel
theorem d_R_takeBools_70 : decode b_R_takeBools 70 = .ok (.getfield 39, 3) := by decide +kernel
theorem d_R_takeBools_73 : decode b_R_takeBools 73 = .ok (.getfield 136, 3) := by decide +kernel
theorem d_R_takeBools_76 : decode b_R_takeBools 76 = .ok (.imul, 1) := by decide +kernel
theorem d_R_takeBools_77 : decode b_R_takeBools 77 = .ok (.iload_n 3, 1) := by decide +kernel
theorem d_R_takeBools_78 : decode b_R_takeBools 78 = .ok (.iadd, 1) := by decide +kernel
theorem d_R_takeBools_79 : decode b_R_takeBools 79 = .ok (.iconst 1, 1) := by decide +kernel
theorem d_R_takeBools_80 : decode b_R_takeBools 80 = .ok (.invokevirtual 235, 3) := by decide +kernel
theorem d_R_takeBools_83 : decode b_R_takeBools 83 = .ok (.lstore 4, 2) := by decide +kernel
theorem d_R_takeBools_85 : decode b_R_takeBools 85 = .ok (.iload_n 3, 1) := by decide +kernel
theorem d_R_takeBools_86 : decode b_R_takeBools 86 = .ok (.aload_n 0, 1) := by decide +kernel
theorem d_R_takeBools_87 : decode b_R_takeBools 87 = .ok (.getfield 57, 3) := by decide +kernel
theorem d_R_takeBools_90 : decode b_R_takeBools 90 = .ok (.if_icmp .ge 13, 3) := by decide +kernel
theorem d_R_takeBools_93 : decode b_R_takeBools 93 = .ok (.aload_n 1, 1) := by decide +kernel
theorem d_R_takeBools_94 : decode b_R_takeBools 94 = .ok (.lload 4, 2) := by decide +kernel
theorem d_R_takeBools_96 : decode b_R_takeBools 96 = .ok (.invokevirtual 121, 3) := by decide +kernel
theorem d_R_takeBools_99 : decode b_R_takeBools 99 = .ok (.pop, 1) := by decide +kernel
theorem d_R_takeBools_100 : decode b_R_takeBools 100 = .ok (.goto 18, 3) := by decide +kernel
theorem d_R_takeBools_103 : decode b_R_takeBools 103 = .ok (.lload 4, 2) := by decide +kernel
theorem d_R_takeBools_105 : decode b_R_takeBools 105 = .ok (.lconst 0, 1) := by decide +kernel
theorem d_R_takeBools_106 : decode b_R_takeBools 106 = .ok (.lcmp, 1) := by decide +kernel
theorem d_R_takeBools_107 : decode b_R_takeBools 107 = .ok (.ifCond .eq 11, 3) := by decide +kernel
theorem d_R_takeBools_110 : decode b_R_takeBools 110 = .ok (.aload_n 0, 1) := by decide +kernel
theorem d_R_takeBools_111 : decode b_R_takeBools 111 = .ok (.getfield 39, 3) := by decide +kernel
theorem d_R_takeBools_114 : decode b_R_takeBools 114 = .ok (.iconst 5, 1) := by decide +kernel
theorem d_R_takeBools_115 : decode b_R_takeBools 115 = .ok (.invokevirtual 71, 3) := by decide +kernel
theorem d_R_takeBools_118 : decode b_R_takeBools 118 = .ok (.iinc 3 1, 3) := by decide +kernel
theorem d_R_takeBools_121 : decode b_R_takeBools 121 = .ok (.goto (-66), 3) := by decide +kernel
theorem d_R_takeBools_124 : decode b_R_takeBools 124 = .ok (.aload_n 0, 1) := by decide +kernel
theorem d_R_takeBools_125 : decode b_R_takeBools 125 = .ok (.getfield 39, 3) := by decide +kernel
theorem d_R_takeBools_128 : decode b_R_takeBools 128 = .ok (.dup, 1) := by decide +kernel
theorem d_R_takeBools_129 : decode b_R_takeBools 129 = .ok (.getfield 136, 3) := by decide +kernel
theorem d_R_takeBools_132 : decode b_R_takeBools 132 = .ok (.iload_n 2, 1) := by decide +kernel
theorem d_R_takeBools_133 : decode b_R_takeBools 133 = .ok (.iadd, 1) := by decide +kernel
theorem d_R_takeBools_134 : decode b_R_takeBools 134 = .ok (.putfield 136, 3) := by decide +kernel
theorem d_R_takeBools_137 : decode b_R_takeBools 137 = .ok (.return_, 1) := by decide +kernel
theorem d_R_takePlain_0 : decode b_R_takePlain 0 = .ok (.iconst 0, 1) := by decide +kernel
theorem d_R_takePlain_1 : decode b_R_takePlain 1 = .ok (.istore_n 3, 1) := by decide +kernel
theorem d_R_takePlain_2 : decode b_R_takePlain 2 = .ok (.iload_n 3, 1) := by decide +kernel
theorem d_R_takePlain_3 : decode b_R_takePlain 3 = .ok (.iload_n 2, 1) := by decide +kernel
theorem d_R_takePlain_4 : decode b_R_takePlain 4 = .ok (.if_icmp .ge 89, 3) := by decide +kernel
theorem d_R_takePlain_7 : decode b_R_takePlain 7 = .ok (.aload_n 0, 1) := by decide +kernel
theorem d_R_takePlain_8 : decode b_R_takePlain 8 = .ok (.getfield 39, 3) := by decide +kernel
theorem d_R_takePlain_11 : decode b_R_takePlain 11 = .ok (.getfield 102, 3) := by decide +kernel
theorem d_R_takePlain_14 : decode b_R_takePlain 14 = .ok (.ifCond .ne 79, 3) := by decide +kernel
theorem d_R_takePlain_17 : decode b_R_takePlain 17 = .ok (.aload_n 0, 1) := by decide +kernel
theorem d_R_takePlain_18 : decode b_R_takePlain 18 = .ok (.getfield 30, 3) := by decide +kernel
theorem d_R_takePlain_21 : decode b_R_takePlain 21 = .ok (.getfield 75, 3) := by decide +kernel
theorem d_R_takePlain_24 : decode b_R_takePlain 24 = .ok (.iconst 3, 1) := by decide +kernel
theorem d_R_takePlain_25 : decode b_R_takePlain 25 = .ok (.if_icmp .ne 19, 3) := by decide +kernel
theorem d_R_takePlain_28 : decode b_R_takePlain 28 = .ok (.aload_n 0, 1) := by decide +kernel
theorem d_R_takePlain_29 : decode b_R_takePlain 29 = .ok (.aload_n 1, 1) := by decide +kernel
theorem d_R_takePlain_30 : decode b_R_takePlain 30 = .ok (.lconst 0, 1) := by decide +kernel
theorem d_R_takePlain_31 : decode b_R_takePlain 31 = .ok (.aload_n 0, 1) := by decide +kernel
theorem d_R_takePlain_32 : decode b_R_takePlain 32 = .ok (.getfield 39, 3) := by decide +kernel
theorem d_R_takePlain_35 : decode b_R_takePlain 35 = .ok (.invokevirtual 85, 3) := by decide +kernel
theorem d_R_takePlain_38 : decode b_R_takePlain 38 = .ok (.invokevirtual 105, 3) := by decide +kernel
theorem d_R_takePlain_41 : decode b_R_takePlain 41 = .ok (.goto 46, 3) := by decide +kernel
theorem d_R_takePlain_44 : decode b_R_takePlain 44 = .ok (.aload_n 0, 1) := by decide +kernel
theorem d_R_takePlain_45 : decode b_R_takePlain 45 = .ok (.getfield 30, 3) := by decide +kernel
theorem d_R_takePlain_48 : decode b_R_takePlain 48 = .ok (.getfield 75, 3) := by decide +kernel
theorem d_R_takePlain_51 : decode b_R_takePlain 51 = .ok (.iconst 1, 1) := by decide +kernel
theorem d_R_takePlain_52 : decode b_R_takePlain 52 = .ok (.if_icmp .ne 21, 3) := by decide +kernel
theorem d_R_takePlain_55 : decode b_R_takePlain 55 = .ok (.aload_n 1, 1) := by decide +kernel
theorem d_R_takePlain_56 : decode b_R_takePlain 56 = .ok (.aload_n 0, 1) := by decide +kernel
theorem d_R_takePlain_57 : decode b_R_takePlain 57 = .ok (.getfield 39, 3) := by decide +kernel
theorem d_R_takePlain_60 : decode b_R_takePlain 60 = .ok (.iconst 4, 1) := by decide +kernel
theorem d_R_takePlain_61 : decode b_R_takePlain 61 = .ok (.invokevirtual 93, 3) := by decide +kernel
theorem d_R_takePlain_64 : decode b_R_takePlain 64 = .ok (.l2i, 1) := by decide +kernel
theorem d_R_takePlain_65 : decode b_R_takePlain 65 = .ok (.i2l, 1) := by decide +kernel
theorem d_R_takePlain_66 : decode b_R_takePlain 66 = .ok (.invokevirtual 121, 3) := by decide +kernel
theorem d_R_takePlain_69 : decode b_R_takePlain 69 = .ok (.pop, 1) := by decide +kernel
theorem d_R_takePlain_70 : decode b_R_takePlain 70 = .ok (.goto 17, 3) := by decide +kernel
theorem d_R_takePlain_73 : decode b_R_takePlain 73 = .ok (.aload_n 1, 1) := by decide +kernel
theorem d_R_takePlain_74 : decode b_R_takePlain 74 = .ok (.aload_n 0, 1) := by decide +kernel
theorem d_R_takePlain_75 : decode b_R_takePlain 75 = .ok (.getfield 39, 3) := by decide +kernel
theorem d_R_takePlain_78 : decode b_R_takePlain 78 = .ok (.bipush 8, 2) := by decide +kernel
theorem d_R_takePlain_80 : decode b_R_takePlain 80 = .ok (.invokevirtual 93, 3) := by decide +kernel
theorem d_R_takePlain_83 : decode b_R_takePlain 83 = .ok (.invokevirtual 121, 3) := by decide +kernel
theorem d_R_takePlain_86 : decode b_R_takePlain 86 = .ok (.pop, 1) := by decide +kernel
theorem d_R_takePlain_87 : decode b_R_takePlain 87 = .ok (.iinc 3 1, 3) := by decide +kernel
theorem d_R_takePlain_90 : decode b_R_takePlain 90 = .ok (.goto (-88), 3) := by decide +kernel
theorem d_R_takePlain_93 : decode b_R_takePlain 93 = .ok (.return_, 1) := by decide +kernel
theorem d_R_mustBeCount_0 : decode b_R_mustBeCount 0 = .ok (.iload_n 1, 1) := by decide +kernel
theorem d_R_mustBeCount_1 : decode b_R_mustBeCount 1 = .ok (.aload_n 0, 1) := by decide +kernel
theorem d_R_mustBeCount_2 : decode b_R_mustBeCount 2 = .ok (.getfield 57, 3) := by decide +kernel
theorem d_R_mustBeCount_5 : decode b_R_mustBeCount 5 = .ok (.if_icmp .eq 11, 3) := by decide +kernel
theorem d_R_mustBeCount_8 : decode b_R_mustBeCount 8 = .ok (.aload_n 0, 1) := by decide +kernel
theorem d_R_mustBeCount_9 : decode b_R_mustBeCount 9 = .ok (.getfield 39, 3) := by decide +kernel
theorem d_R_mustBeCount_12 : decode b_R_mustBeCount 12 = .ok (.iconst 4, 1) := by decide +kernel
theorem d_R_mustBeCount_13 : decode b_R_mustBeCount 13 = .ok (.invokevirtual 71, 3) := by decide +kernel
theorem d_R_mustBeCount_16 : decode b_R_mustBeCount 16 = .ok (.return_, 1) := by decide +kernel
theorem d_R_takeNumbers_0 : decode b_R_takeNumbers 0 = .ok (.iconst 0, 1) := by decide +kernel
theorem d_R_takeNumbers_1 : decode b_R_takeNumbers 1 = .ok (.istore_n 2, 1) := by decide +kernel
theorem d_R_takeNumbers_2 : decode b_R_takeNumbers 2 = .ok (.iload_n 2, 1) := by decide +kernel
theorem d_R_takeNumbers_3 : decode b_R_takeNumbers 3 = .ok (.aload_n 0, 1) := by decide +kernel
theorem d_R_takeNumbers_4 : decode b_R_takeNumbers 4 = .ok (.getfield 57, 3) := by decide +kernel
theorem d_R_takeNumbers_7 : decode b_R_takeNumbers 7 = .ok (.if_icmp .ge 30, 3) := by decide +kernel
theorem d_R_takeNumbers_10 : decode b_R_takeNumbers 10 = .ok (.aload_n 0, 1) := by decide +kernel
theorem d_R_takeNumbers_11 : decode b_R_takeNumbers 11 = .ok (.getfield 39, 3) := by decide +kernel
theorem d_R_takeNumbers_14 : decode b_R_takeNumbers 14 = .ok (.getfield 102, 3) := by decide +kernel
theorem d_R_takeNumbers_17 : decode b_R_takeNumbers 17 = .ok (.ifCond .ne 20, 3) := by decide +kernel
theorem d_R_takeNumbers_20 : decode b_R_takeNumbers 20 = .ok (.aload_n 0, 1) := by decide +kernel
theorem d_R_takeNumbers_21 : decode b_R_takeNumbers 21 = .ok (.aload_n 1, 1) := by decide +kernel
theorem d_R_takeNumbers_22 : decode b_R_takeNumbers 22 = .ok (.aload_n 0, 1) := by decide +kernel
theorem d_R_takeNumbers_23 : decode b_R_takeNumbers 23 = .ok (.getfield 23, 3) := by decide +kernel
theorem d_R_takeNumbers_26 : decode b_R_takeNumbers 26 = .ok (.iload_n 2, 1) := by decide +kernel
theorem d_R_takeNumbers_27 : decode b_R_takeNumbers 27 = .ok (.laload, 1) := by decide +kernel
theorem d_R_takeNumbers_28 : decode b_R_takeNumbers 28 = .ok (.invokevirtual 113, 3) := by decide +kernel
theorem d_R_takeNumbers_31 : decode b_R_takeNumbers 31 = .ok (.iinc 2 1, 3) := by decide +kernel
theorem d_R_takeNumbers_34 : decode b_R_takeNumbers 34 = .ok (.goto (-32), 3) := by decide +kernel
theorem d_R_takeNumbers_37 : decode b_R_takeNumbers 37 = .ok (.return_, 1) := by decide +kernel
theorem d_R_lookAtLengths_0 : decode b_R_lookAtLengths 0 = .ok (.iconst 0, 1) := by decide +kernel
theorem d_R_lookAtLengths_1 : decode b_R_lookAtLengths 1 = .ok (.istore_n 1, 1) := by decide +kernel
theorem d_R_lookAtLengths_2 : decode b_R_lookAtLengths 2 = .ok (.iload_n 1, 1) := by decide +kernel
theorem d_R_lookAtLengths_3 : decode b_R_lookAtLengths 3 = .ok (.aload_n 0, 1) := by decide +kernel
theorem d_R_lookAtLengths_4 : decode b_R_lookAtLengths 4 = .ok (.getfield 57, 3) := by decide +kernel
theorem d_R_lookAtLengths_7 : decode b_R_lookAtLengths 7 = .ok (.if_icmp .ge 52, 3) := by decide +kernel
theorem d_R_lookAtLengths_10 : decode b_R_lookAtLengths 10 = .ok (.aload_n 0, 1) := by decide +kernel
theorem d_R_lookAtLengths_11 : decode b_R_lookAtLengths 11 = .ok (.getfield 39, 3) := by decide +kernel
theorem d_R_lookAtLengths_14 : decode b_R_lookAtLengths 14 = .ok (.getfield 102, 3) := by decide +kernel
theorem d_R_lookAtLengths_17 : decode b_R_lookAtLengths 17 = .ok (.ifCond .ne 42, 3) := by decide +kernel
theorem d_R_lookAtLengths_20 : decode b_R_lookAtLengths 20 = .ok (.aload_n 0, 1) := by decide +kernel
theorem d_R_lookAtLengths_21 : decode b_R_lookAtLengths 21 = .ok (.getfield 23, 3) := by decide +kernel
theorem d_R_lookAtLengths_24 : decode b_R_lookAtLengths 24 = .ok (.iload_n 1, 1) := by decide +kernel
theorem d_R_lookAtLengths_25 : decode b_R_lookAtLengths 25 = .ok (.laload, 1) := by decide +kernel
theorem d_R_lookAtLengths_26 : decode b_R_lookAtLengths 26 = .ok (.lconst 0, 1) := by decide +kernel
theorem d_R_lookAtLengths_27 : decode b_R_lookAtLengths 27 = .ok (.lcmp, 1) := by decide +kernel
theorem d_R_lookAtLengths_28 : decode b_R_lookAtLengths 28 = .ok (.ifCond .lt 16, 3) := by decide +kernel
theorem d_R_lookAtLengths_31 : decode b_R_lookAtLengths 31 = .ok (.aload_n 0, 1) := by decide +kernel
theorem d_R_lookAtLengths_32 : decode b_R_lookAtLengths 32 = .ok (.getfield 23, 3) := by decide +kernel
theorem d_R_lookAtLengths_35 : decode b_R_lookAtLengths 35 = .ok (.iload_n 1, 1) := by decide +kernel
theorem d_R_lookAtLengths_36 : decode b_R_lookAtLengths 36 = .ok (.laload, 1) := by decide +kernel
theorem d_R_lookAtLengths_37 : decode b_R_lookAtLengths 37 = .ok (.ldc2_w 127, 3) := by decide +kernel
theorem d_R_lookAtLengths_40 : decode b_R_lookAtLengths 40 = .ok (.lcmp, 1) := by decide +kernel
theorem d_R_lookAtLengths_41 : decode b_R_lookAtLengths 41 = .ok (.ifCond .le 12, 3) := by decide +kernel
theorem d_R_lookAtLengths_44 : decode b_R_lookAtLengths 44 = .ok (.aload_n 0, 1) := by decide +kernel
theorem d_R_lookAtLengths_45 : decode b_R_lookAtLengths 45 = .ok (.getfield 39, 3) := by decide +kernel
theorem d_R_lookAtLengths_48 : decode b_R_lookAtLengths 48 = .ok (.bipush 7, 2) := by decide +kernel
theorem d_R_lookAtLengths_50 : decode b_R_lookAtLengths 50 = .ok (.invokevirtual 71, 3) := by decide +kernel
theorem d_R_lookAtLengths_53 : decode b_R_lookAtLengths 53 = .ok (.iinc 1 1, 3) := by decide +kernel
theorem d_R_lookAtLengths_56 : decode b_R_lookAtLengths 56 = .ok (.goto (-54), 3) := by decide +kernel
theorem d_R_lookAtLengths_59 : decode b_R_lookAtLengths 59 = .ok (.return_, 1) := by decide +kernel
theorem d_R_takeTexts_0 : decode b_R_takeTexts 0 = .ok (.iconst 0, 1) := by decide +kernel
theorem d_R_takeTexts_1 : decode b_R_takeTexts 1 = .ok (.istore_n 2, 1) := by decide +kernel
theorem d_R_takeTexts_2 : decode b_R_takeTexts 2 = .ok (.iload_n 2, 1) := by decide +kernel
theorem d_R_takeTexts_3 : decode b_R_takeTexts 3 = .ok (.aload_n 0, 1) := by decide +kernel
theorem d_R_takeTexts_4 : decode b_R_takeTexts 4 = .ok (.getfield 57, 3) := by decide +kernel
theorem d_R_takeTexts_7 : decode b_R_takeTexts 7 = .ok (.if_icmp .ge 36, 3) := by decide +kernel
theorem d_R_takeTexts_10 : decode b_R_takeTexts 10 = .ok (.aload_n 0, 1) := by decide +kernel
theorem d_R_takeTexts_11 : decode b_R_takeTexts 11 = .ok (.getfield 39, 3) := by decide +kernel
theorem d_R_takeTexts_14 : decode b_R_takeTexts 14 = .ok (.getfield 102, 3) := by decide +kernel
theorem d_R_takeTexts_17 : decode b_R_takeTexts 17 = .ok (.ifCond .ne 26, 3) := by decide +kernel
theorem d_R_takeTexts_20 : decode b_R_takeTexts 20 = .ok (.aload_n 0, 1) := by decide +kernel
theorem d_R_takeTexts_21 : decode b_R_takeTexts 21 = .ok (.aload_n 1, 1) := by decide +kernel
theorem d_R_takeTexts_22 : decode b_R_takeTexts 22 = .ok (.aload_n 0, 1) := by decide +kernel
theorem d_R_takeTexts_23 : decode b_R_takeTexts 23 = .ok (.getfield 27, 3) := by decide +kernel
theorem d_R_takeTexts_26 : decode b_R_takeTexts 26 = .ok (.iload_n 2, 1) := by decide +kernel
theorem d_R_takeTexts_27 : decode b_R_takeTexts 27 = .ok (.laload, 1) := by decide +kernel
theorem d_R_takeTexts_28 : decode b_R_takeTexts 28 = .ok (.aload_n 0, 1) := by decide +kernel
theorem d_R_takeTexts_29 : decode b_R_takeTexts 29 = .ok (.getfield 23, 3) := by decide +kernel
theorem d_R_takeTexts_32 : decode b_R_takeTexts 32 = .ok (.iload_n 2, 1) := by decide +kernel
theorem d_R_takeTexts_33 : decode b_R_takeTexts 33 = .ok (.laload, 1) := by decide +kernel
theorem d_R_takeTexts_34 : decode b_R_takeTexts 34 = .ok (.invokevirtual 105, 3) := by decide +kernel
theorem d_R_takeTexts_37 : decode b_R_takeTexts 37 = .ok (.iinc 2 1, 3) := by decide +kernel
theorem d_R_takeTexts_40 : decode b_R_takeTexts 40 = .ok (.goto (-38), 3) := by decide +kernel
theorem d_R_takeTexts_43 : decode b_R_takeTexts 43 = .ok (.return_, 1) := by decide +kernel
theorem d_R_takeSizedCode_0 : decode b_R_takeSizedCode 0 = .ok (.aload_n 0, 1) := by decide +kernel
theorem d_R_takeSizedCode_1 : decode b_R_takeSizedCode 1 = .ok (.getfield 39, 3) := by decide +kernel
theorem d_R_takeSizedCode_4 : decode b_R_takeSizedCode 4 = .ok (.invokevirtual 187, 3) := by decide +kernel
theorem d_R_takeSizedCode_7 : decode b_R_takeSizedCode 7 = .ok (.istore_n 2, 1) := by decide +kernel
theorem d_R_takeSizedCode_8 : decode b_R_takeSizedCode 8 = .ok (.aload_n 0, 1) := by decide +kernel
theorem d_R_takeSizedCode_9 : decode b_R_takeSizedCode 9 = .ok (.aload_n 0, 1) := by decide +kernel
theorem d_R_takeSizedCode_10 : decode b_R_takeSizedCode 10 = .ok (.getfield 39, 3) := by decide +kernel
theorem d_R_takeSizedCode_13 : decode b_R_takeSizedCode 13 = .ok (.aload_n 1, 1) := by decide +kernel
theorem d_R_takeSizedCode_14 : decode b_R_takeSizedCode 14 = .ok (.invokevirtual 222, 3) := by decide +kernel
theorem d_R_takeSizedCode_17 : decode b_R_takeSizedCode 17 = .ok (.invokevirtual 226, 3) := by decide +kernel
theorem d_R_takeSizedCode_20 : decode b_R_takeSizedCode 20 = .ok (.aload_n 0, 1) := by decide +kernel
theorem d_R_takeSizedCode_21 : decode b_R_takeSizedCode 21 = .ok (.getfield 39, 3) := by decide +kernel
theorem d_R_takeSizedCode_24 : decode b_R_takeSizedCode 24 = .ok (.iload_n 2, 1) := by decide +kernel
theorem d_R_takeSizedCode_25 : decode b_R_takeSizedCode 25 = .ok (.putfield 150, 3) := by decide +kernel
theorem d_R_takeSizedCode_28 : decode b_R_takeSizedCode 28 = .ok (.return_, 1) := by decide +kernel
theorem d_R_takeByDictionary_0 : decode b_R_takeByDictionary 0 = .ok (.aload_n 0, 1) := by decide +kernel
theorem d_R_takeByDictionary_1 : decode b_R_takeByDictionary 1 = .ok (.getfield 39, 3) := by decide +kernel
theorem d_R_takeByDictionary_4 : decode b_R_takeByDictionary 4 = .ok (.invokevirtual 85, 3) := by decide +kernel
theorem d_R_takeByDictionary_7 : decode b_R_takeByDictionary 7 = .ok (.lstore_n 2, 1) := by decide +kernel
theorem d_R_takeByDictionary_8 : decode b_R_takeByDictionary 8 = .ok (.lload_n 2, 1) := by decide +kernel
theorem d_R_takeByDictionary_9 : decode b_R_takeByDictionary 9 = .ok (.lconst 0, 1) := by decide +kernel
theorem d_R_takeByDictionary_10 : decode b_R_takeByDictionary 10 = .ok (.lcmp, 1) := by decide +kernel
theorem d_R_takeByDictionary_11 : decode b_R_takeByDictionary 11 = .ok (.ifCond .lt 13, 3) := by decide +kernel
theorem d_R_takeByDictionary_14 : decode b_R_takeByDictionary 14 = .ok (.lload_n 2, 1) := by decide +kernel
theorem d_R_takeByDictionary_15 : decode b_R_takeByDictionary 15 = .ok (.aload_n 0, 1) := by decide +kernel
theorem d_R_takeByDictionary_16 : decode b_R_takeByDictionary 16 = .ok (.getfield 57, 3) := by decide +kernel
theorem d_R_takeByDictionary_19 : decode b_R_takeByDictionary 19 = .ok (.i2l, 1) := by decide +kernel
theorem d_R_takeByDictionary_20 : decode b_R_takeByDictionary 20 = .ok (.lcmp, 1) := by decide +kernel
theorem d_R_takeByDictionary_21 : decode b_R_takeByDictionary 21 = .ok (.ifCond .le 11, 3) := by decide +kernel
theorem d_R_takeByDictionary_24 : decode b_R_takeByDictionary 24 = .ok (.aload_n 0, 1) := by decide +kernel
theorem d_R_takeByDictionary_25 : decode b_R_takeByDictionary 25 = .ok (.getfield 39, 3) := by decide +kernel
theorem d_R_takeByDictionary_28 : decode b_R_takeByDictionary 28 = .ok (.iconst 4, 1) := by decide +kernel
theorem d_R_takeByDictionary_29 : decode b_R_takeByDictionary 29 = .ok (.invokevirtual 71, 3) := by decide +kernel
theorem d_R_takeByDictionary_32 : decode b_R_takeByDictionary 32 = .ok (.aload_n 0, 1) := by decide +kernel
theorem d_R_takeByDictionary_33 : decode b_R_takeByDictionary 33 = .ok (.getfield 39, 3) := by decide +kernel
theorem d_R_takeByDictionary_36 : decode b_R_takeByDictionary 36 = .ok (.getfield 102, 3) := by decide +kernel
theorem d_R_takeByDictionary_39 : decode b_R_takeByDictionary 39 = .ok (.ifCond .eq 4, 3) := by decide +kernel
theorem d_R_takeByDictionary_42 : decode b_R_takeByDictionary 42 = .ok (.return_, 1) := by decide +kernel
theorem d_R_takeByDictionary_43 : decode b_R_takeByDictionary 43 = .ok (.aload_n 0, 1) := by decide +kernel
theorem d_R_takeByDictionary_44 : decode b_R_takeByDictionary 44 = .ok (.getfield 20, 3) := by decide +kernel
theorem d_R_takeByDictionary_47 : decode b_R_takeByDictionary 47 = .ok (.aload_n 0, 1) := by decide +kernel
theorem d_R_takeByDictionary_48 : decode b_R_takeByDictionary 48 = .ok (.getfield 30, 3) := by decide +kernel
theorem d_R_takeByDictionary_51 : decode b_R_takeByDictionary 51 = .ok (.getfield 75, 3) := by decide +kernel
theorem d_R_takeByDictionary_54 : decode b_R_takeByDictionary 54 = .ok (.iconst 3, 1) := by decide +kernel
theorem d_R_takeByDictionary_55 : decode b_R_takeByDictionary 55 = .ok (.if_icmp .ne 7, 3) := by decide +kernel
theorem d_R_takeByDictionary_58 : decode b_R_takeByDictionary 58 = .ok (.iconst 1, 1) := by decide +kernel
theorem d_R_takeByDictionary_59 : decode b_R_takeByDictionary 59 = .ok (.goto 4, 3) := by decide +kernel
theorem d_R_takeByDictionary_62 : decode b_R_takeByDictionary 62 = .ok (.iconst 0, 1) := by decide +kernel
theorem d_R_takeByDictionary_63 : decode b_R_takeByDictionary 63 = .ok (.invokevirtual 78, 3) := by decide +kernel
theorem d_R_takeByDictionary_66 : decode b_R_takeByDictionary 66 = .ok (.aload_n 0, 1) := by decide +kernel
theorem d_R_takeByDictionary_67 : decode b_R_takeByDictionary 67 = .ok (.aload_n 0, 1) := by decide +kernel
theorem d_R_takeByDictionary_68 : decode b_R_takeByDictionary 68 = .ok (.getfield 20, 3) := by decide +kernel
theorem d_R_takeByDictionary_71 : decode b_R_takeByDictionary 71 = .ok (.lload_n 2, 1) := by decide +kernel
theorem d_R_takeByDictionary_72 : decode b_R_takeByDictionary 72 = .ok (.l2i, 1) := by decide +kernel
theorem d_R_takeByDictionary_73 : decode b_R_takeByDictionary 73 = .ok (.invokevirtual 202, 3) := by decide +kernel
theorem d_R_takeByDictionary_76 : decode b_R_takeByDictionary 76 = .ok (.aload_n 0, 1) := by decide +kernel
theorem d_R_takeByDictionary_77 : decode b_R_takeByDictionary 77 = .ok (.getfield 39, 3) := by decide +kernel
theorem d_R_takeByDictionary_80 : decode b_R_takeByDictionary 80 = .ok (.invokevirtual 60, 3) := by decide +kernel
theorem d_R_takeByDictionary_83 : decode b_R_takeByDictionary 83 = .ok (.istore 4, 2) := by decide +kernel
theorem d_R_takeByDictionary_85 : decode b_R_takeByDictionary 85 = .ok (.iload 4, 2) := by decide +kernel
theorem d_R_takeByDictionary_87 : decode b_R_takeByDictionary 87 = .ok (.bipush 32, 2) := by decide +kernel
theorem d_R_takeByDictionary_89 : decode b_R_takeByDictionary 89 = .ok (.if_icmp .le 11, 3) := by decide +kernel
theorem d_R_takeByDictionary_92 : decode b_R_takeByDictionary 92 = .ok (.aload_n 0, 1) := by decide +kernel
theorem d_R_takeByDictionary_93 : decode b_R_takeByDictionary 93 = .ok (.getfield 39, 3) := by decide +kernel
theorem d_R_takeByDictionary_96 : decode b_R_takeByDictionary 96 = .ok (.iconst 5, 1) := by decide +kernel
theorem d_R_takeByDictionary_97 : decode b_R_takeByDictionary 97 = .ok (.invokevirtual 71, 3) := by decide +kernel
theorem d_R_takeByDictionary_100 : decode b_R_takeByDictionary 100 = .ok (.aload_n 0, 1) := by decide +kernel
theorem d_R_takeByDictionary_101 : decode b_R_takeByDictionary 101 = .ok (.getfield 39, 3) := by decide +kernel
theorem d_R_takeByDictionary_104 : decode b_R_takeByDictionary 104 = .ok (.getfield 102, 3) := by decide +kernel
theorem d_R_takeByDictionary_107 : decode b_R_takeByDictionary 107 = .ok (.ifCond .eq 4, 3) := by decide +kernel
theorem d_R_takeByDictionary_110 : decode b_R_takeByDictionary 110 = .ok (.return_, 1) := by decide +kernel
theorem d_R_takeByDictionary_111 : decode b_R_takeByDictionary 111 = .ok (.aload_n 0, 1) := by decide +kernel
theorem d_R_takeByDictionary_112 : decode b_R_takeByDictionary 112 = .ok (.getfield 39, 3) := by decide +kernel
theorem d_R_takeByDictionary_115 : decode b_R_takeByDictionary 115 = .ok (.aload_n 0, 1) := by decide +kernel
theorem d_R_takeByDictionary_116 : decode b_R_takeByDictionary 116 = .ok (.getfield 23, 3) := by decide +kernel
theorem d_R_takeByDictionary_119 : decode b_R_takeByDictionary 119 = .ok (.aload_n 0, 1) := by decide +kernel
theorem d_R_takeByDictionary_120 : decode b_R_takeByDictionary 120 = .ok (.getfield 57, 3) := by decide +kernel
theorem d_R_takeByDictionary_123 : decode b_R_takeByDictionary 123 = .ok (.iload 4, 2) := by decide +kernel
theorem d_R_takeByDictionary_125 : decode b_R_takeByDictionary 125 = .ok (.invokevirtual 194, 3) := by decide +kernel
theorem d_R_takeByDictionary_128 : decode b_R_takeByDictionary 128 = .ok (.iconst 0, 1) := by decide +kernel
theorem d_R_takeByDictionary_129 : decode b_R_takeByDictionary 129 = .ok (.istore 5, 2) := by decide +kernel
theorem d_R_takeByDictionary_131 : decode b_R_takeByDictionary 131 = .ok (.iload 5, 2) := by decide +kernel
theorem d_R_takeByDictionary_133 : decode b_R_takeByDictionary 133 = .ok (.aload_n 0, 1) := by decide +kernel
theorem d_R_takeByDictionary_134 : decode b_R_takeByDictionary 134 = .ok (.getfield 57, 3) := by decide +kernel
theorem d_R_takeByDictionary_137 : decode b_R_takeByDictionary 137 = .ok (.if_icmp .ge 59, 3) := by decide +kernel
theorem d_R_takeByDictionary_140 : decode b_R_takeByDictionary 140 = .ok (.aload_n 0, 1) := by decide +kernel
theorem d_R_takeByDictionary_141 : decode b_R_takeByDictionary 141 = .ok (.getfield 39, 3) := by decide +kernel
theorem d_R_takeByDictionary_144 : decode b_R_takeByDictionary 144 = .ok (.getfield 102, 3) := by decide +kernel
theorem d_R_takeByDictionary_147 : decode b_R_takeByDictionary 147 = .ok (.ifCond .ne 49, 3) := by decide +kernel
theorem d_R_takeByDictionary_150 : decode b_R_takeByDictionary 150 = .ok (.aload_n 0, 1) := by decide +kernel
theorem d_R_takeByDictionary_151 : decode b_R_takeByDictionary 151 = .ok (.getfield 23, 3) := by decide +kernel
theorem d_R_takeByDictionary_154 : decode b_R_takeByDictionary 154 = .ok (.iload 5, 2) := by decide +kernel
theorem d_R_takeByDictionary_156 : decode b_R_takeByDictionary 156 = .ok (.laload, 1) := by decide +kernel
theorem d_R_takeByDictionary_157 : decode b_R_takeByDictionary 157 = .ok (.lload_n 2, 1) := by decide +kernel
theorem d_R_takeByDictionary_158 : decode b_R_takeByDictionary 158 = .ok (.lcmp, 1) := by decide +kernel
theorem d_R_takeByDictionary_159 : decode b_R_takeByDictionary 159 = .ok (.ifCond .ge 22, 3) := by decide +kernel
theorem d_R_takeByDictionary_162 : decode b_R_takeByDictionary 162 = .ok (.aload_n 1, 1) := by decide +kernel
theorem d_R_takeByDictionary_163 : decode b_R_takeByDictionary 163 = .ok (.aload_n 0, 1) := by decide +kernel
theorem d_R_takeByDictionary_164 : decode b_R_takeByDictionary 164 = .ok (.getfield 20, 3) := by decide +kernel
theorem d_R_takeByDictionary_167 : decode b_R_takeByDictionary 167 = .ok (.aload_n 0, 1) := by decide +kernel
theorem d_R_takeByDictionary_168 : decode b_R_takeByDictionary 168 = .ok (.getfield 23, 3) := by decide +kernel
theorem d_R_takeByDictionary_171 : decode b_R_takeByDictionary 171 = .ok (.iload 5, 2) := by decide +kernel
theorem d_R_takeByDictionary_173 : decode b_R_takeByDictionary 173 = .ok (.laload, 1) := by decide +kernel
theorem d_R_takeByDictionary_174 : decode b_R_takeByDictionary 174 = .ok (.l2i, 1) := by decide +kernel
theorem d_R_takeByDictionary_175 : decode b_R_takeByDictionary 175 = .ok (.invokevirtual 239, 3) := by decide +kernel
theorem d_R_takeByDictionary_178 : decode b_R_takeByDictionary 178 = .ok (.ifCond .ne 12, 3) := by decide +kernel
theorem d_R_takeByDictionary_181 : decode b_R_takeByDictionary 181 = .ok (.aload_n 0, 1) := by decide +kernel
theorem d_R_takeByDictionary_182 : decode b_R_takeByDictionary 182 = .ok (.getfield 39, 3) := by decide +kernel
theorem d_R_takeByDictionary_185 : decode b_R_takeByDictionary 185 = .ok (.bipush 7, 2) := by decide +kernel
theorem d_R_takeByDictionary_187 : decode b_R_takeByDictionary 187 = .ok (.invokevirtual 71, 3) := by decide +kernel
theorem d_R_takeByDictionary_190 : decode b_R_takeByDictionary 190 = .ok (.iinc 5 1, 3) := by decide +kernel
theorem d_R_takeByDictionary_193 : decode b_R_takeByDictionary 193 = .ok (.goto (-62), 3) := by decide +kernel
theorem d_R_takeByDictionary_196 : decode b_R_takeByDictionary 196 = .ok (.return_, 1) := by decide +kernel
theorem d_R_compareTold_0 : decode b_R_compareTold 0 = .ok (.aload_n 0, 1) := by decide +kernel
theorem d_R_compareTold_1 : decode b_R_compareTold 1 = .ok (.getfield 39, 3) := by decide +kernel
theorem d_R_compareTold_4 : decode b_R_compareTold 4 = .ok (.getfield 102, 3) := by decide +kernel
theorem d_R_compareTold_7 : decode b_R_compareTold 7 = .ok (.ifCond .ne 10, 3) := by decide +kernel
theorem d_R_compareTold_10 : decode b_R_compareTold 10 = .ok (.aload_n 1, 1) := by decide +kernel
theorem d_R_compareTold_11 : decode b_R_compareTold 11 = .ok (.getfield 243, 3) := by decide +kernel
theorem d_R_compareTold_14 : decode b_R_compareTold 14 = .ok (.ifCond .ne 4, 3) := by decide +kernel
theorem d_R_compareTold_17 : decode b_R_compareTold 17 = .ok (.return_, 1) := by decide +kernel
theorem d_R_compareTold_18 : decode b_R_compareTold 18 = .ok (.aload_n 0, 1) := by decide +kernel
theorem d_R_compareTold_19 : decode b_R_compareTold 19 = .ok (.getfield 14, 3) := by decide +kernel
theorem d_R_compareTold_22 : decode b_R_compareTold 22 = .ok (.iconst 0, 1) := by decide +kernel
theorem d_R_compareTold_23 : decode b_R_compareTold 23 = .ok (.aload_n 1, 1) := by decide +kernel
theorem d_R_compareTold_24 : decode b_R_compareTold 24 = .ok (.aload_n 1, 1) := by decide +kernel
theorem d_R_compareTold_25 : decode b_R_compareTold 25 = .ok (.iconst 0, 1) := by decide +kernel
theorem d_R_compareTold_26 : decode b_R_compareTold 26 = .ok (.invokevirtual 244, 3) := by decide +kernel
theorem d_R_compareTold_29 : decode b_R_compareTold 29 = .ok (.invokevirtual 248, 3) := by decide +kernel
theorem d_R_compareTold_32 : decode b_R_compareTold 32 = .ok (.ifCond .eq 12, 3) := by decide +kernel
theorem d_R_compareTold_35 : decode b_R_compareTold 35 = .ok (.aload_n 0, 1) := by decide +kernel
theorem d_R_compareTold_36 : decode b_R_compareTold 36 = .ok (.getfield 39, 3) := by decide +kernel
theorem d_R_compareTold_39 : decode b_R_compareTold 39 = .ok (.bipush 11, 2) := by decide +kernel
theorem d_R_compareTold_41 : decode b_R_compareTold 41 = .ok (.invokevirtual 71, 3) := by decide +kernel
theorem d_R_compareTold_44 : decode b_R_compareTold 44 = .ok (.aload_n 0, 1) := by decide +kernel
theorem d_R_compareTold_45 : decode b_R_compareTold 45 = .ok (.getfield 14, 3) := by decide +kernel
theorem d_R_compareTold_48 : decode b_R_compareTold 48 = .ok (.iconst 1, 1) := by decide +kernel
theorem d_R_compareTold_49 : decode b_R_compareTold 49 = .ok (.aload_n 1, 1) := by decide +kernel
theorem d_R_compareTold_50 : decode b_R_compareTold 50 = .ok (.aload_n 1, 1) := by decide +kernel
theorem d_R_compareTold_51 : decode b_R_compareTold 51 = .ok (.iconst 1, 1) := by decide +kernel
theorem d_R_compareTold_52 : decode b_R_compareTold 52 = .ok (.invokevirtual 244, 3) := by decide +kernel
theorem d_R_compareTold_55 : decode b_R_compareTold 55 = .ok (.invokevirtual 248, 3) := by decide +kernel
theorem d_R_compareTold_58 : decode b_R_compareTold 58 = .ok (.ifCond .eq 12, 3) := by decide +kernel
theorem d_R_compareTold_61 : decode b_R_compareTold 61 = .ok (.aload_n 0, 1) := by decide +kernel
theorem d_R_compareTold_62 : decode b_R_compareTold 62 = .ok (.getfield 39, 3) := by decide +kernel
theorem d_R_compareTold_65 : decode b_R_compareTold 65 = .ok (.bipush 12, 2) := by decide +kernel
theorem d_R_compareTold_67 : decode b_R_compareTold 67 = .ok (.invokevirtual 71, 3) := by decide +kernel
theorem d_R_compareTold_70 : decode b_R_compareTold 70 = .ok (.return_, 1) := by decide +kernel
theorem d_S_init_0 : decode b_S_init 0 = .ok (.aload_n 0, 1) := by decide +kernel
theorem d_S_init_1 : decode b_S_init 1 = .ok (.invokespecial 3, 3) := by decide +kernel
theorem d_S_init_4 : decode b_S_init 4 = .ok (.aload_n 0, 1) := by decide +kernel
theorem d_S_init_5 : decode b_S_init 5 = .ok (.iconst 4, 1) := by decide +kernel
theorem d_S_init_6 : decode b_S_init 6 = .ok (.newarray .int, 2) := by decide +kernel
theorem d_S_init_8 : decode b_S_init 8 = .ok (.putfield 9, 3) := by decide +kernel
theorem d_S_init_11 : decode b_S_init 11 = .ok (.aload_n 0, 1) := by decide +kernel
theorem d_S_init_12 : decode b_S_init 12 = .ok (.aload_n 1, 1) := by decide +kernel
theorem d_S_init_13 : decode b_S_init 13 = .ok (.putfield 15, 3) := by decide +kernel
theorem d_S_init_16 : decode b_S_init 16 = .ok (.aload_n 0, 1) := by decide +kernel
theorem d_S_init_17 : decode b_S_init 17 = .ok (.aload_n 1, 1) := by decide +kernel
theorem d_S_init_18 : decode b_S_init 18 = .ok (.getfield 19, 3) := by decide +kernel
theorem d_S_init_21 : decode b_S_init 21 = .ok (.putfield 25, 3) := by decide +kernel
theorem d_S_init_24 : decode b_S_init 24 = .ok (.return_, 1) := by decide +kernel
theorem d_S_open_0 : decode b_S_open 0 = .ok (.aload_n 0, 1) := by decide +kernel
theorem d_S_open_1 : decode b_S_open 1 = .ok (.iconst 0, 1) := by decide +kernel
theorem d_S_open_2 : decode b_S_open 2 = .ok (.putfield 26, 3) := by decide +kernel
theorem d_S_open_5 : decode b_S_open 5 = .ok (.aload_n 0, 1) := by decide +kernel
theorem d_S_open_6 : decode b_S_open 6 = .ok (.aload_n 0, 1) := by decide +kernel
theorem d_S_open_7 : decode b_S_open 7 = .ok (.getfield 15, 3) := by decide +kernel
theorem d_S_open_10 : decode b_S_open 10 = .ok (.getfield 30, 3) := by decide +kernel
theorem d_S_open_13 : decode b_S_open 13 = .ok (.putfield 33, 3) := by decide +kernel
theorem d_S_open_16 : decode b_S_open 16 = .ok (.aload_n 0, 1) := by decide +kernel
theorem d_S_open_17 : decode b_S_open 17 = .ok (.iconst 0, 1) := by decide +kernel
theorem d_S_open_18 : decode b_S_open 18 = .ok (.putfield 36, 3) := by decide +kernel
theorem d_S_open_21 : decode b_S_open 21 = .ok (.return_, 1) := by decide +kernel
theorem d_S_fail_0 : decode b_S_fail 0 = .ok (.aload_n 0, 1) := by decide +kernel
theorem d_S_fail_1 : decode b_S_fail 1 = .ok (.getfield 36, 3) := by decide +kernel
theorem d_S_fail_4 : decode b_S_fail 4 = .ok (.ifCond .ne 8, 3) := by decide +kernel
theorem d_S_fail_7 : decode b_S_fail 7 = .ok (.aload_n 0, 1) := by decide +kernel
theorem d_S_fail_8 : decode b_S_fail 8 = .ok (.iload_n 1, 1) := by decide +kernel
theorem d_S_fail_9 : decode b_S_fail 9 = .ok (.putfield 36, 3) := by decide +kernel
theorem d_S_fail_12 : decode b_S_fail 12 = .ok (.return_, 1) := by decide +kernel
theorem d_S_there_0 : decode b_S_there 0 = .ok (.aload_n 0, 1) := by decide +kernel
theorem d_S_there_1 : decode b_S_there 1 = .ok (.getfield 36, 3) := by decide +kernel
theorem d_S_there_4 : decode b_S_there 4 = .ok (.ifCond .ne 29, 3) := by decide +kernel
theorem d_S_there_7 : decode b_S_there 7 = .ok (.lload_n 1, 1) := by decide +kernel
theorem d_S_there_8 : decode b_S_there 8 = .ok (.lconst 0, 1) := by decide +kernel
theorem d_S_there_9 : decode b_S_there 9 = .ok (.lcmp, 1) := by decide +kernel
theorem d_S_there_10 : decode b_S_there 10 = .ok (.ifCond .lt 18, 3) := by decide +kernel
theorem d_S_there_13 : decode b_S_there 13 = .ok (.lload_n 1, 1) := by decide +kernel
theorem d_S_there_14 : decode b_S_there 14 = .ok (.aload_n 0, 1) := by decide +kernel
theorem d_S_there_15 : decode b_S_there 15 = .ok (.getfield 33, 3) := by decide +kernel
theorem d_S_there_18 : decode b_S_there 18 = .ok (.aload_n 0, 1) := by decide +kernel
theorem d_S_there_19 : decode b_S_there 19 = .ok (.getfield 26, 3) := by decide +kernel
theorem d_S_there_22 : decode b_S_there 22 = .ok (.isub, 1) := by decide +kernel
theorem d_S_there_23 : decode b_S_there 23 = .ok (.i2l, 1) := by decide +kernel
theorem d_S_there_24 : decode b_S_there 24 = .ok (.lcmp, 1) := by decide +kernel
theorem d_S_there_25 : decode b_S_there 25 = .ok (.ifCond .le 8, 3) := by decide +kernel
theorem d_S_there_28 : decode b_S_there 28 = .ok (.aload_n 0, 1) := by decide +kernel
theorem d_S_there_29 : decode b_S_there 29 = .ok (.iconst 1, 1) := by decide +kernel
theorem d_S_there_30 : decode b_S_there 30 = .ok (.putfield 36, 3) := by decide +kernel
theorem d_S_there_33 : decode b_S_there 33 = .ok (.aload_n 0, 1) := by decide +kernel
theorem d_S_there_34 : decode b_S_there 34 = .ok (.getfield 36, 3) := by decide +kernel
theorem d_S_there_37 : decode b_S_there 37 = .ok (.ifCond .ne 7, 3) := by decide +kernel
theorem d_S_there_40 : decode b_S_there 40 = .ok (.iconst 1, 1) := by decide +kernel
theorem d_S_there_41 : decode b_S_there 41 = .ok (.goto 4, 3) := by decide +kernel
theorem d_S_there_44 : decode b_S_there 44 = .ok (.iconst 0, 1) := by decide +kernel
theorem d_S_there_45 : decode b_S_there 45 = .ok (.ireturn, 1) := by decide +kernel
theorem d_S_octet_0 : decode b_S_octet 0 = .ok (.aload_n 0, 1) := by decide +kernel
theorem d_S_octet_1 : decode b_S_octet 1 = .ok (.lconst 1, 1) := by decide +kernel
theorem d_S_octet_2 : decode b_S_octet 2 = .ok (.invokevirtual 39, 3) := by decide +kernel
theorem d_S_octet_5 : decode b_S_octet 5 = .ok (.ifCond .ne 5, 3) := by decide +kernel
theorem d_S_octet_8 : decode b_S_octet 8 = .ok (.iconst 0, 1) := by decide +kernel
theorem d_S_octet_9 : decode b_S_octet 9 = .ok (.ireturn, 1) := by decide +kernel
theorem d_S_octet_10 : decode b_S_octet 10 = .ok (.aload_n 0, 1) := by decide +kernel
theorem d_S_octet_11 : decode b_S_octet 11 = .ok (.dup, 1) := by decide +kernel
theorem d_S_octet_12 : decode b_S_octet 12 = .ok (.getfield 26, 3) := by decide +kernel
theorem d_S_octet_15 : decode b_S_octet 15 = .ok (.iconst 1, 1) := by decide +kernel
theorem d_S_octet_16 : decode b_S_octet 16 = .ok (.iadd, 1) := by decide +kernel
theorem d_S_octet_17 : decode b_S_octet 17 = .ok (.putfield 26, 3) := by decide +kernel
theorem d_S_octet_20 : decode b_S_octet 20 = .ok (.aload_n 0, 1) := by decide +kernel
theorem d_S_octet_21 : decode b_S_octet 21 = .ok (.getfield 25, 3) := by decide +kernel
theorem d_S_octet_24 : decode b_S_octet 24 = .ok (.aload_n 0, 1) := by decide +kernel
theorem d_S_octet_25 : decode b_S_octet 25 = .ok (.getfield 26, 3) := by decide +kernel
theorem d_S_octet_28 : decode b_S_octet 28 = .ok (.iconst 1, 1) := by decide +kernel
theorem d_S_octet_29 : decode b_S_octet 29 = .ok (.isub, 1) := by decide +kernel
theorem d_S_octet_30 : decode b_S_octet 30 = .ok (.baload, 1) := by decide +kernel
theorem d_S_octet_31 : decode b_S_octet 31 = .ok (.sipush 255, 3) := by decide +kernel
theorem d_S_octet_34 : decode b_S_octet 34 = .ok (.iand, 1) := by decide +kernel
theorem d_S_octet_35 : decode b_S_octet 35 = .ok (.ireturn, 1) := by decide +kernel
theorem d_S_lowestFirst_0 : decode b_S_lowestFirst 0 = .ok (.aload_n 0, 1) := by decide +kernel
theorem d_S_lowestFirst_1 : decode b_S_lowestFirst 1 = .ok (.iload_n 1, 1) := by decide +kernel
theorem d_S_lowestFirst_2 : decode b_S_lowestFirst 2 = .ok (.i2l, 1) := by decide +kernel
theorem d_S_lowestFirst_3 : decode b_S_lowestFirst 3 = .ok (.invokevirtual 39, 3) := by decide +kernel
theorem d_S_lowestFirst_6 : decode b_S_lowestFirst 6 = .ok (.ifCond .ne 5, 3) := by decide +kernel
theorem d_S_lowestFirst_9 : decode b_S_lowestFirst 9 = .ok (.lconst 0, 1) := by decide +kernel
theorem d_S_lowestFirst_10 : decode b_S_lowestFirst 10 = .ok (.lreturn, 1) := by decide +kernel
theorem d_S_lowestFirst_11 : decode b_S_lowestFirst 11 = .ok (.aload_n 0, 1) := by decide +kernel
theorem d_S_lowestFirst_12 : decode b_S_lowestFirst 12 = .ok (.bipush 8, 2) := by decide +kernel
theorem d_S_lowestFirst_14 : decode b_S_lowestFirst 14 = .ok (.aload_n 0, 1) := by decide +kernel
theorem d_S_lowestFirst_15 : decode b_S_lowestFirst 15 = .ok (.getfield 26, 3) := by decide +kernel
theorem d_S_lowestFirst_18 : decode b_S_lowestFirst 18 = .ok (.imul, 1) := by decide +kernel
theorem d_S_lowestFirst_19 : decode b_S_lowestFirst 19 = .ok (.bipush 8, 2) := by decide +kernel
theorem d_S_lowestFirst_21 : decode b_S_lowestFirst 21 = .ok (.iload_n 1, 1) := by decide +kernel
theorem d_S_lowestFirst_22 : decode b_S_lowestFirst 22 = .ok (.imul, 1) := by decide +kernel
theorem d_S_lowestFirst_23 : decode b_S_lowestFirst 23 = .ok (.invokevirtual 43, 3) := by decide +kernel
theorem d_S_lowestFirst_26 : decode b_S_lowestFirst 26 = .ok (.lstore_n 2, 1) := by decide +kernel
theorem d_S_lowestFirst_27 : decode b_S_lowestFirst 27 = .ok (.aload_n 0, 1) := by decide +kernel
theorem d_S_lowestFirst_28 : decode b_S_lowestFirst 28 = .ok (.dup, 1) := by decide +kernel
theorem d_S_lowestFirst_29 : decode b_S_lowestFirst 29 = .ok (.getfield 26, 3) := by decide +kernel
theorem d_S_lowestFirst_32 : decode b_S_lowestFirst 32 = .ok (.iload_n 1, 1) := by decide +kernel
theorem d_S_lowestFirst_33 : decode b_S_lowestFirst 33 = .ok (.iadd, 1) := by decide +kernel
theorem d_S_lowestFirst_34 : decode b_S_lowestFirst 34 = .ok (.putfield 26, 3) := by decide +kernel
theorem d_S_lowestFirst_37 : decode b_S_lowestFirst 37 = .ok (.lload_n 2, 1) := by decide +kernel
theorem d_S_lowestFirst_38 : decode b_S_lowestFirst 38 = .ok (.lreturn, 1) := by decide +kernel
theorem d_S_varint_0 : decode b_S_varint 0 = .ok (.lconst 0, 1) := by decide +kernel
theorem d_S_varint_1 : decode b_S_varint 1 = .ok (.lstore_n 1, 1) := by decide +kernel
theorem d_S_varint_2 : decode b_S_varint 2 = .ok (.iconst 0, 1) := by decide +kernel
theorem d_S_varint_3 : decode b_S_varint 3 = .ok (.istore_n 3, 1) := by decide +kernel
theorem d_S_varint_4 : decode b_S_varint 4 = .ok (.iload_n 3, 1) := by decide +kernel
theorem d_S_varint_5 : decode b_S_varint 5 = .ok (.bipush 10, 2) := by decide +kernel
theorem d_S_varint_7 : decode b_S_varint 7 = .ok (.if_icmp .ge 97, 3) := by decide +kernel
theorem d_S_varint_10 : decode b_S_varint 10 = .ok (.aload_n 0, 1) := by decide +kernel
theorem d_S_varint_11 : decode b_S_varint 11 = .ok (.getfield 36, 3) := by decide +kernel
theorem d_S_varint_14 : decode b_S_varint 14 = .ok (.ifCond .ne 90, 3) := by decide +kernel
theorem d_S_varint_17 : decode b_S_varint 17 = .ok (.aload_n 0, 1) := by decide +kernel
theorem d_S_varint_18 : decode b_S_varint 18 = .ok (.invokevirtual 47, 3) := by decide +kernel
theorem d_S_varint_21 : decode b_S_varint 21 = .ok (.istore 4, 2) := by decide +kernel
theorem d_S_varint_23 : decode b_S_varint 23 = .ok (.iload_n 3, 1) := by decide +kernel
theorem d_S_varint_24 : decode b_S_varint 24 = .ok (.bipush 9, 2) := by decide +kernel
theorem d_S_varint_26 : decode b_S_varint 26 = .ok (.if_icmp .ne 13, 3) := by decide +kernel
theorem d_S_varint_29 : decode b_S_varint 29 = .ok (.iload 4, 2) := by decide +kernel
theorem d_S_varint_31 : decode b_S_varint 31 = .ok (.iconst 1, 1) := by decide +kernel
theorem d_S_varint_32 : decode b_S_varint 32 = .ok (.if_icmp .le 7, 3) := by decide +kernel
theorem d_S_varint_35 : decode b_S_varint 35 = .ok (.iconst 1, 1) := by decide +kernel
theorem d_S_varint_36 : decode b_S_varint 36 = .ok (.goto 4, 3) := by decide +kernel
theorem d_S_varint_39 : decode b_S_varint 39 = .ok (.iconst 0, 1) := by decide +kernel
theorem d_S_varint_40 : decode b_S_varint 40 = .ok (.istore 5, 2) := by decide +kernel
theorem d_S_varint_42 : decode b_S_varint 42 = .ok (.iload_n 3, 1) := by decide +kernel
theorem d_S_varint_43 : decode b_S_varint 43 = .ok (.ifCond .le 12, 3) := by decide +kernel
theorem d_S_varint_46 : decode b_S_varint 46 = .ok (.iload 4, 2) := by decide +kernel
theorem d_S_varint_48 : decode b_S_varint 48 = .ok (.ifCond .ne 7, 3) := by decide +kernel
theorem d_S_varint_51 : decode b_S_varint 51 = .ok (.iconst 1, 1) := by decide +kernel
theorem d_S_varint_52 : decode b_S_varint 52 = .ok (.goto 4, 3) := by decide +kernel
theorem d_S_varint_55 : decode b_S_varint 55 = .ok (.iconst 0, 1) := by decide +kernel
theorem d_S_varint_56 : decode b_S_varint 56 = .ok (.istore 6, 2) := by decide +kernel
theorem d_S_varint_58 : decode b_S_varint 58 = .ok (.iload 5, 2) := by decide +kernel
theorem d_S_varint_60 : decode b_S_varint 60 = .ok (.ifCond .ne 8, 3) := by decide +kernel
theorem d_S_varint_63 : decode b_S_varint 63 = .ok (.iload 6, 2) := by decide +kernel
theorem d_S_varint_65 : decode b_S_varint 65 = .ok (.ifCond .eq 8, 3) := by decide +kernel
theorem d_S_varint_68 : decode b_S_varint 68 = .ok (.aload_n 0, 1) := by decide +kernel
theorem d_S_varint_69 : decode b_S_varint 69 = .ok (.iconst 2, 1) := by decide +kernel
theorem d_S_varint_70 : decode b_S_varint 70 = .ok (.invokevirtual 51, 3) := by decide +kernel
theorem d_S_varint_73 : decode b_S_varint 73 = .ok (.lload_n 1, 1) := by decide +kernel
theorem d_S_varint_74 : decode b_S_varint 74 = .ok (.iload 4, 2) := by decide +kernel
theorem d_S_varint_76 : decode b_S_varint 76 = .ok (.bipush 127, 2) := by decide +kernel
theorem d_S_varint_78 : decode b_S_varint 78 = .ok (.iand, 1) := by decide +kernel
theorem d_S_varint_79 : decode b_S_varint 79 = .ok (.i2l, 1) := by decide +kernel
theorem d_S_varint_80 : decode b_S_varint 80 = .ok (.bipush 7, 2) := by decide +kernel
theorem d_S_varint_82 : decode b_S_varint 82 = .ok (.iload_n 3, 1) := by decide +kernel
theorem d_S_varint_83 : decode b_S_varint 83 = .ok (.imul, 1) := by decide +kernel
theorem d_S_varint_84 : decode b_S_varint 84 = .ok (.lshl, 1) := by decide +kernel
theorem d_S_varint_85 : decode b_S_varint 85 = .ok (.lor, 1) := by decide +kernel
theorem d_S_varint_86 : decode b_S_varint 86 = .ok (.lstore_n 1, 1) := by decide +kernel
theorem d_S_varint_87 : decode b_S_varint 87 = .ok (.iload 4, 2) := by decide +kernel
theorem d_S_varint_89 : decode b_S_varint 89 = .ok (.sipush 128, 3) := by decide +kernel
theorem d_S_varint_92 : decode b_S_varint 92 = .ok (.if_icmp .ge 6, 3) := by decide +kernel
theorem d_S_varint_95 : decode b_S_varint 95 = .ok (.goto 9, 3) := by decide +kernel
theorem d_S_varint_98 : decode b_S_varint 98 = .ok (.iinc 3 1, 3) := by decide +kernel
theorem d_S_varint_101 : decode b_S_varint 101 = .ok (.goto (-97), 3) := by decide +kernel
theorem d_S_varint_104 : decode b_S_varint 104 = .ok (.aload_n 0, 1) := by decide +kernel
theorem d_S_varint_105 : decode b_S_varint 105 = .ok (.getfield 36, 3) := by decide +kernel
theorem d_S_varint_108 : decode b_S_varint 108 = .ok (.ifCond .ne 7, 3) := by decide +kernel
theorem d_S_varint_111 : decode b_S_varint 111 = .ok (.lload_n 1, 1) := by decide +kernel
theorem d_S_varint_112 : decode b_S_varint 112 = .ok (.goto 4, 3) := by decide +kernel
theorem d_S_varint_115 : decode b_S_varint 115 = .ok (.lconst 0, 1) := by decide +kernel
theorem d_S_varint_116 : decode b_S_varint 116 = .ok (.lreturn, 1) := by decide +kernel
theorem d_S_narrow_0 : decode b_S_narrow 0 = .ok (.aload_n 0, 1) := by decide +kernel
theorem d_S_narrow_1 : decode b_S_narrow 1 = .ok (.getfield 33, 3) := by decide +kernel
theorem d_S_narrow_4 : decode b_S_narrow 4 = .ok (.istore_n 1, 1) := by decide +kernel
theorem d_S_narrow_5 : decode b_S_narrow 5 = .ok (.aload_n 0, 1) := by decide +kernel
theorem d_S_narrow_6 : decode b_S_narrow 6 = .ok (.invokevirtual 55, 3) := by decide +kernel
theorem d_S_narrow_9 : decode b_S_narrow 9 = .ok (.lstore_n 2, 1) := by decide +kernel
theorem d_S_narrow_10 : decode b_S_narrow 10 = .ok (.aload_n 0, 1) := by decide +kernel
theorem d_S_narrow_11 : decode b_S_narrow 11 = .ok (.lload_n 2, 1) := by decide +kernel
theorem d_S_narrow_12 : decode b_S_narrow 12 = .ok (.invokevirtual 39, 3) := by decide +kernel
theorem d_S_narrow_15 : decode b_S_narrow 15 = .ok (.ifCond .eq 14, 3) := by decide +kernel
theorem d_S_narrow_18 : decode b_S_narrow 18 = .ok (.aload_n 0, 1) := by decide +kernel
theorem d_S_narrow_19 : decode b_S_narrow 19 = .ok (.aload_n 0, 1) := by decide +kernel
theorem d_S_narrow_20 : decode b_S_narrow 20 = .ok (.getfield 26, 3) := by decide +kernel
theorem d_S_narrow_23 : decode b_S_narrow 23 = .ok (.lload_n 2, 1) := by decide +kernel
theorem d_S_narrow_24 : decode b_S_narrow 24 = .ok (.l2i, 1) := by decide +kernel
theorem d_S_narrow_25 : decode b_S_narrow 25 = .ok (.iadd, 1) := by decide +kernel
theorem d_S_narrow_26 : decode b_S_narrow 26 = .ok (.putfield 33, 3) := by decide +kernel
theorem d_S_narrow_29 : decode b_S_narrow 29 = .ok (.iload_n 1, 1) := by decide +kernel
theorem d_S_narrow_30 : decode b_S_narrow 30 = .ok (.ireturn, 1) := by decide +kernel
theorem d_S_mustBeAtEnd_0 : decode b_S_mustBeAtEnd 0 = .ok (.aload_n 0, 1) := by decide +kernel
theorem d_S_mustBeAtEnd_1 : decode b_S_mustBeAtEnd 1 = .ok (.getfield 26, 3) := by decide +kernel
theorem d_S_mustBeAtEnd_4 : decode b_S_mustBeAtEnd 4 = .ok (.aload_n 0, 1) := by decide +kernel
theorem d_S_mustBeAtEnd_5 : decode b_S_mustBeAtEnd 5 = .ok (.getfield 33, 3) := by decide +kernel
theorem d_S_mustBeAtEnd_8 : decode b_S_mustBeAtEnd 8 = .ok (.if_icmp .ge 9, 3) := by decide +kernel
theorem d_S_mustBeAtEnd_11 : decode b_S_mustBeAtEnd 11 = .ok (.aload_n 0, 1) := by decide +kernel
theorem d_S_mustBeAtEnd_12 : decode b_S_mustBeAtEnd 12 = .ok (.bipush 6, 2) := by decide +kernel
theorem d_S_mustBeAtEnd_14 : decode b_S_mustBeAtEnd 14 = .ok (.invokevirtual 51, 3) := by decide +kernel
theorem d_S_mustBeAtEnd_17 : decode b_S_mustBeAtEnd 17 = .ok (.return_, 1) := by decide +kernel
theorem d_S_bitsAt_0 : decode b_S_bitsAt 0 = .ok (.lconst 0, 1) := by decide +kernel
theorem d_S_bitsAt_1 : decode b_S_bitsAt 1 = .ok (.lstore_n 3, 1) := by decide +kernel
theorem d_S_bitsAt_2 : decode b_S_bitsAt 2 = .ok (.iconst 0, 1) := by decide +kernel
theorem d_S_bitsAt_3 : decode b_S_bitsAt 3 = .ok (.istore 5, 2) := by decide +kernel
theorem d_S_bitsAt_5 : decode b_S_bitsAt 5 = .ok (.iload_n 1, 1) := by decide +kernel
theorem d_S_bitsAt_6 : decode b_S_bitsAt 6 = .ok (.iconst 3, 1) := by decide +kernel
theorem d_S_bitsAt_7 : decode b_S_bitsAt 7 = .ok (.ishr, 1) := by decide +kernel
theorem d_S_bitsAt_8 : decode b_S_bitsAt 8 = .ok (.istore 6, 2) := by decide +kernel
theorem d_S_bitsAt_10 : decode b_S_bitsAt 10 = .ok (.iload 5, 2) := by decide +kernel
theorem d_S_bitsAt_12 : decode b_S_bitsAt 12 = .ok (.iload_n 2, 1) := by decide +kernel
theorem d_S_bitsAt_13 : decode b_S_bitsAt 13 = .ok (.if_icmp .ge 58, 3) := by decide +kernel
theorem d_S_bitsAt_16 : decode b_S_bitsAt 16 = .ok (.iload 6, 2) := by decide +kernel
theorem d_S_bitsAt_18 : decode b_S_bitsAt 18 = .ok (.aload_n 0, 1) := by decide +kernel
theorem d_S_bitsAt_19 : decode b_S_bitsAt 19 = .ok (.getfield 33, 3) := by decide +kernel
theorem d_S_bitsAt_22 : decode b_S_bitsAt 22 = .ok (.if_icmp .ge 49, 3) := by decide +kernel
theorem d_S_bitsAt_25 : decode b_S_bitsAt 25 = .ok (.iload_n 1, 1) := by decide +kernel
theorem d_S_bitsAt_26 : decode b_S_bitsAt 26 = .ok (.iload 5, 2) := by decide +kernel
theorem d_S_bitsAt_28 : decode b_S_bitsAt 28 = .ok (.iadd, 1) := by decide +kernel
theorem d_S_bitsAt_29 : decode b_S_bitsAt 29 = .ok (.bipush 7, 2) := by decide +kernel
theorem d_S_bitsAt_31 : decode b_S_bitsAt 31 = .ok (.iand, 1) := by decide +kernel
theorem d_S_bitsAt_32 : decode b_S_bitsAt 32 = .ok (.istore 7, 2) := by decide +kernel
theorem d_S_bitsAt_34 : decode b_S_bitsAt 34 = .ok (.lload_n 3, 1) := by decide +kernel
theorem d_S_bitsAt_35 : decode b_S_bitsAt 35 = .ok (.aload_n 0, 1) := by decide +kernel
theorem d_S_bitsAt_36 : decode b_S_bitsAt 36 = .ok (.getfield 25, 3) := by decide +kernel
theorem d_S_bitsAt_39 : decode b_S_bitsAt 39 = .ok (.iload 6, 2) := by decide +kernel
theorem d_S_bitsAt_41 : decode b_S_bitsAt 41 = .ok (.baload, 1) := by decide +kernel
theorem d_S_bitsAt_42 : decode b_S_bitsAt 42 = .ok (.sipush 255, 3) := by decide +kernel
theorem d_S_bitsAt_45 : decode b_S_bitsAt 45 = .ok (.iand, 1) := by decide +kernel
theorem d_S_bitsAt_46 : decode b_S_bitsAt 46 = .ok (.iload 7, 2) := by decide +kernel
theorem d_S_bitsAt_48 : decode b_S_bitsAt 48 = .ok (.ishr, 1) := by decide +kernel
theorem d_S_bitsAt_49 : decode b_S_bitsAt 49 = .ok (.i2l, 1) := by decide +kernel
theorem d_S_bitsAt_50 : decode b_S_bitsAt 50 = .ok (.iload 5, 2) := by decide +kernel
theorem d_S_bitsAt_52 : decode b_S_bitsAt 52 = .ok (.lshl, 1) := by decide +kernel
theorem d_S_bitsAt_53 : decode b_S_bitsAt 53 = .ok (.lor, 1) := by decide +kernel
theorem d_S_bitsAt_54 : decode b_S_bitsAt 54 = .ok (.lstore_n 3, 1) := by decide +kernel
theorem d_S_bitsAt_55 : decode b_S_bitsAt 55 = .ok (.iload 5, 2) := by decide +kernel
theorem d_S_bitsAt_57 : decode b_S_bitsAt 57 = .ok (.bipush 8, 2) := by decide +kernel
theorem d_S_bitsAt_59 : decode b_S_bitsAt 59 = .ok (.iload 7, 2) := by decide +kernel
theorem d_S_bitsAt_61 : decode b_S_bitsAt 61 = .ok (.isub, 1) := by decide +kernel
theorem d_S_bitsAt_62 : decode b_S_bitsAt 62 = .ok (.iadd, 1) := by decide +kernel
theorem d_S_bitsAt_63 : decode b_S_bitsAt 63 = .ok (.istore 5, 2) := by decide +kernel
theorem d_S_bitsAt_65 : decode b_S_bitsAt 65 = .ok (.iinc 6 1, 3) := by decide +kernel
theorem d_S_bitsAt_68 : decode b_S_bitsAt 68 = .ok (.goto (-58), 3) := by decide +kernel
theorem d_S_bitsAt_71 : decode b_S_bitsAt 71 = .ok (.iload_n 2, 1) := by decide +kernel
theorem d_S_bitsAt_72 : decode b_S_bitsAt 72 = .ok (.bipush 64, 2) := by decide +kernel
theorem d_S_bitsAt_74 : decode b_S_bitsAt 74 = .ok (.if_icmp .ge 13, 3) := by decide +kernel
theorem d_S_bitsAt_77 : decode b_S_bitsAt 77 = .ok (.lload_n 3, 1) := by decide +kernel
theorem d_S_bitsAt_78 : decode b_S_bitsAt 78 = .ok (.lconst 1, 1) := by decide +kernel
theorem d_S_bitsAt_79 : decode b_S_bitsAt 79 = .ok (.iload_n 2, 1) := by decide +kernel
theorem d_S_bitsAt_80 : decode b_S_bitsAt 80 = .ok (.lshl, 1) := by decide +kernel
theorem d_S_bitsAt_81 : decode b_S_bitsAt 81 = .ok (.lconst 1, 1) := by decide +kernel
theorem d_S_bitsAt_82 : decode b_S_bitsAt 82 = .ok (.lsub, 1) := by decide +kernel
theorem d_S_bitsAt_83 : decode b_S_bitsAt 83 = .ok (.land, 1) := by decide +kernel
theorem d_S_bitsAt_84 : decode b_S_bitsAt 84 = .ok (.goto 4, 3) := by decide +kernel
theorem d_S_bitsAt_87 : decode b_S_bitsAt 87 = .ok (.lload_n 3, 1) := by decide +kernel
theorem d_S_bitsAt_88 : decode b_S_bitsAt 88 = .ok (.lreturn, 1) := by decide +kernel
theorem d_S_runs_0 : decode b_S_runs 0 = .ok (.iconst 0, 1) := by decide +kernel
theorem d_S_runs_1 : decode b_S_runs 1 = .ok (.istore 4, 2) := by decide +kernel
theorem d_S_runs_3 : decode b_S_runs 3 = .ok (.iconst 0, 1) := by decide +kernel
theorem d_S_runs_4 : decode b_S_runs 4 = .ok (.istore 5, 2) := by decide +kernel
theorem d_S_runs_6 : decode b_S_runs 6 = .ok (.iload 5, 2) := by decide +kernel
theorem d_S_runs_8 : decode b_S_runs 8 = .ok (.iload_n 2, 1) := by decide +kernel
theorem d_S_runs_9 : decode b_S_runs 9 = .ok (.if_icmp .ge 126, 3) := by decide +kernel
theorem d_S_runs_12 : decode b_S_runs 12 = .ok (.iload 4, 2) := by decide +kernel
theorem d_S_runs_14 : decode b_S_runs 14 = .ok (.iload_n 2, 1) := by decide +kernel
theorem d_S_runs_15 : decode b_S_runs 15 = .ok (.if_icmp .ge 120, 3) := by decide +kernel
theorem d_S_runs_18 : decode b_S_runs 18 = .ok (.aload_n 0, 1) := by decide +kernel
theorem d_S_runs_19 : decode b_S_runs 19 = .ok (.getfield 36, 3) := by decide +kernel
theorem d_S_runs_22 : decode b_S_runs 22 = .ok (.ifCond .ne 113, 3) := by decide +kernel
theorem d_S_runs_25 : decode b_S_runs 25 = .ok (.aload_n 0, 1) := by decide +kernel
theorem d_S_runs_26 : decode b_S_runs 26 = .ok (.invokevirtual 55, 3) := by decide +kernel
theorem d_S_runs_29 : decode b_S_runs 29 = .ok (.lstore 6, 2) := by decide +kernel
theorem d_S_runs_31 : decode b_S_runs 31 = .ok (.lload 6, 2) := by decide +kernel
theorem d_S_runs_33 : decode b_S_runs 33 = .ok (.lconst 1, 1) := by decide +kernel
theorem d_S_runs_34 : decode b_S_runs 34 = .ok (.land, 1) := by decide +kernel
theorem d_S_runs_35 : decode b_S_runs 35 = .ok (.lconst 0, 1) := by decide +kernel
theorem d_S_runs_36 : decode b_S_runs 36 = .ok (.lcmp, 1) := by decide +kernel
theorem d_S_runs_37 : decode b_S_runs 37 = .ok (.ifCond .ne 7, 3) := by decide +kernel
theorem d_S_runs_40 : decode b_S_runs 40 = .ok (.iconst 1, 1) := by decide +kernel
theorem d_S_runs_41 : decode b_S_runs 41 = .ok (.goto 4, 3) := by decide +kernel
theorem d_S_runs_44 : decode b_S_runs 44 = .ok (.iconst 0, 1) := by decide +kernel
theorem d_S_runs_45 : decode b_S_runs 45 = .ok (.istore 8, 2) := by decide +kernel
