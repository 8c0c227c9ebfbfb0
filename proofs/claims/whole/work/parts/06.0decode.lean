theorem d_F_init_0 : decode b_F_init 0 = .ok (.aload_n 0, 1) := by decide +kernel
theorem d_F_init_1 : decode b_F_init 1 = .ok (.invokespecial 1, 3) := by decide +kernel
theorem d_F_init_4 : decode b_F_init 4 = .ok (.aload_n 0, 1) := by decide +kernel
theorem d_F_init_5 : decode b_F_init 5 = .ok (.new 7, 3) := by decide +kernel
theorem d_F_init_8 : decode b_F_init 8 = .ok (.dup, 1) := by decide +kernel
theorem d_F_init_9 : decode b_F_init 9 = .ok (.invokespecial 9, 3) := by decide +kernel
theorem d_F_init_12 : decode b_F_init 12 = .ok (.putfield 10, 3) := by decide +kernel
theorem d_F_init_15 : decode b_F_init 15 = .ok (.aload_n 0, 1) := by decide +kernel
theorem d_F_init_16 : decode b_F_init 16 = .ok (.new 16, 3) := by decide +kernel
theorem d_F_init_19 : decode b_F_init 19 = .ok (.dup, 1) := by decide +kernel
theorem d_F_init_20 : decode b_F_init 20 = .ok (.sipush 30000, 3) := by decide +kernel
theorem d_F_init_23 : decode b_F_init 23 = .ok (.invokespecial 18, 3) := by decide +kernel
theorem d_F_init_26 : decode b_F_init 26 = .ok (.putfield 21, 3) := by decide +kernel
theorem d_F_init_29 : decode b_F_init 29 = .ok (.aload_n 0, 1) := by decide +kernel
theorem d_F_init_30 : decode b_F_init 30 = .ok (.new 16, 3) := by decide +kernel
theorem d_F_init_33 : decode b_F_init 33 = .ok (.dup, 1) := by decide +kernel
theorem d_F_init_34 : decode b_F_init 34 = .ok (.sipush 30000, 3) := by decide +kernel
theorem d_F_init_37 : decode b_F_init 37 = .ok (.invokespecial 18, 3) := by decide +kernel
theorem d_F_init_40 : decode b_F_init 40 = .ok (.putfield 25, 3) := by decide +kernel
theorem d_F_init_43 : decode b_F_init 43 = .ok (.aload_n 0, 1) := by decide +kernel
theorem d_F_init_44 : decode b_F_init 44 = .ok (.new 16, 3) := by decide +kernel
theorem d_F_init_47 : decode b_F_init 47 = .ok (.dup, 1) := by decide +kernel
theorem d_F_init_48 : decode b_F_init 48 = .ok (.sipush 32000, 3) := by decide +kernel
theorem d_F_init_51 : decode b_F_init 51 = .ok (.invokespecial 18, 3) := by decide +kernel
theorem d_F_init_54 : decode b_F_init 54 = .ok (.putfield 28, 3) := by decide +kernel
theorem d_F_init_57 : decode b_F_init 57 = .ok (.aload_n 0, 1) := by decide +kernel
theorem d_F_init_58 : decode b_F_init 58 = .ok (.new 31, 3) := by decide +kernel
theorem d_F_init_61 : decode b_F_init 61 = .ok (.dup, 1) := by decide +kernel
theorem d_F_init_62 : decode b_F_init 62 = .ok (.aload_n 0, 1) := by decide +kernel
theorem d_F_init_63 : decode b_F_init 63 = .ok (.getfield 10, 3) := by decide +kernel
theorem d_F_init_66 : decode b_F_init 66 = .ok (.invokespecial 33, 3) := by decide +kernel
theorem d_F_init_69 : decode b_F_init 69 = .ok (.putfield 36, 3) := by decide +kernel
theorem d_F_init_72 : decode b_F_init 72 = .ok (.aload_n 0, 1) := by decide +kernel
theorem d_F_init_73 : decode b_F_init 73 = .ok (.new 40, 3) := by decide +kernel
theorem d_F_init_76 : decode b_F_init 76 = .ok (.dup, 1) := by decide +kernel
theorem d_F_init_77 : decode b_F_init 77 = .ok (.aload_n 0, 1) := by decide +kernel
theorem d_F_init_78 : decode b_F_init 78 = .ok (.getfield 10, 3) := by decide +kernel
theorem d_F_init_81 : decode b_F_init 81 = .ok (.aload_n 0, 1) := by decide +kernel
theorem d_F_init_82 : decode b_F_init 82 = .ok (.getfield 25, 3) := by decide +kernel
theorem d_F_init_85 : decode b_F_init 85 = .ok (.invokespecial 42, 3) := by decide +kernel
theorem d_F_init_88 : decode b_F_init 88 = .ok (.putfield 45, 3) := by decide +kernel
theorem d_F_init_91 : decode b_F_init 91 = .ok (.aload_n 0, 1) := by decide +kernel
theorem d_F_init_92 : decode b_F_init 92 = .ok (.new 49, 3) := by decide +kernel
theorem d_F_init_95 : decode b_F_init 95 = .ok (.dup, 1) := by decide +kernel
theorem d_F_init_96 : decode b_F_init 96 = .ok (.invokespecial 51, 3) := by decide +kernel
theorem d_F_init_99 : decode b_F_init 99 = .ok (.putfield 52, 3) := by decide +kernel
theorem d_F_init_102 : decode b_F_init 102 = .ok (.aload_n 0, 1) := by decide +kernel
theorem d_F_init_103 : decode b_F_init 103 = .ok (.new 49, 3) := by decide +kernel
theorem d_F_init_106 : decode b_F_init 106 = .ok (.dup, 1) := by decide +kernel
theorem d_F_init_107 : decode b_F_init 107 = .ok (.invokespecial 51, 3) := by decide +kernel
theorem d_F_init_110 : decode b_F_init 110 = .ok (.putfield 56, 3) := by decide +kernel
theorem d_F_init_113 : decode b_F_init 113 = .ok (.return_, 1) := by decide +kernel
theorem d_F_feed_0 : decode b_F_feed 0 = .ok (.aload_n 0, 1) := by decide +kernel
theorem d_F_feed_1 : decode b_F_feed 1 = .ok (.getfield 21, 3) := by decide +kernel
theorem d_F_feed_4 : decode b_F_feed 4 = .ok (.getfield 59, 3) := by decide +kernel
theorem d_F_feed_7 : decode b_F_feed 7 = .ok (.sipush 29980, 3) := by decide +kernel
theorem d_F_feed_10 : decode b_F_feed 10 = .ok (.if_icmp .le 5, 3) := by decide +kernel
theorem d_F_feed_13 : decode b_F_feed 13 = .ok (.iconst 0, 1) := by decide +kernel
theorem d_F_feed_14 : decode b_F_feed 14 = .ok (.ireturn, 1) := by decide +kernel
theorem d_F_feed_15 : decode b_F_feed 15 = .ok (.aload_n 0, 1) := by decide +kernel
theorem d_F_feed_16 : decode b_F_feed 16 = .ok (.getfield 21, 3) := by decide +kernel
theorem d_F_feed_19 : decode b_F_feed 19 = .ok (.iload_n 1, 1) := by decide +kernel
theorem d_F_feed_20 : decode b_F_feed 20 = .ok (.invokevirtual 63, 3) := by decide +kernel
theorem d_F_feed_23 : decode b_F_feed 23 = .ok (.aload_n 0, 1) := by decide +kernel
theorem d_F_feed_24 : decode b_F_feed 24 = .ok (.getfield 21, 3) := by decide +kernel
theorem d_F_feed_27 : decode b_F_feed 27 = .ok (.iload_n 2, 1) := by decide +kernel
theorem d_F_feed_28 : decode b_F_feed 28 = .ok (.invokevirtual 63, 3) := by decide +kernel
theorem d_F_feed_31 : decode b_F_feed 31 = .ok (.aload_n 0, 1) := by decide +kernel
theorem d_F_feed_32 : decode b_F_feed 32 = .ok (.getfield 21, 3) := by decide +kernel
theorem d_F_feed_35 : decode b_F_feed 35 = .ok (.iload_n 3, 1) := by decide +kernel
theorem d_F_feed_36 : decode b_F_feed 36 = .ok (.invokevirtual 63, 3) := by decide +kernel
theorem d_F_feed_39 : decode b_F_feed 39 = .ok (.aload_n 0, 1) := by decide +kernel
theorem d_F_feed_40 : decode b_F_feed 40 = .ok (.getfield 21, 3) := by decide +kernel
theorem d_F_feed_43 : decode b_F_feed 43 = .ok (.iload 4, 2) := by decide +kernel
theorem d_F_feed_45 : decode b_F_feed 45 = .ok (.invokevirtual 63, 3) := by decide +kernel
theorem d_F_feed_48 : decode b_F_feed 48 = .ok (.aload_n 0, 1) := by decide +kernel
theorem d_F_feed_49 : decode b_F_feed 49 = .ok (.getfield 21, 3) := by decide +kernel
theorem d_F_feed_52 : decode b_F_feed 52 = .ok (.iload 5, 2) := by decide +kernel
theorem d_F_feed_54 : decode b_F_feed 54 = .ok (.invokevirtual 63, 3) := by decide +kernel
theorem d_F_feed_57 : decode b_F_feed 57 = .ok (.iconst 1, 1) := by decide +kernel
theorem d_F_feed_58 : decode b_F_feed 58 = .ok (.ireturn, 1) := by decide +kernel
theorem d_F_end_0 : decode b_F_end 0 = .ok (.iload_n 1, 1) := by decide +kernel
theorem d_F_end_1 : decode b_F_end 1 = .ok (.ifCond .lt 14, 3) := by decide +kernel
theorem d_F_end_4 : decode b_F_end 4 = .ok (.iload_n 1, 1) := by decide +kernel
theorem d_F_end_5 : decode b_F_end 5 = .ok (.aload_n 0, 1) := by decide +kernel
theorem d_F_end_6 : decode b_F_end 6 = .ok (.getfield 21, 3) := by decide +kernel
theorem d_F_end_9 : decode b_F_end 9 = .ok (.getfield 59, 3) := by decide +kernel
theorem d_F_end_12 : decode b_F_end 12 = .ok (.if_icmp .le 5, 3) := by decide +kernel
theorem d_F_end_15 : decode b_F_end 15 = .ok (.iconst 0, 1) := by decide +kernel
theorem d_F_end_16 : decode b_F_end 16 = .ok (.ireturn, 1) := by decide +kernel
theorem d_F_end_17 : decode b_F_end 17 = .ok (.aload_n 0, 1) := by decide +kernel
theorem d_F_end_18 : decode b_F_end 18 = .ok (.getfield 25, 3) := by decide +kernel
theorem d_F_end_21 : decode b_F_end 21 = .ok (.iconst 0, 1) := by decide +kernel
theorem d_F_end_22 : decode b_F_end 22 = .ok (.invokevirtual 66, 3) := by decide +kernel
theorem d_F_end_25 : decode b_F_end 25 = .ok (.aload_n 0, 1) := by decide +kernel
theorem d_F_end_26 : decode b_F_end 26 = .ok (.getfield 25, 3) := by decide +kernel
theorem d_F_end_29 : decode b_F_end 29 = .ok (.aload_n 0, 1) := by decide +kernel
theorem d_F_end_30 : decode b_F_end 30 = .ok (.getfield 21, 3) := by decide +kernel
theorem d_F_end_33 : decode b_F_end 33 = .ok (.getfield 69, 3) := by decide +kernel
theorem d_F_end_36 : decode b_F_end 36 = .ok (.iconst 0, 1) := by decide +kernel
theorem d_F_end_37 : decode b_F_end 37 = .ok (.iload_n 1, 1) := by decide +kernel
theorem d_F_end_38 : decode b_F_end 38 = .ok (.invokevirtual 73, 3) := by decide +kernel
theorem d_F_end_41 : decode b_F_end 41 = .ok (.aload_n 0, 1) := by decide +kernel
theorem d_F_end_42 : decode b_F_end 42 = .ok (.getfield 21, 3) := by decide +kernel
theorem d_F_end_45 : decode b_F_end 45 = .ok (.iconst 0, 1) := by decide +kernel
theorem d_F_end_46 : decode b_F_end 46 = .ok (.invokevirtual 66, 3) := by decide +kernel
theorem d_F_end_49 : decode b_F_end 49 = .ok (.iconst 1, 1) := by decide +kernel
theorem d_F_end_50 : decode b_F_end 50 = .ok (.ireturn, 1) := by decide +kernel
theorem d_F_column_0 : decode b_F_column 0 = .ok (.iload_n 1, 1) := by decide +kernel
theorem d_F_column_1 : decode b_F_column 1 = .ok (.ifCond .lt 23, 3) := by decide +kernel
theorem d_F_column_4 : decode b_F_column 4 = .ok (.iload_n 1, 1) := by decide +kernel
theorem d_F_column_5 : decode b_F_column 5 = .ok (.iconst 3, 1) := by decide +kernel
theorem d_F_column_6 : decode b_F_column 6 = .ok (.if_icmp .gt 18, 3) := by decide +kernel
theorem d_F_column_9 : decode b_F_column 9 = .ok (.iload_n 2, 1) := by decide +kernel
theorem d_F_column_10 : decode b_F_column 10 = .ok (.ifCond .lt 14, 3) := by decide +kernel
theorem d_F_column_13 : decode b_F_column 13 = .ok (.iload_n 3, 1) := by decide +kernel
theorem d_F_column_14 : decode b_F_column 14 = .ok (.bipush 16, 2) := by decide +kernel
theorem d_F_column_16 : decode b_F_column 16 = .ok (.if_icmp .gt 8, 3) := by decide +kernel
theorem d_F_column_19 : decode b_F_column 19 = .ok (.iload_n 2, 1) := by decide +kernel
theorem d_F_column_20 : decode b_F_column 20 = .ok (.iload_n 3, 1) := by decide +kernel
theorem d_F_column_21 : decode b_F_column 21 = .ok (.if_icmp .le 5, 3) := by decide +kernel
theorem d_F_column_24 : decode b_F_column 24 = .ok (.iconst 0, 1) := by decide +kernel
theorem d_F_column_25 : decode b_F_column 25 = .ok (.ireturn, 1) := by decide +kernel
theorem d_F_column_26 : decode b_F_column 26 = .ok (.aload_n 0, 1) := by decide +kernel
theorem d_F_column_27 : decode b_F_column 27 = .ok (.getfield 10, 3) := by decide +kernel
theorem d_F_column_30 : decode b_F_column 30 = .ok (.iload_n 1, 1) := by decide +kernel
theorem d_F_column_31 : decode b_F_column 31 = .ok (.putfield 77, 3) := by decide +kernel
theorem d_F_column_34 : decode b_F_column 34 = .ok (.aload_n 0, 1) := by decide +kernel
theorem d_F_column_35 : decode b_F_column 35 = .ok (.getfield 10, 3) := by decide +kernel
theorem d_F_column_38 : decode b_F_column 38 = .ok (.iload_n 2, 1) := by decide +kernel
theorem d_F_column_39 : decode b_F_column 39 = .ok (.putfield 80, 3) := by decide +kernel
theorem d_F_column_42 : decode b_F_column 42 = .ok (.aload_n 0, 1) := by decide +kernel
theorem d_F_column_43 : decode b_F_column 43 = .ok (.getfield 10, 3) := by decide +kernel
theorem d_F_column_46 : decode b_F_column 46 = .ok (.iload_n 3, 1) := by decide +kernel
theorem d_F_column_47 : decode b_F_column 47 = .ok (.putfield 83, 3) := by decide +kernel
theorem d_F_column_50 : decode b_F_column 50 = .ok (.aload_n 0, 1) := by decide +kernel
theorem d_F_column_51 : decode b_F_column 51 = .ok (.getfield 52, 3) := by decide +kernel
theorem d_F_column_54 : decode b_F_column 54 = .ok (.aload_n 0, 1) := by decide +kernel
theorem d_F_column_55 : decode b_F_column 55 = .ok (.getfield 10, 3) := by decide +kernel
theorem d_F_column_58 : decode b_F_column 58 = .ok (.invokevirtual 86, 3) := by decide +kernel
theorem d_F_column_61 : decode b_F_column 61 = .ok (.iconst 1, 1) := by decide +kernel
theorem d_F_column_62 : decode b_F_column 62 = .ok (.ireturn, 1) := by decide +kernel
theorem d_F_add_0 : decode b_F_add 0 = .ok (.iload_n 1, 1) := by decide +kernel
theorem d_F_add_1 : decode b_F_add 1 = .ok (.ifCond .lt 29, 3) := by decide +kernel
theorem d_F_add_4 : decode b_F_add 4 = .ok (.iload_n 1, 1) := by decide +kernel
theorem d_F_add_5 : decode b_F_add 5 = .ok (.aload_n 0, 1) := by decide +kernel
theorem d_F_add_6 : decode b_F_add 6 = .ok (.getfield 10, 3) := by decide +kernel
theorem d_F_add_9 : decode b_F_add 9 = .ok (.getfield 80, 3) := by decide +kernel
theorem d_F_add_12 : decode b_F_add 12 = .ok (.if_icmp .gt 18, 3) := by decide +kernel
theorem d_F_add_15 : decode b_F_add 15 = .ok (.iload_n 2, 1) := by decide +kernel
theorem d_F_add_16 : decode b_F_add 16 = .ok (.ifCond .lt 14, 3) := by decide +kernel
theorem d_F_add_19 : decode b_F_add 19 = .ok (.iload_n 2, 1) := by decide +kernel
theorem d_F_add_20 : decode b_F_add 20 = .ok (.aload_n 0, 1) := by decide +kernel
theorem d_F_add_21 : decode b_F_add 21 = .ok (.getfield 10, 3) := by decide +kernel
theorem d_F_add_24 : decode b_F_add 24 = .ok (.getfield 83, 3) := by decide +kernel
theorem d_F_add_27 : decode b_F_add 27 = .ok (.if_icmp .le 5, 3) := by decide +kernel
theorem d_F_add_30 : decode b_F_add 30 = .ok (.iconst 0, 1) := by decide +kernel
theorem d_F_add_31 : decode b_F_add 31 = .ok (.ireturn, 1) := by decide +kernel
theorem d_F_add_32 : decode b_F_add 32 = .ok (.iload 5, 2) := by decide +kernel
theorem d_F_add_34 : decode b_F_add 34 = .ok (.iconst 1, 1) := by decide +kernel
theorem d_F_add_35 : decode b_F_add 35 = .ok (.if_icmp .lt 19, 3) := by decide +kernel
theorem d_F_add_38 : decode b_F_add 38 = .ok (.iload 5, 2) := by decide +kernel
theorem d_F_add_40 : decode b_F_add 40 = .ok (.sipush 1000, 3) := by decide +kernel
theorem d_F_add_43 : decode b_F_add 43 = .ok (.aload_n 0, 1) := by decide +kernel
theorem d_F_add_44 : decode b_F_add 44 = .ok (.getfield 52, 3) := by decide +kernel
theorem d_F_add_47 : decode b_F_add 47 = .ok (.getfield 89, 3) := by decide +kernel
theorem d_F_add_50 : decode b_F_add 50 = .ok (.isub, 1) := by decide +kernel
theorem d_F_add_51 : decode b_F_add 51 = .ok (.if_icmp .le 5, 3) := by decide +kernel
theorem d_F_add_54 : decode b_F_add 54 = .ok (.iconst 0, 1) := by decide +kernel
theorem d_F_add_55 : decode b_F_add 55 = .ok (.ireturn, 1) := by decide +kernel
theorem d_F_add_56 : decode b_F_add 56 = .ok (.iload_n 2, 1) := by decide +kernel
theorem d_F_add_57 : decode b_F_add 57 = .ok (.aload_n 0, 1) := by decide +kernel
theorem d_F_add_58 : decode b_F_add 58 = .ok (.getfield 10, 3) := by decide +kernel
theorem d_F_add_61 : decode b_F_add 61 = .ok (.getfield 83, 3) := by decide +kernel
theorem d_F_add_64 : decode b_F_add 64 = .ok (.if_icmp .ne 7, 3) := by decide +kernel
theorem d_F_add_67 : decode b_F_add 67 = .ok (.iconst 1, 1) := by decide +kernel
theorem d_F_add_68 : decode b_F_add 68 = .ok (.goto 4, 3) := by decide +kernel
theorem d_F_add_71 : decode b_F_add 71 = .ok (.iconst 0, 1) := by decide +kernel
theorem d_F_add_72 : decode b_F_add 72 = .ok (.istore 6, 2) := by decide +kernel
theorem d_F_add_74 : decode b_F_add 74 = .ok (.iload 6, 2) := by decide +kernel
theorem d_F_add_76 : decode b_F_add 76 = .ok (.ifCond .eq 15, 3) := by decide +kernel
theorem d_F_add_79 : decode b_F_add 79 = .ok (.aload_n 0, 1) := by decide +kernel
theorem d_F_add_80 : decode b_F_add 80 = .ok (.lload_n 3, 1) := by decide +kernel
theorem d_F_add_81 : decode b_F_add 81 = .ok (.iload 5, 2) := by decide +kernel
theorem d_F_add_83 : decode b_F_add 83 = .ok (.invokevirtual 92, 3) := by decide +kernel
theorem d_F_add_86 : decode b_F_add 86 = .ok (.ifCond .ne 5, 3) := by decide +kernel
theorem d_F_add_89 : decode b_F_add 89 = .ok (.iconst 0, 1) := by decide +kernel
theorem d_F_add_90 : decode b_F_add 90 = .ok (.ireturn, 1) := by decide +kernel
theorem d_F_add_91 : decode b_F_add 91 = .ok (.iconst 0, 1) := by decide +kernel
theorem d_F_add_92 : decode b_F_add 92 = .ok (.istore 7, 2) := by decide +kernel
theorem d_F_add_94 : decode b_F_add 94 = .ok (.iload 7, 2) := by decide +kernel
theorem d_F_add_96 : decode b_F_add 96 = .ok (.iload 5, 2) := by decide +kernel
theorem d_F_add_98 : decode b_F_add 98 = .ok (.if_icmp .ge 30, 3) := by decide +kernel
theorem d_F_add_101 : decode b_F_add 101 = .ok (.aload_n 0, 1) := by decide +kernel
theorem d_F_add_102 : decode b_F_add 102 = .ok (.getfield 52, 3) := by decide +kernel
theorem d_F_add_105 : decode b_F_add 105 = .ok (.iload_n 1, 1) := by decide +kernel
theorem d_F_add_106 : decode b_F_add 106 = .ok (.iload_n 2, 1) := by decide +kernel
theorem d_F_add_107 : decode b_F_add 107 = .ok (.iload 6, 2) := by decide +kernel
theorem d_F_add_109 : decode b_F_add 109 = .ok (.invokevirtual 96, 3) := by decide +kernel
theorem d_F_add_112 : decode b_F_add 112 = .ok (.iload 6, 2) := by decide +kernel
theorem d_F_add_114 : decode b_F_add 114 = .ok (.ifCond .eq 8, 3) := by decide +kernel
theorem d_F_add_117 : decode b_F_add 117 = .ok (.aload_n 0, 1) := by decide +kernel
theorem d_F_add_118 : decode b_F_add 118 = .ok (.lload_n 3, 1) := by decide +kernel
theorem d_F_add_119 : decode b_F_add 119 = .ok (.invokevirtual 100, 3) := by decide +kernel
theorem d_F_add_122 : decode b_F_add 122 = .ok (.iinc 7 1, 3) := by decide +kernel
theorem d_F_add_125 : decode b_F_add 125 = .ok (.goto (-31), 3) := by decide +kernel
theorem d_F_add_128 : decode b_F_add 128 = .ok (.iconst 1, 1) := by decide +kernel
theorem d_F_add_129 : decode b_F_add 129 = .ok (.ireturn, 1) := by decide +kernel
theorem d_F_takesValue_0 : decode b_F_takesValue 0 = .ok (.aload_n 0, 1) := by decide +kernel
theorem d_F_takesValue_1 : decode b_F_takesValue 1 = .ok (.getfield 10, 3) := by decide +kernel
theorem d_F_takesValue_4 : decode b_F_takesValue 4 = .ok (.getfield 77, 3) := by decide +kernel
theorem d_F_takesValue_7 : decode b_F_takesValue 7 = .ok (.iconst 3, 1) := by decide +kernel
theorem d_F_takesValue_8 : decode b_F_takesValue 8 = .ok (.if_icmp .eq 12, 3) := by decide +kernel
theorem d_F_takesValue_11 : decode b_F_takesValue 11 = .ok (.aload_n 0, 1) := by decide +kernel
theorem d_F_takesValue_12 : decode b_F_takesValue 12 = .ok (.getfield 10, 3) := by decide +kernel
theorem d_F_takesValue_15 : decode b_F_takesValue 15 = .ok (.lload_n 1, 1) := by decide +kernel
theorem d_F_takesValue_16 : decode b_F_takesValue 16 = .ok (.invokevirtual 104, 3) := by decide +kernel
theorem d_F_takesValue_19 : decode b_F_takesValue 19 = .ok (.ireturn, 1) := by decide +kernel
theorem d_F_takesValue_20 : decode b_F_takesValue 20 = .ok (.aload_n 0, 1) := by decide +kernel
theorem d_F_takesValue_21 : decode b_F_takesValue 21 = .ok (.getfield 25, 3) := by decide +kernel
theorem d_F_takesValue_24 : decode b_F_takesValue 24 = .ok (.getfield 59, 3) := by decide +kernel
theorem d_F_takesValue_27 : decode b_F_takesValue 27 = .ok (.sipush 255, 3) := by decide +kernel
theorem d_F_takesValue_30 : decode b_F_takesValue 30 = .ok (.if_icmp .gt 37, 3) := by decide +kernel
theorem d_F_takesValue_33 : decode b_F_takesValue 33 = .ok (.iload_n 3, 1) := by decide +kernel
theorem d_F_takesValue_34 : decode b_F_takesValue 34 = .ok (.i2l, 1) := by decide +kernel
theorem d_F_takesValue_35 : decode b_F_takesValue 35 = .ok (.aload_n 0, 1) := by decide +kernel
theorem d_F_takesValue_36 : decode b_F_takesValue 36 = .ok (.getfield 25, 3) := by decide +kernel
theorem d_F_takesValue_39 : decode b_F_takesValue 39 = .ok (.getfield 59, 3) := by decide +kernel
theorem d_F_takesValue_42 : decode b_F_takesValue 42 = .ok (.i2l, 1) := by decide +kernel
theorem d_F_takesValue_43 : decode b_F_takesValue 43 = .ok (.lmul, 1) := by decide +kernel
theorem d_F_takesValue_44 : decode b_F_takesValue 44 = .ok (.sipush 20000, 3) := by decide +kernel
theorem d_F_takesValue_47 : decode b_F_takesValue 47 = .ok (.aload_n 0, 1) := by decide +kernel
theorem d_F_takesValue_48 : decode b_F_takesValue 48 = .ok (.getfield 52, 3) := by decide +kernel
theorem d_F_takesValue_51 : decode b_F_takesValue 51 = .ok (.getfield 108, 3) := by decide +kernel
theorem d_F_takesValue_54 : decode b_F_takesValue 54 = .ok (.invokevirtual 112, 3) := by decide +kernel
theorem d_F_takesValue_57 : decode b_F_takesValue 57 = .ok (.isub, 1) := by decide +kernel
theorem d_F_takesValue_58 : decode b_F_takesValue 58 = .ok (.i2l, 1) := by decide +kernel
theorem d_F_takesValue_59 : decode b_F_takesValue 59 = .ok (.lcmp, 1) := by decide +kernel
theorem d_F_takesValue_60 : decode b_F_takesValue 60 = .ok (.ifCond .gt 7, 3) := by decide +kernel
theorem d_F_takesValue_63 : decode b_F_takesValue 63 = .ok (.iconst 1, 1) := by decide +kernel
theorem d_F_takesValue_64 : decode b_F_takesValue 64 = .ok (.goto 4, 3) := by decide +kernel
theorem d_F_takesValue_67 : decode b_F_takesValue 67 = .ok (.iconst 0, 1) := by decide +kernel
theorem d_F_takesValue_68 : decode b_F_takesValue 68 = .ok (.ireturn, 1) := by decide +kernel
theorem d_F_addValue_0 : decode b_F_addValue 0 = .ok (.aload_n 0, 1) := by decide +kernel
theorem d_F_addValue_1 : decode b_F_addValue 1 = .ok (.getfield 10, 3) := by decide +kernel
theorem d_F_addValue_4 : decode b_F_addValue 4 = .ok (.getfield 77, 3) := by decide +kernel
theorem d_F_addValue_7 : decode b_F_addValue 7 = .ok (.iconst 3, 1) := by decide +kernel
theorem d_F_addValue_8 : decode b_F_addValue 8 = .ok (.if_icmp .ne 33, 3) := by decide +kernel
theorem d_F_addValue_11 : decode b_F_addValue 11 = .ok (.aload_n 0, 1) := by decide +kernel
theorem d_F_addValue_12 : decode b_F_addValue 12 = .ok (.getfield 52, 3) := by decide +kernel
theorem d_F_addValue_15 : decode b_F_addValue 15 = .ok (.getfield 108, 3) := by decide +kernel
theorem d_F_addValue_18 : decode b_F_addValue 18 = .ok (.iconst 0, 1) := by decide +kernel
theorem d_F_addValue_19 : decode b_F_addValue 19 = .ok (.aload_n 0, 1) := by decide +kernel
theorem d_F_addValue_20 : decode b_F_addValue 20 = .ok (.getfield 25, 3) := by decide +kernel
theorem d_F_addValue_23 : decode b_F_addValue 23 = .ok (.getfield 69, 3) := by decide +kernel
theorem d_F_addValue_26 : decode b_F_addValue 26 = .ok (.iconst 0, 1) := by decide +kernel
theorem d_F_addValue_27 : decode b_F_addValue 27 = .ok (.aload_n 0, 1) := by decide +kernel
theorem d_F_addValue_28 : decode b_F_addValue 28 = .ok (.getfield 25, 3) := by decide +kernel
theorem d_F_addValue_31 : decode b_F_addValue 31 = .ok (.getfield 59, 3) := by decide +kernel
theorem d_F_addValue_34 : decode b_F_addValue 34 = .ok (.invokevirtual 118, 3) := by decide +kernel
theorem d_F_addValue_37 : decode b_F_addValue 37 = .ok (.pop, 1) := by decide +kernel
theorem d_F_addValue_38 : decode b_F_addValue 38 = .ok (.goto 15, 3) := by decide +kernel
theorem d_F_addValue_41 : decode b_F_addValue 41 = .ok (.aload_n 0, 1) := by decide +kernel
theorem d_F_addValue_42 : decode b_F_addValue 42 = .ok (.getfield 52, 3) := by decide +kernel
theorem d_F_addValue_45 : decode b_F_addValue 45 = .ok (.getfield 108, 3) := by decide +kernel
theorem d_F_addValue_48 : decode b_F_addValue 48 = .ok (.lload_n 1, 1) := by decide +kernel
theorem d_F_addValue_49 : decode b_F_addValue 49 = .ok (.invokevirtual 122, 3) := by decide +kernel
theorem d_F_addValue_52 : decode b_F_addValue 52 = .ok (.pop, 1) := by decide +kernel
theorem d_F_addValue_53 : decode b_F_addValue 53 = .ok (.return_, 1) := by decide +kernel
theorem d_F_clear_0 : decode b_F_clear 0 = .ok (.aload_n 0, 1) := by decide +kernel
theorem d_F_clear_1 : decode b_F_clear 1 = .ok (.getfield 52, 3) := by decide +kernel
theorem d_F_clear_4 : decode b_F_clear 4 = .ok (.aload_n 0, 1) := by decide +kernel
theorem d_F_clear_5 : decode b_F_clear 5 = .ok (.getfield 10, 3) := by decide +kernel
theorem d_F_clear_8 : decode b_F_clear 8 = .ok (.invokevirtual 86, 3) := by decide +kernel
theorem d_F_clear_11 : decode b_F_clear 11 = .ok (.return_, 1) := by decide +kernel
theorem d_F_write_0 : decode b_F_write 0 = .ok (.aload_n 0, 1) := by decide +kernel
theorem d_F_write_1 : decode b_F_write 1 = .ok (.getfield 28, 3) := by decide +kernel
theorem d_F_write_4 : decode b_F_write 4 = .ok (.iconst 0, 1) := by decide +kernel
theorem d_F_write_5 : decode b_F_write 5 = .ok (.invokevirtual 66, 3) := by decide +kernel
theorem d_F_write_8 : decode b_F_write 8 = .ok (.aload_n 0, 1) := by decide +kernel
theorem d_F_write_9 : decode b_F_write 9 = .ok (.getfield 52, 3) := by decide +kernel
theorem d_F_write_12 : decode b_F_write 12 = .ok (.getfield 89, 3) := by decide +kernel
theorem d_F_write_15 : decode b_F_write 15 = .ok (.ifCond .eq 19, 3) := by decide +kernel
theorem d_F_write_18 : decode b_F_write 18 = .ok (.iload_n 1, 1) := by decide +kernel
theorem d_F_write_19 : decode b_F_write 19 = .ok (.iconst (-1), 1) := by decide +kernel
theorem d_F_write_20 : decode b_F_write 20 = .ok (.if_icmp .lt 14, 3) := by decide +kernel
theorem d_F_write_23 : decode b_F_write 23 = .ok (.iload_n 1, 1) := by decide +kernel
theorem d_F_write_24 : decode b_F_write 24 = .ok (.aload_n 0, 1) := by decide +kernel
theorem d_F_write_25 : decode b_F_write 25 = .ok (.getfield 10, 3) := by decide +kernel
theorem d_F_write_28 : decode b_F_write 28 = .ok (.invokevirtual 125, 3) := by decide +kernel
theorem d_F_write_31 : decode b_F_write 31 = .ok (.if_icmp .le 5, 3) := by decide +kernel
theorem d_F_write_34 : decode b_F_write 34 = .ok (.iconst (-1), 1) := by decide +kernel
theorem d_F_write_35 : decode b_F_write 35 = .ok (.ireturn, 1) := by decide +kernel
theorem d_F_write_36 : decode b_F_write 36 = .ok (.aload_n 0, 1) := by decide +kernel
theorem d_F_write_37 : decode b_F_write 37 = .ok (.getfield 36, 3) := by decide +kernel
theorem d_F_write_40 : decode b_F_write 40 = .ok (.aload_n 0, 1) := by decide +kernel
theorem d_F_write_41 : decode b_F_write 41 = .ok (.getfield 52, 3) := by decide +kernel
theorem d_F_write_44 : decode b_F_write 44 = .ok (.invokevirtual 128, 3) := by decide +kernel
theorem d_F_write_47 : decode b_F_write 47 = .ok (.iload_n 1, 1) := by decide +kernel
theorem d_F_write_48 : decode b_F_write 48 = .ok (.istore_n 2, 1) := by decide +kernel
theorem d_F_write_49 : decode b_F_write 49 = .ok (.iload_n 1, 1) := by decide +kernel
theorem d_F_write_50 : decode b_F_write 50 = .ok (.iconst (-1), 1) := by decide +kernel
theorem d_F_write_51 : decode b_F_write 51 = .ok (.if_icmp .ne 58, 3) := by decide +kernel
theorem d_F_write_54 : decode b_F_write 54 = .ok (.iconst 0, 1) := by decide +kernel
theorem d_F_write_55 : decode b_F_write 55 = .ok (.istore_n 2, 1) := by decide +kernel
theorem d_F_write_56 : decode b_F_write 56 = .ok (.aload_n 0, 1) := by decide +kernel
theorem d_F_write_57 : decode b_F_write 57 = .ok (.getfield 36, 3) := by decide +kernel
theorem d_F_write_60 : decode b_F_write 60 = .ok (.iconst 0, 1) := by decide +kernel
theorem d_F_write_61 : decode b_F_write 61 = .ok (.invokevirtual 132, 3) := by decide +kernel
theorem d_F_write_64 : decode b_F_write 64 = .ok (.istore_n 3, 1) := by decide +kernel
theorem d_F_write_65 : decode b_F_write 65 = .ok (.iconst 1, 1) := by decide +kernel
theorem d_F_write_66 : decode b_F_write 66 = .ok (.istore 4, 2) := by decide +kernel
theorem d_F_write_68 : decode b_F_write 68 = .ok (.iload 4, 2) := by decide +kernel
theorem d_F_write_70 : decode b_F_write 70 = .ok (.aload_n 0, 1) := by decide +kernel
theorem d_F_write_71 : decode b_F_write 71 = .ok (.getfield 10, 3) := by decide +kernel
theorem d_F_write_74 : decode b_F_write 74 = .ok (.invokevirtual 125, 3) := by decide +kernel
theorem d_F_write_77 : decode b_F_write 77 = .ok (.if_icmp .gt 32, 3) := by decide +kernel
theorem d_F_write_80 : decode b_F_write 80 = .ok (.aload_n 0, 1) := by decide +kernel
theorem d_F_write_81 : decode b_F_write 81 = .ok (.getfield 36, 3) := by decide +kernel
theorem d_F_write_84 : decode b_F_write 84 = .ok (.iload 4, 2) := by decide +kernel
theorem d_F_write_86 : decode b_F_write 86 = .ok (.invokevirtual 132, 3) := by decide +kernel
theorem d_F_write_89 : decode b_F_write 89 = .ok (.istore 5, 2) := by decide +kernel
theorem d_F_write_91 : decode b_F_write 91 = .ok (.iload 5, 2) := by decide +kernel
theorem d_F_write_93 : decode b_F_write 93 = .ok (.iload_n 3, 1) := by decide +kernel
theorem d_F_write_94 : decode b_F_write 94 = .ok (.if_icmp .ge 9, 3) := by decide +kernel
theorem d_F_write_97 : decode b_F_write 97 = .ok (.iload 5, 2) := by decide +kernel
theorem d_F_write_99 : decode b_F_write 99 = .ok (.istore_n 3, 1) := by decide +kernel
theorem d_F_write_100 : decode b_F_write 100 = .ok (.iload 4, 2) := by decide +kernel
theorem d_F_write_102 : decode b_F_write 102 = .ok (.istore_n 2, 1) := by decide +kernel
theorem d_F_write_103 : decode b_F_write 103 = .ok (.iinc 4 1, 3) := by decide +kernel
theorem d_F_write_106 : decode b_F_write 106 = .ok (.goto (-38), 3) := by decide +kernel
theorem d_F_write_109 : decode b_F_write 109 = .ok (.aload_n 0, 1) := by decide +kernel
theorem d_F_write_110 : decode b_F_write 110 = .ok (.aload_n 0, 1) := by decide +kernel
theorem d_F_write_111 : decode b_F_write 111 = .ok (.getfield 36, 3) := by decide +kernel
theorem d_F_write_114 : decode b_F_write 114 = .ok (.iload_n 2, 1) := by decide +kernel
theorem d_F_write_115 : decode b_F_write 115 = .ok (.invokevirtual 132, 3) := by decide +kernel
theorem d_F_write_118 : decode b_F_write 118 = .ok (.putfield 136, 3) := by decide +kernel
theorem d_F_write_121 : decode b_F_write 121 = .ok (.aload_n 0, 1) := by decide +kernel
theorem d_F_write_122 : decode b_F_write 122 = .ok (.iload_n 2, 1) := by decide +kernel
theorem d_F_write_123 : decode b_F_write 123 = .ok (.putfield 139, 3) := by decide +kernel
theorem d_F_write_126 : decode b_F_write 126 = .ok (.aload_n 0, 1) := by decide +kernel
theorem d_F_write_127 : decode b_F_write 127 = .ok (.getfield 36, 3) := by decide +kernel
theorem d_F_write_130 : decode b_F_write 130 = .ok (.aload_n 0, 1) := by decide +kernel
theorem d_F_write_131 : decode b_F_write 131 = .ok (.getfield 28, 3) := by decide +kernel
theorem d_F_write_134 : decode b_F_write 134 = .ok (.iload_n 2, 1) := by decide +kernel
theorem d_F_write_135 : decode b_F_write 135 = .ok (.invokevirtual 141, 3) := by decide +kernel
theorem d_F_write_138 : decode b_F_write 138 = .ok (.aload_n 0, 1) := by decide +kernel
theorem d_F_write_139 : decode b_F_write 139 = .ok (.getfield 28, 3) := by decide +kernel
theorem d_F_write_142 : decode b_F_write 142 = .ok (.getfield 59, 3) := by decide +kernel
theorem d_F_write_145 : decode b_F_write 145 = .ok (.ireturn, 1) := by decide +kernel
theorem d_F_read_0 : decode b_F_read 0 = .ok (.aload_n 0, 1) := by decide +kernel
theorem d_F_read_1 : decode b_F_read 1 = .ok (.getfield 45, 3) := by decide +kernel
theorem d_F_read_4 : decode b_F_read 4 = .ok (.invokevirtual 145, 3) := by decide +kernel
theorem d_F_read_7 : decode b_F_read 7 = .ok (.aload_n 0, 1) := by decide +kernel
theorem d_F_read_8 : decode b_F_read 8 = .ok (.getfield 45, 3) := by decide +kernel
theorem d_F_read_11 : decode b_F_read 11 = .ok (.invokevirtual 148, 3) := by decide +kernel
theorem d_F_read_14 : decode b_F_read 14 = .ok (.aload_n 0, 1) := by decide +kernel
theorem d_F_read_15 : decode b_F_read 15 = .ok (.getfield 45, 3) := by decide +kernel
theorem d_F_read_18 : decode b_F_read 18 = .ok (.aload_n 0, 1) := by decide +kernel
theorem d_F_read_19 : decode b_F_read 19 = .ok (.getfield 56, 3) := by decide +kernel
theorem d_F_read_22 : decode b_F_read 22 = .ok (.invokevirtual 151, 3) := by decide +kernel
theorem d_F_read_25 : decode b_F_read 25 = .ok (.aload_n 0, 1) := by decide +kernel
theorem d_F_read_26 : decode b_F_read 26 = .ok (.getfield 45, 3) := by decide +kernel
theorem d_F_read_29 : decode b_F_read 29 = .ok (.aload_n 0, 1) := by decide +kernel
theorem d_F_read_30 : decode b_F_read 30 = .ok (.getfield 56, 3) := by decide +kernel
theorem d_F_read_33 : decode b_F_read 33 = .ok (.getfield 108, 3) := by decide +kernel
theorem d_F_read_36 : decode b_F_read 36 = .ok (.invokevirtual 154, 3) := by decide +kernel
theorem d_F_read_39 : decode b_F_read 39 = .ok (.aload_n 0, 1) := by decide +kernel
theorem d_F_read_40 : decode b_F_read 40 = .ok (.getfield 45, 3) := by decide +kernel
theorem d_F_read_43 : decode b_F_read 43 = .ok (.aload_n 0, 1) := by decide +kernel
theorem d_F_read_44 : decode b_F_read 44 = .ok (.getfield 56, 3) := by decide +kernel
theorem d_F_read_47 : decode b_F_read 47 = .ok (.getfield 108, 3) := by decide +kernel
theorem d_F_read_50 : decode b_F_read 50 = .ok (.invokevirtual 158, 3) := by decide +kernel
theorem d_F_read_53 : decode b_F_read 53 = .ok (.aload_n 0, 1) := by decide +kernel
theorem d_F_read_54 : decode b_F_read 54 = .ok (.getfield 45, 3) := by decide +kernel
theorem d_F_read_57 : decode b_F_read 57 = .ok (.getfield 161, 3) := by decide +kernel
theorem d_F_read_60 : decode b_F_read 60 = .ok (.getfield 165, 3) := by decide +kernel
theorem d_F_read_63 : decode b_F_read 63 = .ok (.istore_n 1, 1) := by decide +kernel
theorem d_F_read_64 : decode b_F_read 64 = .ok (.iload_n 1, 1) := by decide +kernel
theorem d_F_read_65 : decode b_F_read 65 = .ok (.ifCond .eq 5, 3) := by decide +kernel
theorem d_F_read_68 : decode b_F_read 68 = .ok (.iload_n 1, 1) := by decide +kernel
theorem d_F_read_69 : decode b_F_read 69 = .ok (.ireturn, 1) := by decide +kernel
theorem d_F_read_70 : decode b_F_read 70 = .ok (.aload_n 0, 1) := by decide +kernel
theorem d_F_read_71 : decode b_F_read 71 = .ok (.getfield 52, 3) := by decide +kernel
theorem d_F_read_74 : decode b_F_read 74 = .ok (.astore_n 2, 1) := by decide +kernel
theorem d_F_read_75 : decode b_F_read 75 = .ok (.aload_n 0, 1) := by decide +kernel
theorem d_F_read_76 : decode b_F_read 76 = .ok (.aload_n 0, 1) := by decide +kernel
theorem d_F_read_77 : decode b_F_read 77 = .ok (.getfield 56, 3) := by decide +kernel
theorem d_F_read_80 : decode b_F_read 80 = .ok (.putfield 52, 3) := by decide +kernel
theorem d_F_read_83 : decode b_F_read 83 = .ok (.aload_n 0, 1) := by decide +kernel
theorem d_F_read_84 : decode b_F_read 84 = .ok (.aload_n 2, 1) := by decide +kernel
theorem d_F_read_85 : decode b_F_read 85 = .ok (.putfield 56, 3) := by decide +kernel
theorem d_F_read_88 : decode b_F_read 88 = .ok (.aload_n 0, 1) := by decide +kernel
theorem d_F_read_89 : decode b_F_read 89 = .ok (.aload_n 0, 1) := by decide +kernel
theorem d_F_read_90 : decode b_F_read 90 = .ok (.getfield 45, 3) := by decide +kernel
theorem d_F_read_93 : decode b_F_read 93 = .ok (.getfield 170, 3) := by decide +kernel
theorem d_F_read_96 : decode b_F_read 96 = .ok (.putfield 139, 3) := by decide +kernel
theorem d_F_read_99 : decode b_F_read 99 = .ok (.aload_n 0, 1) := by decide +kernel
theorem d_F_read_100 : decode b_F_read 100 = .ok (.aload_n 0, 1) := by decide +kernel
theorem d_F_read_101 : decode b_F_read 101 = .ok (.getfield 45, 3) := by decide +kernel
theorem d_F_read_104 : decode b_F_read 104 = .ok (.getfield 173, 3) := by decide +kernel
theorem d_F_read_107 : decode b_F_read 107 = .ok (.putfield 136, 3) := by decide +kernel
theorem d_F_read_110 : decode b_F_read 110 = .ok (.iconst 0, 1) := by decide +kernel
theorem d_F_read_111 : decode b_F_read 111 = .ok (.ireturn, 1) := by decide +kernel
theorem d_F_turn_0 : decode b_F_turn 0 = .ok (.aload_n 0, 1) := by decide +kernel
theorem d_F_turn_1 : decode b_F_turn 1 = .ok (.getfield 28, 3) := by decide +kernel
theorem d_F_turn_4 : decode b_F_turn 4 = .ok (.getfield 59, 3) := by decide +kernel
theorem d_F_turn_7 : decode b_F_turn 7 = .ok (.sipush 30000, 3) := by decide +kernel
theorem d_F_turn_10 : decode b_F_turn 10 = .ok (.if_icmp .le 5, 3) := by decide +kernel
theorem d_F_turn_13 : decode b_F_turn 13 = .ok (.iconst 0, 1) := by decide +kernel
theorem d_F_turn_14 : decode b_F_turn 14 = .ok (.ireturn, 1) := by decide +kernel
theorem d_F_turn_15 : decode b_F_turn 15 = .ok (.aload_n 0, 1) := by decide +kernel
theorem d_F_turn_16 : decode b_F_turn 16 = .ok (.getfield 25, 3) := by decide +kernel
theorem d_F_turn_19 : decode b_F_turn 19 = .ok (.iconst 0, 1) := by decide +kernel
theorem d_F_turn_20 : decode b_F_turn 20 = .ok (.invokevirtual 66, 3) := by decide +kernel
theorem d_F_turn_23 : decode b_F_turn 23 = .ok (.aload_n 0, 1) := by decide +kernel
theorem d_F_turn_24 : decode b_F_turn 24 = .ok (.getfield 25, 3) := by decide +kernel
theorem d_F_turn_27 : decode b_F_turn 27 = .ok (.aload_n 0, 1) := by decide +kernel
theorem d_F_turn_28 : decode b_F_turn 28 = .ok (.getfield 28, 3) := by decide +kernel
theorem d_F_turn_31 : decode b_F_turn 31 = .ok (.getfield 69, 3) := by decide +kernel
theorem d_F_turn_34 : decode b_F_turn 34 = .ok (.iconst 0, 1) := by decide +kernel
theorem d_F_turn_35 : decode b_F_turn 35 = .ok (.aload_n 0, 1) := by decide +kernel
theorem d_F_turn_36 : decode b_F_turn 36 = .ok (.getfield 28, 3) := by decide +kernel
theorem d_F_turn_39 : decode b_F_turn 39 = .ok (.getfield 59, 3) := by decide +kernel
theorem d_F_turn_42 : decode b_F_turn 42 = .ok (.invokevirtual 73, 3) := by decide +kernel
theorem d_F_turn_45 : decode b_F_turn 45 = .ok (.iconst 1, 1) := by decide +kernel
theorem d_F_turn_46 : decode b_F_turn 46 = .ok (.ireturn, 1) := by decide +kernel
theorem d_F_about_0 : decode b_F_about 0 = .ok (.iload_n 1, 1) := by decide +kernel
theorem d_F_about_1 : decode b_F_about 1 = .ok (.tableswitch 68 0 3 #[31, 39, 58, 63], 31) := by decide +kernel
theorem d_F_about_32 : decode b_F_about 32 = .ok (.aload_n 0, 1) := by decide +kernel
theorem d_F_about_33 : decode b_F_about 33 = .ok (.getfield 52, 3) := by decide +kernel
theorem d_F_about_36 : decode b_F_about 36 = .ok (.getfield 89, 3) := by decide +kernel
theorem d_F_about_39 : decode b_F_about 39 = .ok (.ireturn, 1) := by decide +kernel
theorem d_F_about_40 : decode b_F_about 40 = .ok (.aload_n 0, 1) := by decide +kernel
theorem d_F_about_41 : decode b_F_about 41 = .ok (.getfield 52, 3) := by decide +kernel
theorem d_F_about_44 : decode b_F_about 44 = .ok (.getfield 89, 3) := by decide +kernel
theorem d_F_about_47 : decode b_F_about 47 = .ok (.aload_n 0, 1) := by decide +kernel
theorem d_F_about_48 : decode b_F_about 48 = .ok (.getfield 52, 3) := by decide +kernel
theorem d_F_about_51 : decode b_F_about 51 = .ok (.getfield 108, 3) := by decide +kernel
theorem d_F_about_54 : decode b_F_about 54 = .ok (.getfield 176, 3) := by decide +kernel
theorem d_F_about_57 : decode b_F_about 57 = .ok (.isub, 1) := by decide +kernel
theorem d_F_about_58 : decode b_F_about 58 = .ok (.ireturn, 1) := by decide +kernel
theorem d_F_about_59 : decode b_F_about 59 = .ok (.aload_n 0, 1) := by decide +kernel
theorem d_F_about_60 : decode b_F_about 60 = .ok (.getfield 139, 3) := by decide +kernel
theorem d_F_about_63 : decode b_F_about 63 = .ok (.ireturn, 1) := by decide +kernel
theorem d_F_about_64 : decode b_F_about 64 = .ok (.aload_n 0, 1) := by decide +kernel
theorem d_F_about_65 : decode b_F_about 65 = .ok (.getfield 136, 3) := by decide +kernel
theorem d_F_about_68 : decode b_F_about 68 = .ok (.ireturn, 1) := by decide +kernel
theorem d_F_about_69 : decode b_F_about 69 = .ok (.iconst (-1), 1) := by decide +kernel
theorem d_F_about_70 : decode b_F_about 70 = .ok (.ireturn, 1) := by decide +kernel
theorem d_F_level_0 : decode b_F_level 0 = .ok (.iload_n 1, 1) := by decide +kernel
theorem d_F_level_1 : decode b_F_level 1 = .ok (.ifCond .lt 14, 3) := by decide +kernel
theorem d_F_level_4 : decode b_F_level 4 = .ok (.iload_n 1, 1) := by decide +kernel
theorem d_F_level_5 : decode b_F_level 5 = .ok (.aload_n 0, 1) := by decide +kernel
theorem d_F_level_6 : decode b_F_level 6 = .ok (.getfield 52, 3) := by decide +kernel
theorem d_F_level_9 : decode b_F_level 9 = .ok (.getfield 89, 3) := by decide +kernel
theorem d_F_level_12 : decode b_F_level 12 = .ok (.if_icmp .lt 5, 3) := by decide +kernel
theorem d_F_level_15 : decode b_F_level 15 = .ok (.iconst (-1), 1) := by decide +kernel
theorem d_F_level_16 : decode b_F_level 16 = .ok (.ireturn, 1) := by decide +kernel
theorem d_F_level_17 : decode b_F_level 17 = .ok (.iload_n 2, 1) := by decide +kernel
theorem d_F_level_18 : decode b_F_level 18 = .ok (.tableswitch 56 0 2 #[26, 36, 46], 26) := by decide +kernel
theorem d_F_level_44 : decode b_F_level 44 = .ok (.aload_n 0, 1) := by decide +kernel
theorem d_F_level_45 : decode b_F_level 45 = .ok (.getfield 52, 3) := by decide +kernel
theorem d_F_level_48 : decode b_F_level 48 = .ok (.getfield 179, 3) := by decide +kernel
theorem d_F_level_51 : decode b_F_level 51 = .ok (.iload_n 1, 1) := by decide +kernel
theorem d_F_level_52 : decode b_F_level 52 = .ok (.baload, 1) := by decide +kernel
theorem d_F_level_53 : decode b_F_level 53 = .ok (.ireturn, 1) := by decide +kernel
theorem d_F_level_54 : decode b_F_level 54 = .ok (.aload_n 0, 1) := by decide +kernel
theorem d_F_level_55 : decode b_F_level 55 = .ok (.getfield 52, 3) := by decide +kernel
theorem d_F_level_58 : decode b_F_level 58 = .ok (.getfield 182, 3) := by decide +kernel
theorem d_F_level_61 : decode b_F_level 61 = .ok (.iload_n 1, 1) := by decide +kernel
theorem d_F_level_62 : decode b_F_level 62 = .ok (.baload, 1) := by decide +kernel
theorem d_F_level_63 : decode b_F_level 63 = .ok (.ireturn, 1) := by decide +kernel
theorem d_F_level_64 : decode b_F_level 64 = .ok (.aload_n 0, 1) := by decide +kernel
theorem d_F_level_65 : decode b_F_level 65 = .ok (.getfield 52, 3) := by decide +kernel
theorem d_F_level_68 : decode b_F_level 68 = .ok (.getfield 185, 3) := by decide +kernel
theorem d_F_level_71 : decode b_F_level 71 = .ok (.iload_n 1, 1) := by decide +kernel
theorem d_F_level_72 : decode b_F_level 72 = .ok (.iaload, 1) := by decide +kernel
theorem d_F_level_73 : decode b_F_level 73 = .ok (.ireturn, 1) := by decide +kernel
theorem d_F_level_74 : decode b_F_level 74 = .ok (.iconst (-1), 1) := by decide +kernel
theorem d_F_level_75 : decode b_F_level 75 = .ok (.ireturn, 1) := by decide +kernel
theorem d_F_value_0 : decode b_F_value 0 = .ok (.aload_n 0, 1) := by decide +kernel
theorem d_F_value_1 : decode b_F_value 1 = .ok (.getfield 52, 3) := by decide +kernel
theorem d_F_value_4 : decode b_F_value 4 = .ok (.getfield 108, 3) := by decide +kernel
theorem d_F_value_7 : decode b_F_value 7 = .ok (.astore_n 2, 1) := by decide +kernel
theorem d_F_value_8 : decode b_F_value 8 = .ok (.aload_n 2, 1) := by decide +kernel
theorem d_F_value_9 : decode b_F_value 9 = .ok (.getfield 189, 3) := by decide +kernel
theorem d_F_value_12 : decode b_F_value 12 = .ok (.ifCond .ne 15, 3) := by decide +kernel
theorem d_F_value_15 : decode b_F_value 15 = .ok (.iload_n 1, 1) := by decide +kernel
theorem d_F_value_16 : decode b_F_value 16 = .ok (.ifCond .lt 11, 3) := by decide +kernel
theorem d_F_value_19 : decode b_F_value 19 = .ok (.iload_n 1, 1) := by decide +kernel
theorem d_F_value_20 : decode b_F_value 20 = .ok (.aload_n 2, 1) := by decide +kernel
theorem d_F_value_21 : decode b_F_value 21 = .ok (.getfield 176, 3) := by decide +kernel
theorem d_F_value_24 : decode b_F_value 24 = .ok (.if_icmp .lt 7, 3) := by decide +kernel
theorem d_F_value_27 : decode b_F_value 27 = .ok (.lconst 0, 1) := by decide +kernel
theorem d_F_value_28 : decode b_F_value 28 = .ok (.goto 9, 3) := by decide +kernel
theorem d_F_value_31 : decode b_F_value 31 = .ok (.aload_n 2, 1) := by decide +kernel
theorem d_F_value_32 : decode b_F_value 32 = .ok (.getfield 193, 3) := by decide +kernel
theorem d_F_value_35 : decode b_F_value 35 = .ok (.iload_n 1, 1) := by decide +kernel
theorem d_F_value_36 : decode b_F_value 36 = .ok (.laload, 1) := by decide +kernel
theorem d_F_value_37 : decode b_F_value 37 = .ok (.lreturn, 1) := by decide +kernel
theorem d_F_length_0 : decode b_F_length 0 = .ok (.aload_n 0, 1) := by decide +kernel
theorem d_F_length_1 : decode b_F_length 1 = .ok (.getfield 52, 3) := by decide +kernel
theorem d_F_length_4 : decode b_F_length 4 = .ok (.getfield 108, 3) := by decide +kernel
theorem d_F_length_7 : decode b_F_length 7 = .ok (.astore_n 2, 1) := by decide +kernel
theorem d_F_length_8 : decode b_F_length 8 = .ok (.aload_n 2, 1) := by decide +kernel
theorem d_F_length_9 : decode b_F_length 9 = .ok (.getfield 189, 3) := by decide +kernel
theorem d_F_length_12 : decode b_F_length 12 = .ok (.ifCond .eq 15, 3) := by decide +kernel
theorem d_F_length_15 : decode b_F_length 15 = .ok (.iload_n 1, 1) := by decide +kernel
theorem d_F_length_16 : decode b_F_length 16 = .ok (.ifCond .lt 11, 3) := by decide +kernel
theorem d_F_length_19 : decode b_F_length 19 = .ok (.iload_n 1, 1) := by decide +kernel
theorem d_F_length_20 : decode b_F_length 20 = .ok (.aload_n 2, 1) := by decide +kernel
theorem d_F_length_21 : decode b_F_length 21 = .ok (.getfield 176, 3) := by decide +kernel
theorem d_F_length_24 : decode b_F_length 24 = .ok (.if_icmp .lt 7, 3) := by decide +kernel
theorem d_F_length_27 : decode b_F_length 27 = .ok (.iconst (-1), 1) := by decide +kernel
theorem d_F_length_28 : decode b_F_length 28 = .ok (.goto 8, 3) := by decide +kernel
theorem d_F_length_31 : decode b_F_length 31 = .ok (.aload_n 2, 1) := by decide +kernel
theorem d_F_length_32 : decode b_F_length 32 = .ok (.iload_n 1, 1) := by decide +kernel
theorem d_F_length_33 : decode b_F_length 33 = .ok (.invokevirtual 197, 3) := by decide +kernel
theorem d_F_length_36 : decode b_F_length 36 = .ok (.ireturn, 1) := by decide +kernel
theorem d_F_byteOf_0 : decode b_F_byteOf 0 = .ok (.aload_n 0, 1) := by decide +kernel
theorem d_F_byteOf_1 : decode b_F_byteOf 1 = .ok (.getfield 52, 3) := by decide +kernel
theorem d_F_byteOf_4 : decode b_F_byteOf 4 = .ok (.getfield 108, 3) := by decide +kernel
theorem d_F_byteOf_7 : decode b_F_byteOf 7 = .ok (.astore_n 3, 1) := by decide +kernel
theorem d_F_byteOf_8 : decode b_F_byteOf 8 = .ok (.aload_n 3, 1) := by decide +kernel
theorem d_F_byteOf_9 : decode b_F_byteOf 9 = .ok (.getfield 189, 3) := by decide +kernel
theorem d_F_byteOf_12 : decode b_F_byteOf 12 = .ok (.ifCond .eq 28, 3) := by decide +kernel
theorem d_F_byteOf_15 : decode b_F_byteOf 15 = .ok (.iload_n 1, 1) := by decide +kernel
theorem d_F_byteOf_16 : decode b_F_byteOf 16 = .ok (.ifCond .lt 24, 3) := by decide +kernel
theorem d_F_byteOf_19 : decode b_F_byteOf 19 = .ok (.iload_n 1, 1) := by decide +kernel
theorem d_F_byteOf_20 : decode b_F_byteOf 20 = .ok (.aload_n 3, 1) := by decide +kernel
theorem d_F_byteOf_21 : decode b_F_byteOf 21 = .ok (.getfield 176, 3) := by decide +kernel
theorem d_F_byteOf_24 : decode b_F_byteOf 24 = .ok (.if_icmp .ge 16, 3) := by decide +kernel
theorem d_F_byteOf_27 : decode b_F_byteOf 27 = .ok (.iload_n 2, 1) := by decide +kernel
theorem d_F_byteOf_28 : decode b_F_byteOf 28 = .ok (.ifCond .lt 12, 3) := by decide +kernel
theorem d_F_byteOf_31 : decode b_F_byteOf 31 = .ok (.iload_n 2, 1) := by decide +kernel
theorem d_F_byteOf_32 : decode b_F_byteOf 32 = .ok (.aload_n 3, 1) := by decide +kernel
theorem d_F_byteOf_33 : decode b_F_byteOf 33 = .ok (.iload_n 1, 1) := by decide +kernel
theorem d_F_byteOf_34 : decode b_F_byteOf 34 = .ok (.invokevirtual 197, 3) := by decide +kernel
theorem d_F_byteOf_37 : decode b_F_byteOf 37 = .ok (.if_icmp .lt 5, 3) := by decide +kernel
theorem d_F_byteOf_40 : decode b_F_byteOf 40 = .ok (.iconst (-1), 1) := by decide +kernel
theorem d_F_byteOf_41 : decode b_F_byteOf 41 = .ok (.ireturn, 1) := by decide +kernel
theorem d_F_byteOf_42 : decode b_F_byteOf 42 = .ok (.aload_n 3, 1) := by decide +kernel
theorem d_F_byteOf_43 : decode b_F_byteOf 43 = .ok (.iload_n 1, 1) := by decide +kernel
theorem d_F_byteOf_44 : decode b_F_byteOf 44 = .ok (.iload_n 2, 1) := by decide +kernel
theorem d_F_byteOf_45 : decode b_F_byteOf 45 = .ok (.invokevirtual 200, 3) := by decide +kernel
theorem d_F_byteOf_48 : decode b_F_byteOf 48 = .ok (.ireturn, 1) := by decide +kernel
theorem d_F_most_0 : decode b_F_most 0 = .ok (.aload_n 0, 1) := by decide +kernel
theorem d_F_most_1 : decode b_F_most 1 = .ok (.getfield 52, 3) := by decide +kernel
theorem d_F_most_4 : decode b_F_most 4 = .ok (.getfield 108, 3) := by decide +kernel
theorem d_F_most_7 : decode b_F_most 7 = .ok (.iload_n 1, 1) := by decide +kernel
theorem d_F_most_8 : decode b_F_most 8 = .ok (.invokevirtual 204, 3) := by decide +kernel
theorem d_F_most_11 : decode b_F_most 11 = .ok (.ireturn, 1) := by decide +kernel
theorem d_F_output_0 : decode b_F_output 0 = .ok (.iload_n 1, 1) := by decide +kernel
theorem d_F_output_1 : decode b_F_output 1 = .ok (.ifCond .lt 14, 3) := by decide +kernel
theorem d_F_output_4 : decode b_F_output 4 = .ok (.iload_n 1, 1) := by decide +kernel
theorem d_F_output_5 : decode b_F_output 5 = .ok (.aload_n 0, 1) := by decide +kernel
theorem d_F_output_6 : decode b_F_output 6 = .ok (.getfield 28, 3) := by decide +kernel
theorem d_F_output_9 : decode b_F_output 9 = .ok (.getfield 59, 3) := by decide +kernel
theorem d_F_output_12 : decode b_F_output 12 = .ok (.if_icmp .lt 7, 3) := by decide +kernel
theorem d_F_output_15 : decode b_F_output 15 = .ok (.iconst (-1), 1) := by decide +kernel
theorem d_F_output_16 : decode b_F_output 16 = .ok (.goto 16, 3) := by decide +kernel
theorem d_F_output_19 : decode b_F_output 19 = .ok (.aload_n 0, 1) := by decide +kernel
theorem d_F_output_20 : decode b_F_output 20 = .ok (.getfield 28, 3) := by decide +kernel
theorem d_F_output_23 : decode b_F_output 23 = .ok (.getfield 69, 3) := by decide +kernel
theorem d_F_output_26 : decode b_F_output 26 = .ok (.iload_n 1, 1) := by decide +kernel
theorem d_F_output_27 : decode b_F_output 27 = .ok (.baload, 1) := by decide +kernel
theorem d_F_output_28 : decode b_F_output 28 = .ok (.sipush 255, 3) := by decide +kernel
theorem d_F_output_31 : decode b_F_output 31 = .ok (.iand, 1) := by decide +kernel
theorem d_F_output_32 : decode b_F_output 32 = .ok (.ireturn, 1) := by decide +kernel
theorem d_F_widthOf_0 : decode b_F_widthOf 0 = .ok (.iconst 0, 1) := by decide +kernel
theorem d_F_widthOf_1 : decode b_F_widthOf 1 = .ok (.istore_n 2, 1) := by decide +kernel
theorem d_F_widthOf_2 : decode b_F_widthOf 2 = .ok (.iload_n 2, 1) := by decide +kernel
theorem d_F_widthOf_3 : decode b_F_widthOf 3 = .ok (.bipush 64, 2) := by decide +kernel
theorem d_F_widthOf_5 : decode b_F_widthOf 5 = .ok (.if_icmp .ge 17, 3) := by decide +kernel
theorem d_F_widthOf_8 : decode b_F_widthOf 8 = .ok (.lload_n 0, 1) := by decide +kernel
theorem d_F_widthOf_9 : decode b_F_widthOf 9 = .ok (.iload_n 2, 1) := by decide +kernel
theorem d_F_widthOf_10 : decode b_F_widthOf 10 = .ok (.lushr, 1) := by decide +kernel
theorem d_F_widthOf_11 : decode b_F_widthOf 11 = .ok (.lconst 0, 1) := by decide +kernel
theorem d_F_widthOf_12 : decode b_F_widthOf 12 = .ok (.lcmp, 1) := by decide +kernel
theorem d_F_widthOf_13 : decode b_F_widthOf 13 = .ok (.ifCond .eq 9, 3) := by decide +kernel
theorem d_F_widthOf_16 : decode b_F_widthOf 16 = .ok (.iinc 2 1, 3) := by decide +kernel
theorem d_F_widthOf_19 : decode b_F_widthOf 19 = .ok (.goto (-17), 3) := by decide +kernel
theorem d_F_widthOf_22 : decode b_F_widthOf 22 = .ok (.iload_n 2, 1) := by decide +kernel
theorem d_F_widthOf_23 : decode b_F_widthOf 23 = .ok (.ireturn, 1) := by decide +kernel
theorem d_F_zigzag_0 : decode b_F_zigzag 0 = .ok (.lload_n 0, 1) := by decide +kernel
theorem d_F_zigzag_1 : decode b_F_zigzag 1 = .ok (.iconst 1, 1) := by decide +kernel
theorem d_F_zigzag_2 : decode b_F_zigzag 2 = .ok (.lshl, 1) := by decide +kernel
theorem d_F_zigzag_3 : decode b_F_zigzag 3 = .ok (.lload_n 0, 1) := by decide +kernel
theorem d_F_zigzag_4 : decode b_F_zigzag 4 = .ok (.bipush 63, 2) := by decide +kernel
theorem d_F_zigzag_6 : decode b_F_zigzag 6 = .ok (.lshr, 1) := by decide +kernel
theorem d_F_zigzag_7 : decode b_F_zigzag 7 = .ok (.lxor, 1) := by decide +kernel
theorem d_F_zigzag_8 : decode b_F_zigzag 8 = .ok (.lreturn, 1) := by decide +kernel
theorem d_F_unzigzag_0 : decode b_F_unzigzag 0 = .ok (.lload_n 0, 1) := by decide +kernel
theorem d_F_unzigzag_1 : decode b_F_unzigzag 1 = .ok (.iconst 1, 1) := by decide +kernel
theorem d_F_unzigzag_2 : decode b_F_unzigzag 2 = .ok (.lushr, 1) := by decide +kernel
theorem d_F_unzigzag_3 : decode b_F_unzigzag 3 = .ok (.lload_n 0, 1) := by decide +kernel
theorem d_F_unzigzag_4 : decode b_F_unzigzag 4 = .ok (.lconst 1, 1) := by decide +kernel
theorem d_F_unzigzag_5 : decode b_F_unzigzag 5 = .ok (.land, 1) := by decide +kernel
theorem d_F_unzigzag_6 : decode b_F_unzigzag 6 = .ok (.lneg, 1) := by decide +kernel
theorem d_F_unzigzag_7 : decode b_F_unzigzag 7 = .ok (.lxor, 1) := by decide +kernel
theorem d_F_unzigzag_8 : decode b_F_unzigzag 8 = .ok (.lreturn, 1) := by decide +kernel
theorem d_F_checkOf_0 : decode b_F_checkOf 0 = .ok (.iconst (-1), 1) := by decide +kernel
theorem d_F_checkOf_1 : decode b_F_checkOf 1 = .ok (.istore_n 3, 1) := by decide +kernel
theorem d_F_checkOf_2 : decode b_F_checkOf 2 = .ok (.iload_n 1, 1) := by decide +kernel
theorem d_F_checkOf_3 : decode b_F_checkOf 3 = .ok (.istore 4, 2) := by decide +kernel
theorem d_F_checkOf_5 : decode b_F_checkOf 5 = .ok (.iload 4, 2) := by decide +kernel
theorem d_F_checkOf_7 : decode b_F_checkOf 7 = .ok (.iload_n 2, 1) := by decide +kernel
theorem d_F_checkOf_8 : decode b_F_checkOf 8 = .ok (.if_icmp .ge 46, 3) := by decide +kernel
theorem d_F_checkOf_11 : decode b_F_checkOf 11 = .ok (.iload_n 3, 1) := by decide +kernel
theorem d_F_checkOf_12 : decode b_F_checkOf 12 = .ok (.aload_n 0, 1) := by decide +kernel
theorem d_F_checkOf_13 : decode b_F_checkOf 13 = .ok (.iload 4, 2) := by decide +kernel
theorem d_F_checkOf_15 : decode b_F_checkOf 15 = .ok (.baload, 1) := by decide +kernel
theorem d_F_checkOf_16 : decode b_F_checkOf 16 = .ok (.sipush 255, 3) := by decide +kernel
theorem d_F_checkOf_19 : decode b_F_checkOf 19 = .ok (.iand, 1) := by decide +kernel
theorem d_F_checkOf_20 : decode b_F_checkOf 20 = .ok (.ixor, 1) := by decide +kernel
theorem d_F_checkOf_21 : decode b_F_checkOf 21 = .ok (.istore_n 3, 1) := by decide +kernel
theorem d_F_checkOf_22 : decode b_F_checkOf 22 = .ok (.iload_n 3, 1) := by decide +kernel
theorem d_F_checkOf_23 : decode b_F_checkOf 23 = .ok (.iconst 4, 1) := by decide +kernel
theorem d_F_checkOf_24 : decode b_F_checkOf 24 = .ok (.iushr, 1) := by decide +kernel
theorem d_F_checkOf_25 : decode b_F_checkOf 25 = .ok (.getstatic 208, 3) := by decide +kernel
theorem d_F_checkOf_28 : decode b_F_checkOf 28 = .ok (.iload_n 3, 1) := by decide +kernel
theorem d_F_checkOf_29 : decode b_F_checkOf 29 = .ok (.bipush 15, 2) := by decide +kernel
theorem d_F_checkOf_31 : decode b_F_checkOf 31 = .ok (.iand, 1) := by decide +kernel
theorem d_F_checkOf_32 : decode b_F_checkOf 32 = .ok (.iaload, 1) := by decide +kernel
theorem d_F_checkOf_33 : decode b_F_checkOf 33 = .ok (.ixor, 1) := by decide +kernel
theorem d_F_checkOf_34 : decode b_F_checkOf 34 = .ok (.istore_n 3, 1) := by decide +kernel
theorem d_F_checkOf_35 : decode b_F_checkOf 35 = .ok (.iload_n 3, 1) := by decide +kernel
theorem d_F_checkOf_36 : decode b_F_checkOf 36 = .ok (.iconst 4, 1) := by decide +kernel
theorem d_F_checkOf_37 : decode b_F_checkOf 37 = .ok (.iushr, 1) := by decide +kernel
theorem d_F_checkOf_38 : decode b_F_checkOf 38 = .ok (.getstatic 208, 3) := by decide +kernel
theorem d_F_checkOf_41 : decode b_F_checkOf 41 = .ok (.iload_n 3, 1) := by decide +kernel
theorem d_F_checkOf_42 : decode b_F_checkOf 42 = .ok (.bipush 15, 2) := by decide +kernel
theorem d_F_checkOf_44 : decode b_F_checkOf 44 = .ok (.iand, 1) := by decide +kernel
theorem d_F_checkOf_45 : decode b_F_checkOf 45 = .ok (.iaload, 1) := by decide +kernel
theorem d_F_checkOf_46 : decode b_F_checkOf 46 = .ok (.ixor, 1) := by decide +kernel
theorem d_F_checkOf_47 : decode b_F_checkOf 47 = .ok (.istore_n 3, 1) := by decide +kernel
theorem d_F_checkOf_48 : decode b_F_checkOf 48 = .ok (.iinc 4 1, 3) := by decide +kernel
theorem d_F_checkOf_51 : decode b_F_checkOf 51 = .ok (.goto (-46), 3) := by decide +kernel
theorem d_F_checkOf_54 : decode b_F_checkOf 54 = .ok (.iload_n 3, 1) := by decide +kernel
theorem d_F_checkOf_55 : decode b_F_checkOf 55 = .ok (.iconst (-1), 1) := by decide +kernel
theorem d_F_checkOf_56 : decode b_F_checkOf 56 = .ok (.ixor, 1) := by decide +kernel
theorem d_F_checkOf_57 : decode b_F_checkOf 57 = .ok (.ireturn, 1) := by decide +kernel
theorem d_M_init_0 : decode b_M_init 0 = .ok (.aload_n 0, 1) := by decide +kernel
theorem d_M_init_1 : decode b_M_init 1 = .ok (.invokespecial 1, 3) := by decide +kernel
theorem d_M_init_4 : decode b_M_init 4 = .ok (.aload_n 0, 1) := by decide +kernel
theorem d_M_init_5 : decode b_M_init 5 = .ok (.sipush 1000, 3) := by decide +kernel
theorem d_M_init_8 : decode b_M_init 8 = .ok (.newarray .int, 2) := by decide +kernel
theorem d_M_init_10 : decode b_M_init 10 = .ok (.putfield 7, 3) := by decide +kernel
theorem d_M_init_13 : decode b_M_init 13 = .ok (.aload_n 0, 1) := by decide +kernel
theorem d_M_init_14 : decode b_M_init 14 = .ok (.sipush 1000, 3) := by decide +kernel
theorem d_M_init_17 : decode b_M_init 17 = .ok (.newarray .int, 2) := by decide +kernel
theorem d_M_init_19 : decode b_M_init 19 = .ok (.putfield 13, 3) := by decide +kernel
theorem d_M_init_22 : decode b_M_init 22 = .ok (.aload_n 0, 1) := by decide +kernel
theorem d_M_init_23 : decode b_M_init 23 = .ok (.sipush 1008, 3) := by decide +kernel
theorem d_M_init_26 : decode b_M_init 26 = .ok (.newarray .int, 2) := by decide +kernel
theorem d_M_init_28 : decode b_M_init 28 = .ok (.putfield 16, 3) := by decide +kernel
theorem d_M_init_31 : decode b_M_init 31 = .ok (.aload_n 0, 1) := by decide +kernel
theorem d_M_init_32 : decode b_M_init 32 = .ok (.sipush 1008, 3) := by decide +kernel
theorem d_M_init_35 : decode b_M_init 35 = .ok (.newarray .int, 2) := by decide +kernel
theorem d_M_init_37 : decode b_M_init 37 = .ok (.putfield 19, 3) := by decide +kernel
theorem d_M_init_40 : decode b_M_init 40 = .ok (.aload_n 0, 1) := by decide +kernel
theorem d_M_init_41 : decode b_M_init 41 = .ok (.sipush 1000, 3) := by decide +kernel
theorem d_M_init_44 : decode b_M_init 44 = .ok (.newarray .long, 2) := by decide +kernel
theorem d_M_init_46 : decode b_M_init 46 = .ok (.putfield 22, 3) := by decide +kernel
theorem d_M_init_49 : decode b_M_init 49 = .ok (.aload_n 0, 1) := by decide +kernel
theorem d_M_init_50 : decode b_M_init 50 = .ok (.sipush 1000, 3) := by decide +kernel
theorem d_M_init_53 : decode b_M_init 53 = .ok (.newarray .long, 2) := by decide +kernel
theorem d_M_init_55 : decode b_M_init 55 = .ok (.putfield 26, 3) := by decide +kernel
theorem d_M_init_58 : decode b_M_init 58 = .ok (.aload_n 0, 1) := by decide +kernel
theorem d_M_init_59 : decode b_M_init 59 = .ok (.sipush 1000, 3) := by decide +kernel
theorem d_M_init_62 : decode b_M_init 62 = .ok (.newarray .long, 2) := by decide +kernel
theorem d_M_init_64 : decode b_M_init 64 = .ok (.putfield 29, 3) := by decide +kernel
theorem d_M_init_67 : decode b_M_init 67 = .ok (.aload_n 0, 1) := by decide +kernel
theorem d_M_init_68 : decode b_M_init 68 = .ok (.sipush 1001, 3) := by decide +kernel
theorem d_M_init_71 : decode b_M_init 71 = .ok (.newarray .int, 2) := by decide +kernel
theorem d_M_init_73 : decode b_M_init 73 = .ok (.putfield 32, 3) := by decide +kernel
theorem d_M_init_76 : decode b_M_init 76 = .ok (.aload_n 0, 1) := by decide +kernel
theorem d_M_init_77 : decode b_M_init 77 = .ok (.sipush 1001, 3) := by decide +kernel
theorem d_M_init_80 : decode b_M_init 80 = .ok (.newarray .int, 2) := by decide +kernel
theorem d_M_init_82 : decode b_M_init 82 = .ok (.putfield 35, 3) := by decide +kernel
theorem d_M_init_85 : decode b_M_init 85 = .ok (.aload_n 0, 1) := by decide +kernel
theorem d_M_init_86 : decode b_M_init 86 = .ok (.sipush 1001, 3) := by decide +kernel
theorem d_M_init_89 : decode b_M_init 89 = .ok (.newarray .int, 2) := by decide +kernel
theorem d_M_init_91 : decode b_M_init 91 = .ok (.putfield 38, 3) := by decide +kernel
theorem d_M_init_94 : decode b_M_init 94 = .ok (.aload_n 0, 1) := by decide +kernel
theorem d_M_init_95 : decode b_M_init 95 = .ok (.sipush 20000, 3) := by decide +kernel
theorem d_M_init_98 : decode b_M_init 98 = .ok (.newarray .int, 2) := by decide +kernel
theorem d_M_init_100 : decode b_M_init 100 = .ok (.putfield 41, 3) := by decide +kernel
theorem d_M_init_103 : decode b_M_init 103 = .ok (.aload_n 0, 1) := by decide +kernel
theorem d_M_init_104 : decode b_M_init 104 = .ok (.sipush 20000, 3) := by decide +kernel
theorem d_M_init_107 : decode b_M_init 107 = .ok (.newarray .int, 2) := by decide +kernel
theorem d_M_init_109 : decode b_M_init 109 = .ok (.putfield 44, 3) := by decide +kernel
theorem d_M_init_112 : decode b_M_init 112 = .ok (.aload_n 0, 1) := by decide +kernel
theorem d_M_init_113 : decode b_M_init 113 = .ok (.sipush 20000, 3) := by decide +kernel
theorem d_M_init_116 : decode b_M_init 116 = .ok (.newarray .int, 2) := by decide +kernel
theorem d_M_init_118 : decode b_M_init 118 = .ok (.putfield 47, 3) := by decide +kernel
theorem d_M_init_121 : decode b_M_init 121 = .ok (.aload_n 0, 1) := by decide +kernel
theorem d_M_init_122 : decode b_M_init 122 = .ok (.sipush 30000, 3) := by decide +kernel
theorem d_M_init_125 : decode b_M_init 125 = .ok (.newarray .int, 2) := by decide +kernel
theorem d_M_init_127 : decode b_M_init 127 = .ok (.putfield 50, 3) := by decide +kernel
theorem d_M_init_130 : decode b_M_init 130 = .ok (.aload_n 0, 1) := by decide +kernel
theorem d_M_init_131 : decode b_M_init 131 = .ok (.sipush 30000, 3) := by decide +kernel
theorem d_M_init_134 : decode b_M_init 134 = .ok (.newarray .int, 2) := by decide +kernel
theorem d_M_init_136 : decode b_M_init 136 = .ok (.putfield 53, 3) := by decide +kernel
theorem d_M_init_139 : decode b_M_init 139 = .ok (.aload_n 0, 1) := by decide +kernel
theorem d_M_init_140 : decode b_M_init 140 = .ok (.ldc 56, 2) := by decide +kernel
theorem d_M_init_142 : decode b_M_init 142 = .ok (.newarray .int, 2) := by decide +kernel
theorem d_M_init_144 : decode b_M_init 144 = .ok (.putfield 57, 3) := by decide +kernel
theorem d_M_init_147 : decode b_M_init 147 = .ok (.aload_n 0, 1) := by decide +kernel
theorem d_M_init_148 : decode b_M_init 148 = .ok (.ldc 56, 2) := by decide +kernel
theorem d_M_init_150 : decode b_M_init 150 = .ok (.newarray .int, 2) := by decide +kernel
theorem d_M_init_152 : decode b_M_init 152 = .ok (.putfield 60, 3) := by decide +kernel
theorem d_M_init_155 : decode b_M_init 155 = .ok (.aload_n 0, 1) := by decide +kernel
theorem d_M_init_156 : decode b_M_init 156 = .ok (.sipush 2000, 3) := by decide +kernel
theorem d_M_init_159 : decode b_M_init 159 = .ok (.newarray .long, 2) := by decide +kernel
theorem d_M_init_161 : decode b_M_init 161 = .ok (.putfield 63, 3) := by decide +kernel
theorem d_M_init_164 : decode b_M_init 164 = .ok (.aload_n 0, 1) := by decide +kernel
theorem d_M_init_165 : decode b_M_init 165 = .ok (.sipush 1008, 3) := by decide +kernel
theorem d_M_init_168 : decode b_M_init 168 = .ok (.newarray .int, 2) := by decide +kernel
theorem d_M_init_170 : decode b_M_init 170 = .ok (.putfield 66, 3) := by decide +kernel
theorem d_M_init_173 : decode b_M_init 173 = .ok (.aload_n 0, 1) := by decide +kernel
theorem d_M_init_174 : decode b_M_init 174 = .ok (.sipush 1000, 3) := by decide +kernel
theorem d_M_init_177 : decode b_M_init 177 = .ok (.newarray .int, 2) := by decide +kernel
theorem d_M_init_179 : decode b_M_init 179 = .ok (.putfield 69, 3) := by decide +kernel
theorem d_M_init_182 : decode b_M_init 182 = .ok (.aload_n 0, 1) := by decide +kernel
theorem d_M_init_183 : decode b_M_init 183 = .ok (.sipush 1000, 3) := by decide +kernel
theorem d_M_init_186 : decode b_M_init 186 = .ok (.newarray .int, 2) := by decide +kernel
theorem d_M_init_188 : decode b_M_init 188 = .ok (.putfield 72, 3) := by decide +kernel
theorem d_M_init_191 : decode b_M_init 191 = .ok (.aload_n 0, 1) := by decide +kernel
theorem d_M_init_192 : decode b_M_init 192 = .ok (.iconst 2, 1) := by decide +kernel
theorem d_M_init_193 : decode b_M_init 193 = .ok (.newarray .long, 2) := by decide +kernel
theorem d_M_init_195 : decode b_M_init 195 = .ok (.putfield 75, 3) := by decide +kernel
theorem d_M_init_198 : decode b_M_init 198 = .ok (.aload_n 0, 1) := by decide +kernel
theorem d_M_init_199 : decode b_M_init 199 = .ok (.iconst 2, 1) := by decide +kernel
theorem d_M_init_200 : decode b_M_init 200 = .ok (.newarray .int, 2) := by decide +kernel
theorem d_M_init_202 : decode b_M_init 202 = .ok (.putfield 78, 3) := by decide +kernel
theorem d_M_init_205 : decode b_M_init 205 = .ok (.aload_n 0, 1) := by decide +kernel
theorem d_M_init_206 : decode b_M_init 206 = .ok (.sipush 512, 3) := by decide +kernel
theorem d_M_init_209 : decode b_M_init 209 = .ok (.newarray .int, 2) := by decide +kernel
theorem d_M_init_211 : decode b_M_init 211 = .ok (.putfield 81, 3) := by decide +kernel
theorem d_M_init_214 : decode b_M_init 214 = .ok (.return_, 1) := by decide +kernel
theorem d_M_put_0 : decode b_M_put 0 = .ok (.aload_n 0, 1) := by decide +kernel
theorem d_M_put_1 : decode b_M_put 1 = .ok (.getfield 57, 3) := by decide +kernel
theorem d_M_put_4 : decode b_M_put 4 = .ok (.aload_n 0, 1) := by decide +kernel
theorem d_M_put_5 : decode b_M_put 5 = .ok (.getfield 88, 3) := by decide +kernel
theorem d_M_put_8 : decode b_M_put 8 = .ok (.iload_n 1, 1) := by decide +kernel
theorem d_M_put_9 : decode b_M_put 9 = .ok (.sipush 255, 3) := by decide +kernel
theorem d_M_put_12 : decode b_M_put 12 = .ok (.iand, 1) := by decide +kernel
theorem d_M_put_13 : decode b_M_put 13 = .ok (.iastore, 1) := by decide +kernel
theorem d_M_put_14 : decode b_M_put 14 = .ok (.aload_n 0, 1) := by decide +kernel
theorem d_M_put_15 : decode b_M_put 15 = .ok (.dup, 1) := by decide +kernel
theorem d_M_put_16 : decode b_M_put 16 = .ok (.getfield 88, 3) := by decide +kernel
theorem d_M_put_19 : decode b_M_put 19 = .ok (.iconst 1, 1) := by decide +kernel
theorem d_M_put_20 : decode b_M_put 20 = .ok (.iadd, 1) := by decide +kernel
theorem d_M_put_21 : decode b_M_put 21 = .ok (.putfield 88, 3) := by decide +kernel
theorem d_M_put_24 : decode b_M_put 24 = .ok (.return_, 1) := by decide +kernel
theorem d_M_varint_0 : decode b_M_varint 0 = .ok (.lconst 0, 1) := by decide +kernel
theorem d_M_varint_1 : decode b_M_varint 1 = .ok (.lstore_n 2, 1) := by decide +kernel
theorem d_M_varint_2 : decode b_M_varint 2 = .ok (.iconst 0, 1) := by decide +kernel
theorem d_M_varint_3 : decode b_M_varint 3 = .ok (.istore 4, 2) := by decide +kernel
theorem d_M_varint_5 : decode b_M_varint 5 = .ok (.aload_n 0, 1) := by decide +kernel
theorem d_M_varint_6 : decode b_M_varint 6 = .ok (.getfield 91, 3) := by decide +kernel
theorem d_M_varint_9 : decode b_M_varint 9 = .ok (.ifCond .ne 102, 3) := by decide +kernel
theorem d_M_varint_12 : decode b_M_varint 12 = .ok (.aload_n 0, 1) := by decide +kernel
theorem d_M_varint_13 : decode b_M_varint 13 = .ok (.getfield 94, 3) := by decide +kernel
theorem d_M_varint_16 : decode b_M_varint 16 = .ok (.iload_n 1, 1) := by decide +kernel
theorem d_M_varint_17 : decode b_M_varint 17 = .ok (.if_icmp .lt 11, 3) := by decide +kernel
theorem d_M_varint_20 : decode b_M_varint 20 = .ok (.aload_n 0, 1) := by decide +kernel
theorem d_M_varint_21 : decode b_M_varint 21 = .ok (.iconst 1, 1) := by decide +kernel
theorem d_M_varint_22 : decode b_M_varint 22 = .ok (.putfield 91, 3) := by decide +kernel
theorem d_M_varint_25 : decode b_M_varint 25 = .ok (.goto (-20), 3) := by decide +kernel
theorem d_M_varint_28 : decode b_M_varint 28 = .ok (.aload_n 0, 1) := by decide +kernel
theorem d_M_varint_29 : decode b_M_varint 29 = .ok (.getfield 53, 3) := by decide +kernel
theorem d_M_varint_32 : decode b_M_varint 32 = .ok (.aload_n 0, 1) := by decide +kernel
theorem d_M_varint_33 : decode b_M_varint 33 = .ok (.getfield 94, 3) := by decide +kernel
theorem d_M_varint_36 : decode b_M_varint 36 = .ok (.iaload, 1) := by decide +kernel
theorem d_M_varint_37 : decode b_M_varint 37 = .ok (.istore 5, 2) := by decide +kernel
theorem d_M_varint_39 : decode b_M_varint 39 = .ok (.aload_n 0, 1) := by decide +kernel
theorem d_M_varint_40 : decode b_M_varint 40 = .ok (.dup, 1) := by decide +kernel
theorem d_M_varint_41 : decode b_M_varint 41 = .ok (.getfield 94, 3) := by decide +kernel
theorem d_M_varint_44 : decode b_M_varint 44 = .ok (.iconst 1, 1) := by decide +kernel
theorem d_M_varint_45 : decode b_M_varint 45 = .ok (.iadd, 1) := by decide +kernel
theorem d_M_varint_46 : decode b_M_varint 46 = .ok (.putfield 94, 3) := by decide +kernel
theorem d_M_varint_49 : decode b_M_varint 49 = .ok (.iload 4, 2) := by decide +kernel
theorem d_M_varint_51 : decode b_M_varint 51 = .ok (.bipush 9, 2) := by decide +kernel
theorem d_M_varint_53 : decode b_M_varint 53 = .ok (.if_icmp .ne 9, 3) := by decide +kernel
theorem d_M_varint_56 : decode b_M_varint 56 = .ok (.iload 5, 2) := by decide +kernel
theorem d_M_varint_58 : decode b_M_varint 58 = .ok (.iconst 1, 1) := by decide +kernel
theorem d_M_varint_59 : decode b_M_varint 59 = .ok (.if_icmp .gt 13, 3) := by decide +kernel
theorem d_M_varint_62 : decode b_M_varint 62 = .ok (.iload 4, 2) := by decide +kernel
theorem d_M_varint_64 : decode b_M_varint 64 = .ok (.ifCond .le 16, 3) := by decide +kernel
theorem d_M_varint_67 : decode b_M_varint 67 = .ok (.iload 5, 2) := by decide +kernel
theorem d_M_varint_69 : decode b_M_varint 69 = .ok (.ifCond .ne 11, 3) := by decide +kernel
theorem d_M_varint_72 : decode b_M_varint 72 = .ok (.aload_n 0, 1) := by decide +kernel
theorem d_M_varint_73 : decode b_M_varint 73 = .ok (.iconst 2, 1) := by decide +kernel
theorem d_M_varint_74 : decode b_M_varint 74 = .ok (.putfield 91, 3) := by decide +kernel
theorem d_M_varint_77 : decode b_M_varint 77 = .ok (.goto 31, 3) := by decide +kernel
theorem d_M_varint_80 : decode b_M_varint 80 = .ok (.lload_n 2, 1) := by decide +kernel
theorem d_M_varint_81 : decode b_M_varint 81 = .ok (.iload 5, 2) := by decide +kernel
theorem d_M_varint_83 : decode b_M_varint 83 = .ok (.bipush 127, 2) := by decide +kernel
theorem d_M_varint_85 : decode b_M_varint 85 = .ok (.iand, 1) := by decide +kernel
theorem d_M_varint_86 : decode b_M_varint 86 = .ok (.i2l, 1) := by decide +kernel
theorem d_M_varint_87 : decode b_M_varint 87 = .ok (.bipush 7, 2) := by decide +kernel
theorem d_M_varint_89 : decode b_M_varint 89 = .ok (.iload 4, 2) := by decide +kernel
theorem d_M_varint_91 : decode b_M_varint 91 = .ok (.imul, 1) := by decide +kernel
theorem d_M_varint_92 : decode b_M_varint 92 = .ok (.lshl, 1) := by decide +kernel
theorem d_M_varint_93 : decode b_M_varint 93 = .ok (.lor, 1) := by decide +kernel
theorem d_M_varint_94 : decode b_M_varint 94 = .ok (.lstore_n 2, 1) := by decide +kernel
theorem d_M_varint_95 : decode b_M_varint 95 = .ok (.iload 5, 2) := by decide +kernel
theorem d_M_varint_97 : decode b_M_varint 97 = .ok (.sipush 128, 3) := by decide +kernel
theorem d_M_varint_100 : decode b_M_varint 100 = .ok (.if_icmp .ge 5, 3) := by decide +kernel
theorem d_M_varint_103 : decode b_M_varint 103 = .ok (.lload_n 2, 1) := by decide +kernel
theorem d_M_varint_104 : decode b_M_varint 104 = .ok (.lreturn, 1) := by decide +kernel
theorem d_M_varint_105 : decode b_M_varint 105 = .ok (.iinc 4 1, 3) := by decide +kernel
theorem d_M_varint_108 : decode b_M_varint 108 = .ok (.goto (-103), 3) := by decide +kernel
theorem d_M_varint_111 : decode b_M_varint 111 = .ok (.lconst 0, 1) := by decide +kernel
theorem d_M_varint_112 : decode b_M_varint 112 = .ok (.lreturn, 1) := by decide +kernel
theorem d_M_putVarint_0 : decode b_M_putVarint 0 = .ok (.lload_n 1, 1) := by decide +kernel
theorem d_M_putVarint_1 : decode b_M_putVarint 1 = .ok (.lstore_n 3, 1) := by decide +kernel
theorem d_M_putVarint_2 : decode b_M_putVarint 2 = .ok (.lload_n 3, 1) := by decide +kernel
theorem d_M_putVarint_3 : decode b_M_putVarint 3 = .ok (.lconst 0, 1) := by decide +kernel
theorem d_M_putVarint_4 : decode b_M_putVarint 4 = .ok (.lcmp, 1) := by decide +kernel
theorem d_M_putVarint_5 : decode b_M_putVarint 5 = .ok (.ifCond .lt 11, 3) := by decide +kernel
theorem d_M_putVarint_8 : decode b_M_putVarint 8 = .ok (.lload_n 3, 1) := by decide +kernel
theorem d_M_putVarint_9 : decode b_M_putVarint 9 = .ok (.ldc2_w 97, 3) := by decide +kernel
theorem d_M_putVarint_12 : decode b_M_putVarint 12 = .ok (.lcmp, 1) := by decide +kernel
theorem d_M_putVarint_13 : decode b_M_putVarint 13 = .ok (.ifCond .le 25, 3) := by decide +kernel
theorem d_M_putVarint_16 : decode b_M_putVarint 16 = .ok (.aload_n 0, 1) := by decide +kernel
theorem d_M_putVarint_17 : decode b_M_putVarint 17 = .ok (.lload_n 3, 1) := by decide +kernel
theorem d_M_putVarint_18 : decode b_M_putVarint 18 = .ok (.ldc2_w 97, 3) := by decide +kernel
theorem d_M_putVarint_21 : decode b_M_putVarint 21 = .ok (.land, 1) := by decide +kernel
theorem d_M_putVarint_22 : decode b_M_putVarint 22 = .ok (.l2i, 1) := by decide +kernel
theorem d_M_putVarint_23 : decode b_M_putVarint 23 = .ok (.sipush 128, 3) := by decide +kernel
theorem d_M_putVarint_26 : decode b_M_putVarint 26 = .ok (.iadd, 1) := by decide +kernel
theorem d_M_putVarint_27 : decode b_M_putVarint 27 = .ok (.invokevirtual 99, 3) := by decide +kernel
theorem d_M_putVarint_30 : decode b_M_putVarint 30 = .ok (.lload_n 3, 1) := by decide +kernel
theorem d_M_putVarint_31 : decode b_M_putVarint 31 = .ok (.bipush 7, 2) := by decide +kernel
theorem d_M_putVarint_33 : decode b_M_putVarint 33 = .ok (.lushr, 1) := by decide +kernel
theorem d_M_putVarint_34 : decode b_M_putVarint 34 = .ok (.lstore_n 3, 1) := by decide +kernel
theorem d_M_putVarint_35 : decode b_M_putVarint 35 = .ok (.goto (-33), 3) := by decide +kernel
theorem d_M_putVarint_38 : decode b_M_putVarint 38 = .ok (.aload_n 0, 1) := by decide +kernel
theorem d_M_putVarint_39 : decode b_M_putVarint 39 = .ok (.lload_n 3, 1) := by decide +kernel
theorem d_M_putVarint_40 : decode b_M_putVarint 40 = .ok (.l2i, 1) := by decide +kernel
theorem d_M_putVarint_41 : decode b_M_putVarint 41 = .ok (.invokevirtual 99, 3) := by decide +kernel
theorem d_M_putVarint_44 : decode b_M_putVarint 44 = .ok (.return_, 1) := by decide +kernel
theorem d_M_putFixed_0 : decode b_M_putFixed 0 = .ok (.iconst 0, 1) := by decide +kernel
theorem d_M_putFixed_1 : decode b_M_putFixed 1 = .ok (.istore 4, 2) := by decide +kernel
theorem d_M_putFixed_3 : decode b_M_putFixed 3 = .ok (.iload 4, 2) := by decide +kernel
theorem d_M_putFixed_5 : decode b_M_putFixed 5 = .ok (.iload_n 3, 1) := by decide +kernel
theorem d_M_putFixed_6 : decode b_M_putFixed 6 = .ok (.if_icmp .ge 21, 3) := by decide +kernel
theorem d_M_putFixed_9 : decode b_M_putFixed 9 = .ok (.aload_n 0, 1) := by decide +kernel
theorem d_M_putFixed_10 : decode b_M_putFixed 10 = .ok (.lload_n 1, 1) := by decide +kernel
theorem d_M_putFixed_11 : decode b_M_putFixed 11 = .ok (.bipush 8, 2) := by decide +kernel
theorem d_M_putFixed_13 : decode b_M_putFixed 13 = .ok (.iload 4, 2) := by decide +kernel
theorem d_M_putFixed_15 : decode b_M_putFixed 15 = .ok (.imul, 1) := by decide +kernel
theorem d_M_putFixed_16 : decode b_M_putFixed 16 = .ok (.lushr, 1) := by decide +kernel
theorem d_M_putFixed_17 : decode b_M_putFixed 17 = .ok (.l2i, 1) := by decide +kernel
theorem d_M_putFixed_18 : decode b_M_putFixed 18 = .ok (.invokevirtual 99, 3) := by decide +kernel
theorem d_M_putFixed_21 : decode b_M_putFixed 21 = .ok (.iinc 4 1, 3) := by decide +kernel
theorem d_M_putFixed_24 : decode b_M_putFixed 24 = .ok (.goto (-21), 3) := by decide +kernel
theorem d_M_putFixed_27 : decode b_M_putFixed 27 = .ok (.return_, 1) := by decide +kernel
theorem d_M_fixed_0 : decode b_M_fixed 0 = .ok (.aload_n 0, 1) := by decide +kernel
theorem d_M_fixed_1 : decode b_M_fixed 1 = .ok (.getfield 91, 3) := by decide +kernel
theorem d_M_fixed_4 : decode b_M_fixed 4 = .ok (.ifCond .ne 18, 3) := by decide +kernel
theorem d_M_fixed_7 : decode b_M_fixed 7 = .ok (.iload_n 2, 1) := by decide +kernel
theorem d_M_fixed_8 : decode b_M_fixed 8 = .ok (.aload_n 0, 1) := by decide +kernel
theorem d_M_fixed_9 : decode b_M_fixed 9 = .ok (.getfield 94, 3) := by decide +kernel
theorem d_M_fixed_12 : decode b_M_fixed 12 = .ok (.isub, 1) := by decide +kernel
theorem d_M_fixed_13 : decode b_M_fixed 13 = .ok (.iload_n 1, 1) := by decide +kernel
theorem d_M_fixed_14 : decode b_M_fixed 14 = .ok (.if_icmp .ge 8, 3) := by decide +kernel
theorem d_M_fixed_17 : decode b_M_fixed 17 = .ok (.aload_n 0, 1) := by decide +kernel
theorem d_M_fixed_18 : decode b_M_fixed 18 = .ok (.iconst 1, 1) := by decide +kernel
theorem d_M_fixed_19 : decode b_M_fixed 19 = .ok (.putfield 91, 3) := by decide +kernel
theorem d_M_fixed_22 : decode b_M_fixed 22 = .ok (.aload_n 0, 1) := by decide +kernel
theorem d_M_fixed_23 : decode b_M_fixed 23 = .ok (.getfield 91, 3) := by decide +kernel
theorem d_M_fixed_26 : decode b_M_fixed 26 = .ok (.ifCond .eq 5, 3) := by decide +kernel
theorem d_M_fixed_29 : decode b_M_fixed 29 = .ok (.lconst 0, 1) := by decide +kernel
theorem d_M_fixed_30 : decode b_M_fixed 30 = .ok (.lreturn, 1) := by decide +kernel
theorem d_M_fixed_31 : decode b_M_fixed 31 = .ok (.lconst 0, 1) := by decide +kernel
theorem d_M_fixed_32 : decode b_M_fixed 32 = .ok (.lstore_n 3, 1) := by decide +kernel
theorem d_M_fixed_33 : decode b_M_fixed 33 = .ok (.iload_n 1, 1) := by decide +kernel
theorem d_M_fixed_34 : decode b_M_fixed 34 = .ok (.iconst 1, 1) := by decide +kernel
theorem d_M_fixed_35 : decode b_M_fixed 35 = .ok (.isub, 1) := by decide +kernel
theorem d_M_fixed_36 : decode b_M_fixed 36 = .ok (.istore 5, 2) := by decide +kernel
theorem d_M_fixed_38 : decode b_M_fixed 38 = .ok (.iload 5, 2) := by decide +kernel
theorem d_M_fixed_40 : decode b_M_fixed 40 = .ok (.ifCond .lt 28, 3) := by decide +kernel
theorem d_M_fixed_43 : decode b_M_fixed 43 = .ok (.lload_n 3, 1) := by decide +kernel
theorem d_M_fixed_44 : decode b_M_fixed 44 = .ok (.bipush 8, 2) := by decide +kernel
theorem d_M_fixed_46 : decode b_M_fixed 46 = .ok (.lshl, 1) := by decide +kernel
theorem d_M_fixed_47 : decode b_M_fixed 47 = .ok (.aload_n 0, 1) := by decide +kernel
theorem d_M_fixed_48 : decode b_M_fixed 48 = .ok (.getfield 53, 3) := by decide +kernel
theorem d_M_fixed_51 : decode b_M_fixed 51 = .ok (.aload_n 0, 1) := by decide +kernel
theorem d_M_fixed_52 : decode b_M_fixed 52 = .ok (.getfield 94, 3) := by decide +kernel
theorem d_M_fixed_55 : decode b_M_fixed 55 = .ok (.iload 5, 2) := by decide +kernel
theorem d_M_fixed_57 : decode b_M_fixed 57 = .ok (.iadd, 1) := by decide +kernel
theorem d_M_fixed_58 : decode b_M_fixed 58 = .ok (.iaload, 1) := by decide +kernel
theorem d_M_fixed_59 : decode b_M_fixed 59 = .ok (.i2l, 1) := by decide +kernel
theorem d_M_fixed_60 : decode b_M_fixed 60 = .ok (.lor, 1) := by decide +kernel
theorem d_M_fixed_61 : decode b_M_fixed 61 = .ok (.lstore_n 3, 1) := by decide +kernel
theorem d_M_fixed_62 : decode b_M_fixed 62 = .ok (.iinc 5 (-1), 3) := by decide +kernel
theorem d_M_fixed_65 : decode b_M_fixed 65 = .ok (.goto (-27), 3) := by decide +kernel
theorem d_M_fixed_68 : decode b_M_fixed 68 = .ok (.aload_n 0, 1) := by decide +kernel
theorem d_M_fixed_69 : decode b_M_fixed 69 = .ok (.dup, 1) := by decide +kernel
theorem d_M_fixed_70 : decode b_M_fixed 70 = .ok (.getfield 94, 3) := by decide +kernel
theorem d_M_fixed_73 : decode b_M_fixed 73 = .ok (.iload_n 1, 1) := by decide +kernel
theorem d_M_fixed_74 : decode b_M_fixed 74 = .ok (.iadd, 1) := by decide +kernel
theorem d_M_fixed_75 : decode b_M_fixed 75 = .ok (.putfield 94, 3) := by decide +kernel
theorem d_M_fixed_78 : decode b_M_fixed 78 = .ok (.lload_n 3, 1) := by decide +kernel
theorem d_M_fixed_79 : decode b_M_fixed 79 = .ok (.lreturn, 1) := by decide +kernel
theorem d_M_alike_0 : decode b_M_alike 0 = .ok (.iload_n 1, 1) := by decide +kernel
theorem d_M_alike_1 : decode b_M_alike 1 = .ok (.istore_n 3, 1) := by decide +kernel
theorem d_M_alike_2 : decode b_M_alike 2 = .ok (.iload_n 3, 1) := by decide +kernel
theorem d_M_alike_3 : decode b_M_alike 3 = .ok (.iload_n 2, 1) := by decide +kernel
theorem d_M_alike_4 : decode b_M_alike 4 = .ok (.if_icmp .ge 18, 3) := by decide +kernel
theorem d_M_alike_7 : decode b_M_alike 7 = .ok (.aload_n 0, 1) := by decide +kernel
theorem d_M_alike_8 : decode b_M_alike 8 = .ok (.iload_n 3, 1) := by decide +kernel
theorem d_M_alike_9 : decode b_M_alike 9 = .ok (.iaload, 1) := by decide +kernel
theorem d_M_alike_10 : decode b_M_alike 10 = .ok (.aload_n 0, 1) := by decide +kernel
theorem d_M_alike_11 : decode b_M_alike 11 = .ok (.iload_n 1, 1) := by decide +kernel
theorem d_M_alike_12 : decode b_M_alike 12 = .ok (.iaload, 1) := by decide +kernel
theorem d_M_alike_13 : decode b_M_alike 13 = .ok (.if_icmp .ne 9, 3) := by decide +kernel
theorem d_M_alike_16 : decode b_M_alike 16 = .ok (.iinc 3 1, 3) := by decide +kernel
theorem d_M_alike_19 : decode b_M_alike 19 = .ok (.goto (-17), 3) := by decide +kernel
theorem d_M_alike_22 : decode b_M_alike 22 = .ok (.iload_n 3, 1) := by decide +kernel
theorem d_M_alike_23 : decode b_M_alike 23 = .ok (.iload_n 1, 1) := by decide +kernel
theorem d_M_alike_24 : decode b_M_alike 24 = .ok (.isub, 1) := by decide +kernel
theorem d_M_alike_25 : decode b_M_alike 25 = .ok (.ireturn, 1) := by decide +kernel
theorem d_M_writeRuns_0 : decode b_M_writeRuns 0 = .ok (.iconst 0, 1) := by decide +kernel
theorem d_M_writeRuns_1 : decode b_M_writeRuns 1 = .ok (.istore 4, 2) := by decide +kernel
theorem d_M_writeRuns_3 : decode b_M_writeRuns 3 = .ok (.iload 4, 2) := by decide +kernel
theorem d_M_writeRuns_5 : decode b_M_writeRuns 5 = .ok (.iload_n 2, 1) := by decide +kernel
theorem d_M_writeRuns_6 : decode b_M_writeRuns 6 = .ok (.if_icmp .ge 217, 3) := by decide +kernel
theorem d_M_writeRuns_9 : decode b_M_writeRuns 9 = .ok (.aload_n 1, 1) := by decide +kernel
theorem d_M_writeRuns_10 : decode b_M_writeRuns 10 = .ok (.iload 4, 2) := by decide +kernel
theorem d_M_writeRuns_12 : decode b_M_writeRuns 12 = .ok (.iload_n 2, 1) := by decide +kernel
theorem d_M_writeRuns_13 : decode b_M_writeRuns 13 = .ok (.invokestatic 103, 3) := by decide +kernel
theorem d_M_writeRuns_16 : decode b_M_writeRuns 16 = .ok (.istore 5, 2) := by decide +kernel
theorem d_M_writeRuns_18 : decode b_M_writeRuns 18 = .ok (.iload 5, 2) := by decide +kernel
theorem d_M_writeRuns_20 : decode b_M_writeRuns 20 = .ok (.bipush 8, 2) := by decide +kernel
theorem d_M_writeRuns_22 : decode b_M_writeRuns 22 = .ok (.if_icmp .lt 50, 3) := by decide +kernel
theorem d_M_writeRuns_25 : decode b_M_writeRuns 25 = .ok (.aload_n 0, 1) := by decide +kernel
theorem d_M_writeRuns_26 : decode b_M_writeRuns 26 = .ok (.ldc2_w 107, 3) := by decide +kernel
theorem d_M_writeRuns_29 : decode b_M_writeRuns 29 = .ok (.iload 5, 2) := by decide +kernel
theorem d_M_writeRuns_31 : decode b_M_writeRuns 31 = .ok (.i2l, 1) := by decide +kernel
theorem d_M_writeRuns_32 : decode b_M_writeRuns 32 = .ok (.lmul, 1) := by decide +kernel
theorem d_M_writeRuns_33 : decode b_M_writeRuns 33 = .ok (.invokevirtual 109, 3) := by decide +kernel
theorem d_M_writeRuns_36 : decode b_M_writeRuns 36 = .ok (.iconst 0, 1) := by decide +kernel
theorem d_M_writeRuns_37 : decode b_M_writeRuns 37 = .ok (.istore 6, 2) := by decide +kernel
theorem d_M_writeRuns_39 : decode b_M_writeRuns 39 = .ok (.iload 6, 2) := by decide +kernel
theorem d_M_writeRuns_41 : decode b_M_writeRuns 41 = .ok (.iload_n 3, 1) := by decide +kernel
theorem d_M_writeRuns_42 : decode b_M_writeRuns 42 = .ok (.if_icmp .ge 20, 3) := by decide +kernel
theorem d_M_writeRuns_45 : decode b_M_writeRuns 45 = .ok (.aload_n 0, 1) := by decide +kernel
theorem d_M_writeRuns_46 : decode b_M_writeRuns 46 = .ok (.aload_n 1, 1) := by decide +kernel
theorem d_M_writeRuns_47 : decode b_M_writeRuns 47 = .ok (.iload 4, 2) := by decide +kernel
theorem d_M_writeRuns_49 : decode b_M_writeRuns 49 = .ok (.iaload, 1) := by decide +kernel
theorem d_M_writeRuns_50 : decode b_M_writeRuns 50 = .ok (.iload 6, 2) := by decide +kernel
theorem d_M_writeRuns_52 : decode b_M_writeRuns 52 = .ok (.ishr, 1) := by decide +kernel
theorem d_M_writeRuns_53 : decode b_M_writeRuns 53 = .ok (.invokevirtual 99, 3) := by decide +kernel
theorem d_M_writeRuns_56 : decode b_M_writeRuns 56 = .ok (.iinc 6 8, 3) := by decide +kernel
theorem d_M_writeRuns_59 : decode b_M_writeRuns 59 = .ok (.goto (-20), 3) := by decide +kernel
theorem d_M_writeRuns_62 : decode b_M_writeRuns 62 = .ok (.iload 4, 2) := by decide +kernel
theorem d_M_writeRuns_64 : decode b_M_writeRuns 64 = .ok (.iload 5, 2) := by decide +kernel
theorem d_M_writeRuns_66 : decode b_M_writeRuns 66 = .ok (.iadd, 1) := by decide +kernel
theorem d_M_writeRuns_67 : decode b_M_writeRuns 67 = .ok (.istore 4, 2) := by decide +kernel
theorem d_M_writeRuns_69 : decode b_M_writeRuns 69 = .ok (.goto (-66), 3) := by decide +kernel
theorem d_M_writeRuns_72 : decode b_M_writeRuns 72 = .ok (.iconst 1, 1) := by decide +kernel
theorem d_M_writeRuns_73 : decode b_M_writeRuns 73 = .ok (.istore 6, 2) := by decide +kernel
theorem d_M_writeRuns_75 : decode b_M_writeRuns 75 = .ok (.iload 4, 2) := by decide +kernel
theorem d_M_writeRuns_77 : decode b_M_writeRuns 77 = .ok (.bipush 8, 2) := by decide +kernel
theorem d_M_writeRuns_79 : decode b_M_writeRuns 79 = .ok (.iload 6, 2) := by decide +kernel
theorem d_M_writeRuns_81 : decode b_M_writeRuns 81 = .ok (.imul, 1) := by decide +kernel
theorem d_M_writeRuns_82 : decode b_M_writeRuns 82 = .ok (.iadd, 1) := by decide +kernel
theorem d_M_writeRuns_83 : decode b_M_writeRuns 83 = .ok (.iload_n 2, 1) := by decide +kernel
theorem d_M_writeRuns_84 : decode b_M_writeRuns 84 = .ok (.if_icmp .ge 27, 3) := by decide +kernel
theorem d_M_writeRuns_87 : decode b_M_writeRuns 87 = .ok (.aload_n 1, 1) := by decide +kernel
theorem d_M_writeRuns_88 : decode b_M_writeRuns 88 = .ok (.iload 4, 2) := by decide +kernel
theorem d_M_writeRuns_90 : decode b_M_writeRuns 90 = .ok (.bipush 8, 2) := by decide +kernel
theorem d_M_writeRuns_92 : decode b_M_writeRuns 92 = .ok (.iload 6, 2) := by decide +kernel
theorem d_M_writeRuns_94 : decode b_M_writeRuns 94 = .ok (.imul, 1) := by decide +kernel
theorem d_M_writeRuns_95 : decode b_M_writeRuns 95 = .ok (.iadd, 1) := by decide +kernel
theorem d_M_writeRuns_96 : decode b_M_writeRuns 96 = .ok (.iload_n 2, 1) := by decide +kernel
theorem d_M_writeRuns_97 : decode b_M_writeRuns 97 = .ok (.invokestatic 103, 3) := by decide +kernel
theorem d_M_writeRuns_100 : decode b_M_writeRuns 100 = .ok (.bipush 8, 2) := by decide +kernel
theorem d_M_writeRuns_102 : decode b_M_writeRuns 102 = .ok (.if_icmp .ge 9, 3) := by decide +kernel
theorem d_M_writeRuns_105 : decode b_M_writeRuns 105 = .ok (.iinc 6 1, 3) := by decide +kernel
theorem d_M_writeRuns_108 : decode b_M_writeRuns 108 = .ok (.goto (-33), 3) := by decide +kernel
theorem d_M_writeRuns_111 : decode b_M_writeRuns 111 = .ok (.aload_n 0, 1) := by decide +kernel
theorem d_M_writeRuns_112 : decode b_M_writeRuns 112 = .ok (.ldc2_w 107, 3) := by decide +kernel
theorem d_M_writeRuns_115 : decode b_M_writeRuns 115 = .ok (.iload 6, 2) := by decide +kernel
theorem d_M_writeRuns_117 : decode b_M_writeRuns 117 = .ok (.i2l, 1) := by decide +kernel
theorem d_M_writeRuns_118 : decode b_M_writeRuns 118 = .ok (.lmul, 1) := by decide +kernel
theorem d_M_writeRuns_119 : decode b_M_writeRuns 119 = .ok (.lconst 1, 1) := by decide +kernel
theorem d_M_writeRuns_120 : decode b_M_writeRuns 120 = .ok (.ladd, 1) := by decide +kernel
theorem d_M_writeRuns_121 : decode b_M_writeRuns 121 = .ok (.invokevirtual 109, 3) := by decide +kernel
theorem d_M_writeRuns_124 : decode b_M_writeRuns 124 = .ok (.iconst 0, 1) := by decide +kernel
theorem d_M_writeRuns_125 : decode b_M_writeRuns 125 = .ok (.istore 7, 2) := by decide +kernel
theorem d_M_writeRuns_127 : decode b_M_writeRuns 127 = .ok (.iload 7, 2) := by decide +kernel
theorem d_M_writeRuns_129 : decode b_M_writeRuns 129 = .ok (.bipush 8, 2) := by decide +kernel
theorem d_M_writeRuns_131 : decode b_M_writeRuns 131 = .ok (.iload_n 3, 1) := by decide +kernel
