theorem d_W_putText_34 : decode b_W_putText 34 = .ok (.iload_n 2, 1) := by decide +kernel
theorem d_W_putText_35 : decode b_W_putText 35 = .ok (.invokevirtual 149, 3) := by decide +kernel
theorem d_W_putText_38 : decode b_W_putText 38 = .ok (.invokevirtual 164, 3) := by decide +kernel
theorem d_W_putText_41 : decode b_W_putText 41 = .ok (.return_, 1) := by decide +kernel
theorem d_W_measureTexts_0 : decode b_W_measureTexts 0 = .ok (.iconst 0, 1) := by decide +kernel
theorem d_W_measureTexts_1 : decode b_W_measureTexts 1 = .ok (.istore_n 2, 1) := by decide +kernel
theorem d_W_measureTexts_2 : decode b_W_measureTexts 2 = .ok (.iload_n 2, 1) := by decide +kernel
theorem d_W_measureTexts_3 : decode b_W_measureTexts 3 = .ok (.aload_n 0, 1) := by decide +kernel
theorem d_W_measureTexts_4 : decode b_W_measureTexts 4 = .ok (.getfield 47, 3) := by decide +kernel
theorem d_W_measureTexts_7 : decode b_W_measureTexts 7 = .ok (.getfield 99, 3) := by decide +kernel
theorem d_W_measureTexts_10 : decode b_W_measureTexts 10 = .ok (.if_icmp .ge 62, 3) := by decide +kernel
theorem d_W_measureTexts_13 : decode b_W_measureTexts 13 = .ok (.iload_n 1, 1) := by decide +kernel
theorem d_W_measureTexts_14 : decode b_W_measureTexts 14 = .ok (.ifCond .eq 25, 3) := by decide +kernel
theorem d_W_measureTexts_17 : decode b_W_measureTexts 17 = .ok (.iload_n 2, 1) := by decide +kernel
theorem d_W_measureTexts_18 : decode b_W_measureTexts 18 = .ok (.ifCond .le 21, 3) := by decide +kernel
theorem d_W_measureTexts_21 : decode b_W_measureTexts 21 = .ok (.aload_n 0, 1) := by decide +kernel
theorem d_W_measureTexts_22 : decode b_W_measureTexts 22 = .ok (.getfield 47, 3) := by decide +kernel
theorem d_W_measureTexts_25 : decode b_W_measureTexts 25 = .ok (.iload_n 2, 1) := by decide +kernel
theorem d_W_measureTexts_26 : decode b_W_measureTexts 26 = .ok (.aload_n 0, 1) := by decide +kernel
theorem d_W_measureTexts_27 : decode b_W_measureTexts 27 = .ok (.getfield 47, 3) := by decide +kernel
theorem d_W_measureTexts_30 : decode b_W_measureTexts 30 = .ok (.iload_n 2, 1) := by decide +kernel
theorem d_W_measureTexts_31 : decode b_W_measureTexts 31 = .ok (.iconst 1, 1) := by decide +kernel
theorem d_W_measureTexts_32 : decode b_W_measureTexts 32 = .ok (.isub, 1) := by decide +kernel
theorem d_W_measureTexts_33 : decode b_W_measureTexts 33 = .ok (.invokevirtual 168, 3) := by decide +kernel
theorem d_W_measureTexts_36 : decode b_W_measureTexts 36 = .ok (.goto 4, 3) := by decide +kernel
theorem d_W_measureTexts_39 : decode b_W_measureTexts 39 = .ok (.iconst 0, 1) := by decide +kernel
theorem d_W_measureTexts_40 : decode b_W_measureTexts 40 = .ok (.istore_n 3, 1) := by decide +kernel
theorem d_W_measureTexts_41 : decode b_W_measureTexts 41 = .ok (.aload_n 0, 1) := by decide +kernel
theorem d_W_measureTexts_42 : decode b_W_measureTexts 42 = .ok (.getfield 27, 3) := by decide +kernel
theorem d_W_measureTexts_45 : decode b_W_measureTexts 45 = .ok (.iload_n 2, 1) := by decide +kernel
theorem d_W_measureTexts_46 : decode b_W_measureTexts 46 = .ok (.iload_n 3, 1) := by decide +kernel
theorem d_W_measureTexts_47 : decode b_W_measureTexts 47 = .ok (.i2l, 1) := by decide +kernel
theorem d_W_measureTexts_48 : decode b_W_measureTexts 48 = .ok (.lastore, 1) := by decide +kernel
theorem d_W_measureTexts_49 : decode b_W_measureTexts 49 = .ok (.aload_n 0, 1) := by decide +kernel
theorem d_W_measureTexts_50 : decode b_W_measureTexts 50 = .ok (.getfield 23, 3) := by decide +kernel
theorem d_W_measureTexts_53 : decode b_W_measureTexts 53 = .ok (.iload_n 2, 1) := by decide +kernel
theorem d_W_measureTexts_54 : decode b_W_measureTexts 54 = .ok (.aload_n 0, 1) := by decide +kernel
theorem d_W_measureTexts_55 : decode b_W_measureTexts 55 = .ok (.getfield 47, 3) := by decide +kernel
theorem d_W_measureTexts_58 : decode b_W_measureTexts 58 = .ok (.iload_n 2, 1) := by decide +kernel
theorem d_W_measureTexts_59 : decode b_W_measureTexts 59 = .ok (.invokevirtual 149, 3) := by decide +kernel
theorem d_W_measureTexts_62 : decode b_W_measureTexts 62 = .ok (.iload_n 3, 1) := by decide +kernel
theorem d_W_measureTexts_63 : decode b_W_measureTexts 63 = .ok (.isub, 1) := by decide +kernel
theorem d_W_measureTexts_64 : decode b_W_measureTexts 64 = .ok (.i2l, 1) := by decide +kernel
theorem d_W_measureTexts_65 : decode b_W_measureTexts 65 = .ok (.lastore, 1) := by decide +kernel
theorem d_W_measureTexts_66 : decode b_W_measureTexts 66 = .ok (.iinc 2 1, 3) := by decide +kernel
theorem d_W_measureTexts_69 : decode b_W_measureTexts 69 = .ok (.goto (-67), 3) := by decide +kernel
theorem d_W_measureTexts_72 : decode b_W_measureTexts 72 = .ok (.return_, 1) := by decide +kernel
theorem d_W_putTexts_0 : decode b_W_putTexts 0 = .ok (.iconst 0, 1) := by decide +kernel
theorem d_W_putTexts_1 : decode b_W_putTexts 1 = .ok (.istore_n 1, 1) := by decide +kernel
theorem d_W_putTexts_2 : decode b_W_putTexts 2 = .ok (.iload_n 1, 1) := by decide +kernel
theorem d_W_putTexts_3 : decode b_W_putTexts 3 = .ok (.aload_n 0, 1) := by decide +kernel
theorem d_W_putTexts_4 : decode b_W_putTexts 4 = .ok (.getfield 47, 3) := by decide +kernel
theorem d_W_putTexts_7 : decode b_W_putTexts 7 = .ok (.getfield 99, 3) := by decide +kernel
theorem d_W_putTexts_10 : decode b_W_putTexts 10 = .ok (.if_icmp .ge 47, 3) := by decide +kernel
theorem d_W_putTexts_13 : decode b_W_putTexts 13 = .ok (.aload_n 0, 1) := by decide +kernel
theorem d_W_putTexts_14 : decode b_W_putTexts 14 = .ok (.getfield 14, 3) := by decide +kernel
theorem d_W_putTexts_17 : decode b_W_putTexts 17 = .ok (.aload_n 0, 1) := by decide +kernel
theorem d_W_putTexts_18 : decode b_W_putTexts 18 = .ok (.getfield 47, 3) := by decide +kernel
theorem d_W_putTexts_21 : decode b_W_putTexts 21 = .ok (.getfield 157, 3) := by decide +kernel
theorem d_W_putTexts_24 : decode b_W_putTexts 24 = .ok (.aload_n 0, 1) := by decide +kernel
theorem d_W_putTexts_25 : decode b_W_putTexts 25 = .ok (.getfield 47, 3) := by decide +kernel
theorem d_W_putTexts_28 : decode b_W_putTexts 28 = .ok (.getfield 160, 3) := by decide +kernel
theorem d_W_putTexts_31 : decode b_W_putTexts 31 = .ok (.iload_n 1, 1) := by decide +kernel
theorem d_W_putTexts_32 : decode b_W_putTexts 32 = .ok (.iaload, 1) := by decide +kernel
theorem d_W_putTexts_33 : decode b_W_putTexts 33 = .ok (.aload_n 0, 1) := by decide +kernel
theorem d_W_putTexts_34 : decode b_W_putTexts 34 = .ok (.getfield 27, 3) := by decide +kernel
theorem d_W_putTexts_37 : decode b_W_putTexts 37 = .ok (.iload_n 1, 1) := by decide +kernel
theorem d_W_putTexts_38 : decode b_W_putTexts 38 = .ok (.laload, 1) := by decide +kernel
theorem d_W_putTexts_39 : decode b_W_putTexts 39 = .ok (.l2i, 1) := by decide +kernel
theorem d_W_putTexts_40 : decode b_W_putTexts 40 = .ok (.iadd, 1) := by decide +kernel
theorem d_W_putTexts_41 : decode b_W_putTexts 41 = .ok (.aload_n 0, 1) := by decide +kernel
theorem d_W_putTexts_42 : decode b_W_putTexts 42 = .ok (.getfield 23, 3) := by decide +kernel
theorem d_W_putTexts_45 : decode b_W_putTexts 45 = .ok (.iload_n 1, 1) := by decide +kernel
theorem d_W_putTexts_46 : decode b_W_putTexts 46 = .ok (.laload, 1) := by decide +kernel
theorem d_W_putTexts_47 : decode b_W_putTexts 47 = .ok (.l2i, 1) := by decide +kernel
theorem d_W_putTexts_48 : decode b_W_putTexts 48 = .ok (.invokevirtual 164, 3) := by decide +kernel
theorem d_W_putTexts_51 : decode b_W_putTexts 51 = .ok (.iinc 1 1, 3) := by decide +kernel
theorem d_W_putTexts_54 : decode b_W_putTexts 54 = .ok (.goto (-52), 3) := by decide +kernel
theorem d_W_putTexts_57 : decode b_W_putTexts 57 = .ok (.return_, 1) := by decide +kernel
theorem d_W_putSizedCode_0 : decode b_W_putSizedCode 0 = .ok (.aload_n 0, 1) := by decide +kernel
theorem d_W_putSizedCode_1 : decode b_W_putSizedCode 1 = .ok (.getfield 20, 3) := by decide +kernel
theorem d_W_putSizedCode_4 : decode b_W_putSizedCode 4 = .ok (.iconst 0, 1) := by decide +kernel
theorem d_W_putSizedCode_5 : decode b_W_putSizedCode 5 = .ok (.invokevirtual 53, 3) := by decide +kernel
theorem d_W_putSizedCode_8 : decode b_W_putSizedCode 8 = .ok (.aload_n 0, 1) := by decide +kernel
theorem d_W_putSizedCode_9 : decode b_W_putSizedCode 9 = .ok (.getfield 20, 3) := by decide +kernel
theorem d_W_putSizedCode_12 : decode b_W_putSizedCode 12 = .ok (.aload_n 1, 1) := by decide +kernel
theorem d_W_putSizedCode_13 : decode b_W_putSizedCode 13 = .ok (.aload_n 0, 1) := by decide +kernel
theorem d_W_putSizedCode_14 : decode b_W_putSizedCode 14 = .ok (.getfield 47, 3) := by decide +kernel
theorem d_W_putSizedCode_17 : decode b_W_putSizedCode 17 = .ok (.getfield 99, 3) := by decide +kernel
theorem d_W_putSizedCode_20 : decode b_W_putSizedCode 20 = .ok (.invokevirtual 130, 3) := by decide +kernel
theorem d_W_putSizedCode_23 : decode b_W_putSizedCode 23 = .ok (.aload_n 0, 1) := by decide +kernel
theorem d_W_putSizedCode_24 : decode b_W_putSizedCode 24 = .ok (.getfield 14, 3) := by decide +kernel
theorem d_W_putSizedCode_27 : decode b_W_putSizedCode 27 = .ok (.aload_n 0, 1) := by decide +kernel
theorem d_W_putSizedCode_28 : decode b_W_putSizedCode 28 = .ok (.getfield 20, 3) := by decide +kernel
theorem d_W_putSizedCode_31 : decode b_W_putSizedCode 31 = .ok (.invokevirtual 89, 3) := by decide +kernel
theorem d_W_putSizedCode_34 : decode b_W_putSizedCode 34 = .ok (.return_, 1) := by decide +kernel
theorem d_W_putByDictionary_0 : decode b_W_putByDictionary 0 = .ok (.aload_n 0, 1) := by decide +kernel
theorem d_W_putByDictionary_1 : decode b_W_putByDictionary 1 = .ok (.getfield 33, 3) := by decide +kernel
theorem d_W_putByDictionary_4 : decode b_W_putByDictionary 4 = .ok (.getfield 172, 3) := by decide +kernel
theorem d_W_putByDictionary_7 : decode b_W_putByDictionary 7 = .ok (.istore_n 1, 1) := by decide +kernel
theorem d_W_putByDictionary_8 : decode b_W_putByDictionary 8 = .ok (.aload_n 0, 1) := by decide +kernel
theorem d_W_putByDictionary_9 : decode b_W_putByDictionary 9 = .ok (.getfield 14, 3) := by decide +kernel
theorem d_W_putByDictionary_12 : decode b_W_putByDictionary 12 = .ok (.iload_n 1, 1) := by decide +kernel
theorem d_W_putByDictionary_13 : decode b_W_putByDictionary 13 = .ok (.i2l, 1) := by decide +kernel
theorem d_W_putByDictionary_14 : decode b_W_putByDictionary 14 = .ok (.invokevirtual 153, 3) := by decide +kernel
theorem d_W_putByDictionary_17 : decode b_W_putByDictionary 17 = .ok (.iconst 0, 1) := by decide +kernel
theorem d_W_putByDictionary_18 : decode b_W_putByDictionary 18 = .ok (.istore_n 2, 1) := by decide +kernel
theorem d_W_putByDictionary_19 : decode b_W_putByDictionary 19 = .ok (.iload_n 2, 1) := by decide +kernel
theorem d_W_putByDictionary_20 : decode b_W_putByDictionary 20 = .ok (.iload_n 1, 1) := by decide +kernel
theorem d_W_putByDictionary_21 : decode b_W_putByDictionary 21 = .ok (.if_icmp .ge 22, 3) := by decide +kernel
theorem d_W_putByDictionary_24 : decode b_W_putByDictionary 24 = .ok (.aload_n 0, 1) := by decide +kernel
theorem d_W_putByDictionary_25 : decode b_W_putByDictionary 25 = .ok (.aload_n 0, 1) := by decide +kernel
theorem d_W_putByDictionary_26 : decode b_W_putByDictionary 26 = .ok (.getfield 33, 3) := by decide +kernel
theorem d_W_putByDictionary_29 : decode b_W_putByDictionary 29 = .ok (.getfield 173, 3) := by decide +kernel
theorem d_W_putByDictionary_32 : decode b_W_putByDictionary 32 = .ok (.iload_n 2, 1) := by decide +kernel
theorem d_W_putByDictionary_33 : decode b_W_putByDictionary 33 = .ok (.iaload, 1) := by decide +kernel
theorem d_W_putByDictionary_34 : decode b_W_putByDictionary 34 = .ok (.invokevirtual 104, 3) := by decide +kernel
theorem d_W_putByDictionary_37 : decode b_W_putByDictionary 37 = .ok (.iinc 2 1, 3) := by decide +kernel
theorem d_W_putByDictionary_40 : decode b_W_putByDictionary 40 = .ok (.goto (-21), 3) := by decide +kernel
theorem d_W_putByDictionary_43 : decode b_W_putByDictionary 43 = .ok (.iload_n 1, 1) := by decide +kernel
theorem d_W_putByDictionary_44 : decode b_W_putByDictionary 44 = .ok (.ifCond .ne 7, 3) := by decide +kernel
theorem d_W_putByDictionary_47 : decode b_W_putByDictionary 47 = .ok (.iconst 0, 1) := by decide +kernel
theorem d_W_putByDictionary_48 : decode b_W_putByDictionary 48 = .ok (.goto 10, 3) := by decide +kernel
theorem d_W_putByDictionary_51 : decode b_W_putByDictionary 51 = .ok (.iload_n 1, 1) := by decide +kernel
theorem d_W_putByDictionary_52 : decode b_W_putByDictionary 52 = .ok (.iconst 1, 1) := by decide +kernel
theorem d_W_putByDictionary_53 : decode b_W_putByDictionary 53 = .ok (.isub, 1) := by decide +kernel
theorem d_W_putByDictionary_54 : decode b_W_putByDictionary 54 = .ok (.i2l, 1) := by decide +kernel
theorem d_W_putByDictionary_55 : decode b_W_putByDictionary 55 = .ok (.invokestatic 81, 3) := by decide +kernel
theorem d_W_putByDictionary_58 : decode b_W_putByDictionary 58 = .ok (.istore_n 2, 1) := by decide +kernel
theorem d_W_putByDictionary_59 : decode b_W_putByDictionary 59 = .ok (.aload_n 0, 1) := by decide +kernel
theorem d_W_putByDictionary_60 : decode b_W_putByDictionary 60 = .ok (.getfield 14, 3) := by decide +kernel
theorem d_W_putByDictionary_63 : decode b_W_putByDictionary 63 = .ok (.iload_n 2, 1) := by decide +kernel
theorem d_W_putByDictionary_64 : decode b_W_putByDictionary 64 = .ok (.invokevirtual 176, 3) := by decide +kernel
theorem d_W_putByDictionary_67 : decode b_W_putByDictionary 67 = .ok (.aload_n 0, 1) := by decide +kernel
theorem d_W_putByDictionary_68 : decode b_W_putByDictionary 68 = .ok (.getfield 14, 3) := by decide +kernel
theorem d_W_putByDictionary_71 : decode b_W_putByDictionary 71 = .ok (.aload_n 0, 1) := by decide +kernel
theorem d_W_putByDictionary_72 : decode b_W_putByDictionary 72 = .ok (.getfield 23, 3) := by decide +kernel
theorem d_W_putByDictionary_75 : decode b_W_putByDictionary 75 = .ok (.aload_n 0, 1) := by decide +kernel
theorem d_W_putByDictionary_76 : decode b_W_putByDictionary 76 = .ok (.getfield 47, 3) := by decide +kernel
theorem d_W_putByDictionary_79 : decode b_W_putByDictionary 79 = .ok (.getfield 99, 3) := by decide +kernel
theorem d_W_putByDictionary_82 : decode b_W_putByDictionary 82 = .ok (.iload_n 2, 1) := by decide +kernel
theorem d_W_putByDictionary_83 : decode b_W_putByDictionary 83 = .ok (.invokevirtual 85, 3) := by decide +kernel
theorem d_W_putByDictionary_86 : decode b_W_putByDictionary 86 = .ok (.return_, 1) := by decide +kernel
theorem d_W_finish_0 : decode b_W_finish 0 = .ok (.aload_n 0, 1) := by decide +kernel
theorem d_W_finish_1 : decode b_W_finish 1 = .ok (.getfield 47, 3) := by decide +kernel
theorem d_W_finish_4 : decode b_W_finish 4 = .ok (.ifnonnull 4, 3) := by decide +kernel
theorem d_W_finish_7 : decode b_W_finish 7 = .ok (.return_, 1) := by decide +kernel
theorem d_W_finish_8 : decode b_W_finish 8 = .ok (.aload_n 1, 1) := by decide +kernel
theorem d_W_finish_9 : decode b_W_finish 9 = .ok (.aload_n 0, 1) := by decide +kernel
theorem d_W_finish_10 : decode b_W_finish 10 = .ok (.getfield 52, 3) := by decide +kernel
theorem d_W_finish_13 : decode b_W_finish 13 = .ok (.i2l, 1) := by decide +kernel
theorem d_W_finish_14 : decode b_W_finish 14 = .ok (.invokevirtual 153, 3) := by decide +kernel
theorem d_W_finish_17 : decode b_W_finish 17 = .ok (.aload_n 1, 1) := by decide +kernel
theorem d_W_finish_18 : decode b_W_finish 18 = .ok (.aload_n 0, 1) := by decide +kernel
theorem d_W_finish_19 : decode b_W_finish 19 = .ok (.getfield 52, 3) := by decide +kernel
theorem d_W_finish_22 : decode b_W_finish 22 = .ok (.aload_n 0, 1) := by decide +kernel
theorem d_W_finish_23 : decode b_W_finish 23 = .ok (.getfield 47, 3) := by decide +kernel
theorem d_W_finish_26 : decode b_W_finish 26 = .ok (.getfield 99, 3) := by decide +kernel
theorem d_W_finish_29 : decode b_W_finish 29 = .ok (.isub, 1) := by decide +kernel
theorem d_W_finish_30 : decode b_W_finish 30 = .ok (.i2l, 1) := by decide +kernel
theorem d_W_finish_31 : decode b_W_finish 31 = .ok (.invokevirtual 153, 3) := by decide +kernel
theorem d_W_finish_34 : decode b_W_finish 34 = .ok (.aload_n 1, 1) := by decide +kernel
theorem d_W_finish_35 : decode b_W_finish 35 = .ok (.iload_n 2, 1) := by decide +kernel
theorem d_W_finish_36 : decode b_W_finish 36 = .ok (.invokevirtual 176, 3) := by decide +kernel
theorem d_W_finish_39 : decode b_W_finish 39 = .ok (.aload_n 0, 1) := by decide +kernel
theorem d_W_finish_40 : decode b_W_finish 40 = .ok (.getfield 47, 3) := by decide +kernel
theorem d_W_finish_43 : decode b_W_finish 43 = .ok (.getfield 99, 3) := by decide +kernel
theorem d_W_finish_46 : decode b_W_finish 46 = .ok (.ifCond .le 29, 3) := by decide +kernel
theorem d_W_finish_49 : decode b_W_finish 49 = .ok (.aload_n 0, 1) := by decide +kernel
theorem d_W_finish_50 : decode b_W_finish 50 = .ok (.aload_n 1, 1) := by decide +kernel
theorem d_W_finish_51 : decode b_W_finish 51 = .ok (.aload_n 0, 1) := by decide +kernel
theorem d_W_finish_52 : decode b_W_finish 52 = .ok (.getfield 47, 3) := by decide +kernel
theorem d_W_finish_55 : decode b_W_finish 55 = .ok (.iconst 0, 1) := by decide +kernel
theorem d_W_finish_56 : decode b_W_finish 56 = .ok (.invokevirtual 179, 3) := by decide +kernel
theorem d_W_finish_59 : decode b_W_finish 59 = .ok (.invokevirtual 183, 3) := by decide +kernel
theorem d_W_finish_62 : decode b_W_finish 62 = .ok (.aload_n 0, 1) := by decide +kernel
theorem d_W_finish_63 : decode b_W_finish 63 = .ok (.aload_n 1, 1) := by decide +kernel
theorem d_W_finish_64 : decode b_W_finish 64 = .ok (.aload_n 0, 1) := by decide +kernel
theorem d_W_finish_65 : decode b_W_finish 65 = .ok (.getfield 47, 3) := by decide +kernel
theorem d_W_finish_68 : decode b_W_finish 68 = .ok (.iconst 1, 1) := by decide +kernel
theorem d_W_finish_69 : decode b_W_finish 69 = .ok (.invokevirtual 179, 3) := by decide +kernel
theorem d_W_finish_72 : decode b_W_finish 72 = .ok (.invokevirtual 183, 3) := by decide +kernel
theorem d_W_finish_75 : decode b_W_finish 75 = .ok (.aload_n 1, 1) := by decide +kernel
theorem d_W_finish_76 : decode b_W_finish 76 = .ok (.aload_n 0, 1) := by decide +kernel
theorem d_W_finish_77 : decode b_W_finish 77 = .ok (.getfield 14, 3) := by decide +kernel
theorem d_W_finish_80 : decode b_W_finish 80 = .ok (.getfield 75, 3) := by decide +kernel
theorem d_W_finish_83 : decode b_W_finish 83 = .ok (.i2l, 1) := by decide +kernel
theorem d_W_finish_84 : decode b_W_finish 84 = .ok (.invokevirtual 153, 3) := by decide +kernel
theorem d_W_finish_87 : decode b_W_finish 87 = .ok (.aload_n 1, 1) := by decide +kernel
theorem d_W_finish_88 : decode b_W_finish 88 = .ok (.aload_n 0, 1) := by decide +kernel
theorem d_W_finish_89 : decode b_W_finish 89 = .ok (.getfield 14, 3) := by decide +kernel
theorem d_W_finish_92 : decode b_W_finish 92 = .ok (.getfield 186, 3) := by decide +kernel
theorem d_W_finish_95 : decode b_W_finish 95 = .ok (.iconst 0, 1) := by decide +kernel
theorem d_W_finish_96 : decode b_W_finish 96 = .ok (.aload_n 0, 1) := by decide +kernel
theorem d_W_finish_97 : decode b_W_finish 97 = .ok (.getfield 14, 3) := by decide +kernel
theorem d_W_finish_100 : decode b_W_finish 100 = .ok (.getfield 75, 3) := by decide +kernel
theorem d_W_finish_103 : decode b_W_finish 103 = .ok (.invokestatic 189, 3) := by decide +kernel
theorem d_W_finish_106 : decode b_W_finish 106 = .ok (.i2l, 1) := by decide +kernel
theorem d_W_finish_107 : decode b_W_finish 107 = .ok (.iconst 4, 1) := by decide +kernel
theorem d_W_finish_108 : decode b_W_finish 108 = .ok (.invokevirtual 145, 3) := by decide +kernel
theorem d_W_finish_111 : decode b_W_finish 111 = .ok (.aload_n 1, 1) := by decide +kernel
theorem d_W_finish_112 : decode b_W_finish 112 = .ok (.aload_n 0, 1) := by decide +kernel
theorem d_W_finish_113 : decode b_W_finish 113 = .ok (.getfield 14, 3) := by decide +kernel
theorem d_W_finish_116 : decode b_W_finish 116 = .ok (.getfield 186, 3) := by decide +kernel
theorem d_W_finish_119 : decode b_W_finish 119 = .ok (.iconst 0, 1) := by decide +kernel
theorem d_W_finish_120 : decode b_W_finish 120 = .ok (.aload_n 0, 1) := by decide +kernel
theorem d_W_finish_121 : decode b_W_finish 121 = .ok (.getfield 14, 3) := by decide +kernel
theorem d_W_finish_124 : decode b_W_finish 124 = .ok (.getfield 75, 3) := by decide +kernel
theorem d_W_finish_127 : decode b_W_finish 127 = .ok (.invokevirtual 164, 3) := by decide +kernel
theorem d_W_finish_130 : decode b_W_finish 130 = .ok (.return_, 1) := by decide +kernel
theorem d_W_tell_0 : decode b_W_tell 0 = .ok (.aload_n 0, 1) := by decide +kernel
theorem d_W_tell_1 : decode b_W_tell 1 = .ok (.getfield 37, 3) := by decide +kernel
theorem d_W_tell_4 : decode b_W_tell 4 = .ok (.getfield 93, 3) := by decide +kernel
theorem d_W_tell_7 : decode b_W_tell 7 = .ok (.iconst 3, 1) := by decide +kernel
theorem d_W_tell_8 : decode b_W_tell 8 = .ok (.if_icmp .ne 12, 3) := by decide +kernel
theorem d_W_tell_11 : decode b_W_tell 11 = .ok (.aload_n 0, 1) := by decide +kernel
theorem d_W_tell_12 : decode b_W_tell 12 = .ok (.aload_n 1, 1) := by decide +kernel
theorem d_W_tell_13 : decode b_W_tell 13 = .ok (.iload_n 2, 1) := by decide +kernel
theorem d_W_tell_14 : decode b_W_tell 14 = .ok (.invokevirtual 141, 3) := by decide +kernel
theorem d_W_tell_17 : decode b_W_tell 17 = .ok (.goto 46, 3) := by decide +kernel
theorem d_W_tell_20 : decode b_W_tell 20 = .ok (.aload_n 0, 1) := by decide +kernel
theorem d_W_tell_21 : decode b_W_tell 21 = .ok (.getfield 37, 3) := by decide +kernel
theorem d_W_tell_24 : decode b_W_tell 24 = .ok (.getfield 93, 3) := by decide +kernel
theorem d_W_tell_27 : decode b_W_tell 27 = .ok (.ifCond .ne 20, 3) := by decide +kernel
theorem d_W_tell_30 : decode b_W_tell 30 = .ok (.aload_n 1, 1) := by decide +kernel
theorem d_W_tell_31 : decode b_W_tell 31 = .ok (.aload_n 0, 1) := by decide +kernel
theorem d_W_tell_32 : decode b_W_tell 32 = .ok (.getfield 47, 3) := by decide +kernel
theorem d_W_tell_35 : decode b_W_tell 35 = .ok (.getfield 129, 3) := by decide +kernel
theorem d_W_tell_38 : decode b_W_tell 38 = .ok (.iload_n 2, 1) := by decide +kernel
theorem d_W_tell_39 : decode b_W_tell 39 = .ok (.laload, 1) := by decide +kernel
theorem d_W_tell_40 : decode b_W_tell 40 = .ok (.l2i, 1) := by decide +kernel
theorem d_W_tell_41 : decode b_W_tell 41 = .ok (.invokevirtual 176, 3) := by decide +kernel
theorem d_W_tell_44 : decode b_W_tell 44 = .ok (.goto 19, 3) := by decide +kernel
theorem d_W_tell_47 : decode b_W_tell 47 = .ok (.aload_n 1, 1) := by decide +kernel
theorem d_W_tell_48 : decode b_W_tell 48 = .ok (.aload_n 0, 1) := by decide +kernel
theorem d_W_tell_49 : decode b_W_tell 49 = .ok (.getfield 47, 3) := by decide +kernel
theorem d_W_tell_52 : decode b_W_tell 52 = .ok (.getfield 129, 3) := by decide +kernel
theorem d_W_tell_55 : decode b_W_tell 55 = .ok (.iload_n 2, 1) := by decide +kernel
theorem d_W_tell_56 : decode b_W_tell 56 = .ok (.laload, 1) := by decide +kernel
theorem d_W_tell_57 : decode b_W_tell 57 = .ok (.invokestatic 193, 3) := by decide +kernel
theorem d_W_tell_60 : decode b_W_tell 60 = .ok (.invokevirtual 153, 3) := by decide +kernel
theorem d_W_tell_63 : decode b_W_tell 63 = .ok (.return_, 1) := by decide +kernel
theorem d_JI_compare_0 : decode b_JI_compare 0 = .ok (.iload_n 0, 1) := by decide +kernel
theorem d_JI_compare_1 : decode b_JI_compare 1 = .ok (.iload_n 1, 1) := by decide +kernel
theorem d_JI_compare_2 : decode b_JI_compare 2 = .ok (.if_icmp .ge 7, 3) := by decide +kernel
theorem d_JI_compare_5 : decode b_JI_compare 5 = .ok (.iconst (-1), 1) := by decide +kernel
theorem d_JI_compare_6 : decode b_JI_compare 6 = .ok (.goto 13, 3) := by decide +kernel
theorem d_JI_compare_9 : decode b_JI_compare 9 = .ok (.iload_n 0, 1) := by decide +kernel
theorem d_JI_compare_10 : decode b_JI_compare 10 = .ok (.iload_n 1, 1) := by decide +kernel
theorem d_JI_compare_11 : decode b_JI_compare 11 = .ok (.if_icmp .ne 7, 3) := by decide +kernel
theorem d_JI_compare_14 : decode b_JI_compare 14 = .ok (.iconst 0, 1) := by decide +kernel
theorem d_JI_compare_15 : decode b_JI_compare 15 = .ok (.goto 4, 3) := by decide +kernel
theorem d_JI_compare_18 : decode b_JI_compare 18 = .ok (.iconst 1, 1) := by decide +kernel
theorem d_JI_compare_19 : decode b_JI_compare 19 = .ok (.ireturn, 1) := by decide +kernel
theorem d_JL_compare_0 : decode b_JL_compare 0 = .ok (.lload_n 0, 1) := by decide +kernel
theorem d_JL_compare_1 : decode b_JL_compare 1 = .ok (.lload_n 2, 1) := by decide +kernel
theorem d_JL_compare_2 : decode b_JL_compare 2 = .ok (.lcmp, 1) := by decide +kernel
theorem d_JL_compare_3 : decode b_JL_compare 3 = .ok (.ifCond .ge 7, 3) := by decide +kernel
theorem d_JL_compare_6 : decode b_JL_compare 6 = .ok (.iconst (-1), 1) := by decide +kernel
theorem d_JL_compare_7 : decode b_JL_compare 7 = .ok (.goto 14, 3) := by decide +kernel
theorem d_JL_compare_10 : decode b_JL_compare 10 = .ok (.lload_n 0, 1) := by decide +kernel
theorem d_JL_compare_11 : decode b_JL_compare 11 = .ok (.lload_n 2, 1) := by decide +kernel
theorem d_JL_compare_12 : decode b_JL_compare 12 = .ok (.lcmp, 1) := by decide +kernel
theorem d_JL_compare_13 : decode b_JL_compare 13 = .ok (.ifCond .ne 7, 3) := by decide +kernel
theorem d_JL_compare_16 : decode b_JL_compare 16 = .ok (.iconst 0, 1) := by decide +kernel
theorem d_JL_compare_17 : decode b_JL_compare 17 = .ok (.goto 4, 3) := by decide +kernel
theorem d_JL_compare_20 : decode b_JL_compare 20 = .ok (.iconst 1, 1) := by decide +kernel
theorem d_JL_compare_21 : decode b_JL_compare 21 = .ok (.ireturn, 1) := by decide +kernel
theorem d_JM_min_II_0 : decode b_JM_min_II 0 = .ok (.iload_n 0, 1) := by decide +kernel
theorem d_JM_min_II_1 : decode b_JM_min_II 1 = .ok (.iload_n 1, 1) := by decide +kernel
theorem d_JM_min_II_2 : decode b_JM_min_II 2 = .ok (.if_icmp .gt 7, 3) := by decide +kernel
theorem d_JM_min_II_5 : decode b_JM_min_II 5 = .ok (.iload_n 0, 1) := by decide +kernel
theorem d_JM_min_II_6 : decode b_JM_min_II 6 = .ok (.goto 4, 3) := by decide +kernel
theorem d_JM_min_II_9 : decode b_JM_min_II 9 = .ok (.iload_n 1, 1) := by decide +kernel
theorem d_JM_min_II_10 : decode b_JM_min_II 10 = .ok (.ireturn, 1) := by decide +kernel
theorem d_JM_min_JJ_0 : decode b_JM_min_JJ 0 = .ok (.lload_n 0, 1) := by decide +kernel
theorem d_JM_min_JJ_1 : decode b_JM_min_JJ 1 = .ok (.lload_n 2, 1) := by decide +kernel
theorem d_JM_min_JJ_2 : decode b_JM_min_JJ 2 = .ok (.lcmp, 1) := by decide +kernel
theorem d_JM_min_JJ_3 : decode b_JM_min_JJ 3 = .ok (.ifCond .gt 7, 3) := by decide +kernel
theorem d_JM_min_JJ_6 : decode b_JM_min_JJ 6 = .ok (.lload_n 0, 1) := by decide +kernel
theorem d_JM_min_JJ_7 : decode b_JM_min_JJ 7 = .ok (.goto 4, 3) := by decide +kernel
theorem d_JM_min_JJ_10 : decode b_JM_min_JJ 10 = .ok (.lload_n 2, 1) := by decide +kernel
theorem d_JM_min_JJ_11 : decode b_JM_min_JJ 11 = .ok (.lreturn, 1) := by decide +kernel
theorem d_JA_fill_aBIIB_0 : decode b_JA_fill_aBIIB 0 = .ok (.aload_n 0, 1) := by decide +kernel
theorem d_JA_fill_aBIIB_1 : decode b_JA_fill_aBIIB 1 = .ok (.arraylength, 1) := by decide +kernel
theorem d_JA_fill_aBIIB_2 : decode b_JA_fill_aBIIB 2 = .ok (.iload_n 1, 1) := by decide +kernel
theorem d_JA_fill_aBIIB_3 : decode b_JA_fill_aBIIB 3 = .ok (.iload_n 2, 1) := by decide +kernel
theorem d_JA_fill_aBIIB_4 : decode b_JA_fill_aBIIB 4 = .ok (.invokestatic 13, 3) := by decide +kernel
theorem d_JA_fill_aBIIB_7 : decode b_JA_fill_aBIIB 7 = .ok (.iload_n 1, 1) := by decide +kernel
theorem d_JA_fill_aBIIB_8 : decode b_JA_fill_aBIIB 8 = .ok (.istore 4, 2) := by decide +kernel
theorem d_JA_fill_aBIIB_10 : decode b_JA_fill_aBIIB 10 = .ok (.iload 4, 2) := by decide +kernel
theorem d_JA_fill_aBIIB_12 : decode b_JA_fill_aBIIB 12 = .ok (.iload_n 2, 1) := by decide +kernel
theorem d_JA_fill_aBIIB_13 : decode b_JA_fill_aBIIB 13 = .ok (.if_icmp .ge 14, 3) := by decide +kernel
theorem d_JA_fill_aBIIB_16 : decode b_JA_fill_aBIIB 16 = .ok (.aload_n 0, 1) := by decide +kernel
theorem d_JA_fill_aBIIB_17 : decode b_JA_fill_aBIIB 17 = .ok (.iload 4, 2) := by decide +kernel
theorem d_JA_fill_aBIIB_19 : decode b_JA_fill_aBIIB 19 = .ok (.iload_n 3, 1) := by decide +kernel
theorem d_JA_fill_aBIIB_20 : decode b_JA_fill_aBIIB 20 = .ok (.bastore, 1) := by decide +kernel
theorem d_JA_fill_aBIIB_21 : decode b_JA_fill_aBIIB 21 = .ok (.iinc 4 1, 3) := by decide +kernel
theorem d_JA_fill_aBIIB_24 : decode b_JA_fill_aBIIB 24 = .ok (.goto (-14), 3) := by decide +kernel
theorem d_JA_fill_aBIIB_27 : decode b_JA_fill_aBIIB 27 = .ok (.return_, 1) := by decide +kernel
theorem d_JA_fill_aII_0 : decode b_JA_fill_aII 0 = .ok (.iconst 0, 1) := by decide +kernel
theorem d_JA_fill_aII_1 : decode b_JA_fill_aII 1 = .ok (.istore_n 2, 1) := by decide +kernel
theorem d_JA_fill_aII_2 : decode b_JA_fill_aII 2 = .ok (.aload_n 0, 1) := by decide +kernel
theorem d_JA_fill_aII_3 : decode b_JA_fill_aII 3 = .ok (.arraylength, 1) := by decide +kernel
theorem d_JA_fill_aII_4 : decode b_JA_fill_aII 4 = .ok (.istore_n 3, 1) := by decide +kernel
theorem d_JA_fill_aII_5 : decode b_JA_fill_aII 5 = .ok (.iload_n 2, 1) := by decide +kernel
theorem d_JA_fill_aII_6 : decode b_JA_fill_aII 6 = .ok (.iload_n 3, 1) := by decide +kernel
theorem d_JA_fill_aII_7 : decode b_JA_fill_aII 7 = .ok (.if_icmp .ge 13, 3) := by decide +kernel
theorem d_JA_fill_aII_10 : decode b_JA_fill_aII 10 = .ok (.aload_n 0, 1) := by decide +kernel
theorem d_JA_fill_aII_11 : decode b_JA_fill_aII 11 = .ok (.iload_n 2, 1) := by decide +kernel
theorem d_JA_fill_aII_12 : decode b_JA_fill_aII 12 = .ok (.iload_n 1, 1) := by decide +kernel
theorem d_JA_fill_aII_13 : decode b_JA_fill_aII 13 = .ok (.iastore, 1) := by decide +kernel
theorem d_JA_fill_aII_14 : decode b_JA_fill_aII 14 = .ok (.iinc 2 1, 3) := by decide +kernel
theorem d_JA_fill_aII_17 : decode b_JA_fill_aII 17 = .ok (.goto (-12), 3) := by decide +kernel
theorem d_JA_fill_aII_20 : decode b_JA_fill_aII 20 = .ok (.return_, 1) := by decide +kernel
theorem d_JA_fill_aJIIJ_0 : decode b_JA_fill_aJIIJ 0 = .ok (.aload_n 0, 1) := by decide +kernel
theorem d_JA_fill_aJIIJ_1 : decode b_JA_fill_aJIIJ 1 = .ok (.arraylength, 1) := by decide +kernel
theorem d_JA_fill_aJIIJ_2 : decode b_JA_fill_aJIIJ 2 = .ok (.iload_n 1, 1) := by decide +kernel
theorem d_JA_fill_aJIIJ_3 : decode b_JA_fill_aJIIJ 3 = .ok (.iload_n 2, 1) := by decide +kernel
theorem d_JA_fill_aJIIJ_4 : decode b_JA_fill_aJIIJ 4 = .ok (.invokestatic 13, 3) := by decide +kernel
theorem d_JA_fill_aJIIJ_7 : decode b_JA_fill_aJIIJ 7 = .ok (.iload_n 1, 1) := by decide +kernel
theorem d_JA_fill_aJIIJ_8 : decode b_JA_fill_aJIIJ 8 = .ok (.istore 5, 2) := by decide +kernel
theorem d_JA_fill_aJIIJ_10 : decode b_JA_fill_aJIIJ 10 = .ok (.iload 5, 2) := by decide +kernel
theorem d_JA_fill_aJIIJ_12 : decode b_JA_fill_aJIIJ 12 = .ok (.iload_n 2, 1) := by decide +kernel
theorem d_JA_fill_aJIIJ_13 : decode b_JA_fill_aJIIJ 13 = .ok (.if_icmp .ge 14, 3) := by decide +kernel
theorem d_JA_fill_aJIIJ_16 : decode b_JA_fill_aJIIJ 16 = .ok (.aload_n 0, 1) := by decide +kernel
theorem d_JA_fill_aJIIJ_17 : decode b_JA_fill_aJIIJ 17 = .ok (.iload 5, 2) := by decide +kernel
theorem d_JA_fill_aJIIJ_19 : decode b_JA_fill_aJIIJ 19 = .ok (.lload_n 3, 1) := by decide +kernel
theorem d_JA_fill_aJIIJ_20 : decode b_JA_fill_aJIIJ 20 = .ok (.lastore, 1) := by decide +kernel
theorem d_JA_fill_aJIIJ_21 : decode b_JA_fill_aJIIJ 21 = .ok (.iinc 5 1, 3) := by decide +kernel
theorem d_JA_fill_aJIIJ_24 : decode b_JA_fill_aJIIJ 24 = .ok (.goto (-14), 3) := by decide +kernel
theorem d_JA_fill_aJIIJ_27 : decode b_JA_fill_aJIIJ 27 = .ok (.return_, 1) := by decide +kernel
theorem d_JA_rangeCheck_0 : decode b_JA_rangeCheck 0 = .ok (.iload_n 1, 1) := by decide +kernel
theorem d_JA_rangeCheck_1 : decode b_JA_rangeCheck 1 = .ok (.iload_n 2, 1) := by decide +kernel
theorem d_JA_rangeCheck_2 : decode b_JA_rangeCheck 2 = .ok (.if_icmp .le 44, 3) := by decide +kernel
theorem d_JA_rangeCheck_5 : decode b_JA_rangeCheck 5 = .ok (.new 43, 3) := by decide +kernel
theorem d_JA_rangeCheck_8 : decode b_JA_rangeCheck 8 = .ok (.dup, 1) := by decide +kernel
theorem d_JA_rangeCheck_9 : decode b_JA_rangeCheck 9 = .ok (.new 45, 3) := by decide +kernel
theorem d_JA_rangeCheck_12 : decode b_JA_rangeCheck 12 = .ok (.dup, 1) := by decide +kernel
theorem d_JA_rangeCheck_13 : decode b_JA_rangeCheck 13 = .ok (.invokespecial 47, 3) := by decide +kernel
theorem d_JA_rangeCheck_16 : decode b_JA_rangeCheck 16 = .ok (.ldc 48, 2) := by decide +kernel
theorem d_JA_rangeCheck_18 : decode b_JA_rangeCheck 18 = .ok (.invokevirtual 50, 3) := by decide +kernel
theorem d_JA_rangeCheck_21 : decode b_JA_rangeCheck 21 = .ok (.iload_n 1, 1) := by decide +kernel
theorem d_JA_rangeCheck_22 : decode b_JA_rangeCheck 22 = .ok (.invokevirtual 54, 3) := by decide +kernel
theorem d_JA_rangeCheck_25 : decode b_JA_rangeCheck 25 = .ok (.ldc 57, 2) := by decide +kernel
theorem d_JA_rangeCheck_27 : decode b_JA_rangeCheck 27 = .ok (.invokevirtual 50, 3) := by decide +kernel
theorem d_JA_rangeCheck_30 : decode b_JA_rangeCheck 30 = .ok (.iload_n 2, 1) := by decide +kernel
theorem d_JA_rangeCheck_31 : decode b_JA_rangeCheck 31 = .ok (.invokevirtual 54, 3) := by decide +kernel
theorem d_JA_rangeCheck_34 : decode b_JA_rangeCheck 34 = .ok (.ldc 59, 2) := by decide +kernel
theorem d_JA_rangeCheck_36 : decode b_JA_rangeCheck 36 = .ok (.invokevirtual 50, 3) := by decide +kernel
theorem d_JA_rangeCheck_39 : decode b_JA_rangeCheck 39 = .ok (.invokevirtual 61, 3) := by decide +kernel
theorem d_JA_rangeCheck_42 : decode b_JA_rangeCheck 42 = .ok (.invokespecial 65, 3) := by decide +kernel
theorem d_JA_rangeCheck_45 : decode b_JA_rangeCheck 45 = .ok (.athrow, 1) := by decide +kernel
theorem d_JA_rangeCheck_46 : decode b_JA_rangeCheck 46 = .ok (.iload_n 1, 1) := by decide +kernel
theorem d_JA_rangeCheck_47 : decode b_JA_rangeCheck 47 = .ok (.ifCond .ge 12, 3) := by decide +kernel
theorem d_JA_rangeCheck_50 : decode b_JA_rangeCheck 50 = .ok (.new 68, 3) := by decide +kernel
theorem d_JA_rangeCheck_53 : decode b_JA_rangeCheck 53 = .ok (.dup, 1) := by decide +kernel
theorem d_JA_rangeCheck_54 : decode b_JA_rangeCheck 54 = .ok (.iload_n 1, 1) := by decide +kernel
theorem d_JA_rangeCheck_55 : decode b_JA_rangeCheck 55 = .ok (.invokespecial 70, 3) := by decide +kernel
theorem d_JA_rangeCheck_58 : decode b_JA_rangeCheck 58 = .ok (.athrow, 1) := by decide +kernel
theorem d_JA_rangeCheck_59 : decode b_JA_rangeCheck 59 = .ok (.iload_n 2, 1) := by decide +kernel
theorem d_JA_rangeCheck_60 : decode b_JA_rangeCheck 60 = .ok (.iload_n 0, 1) := by decide +kernel
theorem d_JA_rangeCheck_61 : decode b_JA_rangeCheck 61 = .ok (.if_icmp .le 12, 3) := by decide +kernel
theorem d_JA_rangeCheck_64 : decode b_JA_rangeCheck 64 = .ok (.new 68, 3) := by decide +kernel
theorem d_JA_rangeCheck_67 : decode b_JA_rangeCheck 67 = .ok (.dup, 1) := by decide +kernel
theorem d_JA_rangeCheck_68 : decode b_JA_rangeCheck 68 = .ok (.iload_n 2, 1) := by decide +kernel
theorem d_JA_rangeCheck_69 : decode b_JA_rangeCheck 69 = .ok (.invokespecial 70, 3) := by decide +kernel
theorem d_JA_rangeCheck_72 : decode b_JA_rangeCheck 72 = .ok (.athrow, 1) := by decide +kernel
theorem d_JA_rangeCheck_73 : decode b_JA_rangeCheck 73 = .ok (.return_, 1) := by decide +kernel
