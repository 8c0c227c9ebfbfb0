theorem d_M_value_0 : decode b_M_value 0 = .ok (.aload_n 0, 1) := by decide +kernel
theorem d_M_value_1 : decode b_M_value 1 = .ok (.iconst 0, 1) := by decide +kernel
theorem d_M_value_2 : decode b_M_value 2 = .ok (.putfield 84, 3) := by decide +kernel
theorem d_M_value_5 : decode b_M_value 5 = .ok (.aload_n 0, 1) := by decide +kernel
theorem d_M_value_6 : decode b_M_value 6 = .ok (.iload_n 1, 1) := by decide +kernel
theorem d_M_value_7 : decode b_M_value 7 = .ok (.invokevirtual 349, 3) := by decide +kernel
theorem d_M_value_10 : decode b_M_value 10 = .ok (.ifCond .eq 20, 3) := by decide +kernel
theorem d_M_value_13 : decode b_M_value 13 = .ok (.aload_n 0, 1) := by decide +kernel
theorem d_M_value_14 : decode b_M_value 14 = .ok (.getfield 181, 3) := by decide +kernel
theorem d_M_value_17 : decode b_M_value 17 = .ok (.iconst 3, 1) := by decide +kernel
theorem d_M_value_18 : decode b_M_value 18 = .ok (.if_icmp .eq 12, 3) := by decide +kernel
theorem d_M_value_21 : decode b_M_value 21 = .ok (.aload_n 0, 1) := by decide +kernel
theorem d_M_value_22 : decode b_M_value 22 = .ok (.getfield 22, 3) := by decide +kernel
theorem d_M_value_25 : decode b_M_value 25 = .ok (.iload_n 1, 1) := by decide +kernel
theorem d_M_value_26 : decode b_M_value 26 = .ok (.laload, 1) := by decide +kernel
theorem d_M_value_27 : decode b_M_value 27 = .ok (.goto 4, 3) := by decide +kernel
theorem d_M_value_30 : decode b_M_value 30 = .ok (.lconst 0, 1) := by decide +kernel
theorem d_M_value_31 : decode b_M_value 31 = .ok (.lreturn, 1) := by decide +kernel
theorem d_M_length_0 : decode b_M_length 0 = .ok (.aload_n 0, 1) := by decide +kernel
theorem d_M_length_1 : decode b_M_length 1 = .ok (.iconst 0, 1) := by decide +kernel
theorem d_M_length_2 : decode b_M_length 2 = .ok (.putfield 84, 3) := by decide +kernel
theorem d_M_length_5 : decode b_M_length 5 = .ok (.aload_n 0, 1) := by decide +kernel
theorem d_M_length_6 : decode b_M_length 6 = .ok (.iload_n 1, 1) := by decide +kernel
theorem d_M_length_7 : decode b_M_length 7 = .ok (.invokevirtual 349, 3) := by decide +kernel
theorem d_M_length_10 : decode b_M_length 10 = .ok (.ifCond .eq 19, 3) := by decide +kernel
theorem d_M_length_13 : decode b_M_length 13 = .ok (.aload_n 0, 1) := by decide +kernel
theorem d_M_length_14 : decode b_M_length 14 = .ok (.getfield 181, 3) := by decide +kernel
theorem d_M_length_17 : decode b_M_length 17 = .ok (.iconst 3, 1) := by decide +kernel
theorem d_M_length_18 : decode b_M_length 18 = .ok (.if_icmp .ne 11, 3) := by decide +kernel
theorem d_M_length_21 : decode b_M_length 21 = .ok (.aload_n 0, 1) := by decide +kernel
theorem d_M_length_22 : decode b_M_length 22 = .ok (.iload_n 1, 1) := by decide +kernel
theorem d_M_length_23 : decode b_M_length 23 = .ok (.invokevirtual 197, 3) := by decide +kernel
theorem d_M_length_26 : decode b_M_length 26 = .ok (.goto 4, 3) := by decide +kernel
theorem d_M_length_29 : decode b_M_length 29 = .ok (.iconst (-1), 1) := by decide +kernel
theorem d_M_length_30 : decode b_M_length 30 = .ok (.ireturn, 1) := by decide +kernel
theorem d_M_byteOf_0 : decode b_M_byteOf 0 = .ok (.aload_n 0, 1) := by decide +kernel
theorem d_M_byteOf_1 : decode b_M_byteOf 1 = .ok (.iconst 0, 1) := by decide +kernel
theorem d_M_byteOf_2 : decode b_M_byteOf 2 = .ok (.putfield 84, 3) := by decide +kernel
theorem d_M_byteOf_5 : decode b_M_byteOf 5 = .ok (.aload_n 0, 1) := by decide +kernel
theorem d_M_byteOf_6 : decode b_M_byteOf 6 = .ok (.iload_n 1, 1) := by decide +kernel
theorem d_M_byteOf_7 : decode b_M_byteOf 7 = .ok (.invokevirtual 349, 3) := by decide +kernel
theorem d_M_byteOf_10 : decode b_M_byteOf 10 = .ok (.ifCond .eq 24, 3) := by decide +kernel
theorem d_M_byteOf_13 : decode b_M_byteOf 13 = .ok (.aload_n 0, 1) := by decide +kernel
theorem d_M_byteOf_14 : decode b_M_byteOf 14 = .ok (.getfield 181, 3) := by decide +kernel
theorem d_M_byteOf_17 : decode b_M_byteOf 17 = .ok (.iconst 3, 1) := by decide +kernel
theorem d_M_byteOf_18 : decode b_M_byteOf 18 = .ok (.if_icmp .ne 16, 3) := by decide +kernel
theorem d_M_byteOf_21 : decode b_M_byteOf 21 = .ok (.iload_n 2, 1) := by decide +kernel
theorem d_M_byteOf_22 : decode b_M_byteOf 22 = .ok (.ifCond .lt 12, 3) := by decide +kernel
theorem d_M_byteOf_25 : decode b_M_byteOf 25 = .ok (.iload_n 2, 1) := by decide +kernel
theorem d_M_byteOf_26 : decode b_M_byteOf 26 = .ok (.aload_n 0, 1) := by decide +kernel
theorem d_M_byteOf_27 : decode b_M_byteOf 27 = .ok (.iload_n 1, 1) := by decide +kernel
theorem d_M_byteOf_28 : decode b_M_byteOf 28 = .ok (.invokevirtual 197, 3) := by decide +kernel
theorem d_M_byteOf_31 : decode b_M_byteOf 31 = .ok (.if_icmp .lt 7, 3) := by decide +kernel
theorem d_M_byteOf_34 : decode b_M_byteOf 34 = .ok (.iconst (-1), 1) := by decide +kernel
theorem d_M_byteOf_35 : decode b_M_byteOf 35 = .ok (.goto 16, 3) := by decide +kernel
theorem d_M_byteOf_38 : decode b_M_byteOf 38 = .ok (.aload_n 0, 1) := by decide +kernel
theorem d_M_byteOf_39 : decode b_M_byteOf 39 = .ok (.getfield 41, 3) := by decide +kernel
theorem d_M_byteOf_42 : decode b_M_byteOf 42 = .ok (.aload_n 0, 1) := by decide +kernel
theorem d_M_byteOf_43 : decode b_M_byteOf 43 = .ok (.getfield 32, 3) := by decide +kernel
theorem d_M_byteOf_46 : decode b_M_byteOf 46 = .ok (.iload_n 1, 1) := by decide +kernel
theorem d_M_byteOf_47 : decode b_M_byteOf 47 = .ok (.iaload, 1) := by decide +kernel
theorem d_M_byteOf_48 : decode b_M_byteOf 48 = .ok (.iload_n 2, 1) := by decide +kernel
theorem d_M_byteOf_49 : decode b_M_byteOf 49 = .ok (.iadd, 1) := by decide +kernel
theorem d_M_byteOf_50 : decode b_M_byteOf 50 = .ok (.iaload, 1) := by decide +kernel
theorem d_M_byteOf_51 : decode b_M_byteOf 51 = .ok (.ireturn, 1) := by decide +kernel
theorem d_M_most_0 : decode b_M_most 0 = .ok (.aload_n 0, 1) := by decide +kernel
theorem d_M_most_1 : decode b_M_most 1 = .ok (.iconst 0, 1) := by decide +kernel
theorem d_M_most_2 : decode b_M_most 2 = .ok (.putfield 84, 3) := by decide +kernel
theorem d_M_most_5 : decode b_M_most 5 = .ok (.aload_n 0, 1) := by decide +kernel
theorem d_M_most_6 : decode b_M_most 6 = .ok (.iload_n 1, 1) := by decide +kernel
theorem d_M_most_7 : decode b_M_most 7 = .ok (.invokevirtual 268, 3) := by decide +kernel
theorem d_M_most_10 : decode b_M_most 10 = .ok (.ireturn, 1) := by decide +kernel
theorem d_M_output_0 : decode b_M_output 0 = .ok (.aload_n 0, 1) := by decide +kernel
theorem d_M_output_1 : decode b_M_output 1 = .ok (.iconst 0, 1) := by decide +kernel
theorem d_M_output_2 : decode b_M_output 2 = .ok (.putfield 84, 3) := by decide +kernel
theorem d_M_output_5 : decode b_M_output 5 = .ok (.iload_n 1, 1) := by decide +kernel
theorem d_M_output_6 : decode b_M_output 6 = .ok (.ifCond .lt 11, 3) := by decide +kernel
theorem d_M_output_9 : decode b_M_output 9 = .ok (.iload_n 1, 1) := by decide +kernel
theorem d_M_output_10 : decode b_M_output 10 = .ok (.aload_n 0, 1) := by decide +kernel
theorem d_M_output_11 : decode b_M_output 11 = .ok (.getfield 88, 3) := by decide +kernel
theorem d_M_output_14 : decode b_M_output 14 = .ok (.if_icmp .lt 7, 3) := by decide +kernel
theorem d_M_output_17 : decode b_M_output 17 = .ok (.iconst (-1), 1) := by decide +kernel
theorem d_M_output_18 : decode b_M_output 18 = .ok (.goto 9, 3) := by decide +kernel
theorem d_M_output_21 : decode b_M_output 21 = .ok (.aload_n 0, 1) := by decide +kernel
theorem d_M_output_22 : decode b_M_output 22 = .ok (.getfield 57, 3) := by decide +kernel
theorem d_M_output_25 : decode b_M_output 25 = .ok (.iload_n 1, 1) := by decide +kernel
theorem d_M_output_26 : decode b_M_output 26 = .ok (.iaload, 1) := by decide +kernel
theorem d_M_output_27 : decode b_M_output 27 = .ok (.ireturn, 1) := by decide +kernel
theorem d_B_init_0 : decode b_B_init 0 = .ok (.aload_n 0, 1) := by decide +kernel
theorem d_B_init_1 : decode b_B_init 1 = .ok (.invokespecial 3, 3) := by decide +kernel
theorem d_B_init_4 : decode b_B_init 4 = .ok (.aload_n 0, 1) := by decide +kernel
theorem d_B_init_5 : decode b_B_init 5 = .ok (.iload_n 1, 1) := by decide +kernel
theorem d_B_init_6 : decode b_B_init 6 = .ok (.newarray .byte, 2) := by decide +kernel
theorem d_B_init_8 : decode b_B_init 8 = .ok (.putfield 9, 3) := by decide +kernel
theorem d_B_init_11 : decode b_B_init 11 = .ok (.return_, 1) := by decide +kernel
theorem d_B_cut_0 : decode b_B_cut 0 = .ok (.aload_n 0, 1) := by decide +kernel
theorem d_B_cut_1 : decode b_B_cut 1 = .ok (.iload_n 1, 1) := by decide +kernel
theorem d_B_cut_2 : decode b_B_cut 2 = .ok (.putfield 15, 3) := by decide +kernel
theorem d_B_cut_5 : decode b_B_cut 5 = .ok (.return_, 1) := by decide +kernel
theorem d_B_put_0 : decode b_B_put 0 = .ok (.aload_n 0, 1) := by decide +kernel
theorem d_B_put_1 : decode b_B_put 1 = .ok (.getfield 15, 3) := by decide +kernel
theorem d_B_put_4 : decode b_B_put 4 = .ok (.aload_n 0, 1) := by decide +kernel
theorem d_B_put_5 : decode b_B_put 5 = .ok (.getfield 9, 3) := by decide +kernel
theorem d_B_put_8 : decode b_B_put 8 = .ok (.arraylength, 1) := by decide +kernel
theorem d_B_put_9 : decode b_B_put 9 = .ok (.if_icmp .ge 24, 3) := by decide +kernel
theorem d_B_put_12 : decode b_B_put 12 = .ok (.aload_n 0, 1) := by decide +kernel
theorem d_B_put_13 : decode b_B_put 13 = .ok (.getfield 9, 3) := by decide +kernel
theorem d_B_put_16 : decode b_B_put 16 = .ok (.aload_n 0, 1) := by decide +kernel
theorem d_B_put_17 : decode b_B_put 17 = .ok (.getfield 15, 3) := by decide +kernel
theorem d_B_put_20 : decode b_B_put 20 = .ok (.iload_n 1, 1) := by decide +kernel
theorem d_B_put_21 : decode b_B_put 21 = .ok (.i2b, 1) := by decide +kernel
theorem d_B_put_22 : decode b_B_put 22 = .ok (.bastore, 1) := by decide +kernel
theorem d_B_put_23 : decode b_B_put 23 = .ok (.aload_n 0, 1) := by decide +kernel
theorem d_B_put_24 : decode b_B_put 24 = .ok (.dup, 1) := by decide +kernel
theorem d_B_put_25 : decode b_B_put 25 = .ok (.getfield 15, 3) := by decide +kernel
theorem d_B_put_28 : decode b_B_put 28 = .ok (.iconst 1, 1) := by decide +kernel
theorem d_B_put_29 : decode b_B_put 29 = .ok (.iadd, 1) := by decide +kernel
theorem d_B_put_30 : decode b_B_put 30 = .ok (.putfield 15, 3) := by decide +kernel
theorem d_B_put_33 : decode b_B_put 33 = .ok (.return_, 1) := by decide +kernel
theorem d_B_highestFirst_0 : decode b_B_highestFirst 0 = .ok (.bipush 24, 2) := by decide +kernel
theorem d_B_highestFirst_2 : decode b_B_highestFirst 2 = .ok (.istore_n 2, 1) := by decide +kernel
theorem d_B_highestFirst_3 : decode b_B_highestFirst 3 = .ok (.iload_n 2, 1) := by decide +kernel
theorem d_B_highestFirst_4 : decode b_B_highestFirst 4 = .ok (.ifCond .lt 16, 3) := by decide +kernel
theorem d_B_highestFirst_7 : decode b_B_highestFirst 7 = .ok (.aload_n 0, 1) := by decide +kernel
theorem d_B_highestFirst_8 : decode b_B_highestFirst 8 = .ok (.iload_n 1, 1) := by decide +kernel
theorem d_B_highestFirst_9 : decode b_B_highestFirst 9 = .ok (.iload_n 2, 1) := by decide +kernel
theorem d_B_highestFirst_10 : decode b_B_highestFirst 10 = .ok (.iushr, 1) := by decide +kernel
theorem d_B_highestFirst_11 : decode b_B_highestFirst 11 = .ok (.invokevirtual 19, 3) := by decide +kernel
theorem d_B_highestFirst_14 : decode b_B_highestFirst 14 = .ok (.iinc 2 (-8), 3) := by decide +kernel
theorem d_B_highestFirst_17 : decode b_B_highestFirst 17 = .ok (.goto (-14), 3) := by decide +kernel
theorem d_B_highestFirst_20 : decode b_B_highestFirst 20 = .ok (.return_, 1) := by decide +kernel
theorem d_B_lowestFirst_0 : decode b_B_lowestFirst 0 = .ok (.iconst 0, 1) := by decide +kernel
theorem d_B_lowestFirst_1 : decode b_B_lowestFirst 1 = .ok (.istore 4, 2) := by decide +kernel
theorem d_B_lowestFirst_3 : decode b_B_lowestFirst 3 = .ok (.iload 4, 2) := by decide +kernel
theorem d_B_lowestFirst_5 : decode b_B_lowestFirst 5 = .ok (.iload_n 3, 1) := by decide +kernel
theorem d_B_lowestFirst_6 : decode b_B_lowestFirst 6 = .ok (.if_icmp .ge 21, 3) := by decide +kernel
theorem d_B_lowestFirst_9 : decode b_B_lowestFirst 9 = .ok (.aload_n 0, 1) := by decide +kernel
theorem d_B_lowestFirst_10 : decode b_B_lowestFirst 10 = .ok (.lload_n 1, 1) := by decide +kernel
theorem d_B_lowestFirst_11 : decode b_B_lowestFirst 11 = .ok (.bipush 8, 2) := by decide +kernel
theorem d_B_lowestFirst_13 : decode b_B_lowestFirst 13 = .ok (.iload 4, 2) := by decide +kernel
theorem d_B_lowestFirst_15 : decode b_B_lowestFirst 15 = .ok (.imul, 1) := by decide +kernel
theorem d_B_lowestFirst_16 : decode b_B_lowestFirst 16 = .ok (.lushr, 1) := by decide +kernel
theorem d_B_lowestFirst_17 : decode b_B_lowestFirst 17 = .ok (.l2i, 1) := by decide +kernel
theorem d_B_lowestFirst_18 : decode b_B_lowestFirst 18 = .ok (.invokevirtual 19, 3) := by decide +kernel
theorem d_B_lowestFirst_21 : decode b_B_lowestFirst 21 = .ok (.iinc 4 1, 3) := by decide +kernel
theorem d_B_lowestFirst_24 : decode b_B_lowestFirst 24 = .ok (.goto (-21), 3) := by decide +kernel
theorem d_B_lowestFirst_27 : decode b_B_lowestFirst 27 = .ok (.return_, 1) := by decide +kernel
theorem d_B_varint_0 : decode b_B_varint 0 = .ok (.lload_n 1, 1) := by decide +kernel
theorem d_B_varint_1 : decode b_B_varint 1 = .ok (.lstore_n 3, 1) := by decide +kernel
theorem d_B_varint_2 : decode b_B_varint 2 = .ok (.iconst 0, 1) := by decide +kernel
theorem d_B_varint_3 : decode b_B_varint 3 = .ok (.istore 5, 2) := by decide +kernel
theorem d_B_varint_5 : decode b_B_varint 5 = .ok (.iload 5, 2) := by decide +kernel
theorem d_B_varint_7 : decode b_B_varint 7 = .ok (.bipush 9, 2) := by decide +kernel
theorem d_B_varint_9 : decode b_B_varint 9 = .ok (.if_icmp .ge 37, 3) := by decide +kernel
theorem d_B_varint_12 : decode b_B_varint 12 = .ok (.lload_n 3, 1) := by decide +kernel
theorem d_B_varint_13 : decode b_B_varint 13 = .ok (.bipush 7, 2) := by decide +kernel
theorem d_B_varint_15 : decode b_B_varint 15 = .ok (.lushr, 1) := by decide +kernel
theorem d_B_varint_16 : decode b_B_varint 16 = .ok (.lconst 0, 1) := by decide +kernel
theorem d_B_varint_17 : decode b_B_varint 17 = .ok (.lcmp, 1) := by decide +kernel
theorem d_B_varint_18 : decode b_B_varint 18 = .ok (.ifCond .eq 28, 3) := by decide +kernel
theorem d_B_varint_21 : decode b_B_varint 21 = .ok (.aload_n 0, 1) := by decide +kernel
theorem d_B_varint_22 : decode b_B_varint 22 = .ok (.lload_n 3, 1) := by decide +kernel
theorem d_B_varint_23 : decode b_B_varint 23 = .ok (.ldc2_w 23, 3) := by decide +kernel
theorem d_B_varint_26 : decode b_B_varint 26 = .ok (.land, 1) := by decide +kernel
theorem d_B_varint_27 : decode b_B_varint 27 = .ok (.l2i, 1) := by decide +kernel
theorem d_B_varint_28 : decode b_B_varint 28 = .ok (.sipush 128, 3) := by decide +kernel
theorem d_B_varint_31 : decode b_B_varint 31 = .ok (.ior, 1) := by decide +kernel
theorem d_B_varint_32 : decode b_B_varint 32 = .ok (.invokevirtual 19, 3) := by decide +kernel
theorem d_B_varint_35 : decode b_B_varint 35 = .ok (.lload_n 3, 1) := by decide +kernel
theorem d_B_varint_36 : decode b_B_varint 36 = .ok (.bipush 7, 2) := by decide +kernel
theorem d_B_varint_38 : decode b_B_varint 38 = .ok (.lushr, 1) := by decide +kernel
theorem d_B_varint_39 : decode b_B_varint 39 = .ok (.lstore_n 3, 1) := by decide +kernel
theorem d_B_varint_40 : decode b_B_varint 40 = .ok (.iinc 5 1, 3) := by decide +kernel
theorem d_B_varint_43 : decode b_B_varint 43 = .ok (.goto (-38), 3) := by decide +kernel
theorem d_B_varint_46 : decode b_B_varint 46 = .ok (.aload_n 0, 1) := by decide +kernel
theorem d_B_varint_47 : decode b_B_varint 47 = .ok (.lload_n 3, 1) := by decide +kernel
theorem d_B_varint_48 : decode b_B_varint 48 = .ok (.l2i, 1) := by decide +kernel
theorem d_B_varint_49 : decode b_B_varint 49 = .ok (.invokevirtual 19, 3) := by decide +kernel
theorem d_B_varint_52 : decode b_B_varint 52 = .ok (.return_, 1) := by decide +kernel
theorem d_B_append_0 : decode b_B_append 0 = .ok (.iload_n 2, 1) := by decide +kernel
theorem d_B_append_1 : decode b_B_append 1 = .ok (.ifCond .lt 29, 3) := by decide +kernel
theorem d_B_append_4 : decode b_B_append 4 = .ok (.iload_n 3, 1) := by decide +kernel
theorem d_B_append_5 : decode b_B_append 5 = .ok (.ifCond .lt 25, 3) := by decide +kernel
theorem d_B_append_8 : decode b_B_append 8 = .ok (.iload_n 3, 1) := by decide +kernel
theorem d_B_append_9 : decode b_B_append 9 = .ok (.aload_n 1, 1) := by decide +kernel
theorem d_B_append_10 : decode b_B_append 10 = .ok (.arraylength, 1) := by decide +kernel
theorem d_B_append_11 : decode b_B_append 11 = .ok (.iload_n 2, 1) := by decide +kernel
theorem d_B_append_12 : decode b_B_append 12 = .ok (.isub, 1) := by decide +kernel
theorem d_B_append_13 : decode b_B_append 13 = .ok (.if_icmp .gt 17, 3) := by decide +kernel
theorem d_B_append_16 : decode b_B_append 16 = .ok (.iload_n 3, 1) := by decide +kernel
theorem d_B_append_17 : decode b_B_append 17 = .ok (.aload_n 0, 1) := by decide +kernel
theorem d_B_append_18 : decode b_B_append 18 = .ok (.getfield 9, 3) := by decide +kernel
theorem d_B_append_21 : decode b_B_append 21 = .ok (.arraylength, 1) := by decide +kernel
theorem d_B_append_22 : decode b_B_append 22 = .ok (.aload_n 0, 1) := by decide +kernel
theorem d_B_append_23 : decode b_B_append 23 = .ok (.getfield 15, 3) := by decide +kernel
theorem d_B_append_26 : decode b_B_append 26 = .ok (.isub, 1) := by decide +kernel
theorem d_B_append_27 : decode b_B_append 27 = .ok (.if_icmp .le 4, 3) := by decide +kernel
theorem d_B_append_30 : decode b_B_append 30 = .ok (.return_, 1) := by decide +kernel
theorem d_B_append_31 : decode b_B_append 31 = .ok (.aload_n 1, 1) := by decide +kernel
theorem d_B_append_32 : decode b_B_append 32 = .ok (.iload_n 2, 1) := by decide +kernel
theorem d_B_append_33 : decode b_B_append 33 = .ok (.aload_n 0, 1) := by decide +kernel
theorem d_B_append_34 : decode b_B_append 34 = .ok (.getfield 9, 3) := by decide +kernel
theorem d_B_append_37 : decode b_B_append 37 = .ok (.aload_n 0, 1) := by decide +kernel
theorem d_B_append_38 : decode b_B_append 38 = .ok (.getfield 15, 3) := by decide +kernel
theorem d_B_append_41 : decode b_B_append 41 = .ok (.iload_n 3, 1) := by decide +kernel
theorem d_B_append_42 : decode b_B_append 42 = .ok (.invokestatic 25, 3) := by decide +kernel
theorem d_B_append_45 : decode b_B_append 45 = .ok (.aload_n 0, 1) := by decide +kernel
theorem d_B_append_46 : decode b_B_append 46 = .ok (.dup, 1) := by decide +kernel
theorem d_B_append_47 : decode b_B_append 47 = .ok (.getfield 15, 3) := by decide +kernel
theorem d_B_append_50 : decode b_B_append 50 = .ok (.iload_n 3, 1) := by decide +kernel
theorem d_B_append_51 : decode b_B_append 51 = .ok (.iadd, 1) := by decide +kernel
theorem d_B_append_52 : decode b_B_append 52 = .ok (.putfield 15, 3) := by decide +kernel
theorem d_B_append_55 : decode b_B_append 55 = .ok (.return_, 1) := by decide +kernel
theorem d_B_sized_0 : decode b_B_sized 0 = .ok (.aload_n 0, 1) := by decide +kernel
theorem d_B_sized_1 : decode b_B_sized 1 = .ok (.aload_n 1, 1) := by decide +kernel
theorem d_B_sized_2 : decode b_B_sized 2 = .ok (.getfield 15, 3) := by decide +kernel
theorem d_B_sized_5 : decode b_B_sized 5 = .ok (.i2l, 1) := by decide +kernel
theorem d_B_sized_6 : decode b_B_sized 6 = .ok (.invokevirtual 31, 3) := by decide +kernel
theorem d_B_sized_9 : decode b_B_sized 9 = .ok (.aload_n 0, 1) := by decide +kernel
theorem d_B_sized_10 : decode b_B_sized 10 = .ok (.aload_n 1, 1) := by decide +kernel
theorem d_B_sized_11 : decode b_B_sized 11 = .ok (.getfield 9, 3) := by decide +kernel
theorem d_B_sized_14 : decode b_B_sized 14 = .ok (.iconst 0, 1) := by decide +kernel
theorem d_B_sized_15 : decode b_B_sized 15 = .ok (.aload_n 1, 1) := by decide +kernel
theorem d_B_sized_16 : decode b_B_sized 16 = .ok (.getfield 15, 3) := by decide +kernel
theorem d_B_sized_19 : decode b_B_sized 19 = .ok (.invokevirtual 35, 3) := by decide +kernel
theorem d_B_sized_22 : decode b_B_sized 22 = .ok (.return_, 1) := by decide +kernel
theorem d_B_zeros_0 : decode b_B_zeros 0 = .ok (.iload_n 1, 1) := by decide +kernel
theorem d_B_zeros_1 : decode b_B_zeros 1 = .ok (.ifCond .lt 17, 3) := by decide +kernel
theorem d_B_zeros_4 : decode b_B_zeros 4 = .ok (.iload_n 1, 1) := by decide +kernel
theorem d_B_zeros_5 : decode b_B_zeros 5 = .ok (.aload_n 0, 1) := by decide +kernel
theorem d_B_zeros_6 : decode b_B_zeros 6 = .ok (.getfield 9, 3) := by decide +kernel
theorem d_B_zeros_9 : decode b_B_zeros 9 = .ok (.arraylength, 1) := by decide +kernel
theorem d_B_zeros_10 : decode b_B_zeros 10 = .ok (.aload_n 0, 1) := by decide +kernel
theorem d_B_zeros_11 : decode b_B_zeros 11 = .ok (.getfield 15, 3) := by decide +kernel
theorem d_B_zeros_14 : decode b_B_zeros 14 = .ok (.isub, 1) := by decide +kernel
theorem d_B_zeros_15 : decode b_B_zeros 15 = .ok (.if_icmp .le 4, 3) := by decide +kernel
theorem d_B_zeros_18 : decode b_B_zeros 18 = .ok (.return_, 1) := by decide +kernel
theorem d_B_zeros_19 : decode b_B_zeros 19 = .ok (.aload_n 0, 1) := by decide +kernel
theorem d_B_zeros_20 : decode b_B_zeros 20 = .ok (.getfield 9, 3) := by decide +kernel
theorem d_B_zeros_23 : decode b_B_zeros 23 = .ok (.aload_n 0, 1) := by decide +kernel
theorem d_B_zeros_24 : decode b_B_zeros 24 = .ok (.getfield 15, 3) := by decide +kernel
theorem d_B_zeros_27 : decode b_B_zeros 27 = .ok (.aload_n 0, 1) := by decide +kernel
theorem d_B_zeros_28 : decode b_B_zeros 28 = .ok (.getfield 15, 3) := by decide +kernel
theorem d_B_zeros_31 : decode b_B_zeros 31 = .ok (.iload_n 1, 1) := by decide +kernel
theorem d_B_zeros_32 : decode b_B_zeros 32 = .ok (.iadd, 1) := by decide +kernel
theorem d_B_zeros_33 : decode b_B_zeros 33 = .ok (.iconst 0, 1) := by decide +kernel
theorem d_B_zeros_34 : decode b_B_zeros 34 = .ok (.invokestatic 39, 3) := by decide +kernel
theorem d_B_zeros_37 : decode b_B_zeros 37 = .ok (.aload_n 0, 1) := by decide +kernel
theorem d_B_zeros_38 : decode b_B_zeros 38 = .ok (.dup, 1) := by decide +kernel
theorem d_B_zeros_39 : decode b_B_zeros 39 = .ok (.getfield 15, 3) := by decide +kernel
theorem d_B_zeros_42 : decode b_B_zeros 42 = .ok (.iload_n 1, 1) := by decide +kernel
theorem d_B_zeros_43 : decode b_B_zeros 43 = .ok (.iadd, 1) := by decide +kernel
theorem d_B_zeros_44 : decode b_B_zeros 44 = .ok (.putfield 15, 3) := by decide +kernel
theorem d_B_zeros_47 : decode b_B_zeros 47 = .ok (.return_, 1) := by decide +kernel
theorem d_B_setBits_0 : decode b_B_setBits 0 = .ok (.iconst 0, 1) := by decide +kernel
theorem d_B_setBits_1 : decode b_B_setBits 1 = .ok (.istore 5, 2) := by decide +kernel
theorem d_B_setBits_3 : decode b_B_setBits 3 = .ok (.iload_n 1, 1) := by decide +kernel
theorem d_B_setBits_4 : decode b_B_setBits 4 = .ok (.iconst 3, 1) := by decide +kernel
theorem d_B_setBits_5 : decode b_B_setBits 5 = .ok (.ishr, 1) := by decide +kernel
theorem d_B_setBits_6 : decode b_B_setBits 6 = .ok (.istore 6, 2) := by decide +kernel
theorem d_B_setBits_8 : decode b_B_setBits 8 = .ok (.iload 5, 2) := by decide +kernel
theorem d_B_setBits_10 : decode b_B_setBits 10 = .ok (.iload 4, 2) := by decide +kernel
theorem d_B_setBits_12 : decode b_B_setBits 12 = .ok (.if_icmp .ge 57, 3) := by decide +kernel
theorem d_B_setBits_15 : decode b_B_setBits 15 = .ok (.iload 6, 2) := by decide +kernel
theorem d_B_setBits_17 : decode b_B_setBits 17 = .ok (.aload_n 0, 1) := by decide +kernel
theorem d_B_setBits_18 : decode b_B_setBits 18 = .ok (.getfield 15, 3) := by decide +kernel
theorem d_B_setBits_21 : decode b_B_setBits 21 = .ok (.if_icmp .ge 48, 3) := by decide +kernel
theorem d_B_setBits_24 : decode b_B_setBits 24 = .ok (.iload_n 1, 1) := by decide +kernel
theorem d_B_setBits_25 : decode b_B_setBits 25 = .ok (.iload 5, 2) := by decide +kernel
theorem d_B_setBits_27 : decode b_B_setBits 27 = .ok (.iadd, 1) := by decide +kernel
theorem d_B_setBits_28 : decode b_B_setBits 28 = .ok (.bipush 7, 2) := by decide +kernel
theorem d_B_setBits_30 : decode b_B_setBits 30 = .ok (.iand, 1) := by decide +kernel
theorem d_B_setBits_31 : decode b_B_setBits 31 = .ok (.istore 7, 2) := by decide +kernel
theorem d_B_setBits_33 : decode b_B_setBits 33 = .ok (.aload_n 0, 1) := by decide +kernel
theorem d_B_setBits_34 : decode b_B_setBits 34 = .ok (.getfield 9, 3) := by decide +kernel
theorem d_B_setBits_37 : decode b_B_setBits 37 = .ok (.iload 6, 2) := by decide +kernel
theorem d_B_setBits_39 : decode b_B_setBits 39 = .ok (.dup2, 1) := by decide +kernel
theorem d_B_setBits_40 : decode b_B_setBits 40 = .ok (.baload, 1) := by decide +kernel
theorem d_B_setBits_41 : decode b_B_setBits 41 = .ok (.lload_n 2, 1) := by decide +kernel
theorem d_B_setBits_42 : decode b_B_setBits 42 = .ok (.iload 5, 2) := by decide +kernel
theorem d_B_setBits_44 : decode b_B_setBits 44 = .ok (.lushr, 1) := by decide +kernel
theorem d_B_setBits_45 : decode b_B_setBits 45 = .ok (.iload 7, 2) := by decide +kernel
theorem d_B_setBits_47 : decode b_B_setBits 47 = .ok (.lshl, 1) := by decide +kernel
theorem d_B_setBits_48 : decode b_B_setBits 48 = .ok (.l2i, 1) := by decide +kernel
theorem d_B_setBits_49 : decode b_B_setBits 49 = .ok (.i2b, 1) := by decide +kernel
theorem d_B_setBits_50 : decode b_B_setBits 50 = .ok (.ior, 1) := by decide +kernel
theorem d_B_setBits_51 : decode b_B_setBits 51 = .ok (.i2b, 1) := by decide +kernel
theorem d_B_setBits_52 : decode b_B_setBits 52 = .ok (.bastore, 1) := by decide +kernel
theorem d_B_setBits_53 : decode b_B_setBits 53 = .ok (.iload 5, 2) := by decide +kernel
theorem d_B_setBits_55 : decode b_B_setBits 55 = .ok (.bipush 8, 2) := by decide +kernel
theorem d_B_setBits_57 : decode b_B_setBits 57 = .ok (.iload 7, 2) := by decide +kernel
theorem d_B_setBits_59 : decode b_B_setBits 59 = .ok (.isub, 1) := by decide +kernel
theorem d_B_setBits_60 : decode b_B_setBits 60 = .ok (.iadd, 1) := by decide +kernel
theorem d_B_setBits_61 : decode b_B_setBits 61 = .ok (.istore 5, 2) := by decide +kernel
theorem d_B_setBits_63 : decode b_B_setBits 63 = .ok (.iinc 6 1, 3) := by decide +kernel
theorem d_B_setBits_66 : decode b_B_setBits 66 = .ok (.goto (-58), 3) := by decide +kernel
theorem d_B_setBits_69 : decode b_B_setBits 69 = .ok (.return_, 1) := by decide +kernel
theorem d_B_runs_0 : decode b_B_runs 0 = .ok (.iconst 0, 1) := by decide +kernel
theorem d_B_runs_1 : decode b_B_runs 1 = .ok (.istore 4, 2) := by decide +kernel
theorem d_B_runs_3 : decode b_B_runs 3 = .ok (.iconst 0, 1) := by decide +kernel
theorem d_B_runs_4 : decode b_B_runs 4 = .ok (.istore 5, 2) := by decide +kernel
theorem d_B_runs_6 : decode b_B_runs 6 = .ok (.iload 5, 2) := by decide +kernel
theorem d_B_runs_8 : decode b_B_runs 8 = .ok (.iload_n 2, 1) := by decide +kernel
theorem d_B_runs_9 : decode b_B_runs 9 = .ok (.if_icmp .ge 48, 3) := by decide +kernel
theorem d_B_runs_12 : decode b_B_runs 12 = .ok (.iload 4, 2) := by decide +kernel
theorem d_B_runs_14 : decode b_B_runs 14 = .ok (.iload_n 2, 1) := by decide +kernel
theorem d_B_runs_15 : decode b_B_runs 15 = .ok (.if_icmp .ge 42, 3) := by decide +kernel
theorem d_B_runs_18 : decode b_B_runs 18 = .ok (.aload_n 1, 1) := by decide +kernel
theorem d_B_runs_19 : decode b_B_runs 19 = .ok (.iload_n 2, 1) := by decide +kernel
theorem d_B_runs_20 : decode b_B_runs 20 = .ok (.iload 4, 2) := by decide +kernel
theorem d_B_runs_22 : decode b_B_runs 22 = .ok (.invokestatic 45, 3) := by decide +kernel
theorem d_B_runs_25 : decode b_B_runs 25 = .ok (.ifCond .eq 15, 3) := by decide +kernel
theorem d_B_runs_28 : decode b_B_runs 28 = .ok (.aload_n 0, 1) := by decide +kernel
theorem d_B_runs_29 : decode b_B_runs 29 = .ok (.aload_n 1, 1) := by decide +kernel
theorem d_B_runs_30 : decode b_B_runs 30 = .ok (.iload_n 2, 1) := by decide +kernel
theorem d_B_runs_31 : decode b_B_runs 31 = .ok (.iload 4, 2) := by decide +kernel
theorem d_B_runs_33 : decode b_B_runs 33 = .ok (.iload_n 3, 1) := by decide +kernel
theorem d_B_runs_34 : decode b_B_runs 34 = .ok (.invokevirtual 49, 3) := by decide +kernel
theorem d_B_runs_37 : decode b_B_runs 37 = .ok (.goto 12, 3) := by decide +kernel
theorem d_B_runs_40 : decode b_B_runs 40 = .ok (.aload_n 0, 1) := by decide +kernel
theorem d_B_runs_41 : decode b_B_runs 41 = .ok (.aload_n 1, 1) := by decide +kernel
theorem d_B_runs_42 : decode b_B_runs 42 = .ok (.iload_n 2, 1) := by decide +kernel
theorem d_B_runs_43 : decode b_B_runs 43 = .ok (.iload 4, 2) := by decide +kernel
theorem d_B_runs_45 : decode b_B_runs 45 = .ok (.iload_n 3, 1) := by decide +kernel
theorem d_B_runs_46 : decode b_B_runs 46 = .ok (.invokevirtual 53, 3) := by decide +kernel
theorem d_B_runs_49 : decode b_B_runs 49 = .ok (.istore 4, 2) := by decide +kernel
theorem d_B_runs_51 : decode b_B_runs 51 = .ok (.iinc 5 1, 3) := by decide +kernel
theorem d_B_runs_54 : decode b_B_runs 54 = .ok (.goto (-48), 3) := by decide +kernel
theorem d_B_runs_57 : decode b_B_runs 57 = .ok (.return_, 1) := by decide +kernel
theorem d_B_beginsOne_0 : decode b_B_beginsOne 0 = .ok (.iload_n 2, 1) := by decide +kernel
theorem d_B_beginsOne_1 : decode b_B_beginsOne 1 = .ok (.bipush 8, 2) := by decide +kernel
theorem d_B_beginsOne_3 : decode b_B_beginsOne 3 = .ok (.iadd, 1) := by decide +kernel
theorem d_B_beginsOne_4 : decode b_B_beginsOne 4 = .ok (.iload_n 1, 1) := by decide +kernel
theorem d_B_beginsOne_5 : decode b_B_beginsOne 5 = .ok (.if_icmp .le 5, 3) := by decide +kernel
theorem d_B_beginsOne_8 : decode b_B_beginsOne 8 = .ok (.iconst 0, 1) := by decide +kernel
theorem d_B_beginsOne_9 : decode b_B_beginsOne 9 = .ok (.ireturn, 1) := by decide +kernel
theorem d_B_beginsOne_10 : decode b_B_beginsOne 10 = .ok (.iload_n 2, 1) := by decide +kernel
theorem d_B_beginsOne_11 : decode b_B_beginsOne 11 = .ok (.iconst 1, 1) := by decide +kernel
theorem d_B_beginsOne_12 : decode b_B_beginsOne 12 = .ok (.iadd, 1) := by decide +kernel
theorem d_B_beginsOne_13 : decode b_B_beginsOne 13 = .ok (.istore_n 3, 1) := by decide +kernel
theorem d_B_beginsOne_14 : decode b_B_beginsOne 14 = .ok (.iload_n 3, 1) := by decide +kernel
theorem d_B_beginsOne_15 : decode b_B_beginsOne 15 = .ok (.iload_n 2, 1) := by decide +kernel
theorem d_B_beginsOne_16 : decode b_B_beginsOne 16 = .ok (.bipush 8, 2) := by decide +kernel
theorem d_B_beginsOne_18 : decode b_B_beginsOne 18 = .ok (.iadd, 1) := by decide +kernel
theorem d_B_beginsOne_19 : decode b_B_beginsOne 19 = .ok (.if_icmp .ge 21, 3) := by decide +kernel
theorem d_B_beginsOne_22 : decode b_B_beginsOne 22 = .ok (.aload_n 0, 1) := by decide +kernel
theorem d_B_beginsOne_23 : decode b_B_beginsOne 23 = .ok (.iload_n 3, 1) := by decide +kernel
theorem d_B_beginsOne_24 : decode b_B_beginsOne 24 = .ok (.laload, 1) := by decide +kernel
theorem d_B_beginsOne_25 : decode b_B_beginsOne 25 = .ok (.aload_n 0, 1) := by decide +kernel
theorem d_B_beginsOne_26 : decode b_B_beginsOne 26 = .ok (.iload_n 2, 1) := by decide +kernel
theorem d_B_beginsOne_27 : decode b_B_beginsOne 27 = .ok (.laload, 1) := by decide +kernel
theorem d_B_beginsOne_28 : decode b_B_beginsOne 28 = .ok (.lcmp, 1) := by decide +kernel
theorem d_B_beginsOne_29 : decode b_B_beginsOne 29 = .ok (.ifCond .eq 5, 3) := by decide +kernel
theorem d_B_beginsOne_32 : decode b_B_beginsOne 32 = .ok (.iconst 0, 1) := by decide +kernel
theorem d_B_beginsOne_33 : decode b_B_beginsOne 33 = .ok (.ireturn, 1) := by decide +kernel
theorem d_B_beginsOne_34 : decode b_B_beginsOne 34 = .ok (.iinc 3 1, 3) := by decide +kernel
theorem d_B_beginsOne_37 : decode b_B_beginsOne 37 = .ok (.goto (-23), 3) := by decide +kernel
theorem d_B_beginsOne_40 : decode b_B_beginsOne 40 = .ok (.iconst 1, 1) := by decide +kernel
theorem d_B_beginsOne_41 : decode b_B_beginsOne 41 = .ok (.ireturn, 1) := by decide +kernel
theorem d_B_putOne_0 : decode b_B_putOne 0 = .ok (.iload_n 3, 1) := by decide +kernel
theorem d_B_putOne_1 : decode b_B_putOne 1 = .ok (.iconst 1, 1) := by decide +kernel
theorem d_B_putOne_2 : decode b_B_putOne 2 = .ok (.iadd, 1) := by decide +kernel
theorem d_B_putOne_3 : decode b_B_putOne 3 = .ok (.istore 5, 2) := by decide +kernel
theorem d_B_putOne_5 : decode b_B_putOne 5 = .ok (.iload 5, 2) := by decide +kernel
theorem d_B_putOne_7 : decode b_B_putOne 7 = .ok (.iload_n 2, 1) := by decide +kernel
theorem d_B_putOne_8 : decode b_B_putOne 8 = .ok (.if_icmp .ge 20, 3) := by decide +kernel
theorem d_B_putOne_11 : decode b_B_putOne 11 = .ok (.aload_n 1, 1) := by decide +kernel
theorem d_B_putOne_12 : decode b_B_putOne 12 = .ok (.iload 5, 2) := by decide +kernel
theorem d_B_putOne_14 : decode b_B_putOne 14 = .ok (.laload, 1) := by decide +kernel
theorem d_B_putOne_15 : decode b_B_putOne 15 = .ok (.aload_n 1, 1) := by decide +kernel
theorem d_B_putOne_16 : decode b_B_putOne 16 = .ok (.iload_n 3, 1) := by decide +kernel
theorem d_B_putOne_17 : decode b_B_putOne 17 = .ok (.laload, 1) := by decide +kernel
theorem d_B_putOne_18 : decode b_B_putOne 18 = .ok (.lcmp, 1) := by decide +kernel
theorem d_B_putOne_19 : decode b_B_putOne 19 = .ok (.ifCond .ne 9, 3) := by decide +kernel
theorem d_B_putOne_22 : decode b_B_putOne 22 = .ok (.iinc 5 1, 3) := by decide +kernel
theorem d_B_putOne_25 : decode b_B_putOne 25 = .ok (.goto (-20), 3) := by decide +kernel
theorem d_B_putOne_28 : decode b_B_putOne 28 = .ok (.aload_n 0, 1) := by decide +kernel
theorem d_B_putOne_29 : decode b_B_putOne 29 = .ok (.ldc2_w 56, 3) := by decide +kernel
theorem d_B_putOne_32 : decode b_B_putOne 32 = .ok (.iload 5, 2) := by decide +kernel
theorem d_B_putOne_34 : decode b_B_putOne 34 = .ok (.iload_n 3, 1) := by decide +kernel
theorem d_B_putOne_35 : decode b_B_putOne 35 = .ok (.isub, 1) := by decide +kernel
theorem d_B_putOne_36 : decode b_B_putOne 36 = .ok (.i2l, 1) := by decide +kernel
theorem d_B_putOne_37 : decode b_B_putOne 37 = .ok (.lmul, 1) := by decide +kernel
theorem d_B_putOne_38 : decode b_B_putOne 38 = .ok (.invokevirtual 31, 3) := by decide +kernel
theorem d_B_putOne_41 : decode b_B_putOne 41 = .ok (.aload_n 0, 1) := by decide +kernel
theorem d_B_putOne_42 : decode b_B_putOne 42 = .ok (.aload_n 1, 1) := by decide +kernel
theorem d_B_putOne_43 : decode b_B_putOne 43 = .ok (.iload_n 3, 1) := by decide +kernel
theorem d_B_putOne_44 : decode b_B_putOne 44 = .ok (.laload, 1) := by decide +kernel
theorem d_B_putOne_45 : decode b_B_putOne 45 = .ok (.iload 4, 2) := by decide +kernel
theorem d_B_putOne_47 : decode b_B_putOne 47 = .ok (.bipush 7, 2) := by decide +kernel
theorem d_B_putOne_49 : decode b_B_putOne 49 = .ok (.iadd, 1) := by decide +kernel
theorem d_B_putOne_50 : decode b_B_putOne 50 = .ok (.bipush 8, 2) := by decide +kernel
theorem d_B_putOne_52 : decode b_B_putOne 52 = .ok (.idiv, 1) := by decide +kernel
theorem d_B_putOne_53 : decode b_B_putOne 53 = .ok (.invokevirtual 58, 3) := by decide +kernel
theorem d_B_putOne_56 : decode b_B_putOne 56 = .ok (.iload 5, 2) := by decide +kernel
theorem d_B_putOne_58 : decode b_B_putOne 58 = .ok (.ireturn, 1) := by decide +kernel
theorem d_B_putGroups_0 : decode b_B_putGroups 0 = .ok (.iload_n 3, 1) := by decide +kernel
theorem d_B_putGroups_1 : decode b_B_putGroups 1 = .ok (.bipush 8, 2) := by decide +kernel
theorem d_B_putGroups_3 : decode b_B_putGroups 3 = .ok (.iadd, 1) := by decide +kernel
theorem d_B_putGroups_4 : decode b_B_putGroups 4 = .ok (.istore 5, 2) := by decide +kernel
theorem d_B_putGroups_6 : decode b_B_putGroups 6 = .ok (.iload 5, 2) := by decide +kernel
theorem d_B_putGroups_8 : decode b_B_putGroups 8 = .ok (.iload_n 2, 1) := by decide +kernel
theorem d_B_putGroups_9 : decode b_B_putGroups 9 = .ok (.if_icmp .ge 19, 3) := by decide +kernel
theorem d_B_putGroups_12 : decode b_B_putGroups 12 = .ok (.aload_n 1, 1) := by decide +kernel
theorem d_B_putGroups_13 : decode b_B_putGroups 13 = .ok (.iload_n 2, 1) := by decide +kernel
theorem d_B_putGroups_14 : decode b_B_putGroups 14 = .ok (.iload 5, 2) := by decide +kernel
theorem d_B_putGroups_16 : decode b_B_putGroups 16 = .ok (.invokestatic 45, 3) := by decide +kernel
theorem d_B_putGroups_19 : decode b_B_putGroups 19 = .ok (.ifCond .ne 9, 3) := by decide +kernel
theorem d_B_putGroups_22 : decode b_B_putGroups 22 = .ok (.iinc 5 8, 3) := by decide +kernel
theorem d_B_putGroups_25 : decode b_B_putGroups 25 = .ok (.goto (-19), 3) := by decide +kernel
theorem d_B_putGroups_28 : decode b_B_putGroups 28 = .ok (.iload 5, 2) := by decide +kernel
theorem d_B_putGroups_30 : decode b_B_putGroups 30 = .ok (.iload_n 3, 1) := by decide +kernel
theorem d_B_putGroups_31 : decode b_B_putGroups 31 = .ok (.isub, 1) := by decide +kernel
theorem d_B_putGroups_32 : decode b_B_putGroups 32 = .ok (.bipush 8, 2) := by decide +kernel
theorem d_B_putGroups_34 : decode b_B_putGroups 34 = .ok (.idiv, 1) := by decide +kernel
theorem d_B_putGroups_35 : decode b_B_putGroups 35 = .ok (.istore 6, 2) := by decide +kernel
theorem d_B_putGroups_37 : decode b_B_putGroups 37 = .ok (.aload_n 0, 1) := by decide +kernel
theorem d_B_putGroups_38 : decode b_B_putGroups 38 = .ok (.ldc2_w 56, 3) := by decide +kernel
theorem d_B_putGroups_41 : decode b_B_putGroups 41 = .ok (.iload 6, 2) := by decide +kernel
theorem d_B_putGroups_43 : decode b_B_putGroups 43 = .ok (.i2l, 1) := by decide +kernel
theorem d_B_putGroups_44 : decode b_B_putGroups 44 = .ok (.lmul, 1) := by decide +kernel
theorem d_B_putGroups_45 : decode b_B_putGroups 45 = .ok (.lconst 1, 1) := by decide +kernel
theorem d_B_putGroups_46 : decode b_B_putGroups 46 = .ok (.ladd, 1) := by decide +kernel
theorem d_B_putGroups_47 : decode b_B_putGroups 47 = .ok (.invokevirtual 31, 3) := by decide +kernel
theorem d_B_putGroups_50 : decode b_B_putGroups 50 = .ok (.bipush 8, 2) := by decide +kernel
theorem d_B_putGroups_52 : decode b_B_putGroups 52 = .ok (.aload_n 0, 1) := by decide +kernel
theorem d_B_putGroups_53 : decode b_B_putGroups 53 = .ok (.getfield 15, 3) := by decide +kernel
theorem d_B_putGroups_56 : decode b_B_putGroups 56 = .ok (.imul, 1) := by decide +kernel
theorem d_B_putGroups_57 : decode b_B_putGroups 57 = .ok (.istore 7, 2) := by decide +kernel
theorem d_B_putGroups_59 : decode b_B_putGroups 59 = .ok (.aload_n 0, 1) := by decide +kernel
theorem d_B_putGroups_60 : decode b_B_putGroups 60 = .ok (.iload 6, 2) := by decide +kernel
theorem d_B_putGroups_62 : decode b_B_putGroups 62 = .ok (.iload 4, 2) := by decide +kernel
theorem d_B_putGroups_64 : decode b_B_putGroups 64 = .ok (.imul, 1) := by decide +kernel
theorem d_B_putGroups_65 : decode b_B_putGroups 65 = .ok (.invokevirtual 62, 3) := by decide +kernel
theorem d_B_putGroups_68 : decode b_B_putGroups 68 = .ok (.iload_n 3, 1) := by decide +kernel
theorem d_B_putGroups_69 : decode b_B_putGroups 69 = .ok (.istore 8, 2) := by decide +kernel
theorem d_B_putGroups_71 : decode b_B_putGroups 71 = .ok (.iload 8, 2) := by decide +kernel
theorem d_B_putGroups_73 : decode b_B_putGroups 73 = .ok (.iload 5, 2) := by decide +kernel
theorem d_B_putGroups_75 : decode b_B_putGroups 75 = .ok (.if_icmp .ge 35, 3) := by decide +kernel
theorem d_B_putGroups_78 : decode b_B_putGroups 78 = .ok (.iload 8, 2) := by decide +kernel
theorem d_B_putGroups_80 : decode b_B_putGroups 80 = .ok (.iload_n 2, 1) := by decide +kernel
theorem d_B_putGroups_81 : decode b_B_putGroups 81 = .ok (.if_icmp .ge 29, 3) := by decide +kernel
theorem d_B_putGroups_84 : decode b_B_putGroups 84 = .ok (.aload_n 0, 1) := by decide +kernel
theorem d_B_putGroups_85 : decode b_B_putGroups 85 = .ok (.iload 7, 2) := by decide +kernel
theorem d_B_putGroups_87 : decode b_B_putGroups 87 = .ok (.iload 8, 2) := by decide +kernel
theorem d_B_putGroups_89 : decode b_B_putGroups 89 = .ok (.iload_n 3, 1) := by decide +kernel
theorem d_B_putGroups_90 : decode b_B_putGroups 90 = .ok (.isub, 1) := by decide +kernel
theorem d_B_putGroups_91 : decode b_B_putGroups 91 = .ok (.iload 4, 2) := by decide +kernel
theorem d_B_putGroups_93 : decode b_B_putGroups 93 = .ok (.imul, 1) := by decide +kernel
theorem d_B_putGroups_94 : decode b_B_putGroups 94 = .ok (.iadd, 1) := by decide +kernel
theorem d_B_putGroups_95 : decode b_B_putGroups 95 = .ok (.aload_n 1, 1) := by decide +kernel
theorem d_B_putGroups_96 : decode b_B_putGroups 96 = .ok (.iload 8, 2) := by decide +kernel
theorem d_B_putGroups_98 : decode b_B_putGroups 98 = .ok (.laload, 1) := by decide +kernel
theorem d_B_putGroups_99 : decode b_B_putGroups 99 = .ok (.iload 4, 2) := by decide +kernel
theorem d_B_putGroups_101 : decode b_B_putGroups 101 = .ok (.invokevirtual 65, 3) := by decide +kernel
theorem d_B_putGroups_104 : decode b_B_putGroups 104 = .ok (.iinc 8 1, 3) := by decide +kernel
theorem d_B_putGroups_107 : decode b_B_putGroups 107 = .ok (.goto (-36), 3) := by decide +kernel
theorem d_B_putGroups_110 : decode b_B_putGroups 110 = .ok (.iload 5, 2) := by decide +kernel
theorem d_B_putGroups_112 : decode b_B_putGroups 112 = .ok (.ireturn, 1) := by decide +kernel
theorem d_B_code_0 : decode b_B_code 0 = .ok (.aload_n 0, 1) := by decide +kernel
theorem d_B_code_1 : decode b_B_code 1 = .ok (.iload_n 2, 1) := by decide +kernel
theorem d_B_code_2 : decode b_B_code 2 = .ok (.i2l, 1) := by decide +kernel
theorem d_B_code_3 : decode b_B_code 3 = .ok (.invokevirtual 31, 3) := by decide +kernel
theorem d_B_code_6 : decode b_B_code 6 = .ok (.iload_n 2, 1) := by decide +kernel
theorem d_B_code_7 : decode b_B_code 7 = .ok (.ifCond .le 13, 3) := by decide +kernel
theorem d_B_code_10 : decode b_B_code 10 = .ok (.aload_n 0, 1) := by decide +kernel
theorem d_B_code_11 : decode b_B_code 11 = .ok (.aload_n 1, 1) := by decide +kernel
theorem d_B_code_12 : decode b_B_code 12 = .ok (.iconst 0, 1) := by decide +kernel
theorem d_B_code_13 : decode b_B_code 13 = .ok (.laload, 1) := by decide +kernel
theorem d_B_code_14 : decode b_B_code 14 = .ok (.invokestatic 69, 3) := by decide +kernel
theorem d_B_code_17 : decode b_B_code 17 = .ok (.invokevirtual 31, 3) := by decide +kernel
theorem d_B_code_20 : decode b_B_code 20 = .ok (.iconst 1, 1) := by decide +kernel
theorem d_B_code_21 : decode b_B_code 21 = .ok (.istore_n 3, 1) := by decide +kernel
theorem d_B_code_22 : decode b_B_code 22 = .ok (.iload_n 3, 1) := by decide +kernel
theorem d_B_code_23 : decode b_B_code 23 = .ok (.iload_n 2, 1) := by decide +kernel
theorem d_B_code_24 : decode b_B_code 24 = .ok (.if_icmp .ge 23, 3) := by decide +kernel
theorem d_B_code_27 : decode b_B_code 27 = .ok (.aload_n 0, 1) := by decide +kernel
theorem d_B_code_28 : decode b_B_code 28 = .ok (.aload_n 1, 1) := by decide +kernel
theorem d_B_code_29 : decode b_B_code 29 = .ok (.iload_n 3, 1) := by decide +kernel
theorem d_B_code_30 : decode b_B_code 30 = .ok (.iload_n 3, 1) := by decide +kernel
theorem d_B_code_31 : decode b_B_code 31 = .ok (.bipush 64, 2) := by decide +kernel
theorem d_B_code_33 : decode b_B_code 33 = .ok (.iadd, 1) := by decide +kernel
theorem d_B_code_34 : decode b_B_code 34 = .ok (.iload_n 2, 1) := by decide +kernel
theorem d_B_code_35 : decode b_B_code 35 = .ok (.invokestatic 73, 3) := by decide +kernel
theorem d_B_code_38 : decode b_B_code 38 = .ok (.invokevirtual 79, 3) := by decide +kernel
theorem d_B_code_41 : decode b_B_code 41 = .ok (.iinc 3 64, 3) := by decide +kernel
theorem d_B_code_44 : decode b_B_code 44 = .ok (.goto (-22), 3) := by decide +kernel
theorem d_B_code_47 : decode b_B_code 47 = .ok (.return_, 1) := by decide +kernel
theorem d_B_putBlock_0 : decode b_B_putBlock 0 = .ok (.aload_n 1, 1) := by decide +kernel
theorem d_B_putBlock_1 : decode b_B_putBlock 1 = .ok (.iload_n 2, 1) := by decide +kernel
theorem d_B_putBlock_2 : decode b_B_putBlock 2 = .ok (.laload, 1) := by decide +kernel
theorem d_B_putBlock_3 : decode b_B_putBlock 3 = .ok (.aload_n 1, 1) := by decide +kernel
theorem d_B_putBlock_4 : decode b_B_putBlock 4 = .ok (.iload_n 2, 1) := by decide +kernel
theorem d_B_putBlock_5 : decode b_B_putBlock 5 = .ok (.iconst 1, 1) := by decide +kernel
theorem d_B_putBlock_6 : decode b_B_putBlock 6 = .ok (.isub, 1) := by decide +kernel
theorem d_B_putBlock_7 : decode b_B_putBlock 7 = .ok (.laload, 1) := by decide +kernel
theorem d_B_putBlock_8 : decode b_B_putBlock 8 = .ok (.lsub, 1) := by decide +kernel
theorem d_B_putBlock_9 : decode b_B_putBlock 9 = .ok (.lstore 4, 2) := by decide +kernel
theorem d_B_putBlock_11 : decode b_B_putBlock 11 = .ok (.iload_n 2, 1) := by decide +kernel
theorem d_B_putBlock_12 : decode b_B_putBlock 12 = .ok (.iconst 1, 1) := by decide +kernel
theorem d_B_putBlock_13 : decode b_B_putBlock 13 = .ok (.iadd, 1) := by decide +kernel
theorem d_B_putBlock_14 : decode b_B_putBlock 14 = .ok (.istore 6, 2) := by decide +kernel
theorem d_B_putBlock_16 : decode b_B_putBlock 16 = .ok (.iload 6, 2) := by decide +kernel
theorem d_B_putBlock_18 : decode b_B_putBlock 18 = .ok (.iload_n 3, 1) := by decide +kernel
theorem d_B_putBlock_19 : decode b_B_putBlock 19 = .ok (.if_icmp .ge 27, 3) := by decide +kernel
theorem d_B_putBlock_22 : decode b_B_putBlock 22 = .ok (.lload 4, 2) := by decide +kernel
theorem d_B_putBlock_24 : decode b_B_putBlock 24 = .ok (.aload_n 1, 1) := by decide +kernel
theorem d_B_putBlock_25 : decode b_B_putBlock 25 = .ok (.iload 6, 2) := by decide +kernel
theorem d_B_putBlock_27 : decode b_B_putBlock 27 = .ok (.laload, 1) := by decide +kernel
theorem d_B_putBlock_28 : decode b_B_putBlock 28 = .ok (.aload_n 1, 1) := by decide +kernel
theorem d_B_putBlock_29 : decode b_B_putBlock 29 = .ok (.iload 6, 2) := by decide +kernel
theorem d_B_putBlock_31 : decode b_B_putBlock 31 = .ok (.iconst 1, 1) := by decide +kernel
theorem d_B_putBlock_32 : decode b_B_putBlock 32 = .ok (.isub, 1) := by decide +kernel
theorem d_B_putBlock_33 : decode b_B_putBlock 33 = .ok (.laload, 1) := by decide +kernel
theorem d_B_putBlock_34 : decode b_B_putBlock 34 = .ok (.lsub, 1) := by decide +kernel
theorem d_B_putBlock_35 : decode b_B_putBlock 35 = .ok (.invokestatic 83, 3) := by decide +kernel
theorem d_B_putBlock_38 : decode b_B_putBlock 38 = .ok (.lstore 4, 2) := by decide +kernel
theorem d_B_putBlock_40 : decode b_B_putBlock 40 = .ok (.iinc 6 1, 3) := by decide +kernel
theorem d_B_putBlock_43 : decode b_B_putBlock 43 = .ok (.goto (-27), 3) := by decide +kernel
theorem d_B_putBlock_46 : decode b_B_putBlock 46 = .ok (.aload_n 0, 1) := by decide +kernel
theorem d_B_putBlock_47 : decode b_B_putBlock 47 = .ok (.lload 4, 2) := by decide +kernel
theorem d_B_putBlock_49 : decode b_B_putBlock 49 = .ok (.invokestatic 69, 3) := by decide +kernel
theorem d_B_putBlock_52 : decode b_B_putBlock 52 = .ok (.invokevirtual 31, 3) := by decide +kernel
theorem d_B_putBlock_55 : decode b_B_putBlock 55 = .ok (.aload_n 0, 1) := by decide +kernel
theorem d_B_putBlock_56 : decode b_B_putBlock 56 = .ok (.getfield 15, 3) := by decide +kernel
theorem d_B_putBlock_59 : decode b_B_putBlock 59 = .ok (.istore 6, 2) := by decide +kernel
theorem d_B_putBlock_61 : decode b_B_putBlock 61 = .ok (.aload_n 0, 1) := by decide +kernel
theorem d_B_putBlock_62 : decode b_B_putBlock 62 = .ok (.iconst 4, 1) := by decide +kernel
theorem d_B_putBlock_63 : decode b_B_putBlock 63 = .ok (.invokevirtual 62, 3) := by decide +kernel
theorem d_B_putBlock_66 : decode b_B_putBlock 66 = .ok (.iconst 0, 1) := by decide +kernel
theorem d_B_putBlock_67 : decode b_B_putBlock 67 = .ok (.istore 7, 2) := by decide +kernel
theorem d_B_putBlock_69 : decode b_B_putBlock 69 = .ok (.iload 7, 2) := by decide +kernel
theorem d_B_putBlock_71 : decode b_B_putBlock 71 = .ok (.iconst 4, 1) := by decide +kernel
theorem d_B_putBlock_72 : decode b_B_putBlock 72 = .ok (.if_icmp .ge 55, 3) := by decide +kernel
theorem d_B_putBlock_75 : decode b_B_putBlock 75 = .ok (.iload_n 2, 1) := by decide +kernel
theorem d_B_putBlock_76 : decode b_B_putBlock 76 = .ok (.bipush 16, 2) := by decide +kernel
theorem d_B_putBlock_78 : decode b_B_putBlock 78 = .ok (.iload 7, 2) := by decide +kernel
theorem d_B_putBlock_80 : decode b_B_putBlock 80 = .ok (.imul, 1) := by decide +kernel
theorem d_B_putBlock_81 : decode b_B_putBlock 81 = .ok (.iadd, 1) := by decide +kernel
theorem d_B_putBlock_82 : decode b_B_putBlock 82 = .ok (.istore 8, 2) := by decide +kernel
theorem d_B_putBlock_84 : decode b_B_putBlock 84 = .ok (.aload_n 0, 1) := by decide +kernel
theorem d_B_putBlock_85 : decode b_B_putBlock 85 = .ok (.aload_n 1, 1) := by decide +kernel
theorem d_B_putBlock_86 : decode b_B_putBlock 86 = .ok (.iload 8, 2) := by decide +kernel
theorem d_B_putBlock_88 : decode b_B_putBlock 88 = .ok (.iload 8, 2) := by decide +kernel
theorem d_B_putBlock_90 : decode b_B_putBlock 90 = .ok (.bipush 16, 2) := by decide +kernel
theorem d_B_putBlock_92 : decode b_B_putBlock 92 = .ok (.iadd, 1) := by decide +kernel
theorem d_B_putBlock_93 : decode b_B_putBlock 93 = .ok (.iload_n 3, 1) := by decide +kernel
theorem d_B_putBlock_94 : decode b_B_putBlock 94 = .ok (.invokestatic 73, 3) := by decide +kernel
theorem d_B_putBlock_97 : decode b_B_putBlock 97 = .ok (.lload 4, 2) := by decide +kernel
theorem d_B_putBlock_99 : decode b_B_putBlock 99 = .ok (.invokevirtual 86, 3) := by decide +kernel
theorem d_B_putBlock_102 : decode b_B_putBlock 102 = .ok (.istore 9, 2) := by decide +kernel
theorem d_B_putBlock_104 : decode b_B_putBlock 104 = .ok (.aload_n 0, 1) := by decide +kernel
theorem d_B_putBlock_105 : decode b_B_putBlock 105 = .ok (.bipush 8, 2) := by decide +kernel
theorem d_B_putBlock_107 : decode b_B_putBlock 107 = .ok (.iload 6, 2) := by decide +kernel
theorem d_B_putBlock_109 : decode b_B_putBlock 109 = .ok (.iload 7, 2) := by decide +kernel
theorem d_B_putBlock_111 : decode b_B_putBlock 111 = .ok (.iadd, 1) := by decide +kernel
theorem d_B_putBlock_112 : decode b_B_putBlock 112 = .ok (.imul, 1) := by decide +kernel
theorem d_B_putBlock_113 : decode b_B_putBlock 113 = .ok (.iload 9, 2) := by decide +kernel
theorem d_B_putBlock_115 : decode b_B_putBlock 115 = .ok (.i2l, 1) := by decide +kernel
theorem d_B_putBlock_116 : decode b_B_putBlock 116 = .ok (.bipush 8, 2) := by decide +kernel
theorem d_B_putBlock_118 : decode b_B_putBlock 118 = .ok (.invokevirtual 65, 3) := by decide +kernel
theorem d_B_putBlock_121 : decode b_B_putBlock 121 = .ok (.iinc 7 1, 3) := by decide +kernel
theorem d_B_putBlock_124 : decode b_B_putBlock 124 = .ok (.goto (-55), 3) := by decide +kernel
theorem d_B_putBlock_127 : decode b_B_putBlock 127 = .ok (.return_, 1) := by decide +kernel
theorem d_B_putPart_0 : decode b_B_putPart 0 = .ok (.lconst 0, 1) := by decide +kernel
theorem d_B_putPart_1 : decode b_B_putPart 1 = .ok (.lstore 6, 2) := by decide +kernel
theorem d_B_putPart_3 : decode b_B_putPart 3 = .ok (.iload_n 2, 1) := by decide +kernel
theorem d_B_putPart_4 : decode b_B_putPart 4 = .ok (.istore 8, 2) := by decide +kernel
theorem d_B_putPart_6 : decode b_B_putPart 6 = .ok (.iload 8, 2) := by decide +kernel
theorem d_B_putPart_8 : decode b_B_putPart 8 = .ok (.iload_n 3, 1) := by decide +kernel
theorem d_B_putPart_9 : decode b_B_putPart 9 = .ok (.if_icmp .ge 28, 3) := by decide +kernel
theorem d_B_putPart_12 : decode b_B_putPart 12 = .ok (.lload 6, 2) := by decide +kernel
theorem d_B_putPart_14 : decode b_B_putPart 14 = .ok (.aload_n 1, 1) := by decide +kernel
theorem d_B_putPart_15 : decode b_B_putPart 15 = .ok (.iload 8, 2) := by decide +kernel
theorem d_B_putPart_17 : decode b_B_putPart 17 = .ok (.laload, 1) := by decide +kernel
theorem d_B_putPart_18 : decode b_B_putPart 18 = .ok (.aload_n 1, 1) := by decide +kernel
theorem d_B_putPart_19 : decode b_B_putPart 19 = .ok (.iload 8, 2) := by decide +kernel
theorem d_B_putPart_21 : decode b_B_putPart 21 = .ok (.iconst 1, 1) := by decide +kernel
theorem d_B_putPart_22 : decode b_B_putPart 22 = .ok (.isub, 1) := by decide +kernel
theorem d_B_putPart_23 : decode b_B_putPart 23 = .ok (.laload, 1) := by decide +kernel
theorem d_B_putPart_24 : decode b_B_putPart 24 = .ok (.lsub, 1) := by decide +kernel
theorem d_B_putPart_25 : decode b_B_putPart 25 = .ok (.lload 4, 2) := by decide +kernel
theorem d_B_putPart_27 : decode b_B_putPart 27 = .ok (.lsub, 1) := by decide +kernel
theorem d_B_putPart_28 : decode b_B_putPart 28 = .ok (.lor, 1) := by decide +kernel
theorem d_B_putPart_29 : decode b_B_putPart 29 = .ok (.lstore 6, 2) := by decide +kernel
theorem d_B_putPart_31 : decode b_B_putPart 31 = .ok (.iinc 8 1, 3) := by decide +kernel
theorem d_B_putPart_34 : decode b_B_putPart 34 = .ok (.goto (-28), 3) := by decide +kernel
theorem d_B_putPart_37 : decode b_B_putPart 37 = .ok (.lload 6, 2) := by decide +kernel
theorem d_B_putPart_39 : decode b_B_putPart 39 = .ok (.invokestatic 90, 3) := by decide +kernel
theorem d_B_putPart_42 : decode b_B_putPart 42 = .ok (.istore 8, 2) := by decide +kernel
theorem d_B_putPart_44 : decode b_B_putPart 44 = .ok (.bipush 8, 2) := by decide +kernel
theorem d_B_putPart_46 : decode b_B_putPart 46 = .ok (.aload_n 0, 1) := by decide +kernel
theorem d_B_putPart_47 : decode b_B_putPart 47 = .ok (.getfield 15, 3) := by decide +kernel
theorem d_B_putPart_50 : decode b_B_putPart 50 = .ok (.imul, 1) := by decide +kernel
theorem d_B_putPart_51 : decode b_B_putPart 51 = .ok (.istore 9, 2) := by decide +kernel
theorem d_B_putPart_53 : decode b_B_putPart 53 = .ok (.aload_n 0, 1) := by decide +kernel
theorem d_B_putPart_54 : decode b_B_putPart 54 = .ok (.iconst 2, 1) := by decide +kernel
theorem d_B_putPart_55 : decode b_B_putPart 55 = .ok (.iload 8, 2) := by decide +kernel
theorem d_B_putPart_57 : decode b_B_putPart 57 = .ok (.imul, 1) := by decide +kernel
theorem d_B_putPart_58 : decode b_B_putPart 58 = .ok (.invokevirtual 62, 3) := by decide +kernel
theorem d_B_putPart_61 : decode b_B_putPart 61 = .ok (.iload_n 2, 1) := by decide +kernel
theorem d_B_putPart_62 : decode b_B_putPart 62 = .ok (.istore 10, 2) := by decide +kernel
theorem d_B_putPart_64 : decode b_B_putPart 64 = .ok (.iload 10, 2) := by decide +kernel
theorem d_B_putPart_66 : decode b_B_putPart 66 = .ok (.iload_n 3, 1) := by decide +kernel
theorem d_B_putPart_67 : decode b_B_putPart 67 = .ok (.if_icmp .ge 39, 3) := by decide +kernel
theorem d_B_putPart_70 : decode b_B_putPart 70 = .ok (.aload_n 0, 1) := by decide +kernel
theorem d_B_putPart_71 : decode b_B_putPart 71 = .ok (.iload 9, 2) := by decide +kernel
theorem d_B_putPart_73 : decode b_B_putPart 73 = .ok (.iload 10, 2) := by decide +kernel
theorem d_B_putPart_75 : decode b_B_putPart 75 = .ok (.iload_n 2, 1) := by decide +kernel
theorem d_B_putPart_76 : decode b_B_putPart 76 = .ok (.isub, 1) := by decide +kernel
theorem d_B_putPart_77 : decode b_B_putPart 77 = .ok (.iload 8, 2) := by decide +kernel
theorem d_B_putPart_79 : decode b_B_putPart 79 = .ok (.imul, 1) := by decide +kernel
theorem d_B_putPart_80 : decode b_B_putPart 80 = .ok (.iadd, 1) := by decide +kernel
theorem d_B_putPart_81 : decode b_B_putPart 81 = .ok (.aload_n 1, 1) := by decide +kernel
theorem d_B_putPart_82 : decode b_B_putPart 82 = .ok (.iload 10, 2) := by decide +kernel
theorem d_B_putPart_84 : decode b_B_putPart 84 = .ok (.laload, 1) := by decide +kernel
theorem d_B_putPart_85 : decode b_B_putPart 85 = .ok (.aload_n 1, 1) := by decide +kernel
theorem d_B_putPart_86 : decode b_B_putPart 86 = .ok (.iload 10, 2) := by decide +kernel
theorem d_B_putPart_88 : decode b_B_putPart 88 = .ok (.iconst 1, 1) := by decide +kernel
theorem d_B_putPart_89 : decode b_B_putPart 89 = .ok (.isub, 1) := by decide +kernel
theorem d_B_putPart_90 : decode b_B_putPart 90 = .ok (.laload, 1) := by decide +kernel
theorem d_B_putPart_91 : decode b_B_putPart 91 = .ok (.lsub, 1) := by decide +kernel
theorem d_B_putPart_92 : decode b_B_putPart 92 = .ok (.lload 4, 2) := by decide +kernel
theorem d_B_putPart_94 : decode b_B_putPart 94 = .ok (.lsub, 1) := by decide +kernel
theorem d_B_putPart_95 : decode b_B_putPart 95 = .ok (.iload 8, 2) := by decide +kernel
theorem d_B_putPart_97 : decode b_B_putPart 97 = .ok (.invokevirtual 65, 3) := by decide +kernel
theorem d_B_putPart_100 : decode b_B_putPart 100 = .ok (.iinc 10 1, 3) := by decide +kernel
theorem d_B_putPart_103 : decode b_B_putPart 103 = .ok (.goto (-39), 3) := by decide +kernel
theorem d_B_putPart_106 : decode b_B_putPart 106 = .ok (.iload 8, 2) := by decide +kernel
theorem d_B_putPart_108 : decode b_B_putPart 108 = .ok (.ireturn, 1) := by decide +kernel
theorem d_C_init_0 : decode b_C_init 0 = .ok (.aload_n 0, 1) := by decide +kernel
theorem d_C_init_1 : decode b_C_init 1 = .ok (.invokespecial 3, 3) := by decide +kernel
theorem d_C_init_4 : decode b_C_init 4 = .ok (.aload_n 0, 1) := by decide +kernel
theorem d_C_init_5 : decode b_C_init 5 = .ok (.iconst 0, 1) := by decide +kernel
theorem d_C_init_6 : decode b_C_init 6 = .ok (.putfield 9, 3) := by decide +kernel
theorem d_C_init_9 : decode b_C_init 9 = .ok (.return_, 1) := by decide +kernel
theorem d_C_holds_0 : decode b_C_holds 0 = .ok (.aload_n 0, 1) := by decide +kernel
theorem d_C_holds_1 : decode b_C_holds 1 = .ok (.getfield 9, 3) := by decide +kernel
theorem d_C_holds_4 : decode b_C_holds 4 = .ok (.lookupswitch 60 #[(0, 28), (1, 46)], 28) := by decide +kernel
theorem d_C_holds_32 : decode b_C_holds 32 = .ok (.lload_n 1, 1) := by decide +kernel
theorem d_C_holds_33 : decode b_C_holds 33 = .ok (.lconst 0, 1) := by decide +kernel
theorem d_C_holds_34 : decode b_C_holds 34 = .ok (.lcmp, 1) := by decide +kernel
theorem d_C_holds_35 : decode b_C_holds 35 = .ok (.ifCond .eq 9, 3) := by decide +kernel
theorem d_C_holds_38 : decode b_C_holds 38 = .ok (.lload_n 1, 1) := by decide +kernel
theorem d_C_holds_39 : decode b_C_holds 39 = .ok (.lconst 1, 1) := by decide +kernel
theorem d_C_holds_40 : decode b_C_holds 40 = .ok (.lcmp, 1) := by decide +kernel
theorem d_C_holds_41 : decode b_C_holds 41 = .ok (.ifCond .ne 7, 3) := by decide +kernel
theorem d_C_holds_44 : decode b_C_holds 44 = .ok (.iconst 1, 1) := by decide +kernel
theorem d_C_holds_45 : decode b_C_holds 45 = .ok (.goto 4, 3) := by decide +kernel
theorem d_C_holds_48 : decode b_C_holds 48 = .ok (.iconst 0, 1) := by decide +kernel
theorem d_C_holds_49 : decode b_C_holds 49 = .ok (.ireturn, 1) := by decide +kernel
theorem d_C_holds_50 : decode b_C_holds 50 = .ok (.lload_n 1, 1) := by decide +kernel
theorem d_C_holds_51 : decode b_C_holds 51 = .ok (.lload_n 1, 1) := by decide +kernel
theorem d_C_holds_52 : decode b_C_holds 52 = .ok (.l2i, 1) := by decide +kernel
theorem d_C_holds_53 : decode b_C_holds 53 = .ok (.i2l, 1) := by decide +kernel
theorem d_C_holds_54 : decode b_C_holds 54 = .ok (.lcmp, 1) := by decide +kernel
theorem d_C_holds_55 : decode b_C_holds 55 = .ok (.ifCond .ne 7, 3) := by decide +kernel
theorem d_C_holds_58 : decode b_C_holds 58 = .ok (.iconst 1, 1) := by decide +kernel
theorem d_C_holds_59 : decode b_C_holds 59 = .ok (.goto 4, 3) := by decide +kernel
theorem d_C_holds_62 : decode b_C_holds 62 = .ok (.iconst 0, 1) := by decide +kernel
theorem d_C_holds_63 : decode b_C_holds 63 = .ok (.ireturn, 1) := by decide +kernel
theorem d_C_holds_64 : decode b_C_holds 64 = .ok (.iconst 1, 1) := by decide +kernel
theorem d_C_holds_65 : decode b_C_holds 65 = .ok (.ireturn, 1) := by decide +kernel
theorem d_C_lastCoding_0 : decode b_C_lastCoding 0 = .ok (.aload_n 0, 1) := by decide +kernel
theorem d_C_lastCoding_1 : decode b_C_lastCoding 1 = .ok (.getfield 9, 3) := by decide +kernel
theorem d_C_lastCoding_4 : decode b_C_lastCoding 4 = .ok (.lookupswitch 32 #[(0, 28), (3, 30)], 28) := by decide +kernel
theorem d_C_lastCoding_32 : decode b_C_lastCoding 32 = .ok (.iconst 1, 1) := by decide +kernel
theorem d_C_lastCoding_33 : decode b_C_lastCoding 33 = .ok (.ireturn, 1) := by decide +kernel
theorem d_C_lastCoding_34 : decode b_C_lastCoding 34 = .ok (.iconst 3, 1) := by decide +kernel
theorem d_C_lastCoding_35 : decode b_C_lastCoding 35 = .ok (.ireturn, 1) := by decide +kernel
theorem d_C_lastCoding_36 : decode b_C_lastCoding 36 = .ok (.iconst 2, 1) := by decide +kernel
theorem d_C_lastCoding_37 : decode b_C_lastCoding 37 = .ok (.ireturn, 1) := by decide +kernel
theorem d_D_init_0 : decode b_D_init 0 = .ok (.aload_n 0, 1) := by decide +kernel
theorem d_D_init_1 : decode b_D_init 1 = .ok (.invokespecial 3, 3) := by decide +kernel
theorem d_D_init_4 : decode b_D_init 4 = .ok (.aload_n 0, 1) := by decide +kernel
theorem d_D_init_5 : decode b_D_init 5 = .ok (.sipush 2048, 3) := by decide +kernel
theorem d_D_init_8 : decode b_D_init 8 = .ok (.newarray .int, 2) := by decide +kernel
theorem d_D_init_10 : decode b_D_init 10 = .ok (.putfield 9, 3) := by decide +kernel
theorem d_D_init_13 : decode b_D_init 13 = .ok (.aload_n 0, 1) := by decide +kernel
theorem d_D_init_14 : decode b_D_init 14 = .ok (.sipush 1000, 3) := by decide +kernel
theorem d_D_init_17 : decode b_D_init 17 = .ok (.newarray .int, 2) := by decide +kernel
theorem d_D_init_19 : decode b_D_init 19 = .ok (.putfield 15, 3) := by decide +kernel
theorem d_D_init_22 : decode b_D_init 22 = .ok (.return_, 1) := by decide +kernel
theorem d_D_gather_0 : decode b_D_gather 0 = .ok (.aload_n 0, 1) := by decide +kernel
theorem d_D_gather_1 : decode b_D_gather 1 = .ok (.getfield 9, 3) := by decide +kernel
theorem d_D_gather_4 : decode b_D_gather 4 = .ok (.iconst 0, 1) := by decide +kernel
theorem d_D_gather_5 : decode b_D_gather 5 = .ok (.invokestatic 18, 3) := by decide +kernel
theorem d_D_gather_8 : decode b_D_gather 8 = .ok (.aload_n 0, 1) := by decide +kernel
theorem d_D_gather_9 : decode b_D_gather 9 = .ok (.iconst 0, 1) := by decide +kernel
theorem d_D_gather_10 : decode b_D_gather 10 = .ok (.putfield 24, 3) := by decide +kernel
theorem d_D_gather_13 : decode b_D_gather 13 = .ok (.iconst 0, 1) := by decide +kernel
theorem d_D_gather_14 : decode b_D_gather 14 = .ok (.istore_n 3, 1) := by decide +kernel
theorem d_D_gather_15 : decode b_D_gather 15 = .ok (.iload_n 3, 1) := by decide +kernel
theorem d_D_gather_16 : decode b_D_gather 16 = .ok (.aload_n 1, 1) := by decide +kernel
theorem d_D_gather_17 : decode b_D_gather 17 = .ok (.getfield 28, 3) := by decide +kernel
theorem d_D_gather_20 : decode b_D_gather 20 = .ok (.if_icmp .ge 19, 3) := by decide +kernel
theorem d_D_gather_23 : decode b_D_gather 23 = .ok (.aload_n 2, 1) := by decide +kernel
theorem d_D_gather_24 : decode b_D_gather 24 = .ok (.iload_n 3, 1) := by decide +kernel
theorem d_D_gather_25 : decode b_D_gather 25 = .ok (.aload_n 0, 1) := by decide +kernel
theorem d_D_gather_26 : decode b_D_gather 26 = .ok (.aload_n 1, 1) := by decide +kernel
theorem d_D_gather_27 : decode b_D_gather 27 = .ok (.iload_n 3, 1) := by decide +kernel
theorem d_D_gather_28 : decode b_D_gather 28 = .ok (.invokevirtual 31, 3) := by decide +kernel
theorem d_D_gather_31 : decode b_D_gather 31 = .ok (.i2l, 1) := by decide +kernel
theorem d_D_gather_32 : decode b_D_gather 32 = .ok (.lastore, 1) := by decide +kernel
theorem d_D_gather_33 : decode b_D_gather 33 = .ok (.iinc 3 1, 3) := by decide +kernel
theorem d_D_gather_36 : decode b_D_gather 36 = .ok (.goto (-21), 3) := by decide +kernel
theorem d_D_gather_39 : decode b_D_gather 39 = .ok (.return_, 1) := by decide +kernel
theorem d_D_numberOf_0 : decode b_D_numberOf 0 = .ok (.aload_n 1, 1) := by decide +kernel
theorem d_D_numberOf_1 : decode b_D_numberOf 1 = .ok (.iload_n 2, 1) := by decide +kernel
theorem d_D_numberOf_2 : decode b_D_numberOf 2 = .ok (.invokevirtual 35, 3) := by decide +kernel
theorem d_D_numberOf_5 : decode b_D_numberOf 5 = .ok (.istore_n 3, 1) := by decide +kernel
theorem d_D_numberOf_6 : decode b_D_numberOf 6 = .ok (.iconst 0, 1) := by decide +kernel
theorem d_D_numberOf_7 : decode b_D_numberOf 7 = .ok (.istore 4, 2) := by decide +kernel
theorem d_D_numberOf_9 : decode b_D_numberOf 9 = .ok (.iload 4, 2) := by decide +kernel
theorem d_D_numberOf_11 : decode b_D_numberOf 11 = .ok (.sipush 2048, 3) := by decide +kernel
theorem d_D_numberOf_14 : decode b_D_numberOf 14 = .ok (.if_icmp .ge 92, 3) := by decide +kernel
theorem d_D_numberOf_17 : decode b_D_numberOf 17 = .ok (.iload_n 3, 1) := by decide +kernel
theorem d_D_numberOf_18 : decode b_D_numberOf 18 = .ok (.iload 4, 2) := by decide +kernel
theorem d_D_numberOf_20 : decode b_D_numberOf 20 = .ok (.iadd, 1) := by decide +kernel
theorem d_D_numberOf_21 : decode b_D_numberOf 21 = .ok (.sipush 2047, 3) := by decide +kernel
theorem d_D_numberOf_24 : decode b_D_numberOf 24 = .ok (.iand, 1) := by decide +kernel
theorem d_D_numberOf_25 : decode b_D_numberOf 25 = .ok (.istore 5, 2) := by decide +kernel
theorem d_D_numberOf_27 : decode b_D_numberOf 27 = .ok (.aload_n 0, 1) := by decide +kernel
theorem d_D_numberOf_28 : decode b_D_numberOf 28 = .ok (.getfield 9, 3) := by decide +kernel
theorem d_D_numberOf_31 : decode b_D_numberOf 31 = .ok (.iload 5, 2) := by decide +kernel
theorem d_D_numberOf_33 : decode b_D_numberOf 33 = .ok (.iaload, 1) := by decide +kernel
theorem d_D_numberOf_34 : decode b_D_numberOf 34 = .ok (.iconst 1, 1) := by decide +kernel
theorem d_D_numberOf_35 : decode b_D_numberOf 35 = .ok (.isub, 1) := by decide +kernel
theorem d_D_numberOf_36 : decode b_D_numberOf 36 = .ok (.istore 6, 2) := by decide +kernel
theorem d_D_numberOf_38 : decode b_D_numberOf 38 = .ok (.iload 6, 2) := by decide +kernel
theorem d_D_numberOf_40 : decode b_D_numberOf 40 = .ok (.ifCond .ge 41, 3) := by decide +kernel
theorem d_D_numberOf_43 : decode b_D_numberOf 43 = .ok (.aload_n 0, 1) := by decide +kernel
theorem d_D_numberOf_44 : decode b_D_numberOf 44 = .ok (.getfield 15, 3) := by decide +kernel
theorem d_D_numberOf_47 : decode b_D_numberOf 47 = .ok (.aload_n 0, 1) := by decide +kernel
theorem d_D_numberOf_48 : decode b_D_numberOf 48 = .ok (.getfield 24, 3) := by decide +kernel
theorem d_D_numberOf_51 : decode b_D_numberOf 51 = .ok (.iload_n 2, 1) := by decide +kernel
theorem d_D_numberOf_52 : decode b_D_numberOf 52 = .ok (.iastore, 1) := by decide +kernel
theorem d_D_numberOf_53 : decode b_D_numberOf 53 = .ok (.aload_n 0, 1) := by decide +kernel
theorem d_D_numberOf_54 : decode b_D_numberOf 54 = .ok (.dup, 1) := by decide +kernel
theorem d_D_numberOf_55 : decode b_D_numberOf 55 = .ok (.getfield 24, 3) := by decide +kernel
theorem d_D_numberOf_58 : decode b_D_numberOf 58 = .ok (.iconst 1, 1) := by decide +kernel
theorem d_D_numberOf_59 : decode b_D_numberOf 59 = .ok (.iadd, 1) := by decide +kernel
theorem d_D_numberOf_60 : decode b_D_numberOf 60 = .ok (.putfield 24, 3) := by decide +kernel
theorem d_D_numberOf_63 : decode b_D_numberOf 63 = .ok (.aload_n 0, 1) := by decide +kernel
theorem d_D_numberOf_64 : decode b_D_numberOf 64 = .ok (.getfield 9, 3) := by decide +kernel
theorem d_D_numberOf_67 : decode b_D_numberOf 67 = .ok (.iload 5, 2) := by decide +kernel
theorem d_D_numberOf_69 : decode b_D_numberOf 69 = .ok (.aload_n 0, 1) := by decide +kernel
theorem d_D_numberOf_70 : decode b_D_numberOf 70 = .ok (.getfield 24, 3) := by decide +kernel
theorem d_D_numberOf_73 : decode b_D_numberOf 73 = .ok (.iastore, 1) := by decide +kernel
theorem d_D_numberOf_74 : decode b_D_numberOf 74 = .ok (.aload_n 0, 1) := by decide +kernel
theorem d_D_numberOf_75 : decode b_D_numberOf 75 = .ok (.getfield 24, 3) := by decide +kernel
theorem d_D_numberOf_78 : decode b_D_numberOf 78 = .ok (.iconst 1, 1) := by decide +kernel
theorem d_D_numberOf_79 : decode b_D_numberOf 79 = .ok (.isub, 1) := by decide +kernel
theorem d_D_numberOf_80 : decode b_D_numberOf 80 = .ok (.ireturn, 1) := by decide +kernel
theorem d_D_numberOf_81 : decode b_D_numberOf 81 = .ok (.aload_n 1, 1) := by decide +kernel
theorem d_D_numberOf_82 : decode b_D_numberOf 82 = .ok (.iload_n 2, 1) := by decide +kernel
theorem d_D_numberOf_83 : decode b_D_numberOf 83 = .ok (.aload_n 1, 1) := by decide +kernel
theorem d_D_numberOf_84 : decode b_D_numberOf 84 = .ok (.aload_n 0, 1) := by decide +kernel
theorem d_D_numberOf_85 : decode b_D_numberOf 85 = .ok (.getfield 15, 3) := by decide +kernel
theorem d_D_numberOf_88 : decode b_D_numberOf 88 = .ok (.iload 6, 2) := by decide +kernel
theorem d_D_numberOf_90 : decode b_D_numberOf 90 = .ok (.iaload, 1) := by decide +kernel
theorem d_D_numberOf_91 : decode b_D_numberOf 91 = .ok (.invokevirtual 39, 3) := by decide +kernel
theorem d_D_numberOf_94 : decode b_D_numberOf 94 = .ok (.ifCond .ne 6, 3) := by decide +kernel
theorem d_D_numberOf_97 : decode b_D_numberOf 97 = .ok (.iload 6, 2) := by decide +kernel
theorem d_D_numberOf_99 : decode b_D_numberOf 99 = .ok (.ireturn, 1) := by decide +kernel
theorem d_D_numberOf_100 : decode b_D_numberOf 100 = .ok (.iinc 4 1, 3) := by decide +kernel
theorem d_D_numberOf_103 : decode b_D_numberOf 103 = .ok (.goto (-94), 3) := by decide +kernel
theorem d_D_numberOf_106 : decode b_D_numberOf 106 = .ok (.iconst 0, 1) := by decide +kernel
theorem d_D_numberOf_107 : decode b_D_numberOf 107 = .ok (.ireturn, 1) := by decide +kernel
theorem d_P_init_0 : decode b_P_init 0 = .ok (.aload_n 0, 1) := by decide +kernel
theorem d_P_init_1 : decode b_P_init 1 = .ok (.invokespecial 3, 3) := by decide +kernel
theorem d_P_init_4 : decode b_P_init 4 = .ok (.aload_n 0, 1) := by decide +kernel
theorem d_P_init_5 : decode b_P_init 5 = .ok (.sipush 1000, 3) := by decide +kernel
theorem d_P_init_8 : decode b_P_init 8 = .ok (.newarray .byte, 2) := by decide +kernel
theorem d_P_init_10 : decode b_P_init 10 = .ok (.putfield 9, 3) := by decide +kernel
theorem d_P_init_13 : decode b_P_init 13 = .ok (.aload_n 0, 1) := by decide +kernel
theorem d_P_init_14 : decode b_P_init 14 = .ok (.sipush 1000, 3) := by decide +kernel
theorem d_P_init_17 : decode b_P_init 17 = .ok (.newarray .byte, 2) := by decide +kernel
theorem d_P_init_19 : decode b_P_init 19 = .ok (.putfield 15, 3) := by decide +kernel
theorem d_P_init_22 : decode b_P_init 22 = .ok (.aload_n 0, 1) := by decide +kernel
theorem d_P_init_23 : decode b_P_init 23 = .ok (.sipush 1000, 3) := by decide +kernel
theorem d_P_init_26 : decode b_P_init 26 = .ok (.newarray .int, 2) := by decide +kernel
theorem d_P_init_28 : decode b_P_init 28 = .ok (.putfield 18, 3) := by decide +kernel
theorem d_P_init_31 : decode b_P_init 31 = .ok (.aload_n 0, 1) := by decide +kernel
theorem d_P_init_32 : decode b_P_init 32 = .ok (.new 22, 3) := by decide +kernel
theorem d_P_init_35 : decode b_P_init 35 = .ok (.dup, 1) := by decide +kernel
theorem d_P_init_36 : decode b_P_init 36 = .ok (.sipush 1000, 3) := by decide +kernel
theorem d_P_init_39 : decode b_P_init 39 = .ok (.sipush 20000, 3) := by decide +kernel
theorem d_P_init_42 : decode b_P_init 42 = .ok (.invokespecial 24, 3) := by decide +kernel
theorem d_P_init_45 : decode b_P_init 45 = .ok (.putfield 27, 3) := by decide +kernel
theorem d_P_init_48 : decode b_P_init 48 = .ok (.return_, 1) := by decide +kernel
theorem d_P_makeEmpty_0 : decode b_P_makeEmpty 0 = .ok (.aload_n 0, 1) := by decide +kernel
theorem d_P_makeEmpty_1 : decode b_P_makeEmpty 1 = .ok (.iconst 0, 1) := by decide +kernel
theorem d_P_makeEmpty_2 : decode b_P_makeEmpty 2 = .ok (.putfield 31, 3) := by decide +kernel
theorem d_P_makeEmpty_5 : decode b_P_makeEmpty 5 = .ok (.aload_n 0, 1) := by decide +kernel
theorem d_P_makeEmpty_6 : decode b_P_makeEmpty 6 = .ok (.iconst 0, 1) := by decide +kernel
theorem d_P_makeEmpty_7 : decode b_P_makeEmpty 7 = .ok (.putfield 35, 3) := by decide +kernel
theorem d_P_makeEmpty_10 : decode b_P_makeEmpty 10 = .ok (.aload_n 0, 1) := by decide +kernel
theorem d_P_makeEmpty_11 : decode b_P_makeEmpty 11 = .ok (.getfield 27, 3) := by decide +kernel
theorem d_P_makeEmpty_14 : decode b_P_makeEmpty 14 = .ok (.aload_n 1, 1) := by decide +kernel
theorem d_P_makeEmpty_15 : decode b_P_makeEmpty 15 = .ok (.getfield 38, 3) := by decide +kernel
theorem d_P_makeEmpty_18 : decode b_P_makeEmpty 18 = .ok (.iconst 3, 1) := by decide +kernel
theorem d_P_makeEmpty_19 : decode b_P_makeEmpty 19 = .ok (.if_icmp .ne 7, 3) := by decide +kernel
theorem d_P_makeEmpty_22 : decode b_P_makeEmpty 22 = .ok (.iconst 1, 1) := by decide +kernel
theorem d_P_makeEmpty_23 : decode b_P_makeEmpty 23 = .ok (.goto 4, 3) := by decide +kernel
theorem d_P_makeEmpty_26 : decode b_P_makeEmpty 26 = .ok (.iconst 0, 1) := by decide +kernel
theorem d_P_makeEmpty_27 : decode b_P_makeEmpty 27 = .ok (.invokevirtual 43, 3) := by decide +kernel
theorem d_P_makeEmpty_30 : decode b_P_makeEmpty 30 = .ok (.return_, 1) := by decide +kernel
theorem d_P_addLevels_0 : decode b_P_addLevels 0 = .ok (.aload_n 0, 1) := by decide +kernel
theorem d_P_addLevels_1 : decode b_P_addLevels 1 = .ok (.getfield 31, 3) := by decide +kernel
theorem d_P_addLevels_4 : decode b_P_addLevels 4 = .ok (.sipush 1000, 3) := by decide +kernel
theorem d_P_addLevels_7 : decode b_P_addLevels 7 = .ok (.if_icmp .lt 4, 3) := by decide +kernel
theorem d_P_addLevels_10 : decode b_P_addLevels 10 = .ok (.return_, 1) := by decide +kernel
theorem d_P_addLevels_11 : decode b_P_addLevels 11 = .ok (.aload_n 0, 1) := by decide +kernel
theorem d_P_addLevels_12 : decode b_P_addLevels 12 = .ok (.getfield 9, 3) := by decide +kernel
theorem d_P_addLevels_15 : decode b_P_addLevels 15 = .ok (.aload_n 0, 1) := by decide +kernel
theorem d_P_addLevels_16 : decode b_P_addLevels 16 = .ok (.getfield 31, 3) := by decide +kernel
theorem d_P_addLevels_19 : decode b_P_addLevels 19 = .ok (.iload_n 1, 1) := by decide +kernel
theorem d_P_addLevels_20 : decode b_P_addLevels 20 = .ok (.i2b, 1) := by decide +kernel
theorem d_P_addLevels_21 : decode b_P_addLevels 21 = .ok (.bastore, 1) := by decide +kernel
theorem d_P_addLevels_22 : decode b_P_addLevels 22 = .ok (.aload_n 0, 1) := by decide +kernel
theorem d_P_addLevels_23 : decode b_P_addLevels 23 = .ok (.getfield 15, 3) := by decide +kernel
theorem d_P_addLevels_26 : decode b_P_addLevels 26 = .ok (.aload_n 0, 1) := by decide +kernel
theorem d_P_addLevels_27 : decode b_P_addLevels 27 = .ok (.getfield 31, 3) := by decide +kernel
theorem d_P_addLevels_30 : decode b_P_addLevels 30 = .ok (.iload_n 2, 1) := by decide +kernel
theorem d_P_addLevels_31 : decode b_P_addLevels 31 = .ok (.i2b, 1) := by decide +kernel
theorem d_P_addLevels_32 : decode b_P_addLevels 32 = .ok (.bastore, 1) := by decide +kernel
theorem d_P_addLevels_33 : decode b_P_addLevels 33 = .ok (.aload_n 0, 1) := by decide +kernel
theorem d_P_addLevels_34 : decode b_P_addLevels 34 = .ok (.getfield 18, 3) := by decide +kernel
theorem d_P_addLevels_37 : decode b_P_addLevels 37 = .ok (.aload_n 0, 1) := by decide +kernel
theorem d_P_addLevels_38 : decode b_P_addLevels 38 = .ok (.getfield 31, 3) := by decide +kernel
theorem d_P_addLevels_41 : decode b_P_addLevels 41 = .ok (.iload_n 3, 1) := by decide +kernel
theorem d_P_addLevels_42 : decode b_P_addLevels 42 = .ok (.ifCond .eq 10, 3) := by decide +kernel
theorem d_P_addLevels_45 : decode b_P_addLevels 45 = .ok (.aload_n 0, 1) := by decide +kernel
theorem d_P_addLevels_46 : decode b_P_addLevels 46 = .ok (.getfield 35, 3) := by decide +kernel
theorem d_P_addLevels_49 : decode b_P_addLevels 49 = .ok (.goto 4, 3) := by decide +kernel
theorem d_P_addLevels_52 : decode b_P_addLevels 52 = .ok (.iconst (-1), 1) := by decide +kernel
theorem d_P_addLevels_53 : decode b_P_addLevels 53 = .ok (.iastore, 1) := by decide +kernel
theorem d_P_addLevels_54 : decode b_P_addLevels 54 = .ok (.aload_n 0, 1) := by decide +kernel
theorem d_P_addLevels_55 : decode b_P_addLevels 55 = .ok (.dup, 1) := by decide +kernel
theorem d_P_addLevels_56 : decode b_P_addLevels 56 = .ok (.getfield 31, 3) := by decide +kernel
theorem d_P_addLevels_59 : decode b_P_addLevels 59 = .ok (.iconst 1, 1) := by decide +kernel
theorem d_P_addLevels_60 : decode b_P_addLevels 60 = .ok (.iadd, 1) := by decide +kernel
theorem d_P_addLevels_61 : decode b_P_addLevels 61 = .ok (.putfield 31, 3) := by decide +kernel
theorem d_P_addLevels_64 : decode b_P_addLevels 64 = .ok (.iload_n 3, 1) := by decide +kernel
theorem d_P_addLevels_65 : decode b_P_addLevels 65 = .ok (.ifCond .eq 13, 3) := by decide +kernel
theorem d_P_addLevels_68 : decode b_P_addLevels 68 = .ok (.aload_n 0, 1) := by decide +kernel
theorem d_P_addLevels_69 : decode b_P_addLevels 69 = .ok (.dup, 1) := by decide +kernel
theorem d_P_addLevels_70 : decode b_P_addLevels 70 = .ok (.getfield 35, 3) := by decide +kernel
theorem d_P_addLevels_73 : decode b_P_addLevels 73 = .ok (.iconst 1, 1) := by decide +kernel
theorem d_P_addLevels_74 : decode b_P_addLevels 74 = .ok (.iadd, 1) := by decide +kernel
theorem d_P_addLevels_75 : decode b_P_addLevels 75 = .ok (.putfield 35, 3) := by decide +kernel
theorem d_P_addLevels_78 : decode b_P_addLevels 78 = .ok (.return_, 1) := by decide +kernel
theorem d_R_init_0 : decode b_R_init 0 = .ok (.aload_n 0, 1) := by decide +kernel
theorem d_R_init_1 : decode b_R_init 1 = .ok (.invokespecial 3, 3) := by decide +kernel
theorem d_R_init_4 : decode b_R_init 4 = .ok (.aload_n 0, 1) := by decide +kernel
theorem d_R_init_5 : decode b_R_init 5 = .ok (.new 9, 3) := by decide +kernel
theorem d_R_init_8 : decode b_R_init 8 = .ok (.dup, 1) := by decide +kernel
theorem d_R_init_9 : decode b_R_init 9 = .ok (.iconst 2, 1) := by decide +kernel
theorem d_R_init_10 : decode b_R_init 10 = .ok (.sipush 510, 3) := by decide +kernel
theorem d_R_init_13 : decode b_R_init 13 = .ok (.invokespecial 11, 3) := by decide +kernel
theorem d_R_init_16 : decode b_R_init 16 = .ok (.putfield 14, 3) := by decide +kernel
theorem d_R_init_19 : decode b_R_init 19 = .ok (.aload_n 0, 1) := by decide +kernel
theorem d_R_init_20 : decode b_R_init 20 = .ok (.new 9, 3) := by decide +kernel
theorem d_R_init_23 : decode b_R_init 23 = .ok (.dup, 1) := by decide +kernel
theorem d_R_init_24 : decode b_R_init 24 = .ok (.sipush 1000, 3) := by decide +kernel
theorem d_R_init_27 : decode b_R_init 27 = .ok (.sipush 20000, 3) := by decide +kernel
theorem d_R_init_30 : decode b_R_init 30 = .ok (.invokespecial 11, 3) := by decide +kernel
theorem d_R_init_33 : decode b_R_init 33 = .ok (.putfield 20, 3) := by decide +kernel
theorem d_R_init_36 : decode b_R_init 36 = .ok (.aload_n 0, 1) := by decide +kernel
theorem d_R_init_37 : decode b_R_init 37 = .ok (.sipush 2000, 3) := by decide +kernel
theorem d_R_init_40 : decode b_R_init 40 = .ok (.newarray .long, 2) := by decide +kernel
theorem d_R_init_42 : decode b_R_init 42 = .ok (.putfield 23, 3) := by decide +kernel
theorem d_R_init_45 : decode b_R_init 45 = .ok (.aload_n 0, 1) := by decide +kernel
theorem d_R_init_46 : decode b_R_init 46 = .ok (.sipush 2000, 3) := by decide +kernel
theorem d_R_init_49 : decode b_R_init 49 = .ok (.newarray .long, 2) := by decide +kernel
theorem d_R_init_51 : decode b_R_init 51 = .ok (.putfield 27, 3) := by decide +kernel
theorem d_R_init_54 : decode b_R_init 54 = .ok (.aload_n 0, 1) := by decide +kernel
theorem d_R_init_55 : decode b_R_init 55 = .ok (.aload_n 1, 1) := by decide +kernel
theorem d_R_init_56 : decode b_R_init 56 = .ok (.putfield 30, 3) := by decide +kernel
theorem d_R_init_59 : decode b_R_init 59 = .ok (.aload_n 0, 1) := by decide +kernel
theorem d_R_init_60 : decode b_R_init 60 = .ok (.new 34, 3) := by decide +kernel
theorem d_R_init_63 : decode b_R_init 63 = .ok (.dup, 1) := by decide +kernel
theorem d_R_init_64 : decode b_R_init 64 = .ok (.aload_n 2, 1) := by decide +kernel
theorem d_R_init_65 : decode b_R_init 65 = .ok (.invokespecial 36, 3) := by decide +kernel
theorem d_R_init_68 : decode b_R_init 68 = .ok (.putfield 39, 3) := by decide +kernel
theorem d_R_init_71 : decode b_R_init 71 = .ok (.return_, 1) := by decide +kernel
theorem d_R_takeHead_0 : decode b_R_takeHead 0 = .ok (.aload_n 0, 1) := by decide +kernel
theorem d_R_takeHead_1 : decode b_R_takeHead 1 = .ok (.getfield 39, 3) := by decide +kernel
theorem d_R_takeHead_4 : decode b_R_takeHead 4 = .ok (.invokevirtual 43, 3) := by decide +kernel
theorem d_R_takeHead_7 : decode b_R_takeHead 7 = .ok (.aload_n 0, 1) := by decide +kernel
theorem d_R_takeHead_8 : decode b_R_takeHead 8 = .ok (.aload_n 0, 1) := by decide +kernel
theorem d_R_takeHead_9 : decode b_R_takeHead 9 = .ok (.invokevirtual 46, 3) := by decide +kernel
theorem d_R_takeHead_12 : decode b_R_takeHead 12 = .ok (.putfield 50, 3) := by decide +kernel
theorem d_R_takeHead_15 : decode b_R_takeHead 15 = .ok (.aload_n 0, 1) := by decide +kernel
theorem d_R_takeHead_16 : decode b_R_takeHead 16 = .ok (.aload_n 0, 1) := by decide +kernel
theorem d_R_takeHead_17 : decode b_R_takeHead 17 = .ok (.getfield 50, 3) := by decide +kernel
theorem d_R_takeHead_20 : decode b_R_takeHead 20 = .ok (.aload_n 0, 1) := by decide +kernel
theorem d_R_takeHead_21 : decode b_R_takeHead 21 = .ok (.invokevirtual 54, 3) := by decide +kernel
theorem d_R_takeHead_24 : decode b_R_takeHead 24 = .ok (.isub, 1) := by decide +kernel
theorem d_R_takeHead_25 : decode b_R_takeHead 25 = .ok (.putfield 57, 3) := by decide +kernel
theorem d_R_takeHead_28 : decode b_R_takeHead 28 = .ok (.aload_n 0, 1) := by decide +kernel
theorem d_R_takeHead_29 : decode b_R_takeHead 29 = .ok (.aload_n 0, 1) := by decide +kernel
theorem d_R_takeHead_30 : decode b_R_takeHead 30 = .ok (.getfield 39, 3) := by decide +kernel
theorem d_R_takeHead_33 : decode b_R_takeHead 33 = .ok (.invokevirtual 60, 3) := by decide +kernel
theorem d_R_takeHead_36 : decode b_R_takeHead 36 = .ok (.putfield 63, 3) := by decide +kernel
theorem d_R_takeHead_39 : decode b_R_takeHead 39 = .ok (.aload_n 0, 1) := by decide +kernel
theorem d_R_takeHead_40 : decode b_R_takeHead 40 = .ok (.getfield 63, 3) := by decide +kernel
theorem d_R_takeHead_43 : decode b_R_takeHead 43 = .ok (.aload_n 0, 1) := by decide +kernel
theorem d_R_takeHead_44 : decode b_R_takeHead 44 = .ok (.getfield 30, 3) := by decide +kernel
theorem d_R_takeHead_47 : decode b_R_takeHead 47 = .ok (.invokevirtual 66, 3) := by decide +kernel
theorem d_R_takeHead_50 : decode b_R_takeHead 50 = .ok (.if_icmp .le 12, 3) := by decide +kernel
theorem d_R_takeHead_53 : decode b_R_takeHead 53 = .ok (.aload_n 0, 1) := by decide +kernel
theorem d_R_takeHead_54 : decode b_R_takeHead 54 = .ok (.getfield 39, 3) := by decide +kernel
theorem d_R_takeHead_57 : decode b_R_takeHead 57 = .ok (.bipush 7, 2) := by decide +kernel
theorem d_R_takeHead_59 : decode b_R_takeHead 59 = .ok (.invokevirtual 71, 3) := by decide +kernel
theorem d_R_takeHead_62 : decode b_R_takeHead 62 = .ok (.aload_n 0, 1) := by decide +kernel
theorem d_R_takeHead_63 : decode b_R_takeHead 63 = .ok (.getfield 14, 3) := by decide +kernel
theorem d_R_takeHead_66 : decode b_R_takeHead 66 = .ok (.aload_n 0, 1) := by decide +kernel
theorem d_R_takeHead_67 : decode b_R_takeHead 67 = .ok (.getfield 30, 3) := by decide +kernel
theorem d_R_takeHead_70 : decode b_R_takeHead 70 = .ok (.getfield 75, 3) := by decide +kernel
theorem d_R_takeHead_73 : decode b_R_takeHead 73 = .ok (.iconst 3, 1) := by decide +kernel
theorem d_R_takeHead_74 : decode b_R_takeHead 74 = .ok (.if_icmp .ne 7, 3) := by decide +kernel
theorem d_R_takeHead_77 : decode b_R_takeHead 77 = .ok (.iconst 1, 1) := by decide +kernel
theorem d_R_takeHead_78 : decode b_R_takeHead 78 = .ok (.goto 4, 3) := by decide +kernel
theorem d_R_takeHead_81 : decode b_R_takeHead 81 = .ok (.iconst 0, 1) := by decide +kernel
theorem d_R_takeHead_82 : decode b_R_takeHead 82 = .ok (.invokevirtual 78, 3) := by decide +kernel
theorem d_R_takeHead_85 : decode b_R_takeHead 85 = .ok (.aload_n 0, 1) := by decide +kernel
theorem d_R_takeHead_86 : decode b_R_takeHead 86 = .ok (.getfield 57, 3) := by decide +kernel
theorem d_R_takeHead_89 : decode b_R_takeHead 89 = .ok (.ifCond .le 11, 3) := by decide +kernel
theorem d_R_takeHead_92 : decode b_R_takeHead 92 = .ok (.aload_n 0, 1) := by decide +kernel
theorem d_R_takeHead_93 : decode b_R_takeHead 93 = .ok (.invokevirtual 82, 3) := by decide +kernel
theorem d_R_takeHead_96 : decode b_R_takeHead 96 = .ok (.aload_n 0, 1) := by decide +kernel
theorem d_R_takeHead_97 : decode b_R_takeHead 97 = .ok (.invokevirtual 82, 3) := by decide +kernel
theorem d_R_takeHead_100 : decode b_R_takeHead 100 = .ok (.aload_n 0, 1) := by decide +kernel
theorem d_R_takeHead_101 : decode b_R_takeHead 101 = .ok (.aload_n 0, 1) := by decide +kernel
theorem d_R_takeHead_102 : decode b_R_takeHead 102 = .ok (.getfield 39, 3) := by decide +kernel
theorem d_R_takeHead_105 : decode b_R_takeHead 105 = .ok (.invokevirtual 85, 3) := by decide +kernel
theorem d_R_takeHead_108 : decode b_R_takeHead 108 = .ok (.putfield 89, 3) := by decide +kernel
theorem d_R_takeHead_111 : decode b_R_takeHead 111 = .ok (.aload_n 0, 1) := by decide +kernel
theorem d_R_takeHead_112 : decode b_R_takeHead 112 = .ok (.aload_n 0, 1) := by decide +kernel
theorem d_R_takeHead_113 : decode b_R_takeHead 113 = .ok (.getfield 39, 3) := by decide +kernel
theorem d_R_takeHead_116 : decode b_R_takeHead 116 = .ok (.iconst 4, 1) := by decide +kernel
theorem d_R_takeHead_117 : decode b_R_takeHead 117 = .ok (.invokevirtual 93, 3) := by decide +kernel
theorem d_R_takeHead_120 : decode b_R_takeHead 120 = .ok (.l2i, 1) := by decide +kernel
theorem d_R_takeHead_121 : decode b_R_takeHead 121 = .ok (.putfield 97, 3) := by decide +kernel
theorem d_R_takeHead_124 : decode b_R_takeHead 124 = .ok (.return_, 1) := by decide +kernel
theorem d_R_takeEntries_0 : decode b_R_takeEntries 0 = .ok (.aload_n 0, 1) := by decide +kernel
theorem d_R_takeEntries_1 : decode b_R_takeEntries 1 = .ok (.getfield 39, 3) := by decide +kernel
theorem d_R_takeEntries_4 : decode b_R_takeEntries 4 = .ok (.invokevirtual 85, 3) := by decide +kernel
theorem d_R_takeEntries_7 : decode b_R_takeEntries 7 = .ok (.lstore_n 1, 1) := by decide +kernel
theorem d_R_takeEntries_8 : decode b_R_takeEntries 8 = .ok (.lload_n 1, 1) := by decide +kernel
theorem d_R_takeEntries_9 : decode b_R_takeEntries 9 = .ok (.lconst 0, 1) := by decide +kernel
theorem d_R_takeEntries_10 : decode b_R_takeEntries 10 = .ok (.lcmp, 1) := by decide +kernel
theorem d_R_takeEntries_11 : decode b_R_takeEntries 11 = .ok (.ifCond .ne 11, 3) := by decide +kernel
theorem d_R_takeEntries_14 : decode b_R_takeEntries 14 = .ok (.aload_n 0, 1) := by decide +kernel
theorem d_R_takeEntries_15 : decode b_R_takeEntries 15 = .ok (.getfield 39, 3) := by decide +kernel
theorem d_R_takeEntries_18 : decode b_R_takeEntries 18 = .ok (.iconst 3, 1) := by decide +kernel
theorem d_R_takeEntries_19 : decode b_R_takeEntries 19 = .ok (.invokevirtual 71, 3) := by decide +kernel
theorem d_R_takeEntries_22 : decode b_R_takeEntries 22 = .ok (.lload_n 1, 1) := by decide +kernel
theorem d_R_takeEntries_23 : decode b_R_takeEntries 23 = .ok (.lconst 0, 1) := by decide +kernel
theorem d_R_takeEntries_24 : decode b_R_takeEntries 24 = .ok (.lcmp, 1) := by decide +kernel
theorem d_R_takeEntries_25 : decode b_R_takeEntries 25 = .ok (.ifCond .lt 11, 3) := by decide +kernel
theorem d_R_takeEntries_28 : decode b_R_takeEntries 28 = .ok (.lload_n 1, 1) := by decide +kernel
theorem d_R_takeEntries_29 : decode b_R_takeEntries 29 = .ok (.ldc2_w 100, 3) := by decide +kernel
theorem d_R_takeEntries_32 : decode b_R_takeEntries 32 = .ok (.lcmp, 1) := by decide +kernel
theorem d_R_takeEntries_33 : decode b_R_takeEntries 33 = .ok (.ifCond .le 11, 3) := by decide +kernel
theorem d_R_takeEntries_36 : decode b_R_takeEntries 36 = .ok (.aload_n 0, 1) := by decide +kernel
theorem d_R_takeEntries_37 : decode b_R_takeEntries 37 = .ok (.getfield 39, 3) := by decide +kernel
theorem d_R_takeEntries_40 : decode b_R_takeEntries 40 = .ok (.iconst 4, 1) := by decide +kernel
theorem d_R_takeEntries_41 : decode b_R_takeEntries 41 = .ok (.invokevirtual 71, 3) := by decide +kernel
theorem d_R_takeEntries_44 : decode b_R_takeEntries 44 = .ok (.aload_n 0, 1) := by decide +kernel
theorem d_R_takeEntries_45 : decode b_R_takeEntries 45 = .ok (.getfield 39, 3) := by decide +kernel
theorem d_R_takeEntries_48 : decode b_R_takeEntries 48 = .ok (.getfield 102, 3) := by decide +kernel
theorem d_R_takeEntries_51 : decode b_R_takeEntries 51 = .ok (.ifCond .ne 8, 3) := by decide +kernel
theorem d_R_takeEntries_54 : decode b_R_takeEntries 54 = .ok (.lload_n 1, 1) := by decide +kernel
theorem d_R_takeEntries_55 : decode b_R_takeEntries 55 = .ok (.l2i, 1) := by decide +kernel
theorem d_R_takeEntries_56 : decode b_R_takeEntries 56 = .ok (.goto 4, 3) := by decide +kernel
theorem d_R_takeEntries_59 : decode b_R_takeEntries 59 = .ok (.iconst 0, 1) := by decide +kernel
theorem d_R_takeEntries_60 : decode b_R_takeEntries 60 = .ok (.ireturn, 1) := by decide +kernel
theorem d_R_takeNones_0 : decode b_R_takeNones 0 = .ok (.aload_n 0, 1) := by decide +kernel
theorem d_R_takeNones_1 : decode b_R_takeNones 1 = .ok (.getfield 39, 3) := by decide +kernel
theorem d_R_takeNones_4 : decode b_R_takeNones 4 = .ok (.invokevirtual 85, 3) := by decide +kernel
theorem d_R_takeNones_7 : decode b_R_takeNones 7 = .ok (.lstore_n 1, 1) := by decide +kernel
theorem d_R_takeNones_8 : decode b_R_takeNones 8 = .ok (.lload_n 1, 1) := by decide +kernel
theorem d_R_takeNones_9 : decode b_R_takeNones 9 = .ok (.lconst 0, 1) := by decide +kernel
theorem d_R_takeNones_10 : decode b_R_takeNones 10 = .ok (.lcmp, 1) := by decide +kernel
theorem d_R_takeNones_11 : decode b_R_takeNones 11 = .ok (.ifCond .lt 13, 3) := by decide +kernel
theorem d_R_takeNones_14 : decode b_R_takeNones 14 = .ok (.lload_n 1, 1) := by decide +kernel
theorem d_R_takeNones_15 : decode b_R_takeNones 15 = .ok (.aload_n 0, 1) := by decide +kernel
theorem d_R_takeNones_16 : decode b_R_takeNones 16 = .ok (.getfield 50, 3) := by decide +kernel
theorem d_R_takeNones_19 : decode b_R_takeNones 19 = .ok (.i2l, 1) := by decide +kernel
theorem d_R_takeNones_20 : decode b_R_takeNones 20 = .ok (.lcmp, 1) := by decide +kernel
theorem d_R_takeNones_21 : decode b_R_takeNones 21 = .ok (.ifCond .le 12, 3) := by decide +kernel
theorem d_R_takeNones_24 : decode b_R_takeNones 24 = .ok (.aload_n 0, 1) := by decide +kernel
theorem d_R_takeNones_25 : decode b_R_takeNones 25 = .ok (.getfield 39, 3) := by decide +kernel
theorem d_R_takeNones_28 : decode b_R_takeNones 28 = .ok (.bipush 7, 2) := by decide +kernel
theorem d_R_takeNones_30 : decode b_R_takeNones 30 = .ok (.invokevirtual 71, 3) := by decide +kernel
theorem d_R_takeNones_33 : decode b_R_takeNones 33 = .ok (.aload_n 0, 1) := by decide +kernel
theorem d_R_takeNones_34 : decode b_R_takeNones 34 = .ok (.getfield 39, 3) := by decide +kernel
