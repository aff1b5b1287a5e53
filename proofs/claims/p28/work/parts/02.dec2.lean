theorem dJ9_min_7cf53_5 : decode cJ9_min_7cf53 5 = .ok (.iload_n 0, 1) := by decide +kernel
theorem dJ9_min_7cf53_6 : decode cJ9_min_7cf53 6 = .ok (.goto 4, 3) := by decide +kernel
theorem dJ9_min_7cf53_9 : decode cJ9_min_7cf53 9 = .ok (.iload_n 1, 1) := by decide +kernel
theorem dJ9_min_7cf53_10 : decode cJ9_min_7cf53 10 = .ok (.ireturn, 1) := by decide +kernel
theorem dJ0_length_8abf5_0 : decode cJ0_length_8abf5 0 = .ok (.aload_n 0, 1) := by decide +kernel
theorem dJ0_length_8abf5_1 : decode cJ0_length_8abf5 1 = .ok (.getfield 9, 3) := by decide +kernel
theorem dJ0_length_8abf5_4 : decode cJ0_length_8abf5 4 = .ok (.arraylength, 1) := by decide +kernel
theorem dJ0_length_8abf5_5 : decode cJ0_length_8abf5 5 = .ok (.aload_n 0, 1) := by decide +kernel
theorem dJ0_length_8abf5_6 : decode cJ0_length_8abf5 6 = .ok (.invokevirtual 335, 3) := by decide +kernel
theorem dJ0_length_8abf5_9 : decode cJ0_length_8abf5 9 = .ok (.ishr, 1) := by decide +kernel
theorem dJ0_length_8abf5_10 : decode cJ0_length_8abf5 10 = .ok (.ireturn, 1) := by decide +kernel
theorem dJ0_charAt_5068e_0 : decode cJ0_charAt_5068e 0 = .ok (.aload_n 0, 1) := by decide +kernel
theorem dJ0_charAt_5068e_1 : decode cJ0_charAt_5068e 1 = .ok (.invokevirtual 492, 3) := by decide +kernel
theorem dJ0_charAt_5068e_4 : decode cJ0_charAt_5068e 4 = .ok (.ifCond .eq 12, 3) := by decide +kernel
theorem dJ0_charAt_5068e_7 : decode cJ0_charAt_5068e 7 = .ok (.aload_n 0, 1) := by decide +kernel
theorem dJ0_charAt_5068e_8 : decode cJ0_charAt_5068e 8 = .ok (.getfield 9, 3) := by decide +kernel
theorem dJ0_charAt_5068e_11 : decode cJ0_charAt_5068e 11 = .ok (.iload_n 1, 1) := by decide +kernel
theorem dJ0_charAt_5068e_12 : decode cJ0_charAt_5068e 12 = .ok (.invokestatic 495, 3) := by decide +kernel
theorem dJ0_charAt_5068e_15 : decode cJ0_charAt_5068e 15 = .ok (.ireturn, 1) := by decide +kernel
theorem dJ0_charAt_5068e_16 : decode cJ0_charAt_5068e 16 = .ok (.aload_n 0, 1) := by decide +kernel
theorem dJ0_charAt_5068e_17 : decode cJ0_charAt_5068e 17 = .ok (.getfield 9, 3) := by decide +kernel
theorem dJ0_charAt_5068e_20 : decode cJ0_charAt_5068e 20 = .ok (.iload_n 1, 1) := by decide +kernel
theorem dJ0_charAt_5068e_21 : decode cJ0_charAt_5068e 21 = .ok (.invokestatic 498, 3) := by decide +kernel
theorem dJ0_charAt_5068e_24 : decode cJ0_charAt_5068e 24 = .ok (.ireturn, 1) := by decide +kernel
theorem dJ0_coder_7d493_0 : decode cJ0_coder_7d493 0 = .ok (.getstatic 38, 3) := by decide +kernel
theorem dJ0_coder_7d493_3 : decode cJ0_coder_7d493 3 = .ok (.ifCond .eq 10, 3) := by decide +kernel
theorem dJ0_coder_7d493_6 : decode cJ0_coder_7d493 6 = .ok (.aload_n 0, 1) := by decide +kernel
theorem dJ0_coder_7d493_7 : decode cJ0_coder_7d493 7 = .ok (.getfield 15, 3) := by decide +kernel
theorem dJ0_coder_7d493_10 : decode cJ0_coder_7d493 10 = .ok (.goto 4, 3) := by decide +kernel
theorem dJ0_coder_7d493_13 : decode cJ0_coder_7d493 13 = .ok (.iconst 1, 1) := by decide +kernel
theorem dJ0_coder_7d493_14 : decode cJ0_coder_7d493 14 = .ok (.ireturn, 1) := by decide +kernel
theorem dJ0_isLatin1_aae02_0 : decode cJ0_isLatin1_aae02 0 = .ok (.getstatic 38, 3) := by decide +kernel
theorem dJ0_isLatin1_aae02_3 : decode cJ0_isLatin1_aae02 3 = .ok (.ifCond .eq 14, 3) := by decide +kernel
theorem dJ0_isLatin1_aae02_6 : decode cJ0_isLatin1_aae02 6 = .ok (.aload_n 0, 1) := by decide +kernel
theorem dJ0_isLatin1_aae02_7 : decode cJ0_isLatin1_aae02 7 = .ok (.getfield 15, 3) := by decide +kernel
theorem dJ0_isLatin1_aae02_10 : decode cJ0_isLatin1_aae02 10 = .ok (.ifCond .ne 7, 3) := by decide +kernel
theorem dJ0_isLatin1_aae02_13 : decode cJ0_isLatin1_aae02 13 = .ok (.iconst 1, 1) := by decide +kernel
theorem dJ0_isLatin1_aae02_14 : decode cJ0_isLatin1_aae02 14 = .ok (.goto 4, 3) := by decide +kernel
theorem dJ0_isLatin1_aae02_17 : decode cJ0_isLatin1_aae02 17 = .ok (.iconst 0, 1) := by decide +kernel
theorem dJ0_isLatin1_aae02_18 : decode cJ0_isLatin1_aae02 18 = .ok (.ireturn, 1) := by decide +kernel
theorem dJ0_checkIndex_df160_0 : decode cJ0_checkIndex_df160 0 = .ok (.iload_n 0, 1) := by decide +kernel
theorem dJ0_checkIndex_df160_1 : decode cJ0_checkIndex_df160 1 = .ok (.iload_n 1, 1) := by decide +kernel
theorem dJ0_checkIndex_df160_2 : decode cJ0_checkIndex_df160 2 = .ok (.getstatic 1053, 3) := by decide +kernel
theorem dJ0_checkIndex_df160_5 : decode cJ0_checkIndex_df160 5 = .ok (.invokestatic 1059, 3) := by decide +kernel
theorem dJ0_checkIndex_df160_8 : decode cJ0_checkIndex_df160 8 = .ok (.pop, 1) := by decide +kernel
theorem dJ0_checkIndex_df160_9 : decode cJ0_checkIndex_df160 9 = .ok (.return_, 1) := by decide +kernel
theorem dJ1_charAt_3b067_0 : decode cJ1_charAt_3b067 0 = .ok (.iload_n 1, 1) := by decide +kernel
theorem dJ1_charAt_3b067_1 : decode cJ1_charAt_3b067 1 = .ok (.aload_n 0, 1) := by decide +kernel
theorem dJ1_charAt_3b067_2 : decode cJ1_charAt_3b067 2 = .ok (.arraylength, 1) := by decide +kernel
theorem dJ1_charAt_3b067_3 : decode cJ1_charAt_3b067 3 = .ok (.invokestatic 9, 3) := by decide +kernel
theorem dJ1_charAt_3b067_6 : decode cJ1_charAt_3b067 6 = .ok (.aload_n 0, 1) := by decide +kernel
theorem dJ1_charAt_3b067_7 : decode cJ1_charAt_3b067 7 = .ok (.iload_n 1, 1) := by decide +kernel
theorem dJ1_charAt_3b067_8 : decode cJ1_charAt_3b067 8 = .ok (.baload, 1) := by decide +kernel
theorem dJ1_charAt_3b067_9 : decode cJ1_charAt_3b067 9 = .ok (.sipush 255, 3) := by decide +kernel
theorem dJ1_charAt_3b067_12 : decode cJ1_charAt_3b067 12 = .ok (.iand, 1) := by decide +kernel
theorem dJ1_charAt_3b067_13 : decode cJ1_charAt_3b067 13 = .ok (.i2c, 1) := by decide +kernel
theorem dJ1_charAt_3b067_14 : decode cJ1_charAt_3b067 14 = .ok (.ireturn, 1) := by decide +kernel
theorem dJ2_getChar_3b067_0 : decode cJ2_getChar_3b067 0 = .ok (.getstatic 44, 3) := by decide +kernel
theorem dJ2_getChar_3b067_3 : decode cJ2_getChar_3b067 3 = .ok (.ifCond .ne 25, 3) := by decide +kernel
theorem dJ2_getChar_3b067_6 : decode cJ2_getChar_3b067 6 = .ok (.iload_n 1, 1) := by decide +kernel
theorem dJ2_getChar_3b067_7 : decode cJ2_getChar_3b067 7 = .ok (.ifCond .lt 11, 3) := by decide +kernel
theorem dJ2_getChar_3b067_10 : decode cJ2_getChar_3b067 10 = .ok (.iload_n 1, 1) := by decide +kernel
theorem dJ2_getChar_3b067_11 : decode cJ2_getChar_3b067 11 = .ok (.aload_n 0, 1) := by decide +kernel
theorem dJ2_getChar_3b067_12 : decode cJ2_getChar_3b067 12 = .ok (.invokestatic 48, 3) := by decide +kernel
theorem dJ2_getChar_3b067_15 : decode cJ2_getChar_3b067 15 = .ok (.if_icmp .lt 13, 3) := by decide +kernel
theorem dJ2_getChar_3b067_18 : decode cJ2_getChar_3b067 18 = .ok (.new 52, 3) := by decide +kernel
theorem dJ2_getChar_3b067_21 : decode cJ2_getChar_3b067 21 = .ok (.dup, 1) := by decide +kernel
theorem dJ2_getChar_3b067_22 : decode cJ2_getChar_3b067 22 = .ok (.ldc 54, 2) := by decide +kernel
theorem dJ2_getChar_3b067_24 : decode cJ2_getChar_3b067 24 = .ok (.invokespecial 56, 3) := by decide +kernel
theorem dJ2_getChar_3b067_27 : decode cJ2_getChar_3b067 27 = .ok (.athrow, 1) := by decide +kernel
theorem dJ2_getChar_3b067_28 : decode cJ2_getChar_3b067 28 = .ok (.iload_n 1, 1) := by decide +kernel
theorem dJ2_getChar_3b067_29 : decode cJ2_getChar_3b067 29 = .ok (.iconst 1, 1) := by decide +kernel
theorem dJ2_getChar_3b067_30 : decode cJ2_getChar_3b067 30 = .ok (.ishl, 1) := by decide +kernel
theorem dJ2_getChar_3b067_31 : decode cJ2_getChar_3b067 31 = .ok (.istore_n 1, 1) := by decide +kernel
theorem dJ2_getChar_3b067_32 : decode cJ2_getChar_3b067 32 = .ok (.aload_n 0, 1) := by decide +kernel
theorem dJ2_getChar_3b067_33 : decode cJ2_getChar_3b067 33 = .ok (.iload_n 1, 1) := by decide +kernel
theorem dJ2_getChar_3b067_34 : decode cJ2_getChar_3b067 34 = .ok (.iinc 1 1, 3) := by decide +kernel
theorem dJ2_getChar_3b067_37 : decode cJ2_getChar_3b067 37 = .ok (.baload, 1) := by decide +kernel
theorem dJ2_getChar_3b067_38 : decode cJ2_getChar_3b067 38 = .ok (.sipush 255, 3) := by decide +kernel
theorem dJ2_getChar_3b067_41 : decode cJ2_getChar_3b067 41 = .ok (.iand, 1) := by decide +kernel
theorem dJ2_getChar_3b067_42 : decode cJ2_getChar_3b067 42 = .ok (.getstatic 59, 3) := by decide +kernel
theorem dJ2_getChar_3b067_45 : decode cJ2_getChar_3b067 45 = .ok (.ishl, 1) := by decide +kernel
theorem dJ2_getChar_3b067_46 : decode cJ2_getChar_3b067 46 = .ok (.aload_n 0, 1) := by decide +kernel
theorem dJ2_getChar_3b067_47 : decode cJ2_getChar_3b067 47 = .ok (.iload_n 1, 1) := by decide +kernel
theorem dJ2_getChar_3b067_48 : decode cJ2_getChar_3b067 48 = .ok (.baload, 1) := by decide +kernel
theorem dJ2_getChar_3b067_49 : decode cJ2_getChar_3b067 49 = .ok (.sipush 255, 3) := by decide +kernel
theorem dJ2_getChar_3b067_52 : decode cJ2_getChar_3b067 52 = .ok (.iand, 1) := by decide +kernel
theorem dJ2_getChar_3b067_53 : decode cJ2_getChar_3b067 53 = .ok (.getstatic 63, 3) := by decide +kernel
theorem dJ2_getChar_3b067_56 : decode cJ2_getChar_3b067 56 = .ok (.ishl, 1) := by decide +kernel
theorem dJ2_getChar_3b067_57 : decode cJ2_getChar_3b067 57 = .ok (.ior, 1) := by decide +kernel
theorem dJ2_getChar_3b067_58 : decode cJ2_getChar_3b067 58 = .ok (.i2c, 1) := by decide +kernel
theorem dJ2_getChar_3b067_59 : decode cJ2_getChar_3b067 59 = .ok (.ireturn, 1) := by decide +kernel
theorem dJ2_length_9d52b_0 : decode cJ2_length_9d52b 0 = .ok (.aload_n 0, 1) := by decide +kernel
theorem dJ2_length_9d52b_1 : decode cJ2_length_9d52b 1 = .ok (.arraylength, 1) := by decide +kernel
theorem dJ2_length_9d52b_2 : decode cJ2_length_9d52b 2 = .ok (.iconst 1, 1) := by decide +kernel
theorem dJ2_length_9d52b_3 : decode cJ2_length_9d52b 3 = .ok (.ishr, 1) := by decide +kernel
theorem dJ2_length_9d52b_4 : decode cJ2_length_9d52b 4 = .ok (.ireturn, 1) := by decide +kernel
theorem dJ2_charAt_3b067_0 : decode cJ2_charAt_3b067 0 = .ok (.iload_n 1, 1) := by decide +kernel
theorem dJ2_charAt_3b067_1 : decode cJ2_charAt_3b067 1 = .ok (.aload_n 0, 1) := by decide +kernel
theorem dJ2_charAt_3b067_2 : decode cJ2_charAt_3b067 2 = .ok (.invokestatic 67, 3) := by decide +kernel
theorem dJ2_charAt_3b067_5 : decode cJ2_charAt_3b067 5 = .ok (.aload_n 0, 1) := by decide +kernel
theorem dJ2_charAt_3b067_6 : decode cJ2_charAt_3b067 6 = .ok (.iload_n 1, 1) := by decide +kernel
theorem dJ2_charAt_3b067_7 : decode cJ2_charAt_3b067 7 = .ok (.invokestatic 71, 3) := by decide +kernel
theorem dJ2_charAt_3b067_10 : decode cJ2_charAt_3b067 10 = .ok (.ireturn, 1) := by decide +kernel
theorem dJ2_checkIndex_2214a_0 : decode cJ2_checkIndex_2214a 0 = .ok (.iload_n 0, 1) := by decide +kernel
theorem dJ2_checkIndex_2214a_1 : decode cJ2_checkIndex_2214a 1 = .ok (.aload_n 1, 1) := by decide +kernel
theorem dJ2_checkIndex_2214a_2 : decode cJ2_checkIndex_2214a 2 = .ok (.invokestatic 48, 3) := by decide +kernel
theorem dJ2_checkIndex_2214a_5 : decode cJ2_checkIndex_2214a 5 = .ok (.invokestatic 414, 3) := by decide +kernel
theorem dJ2_checkIndex_2214a_8 : decode cJ2_checkIndex_2214a 8 = .ok (.return_, 1) := by decide +kernel
theorem dJ3_checkIndex_8e157_0 : decode cJ3_checkIndex_8e157 0 = .ok (.iload_n 0, 1) := by decide +kernel
theorem dJ3_checkIndex_8e157_1 : decode cJ3_checkIndex_8e157 1 = .ok (.ifCond .lt 8, 3) := by decide +kernel
theorem dJ3_checkIndex_8e157_4 : decode cJ3_checkIndex_8e157 4 = .ok (.iload_n 0, 1) := by decide +kernel
theorem dJ3_checkIndex_8e157_5 : decode cJ3_checkIndex_8e157 5 = .ok (.iload_n 1, 1) := by decide +kernel
theorem dJ3_checkIndex_8e157_6 : decode cJ3_checkIndex_8e157 6 = .ok (.if_icmp .lt 10, 3) := by decide +kernel
theorem dJ3_checkIndex_8e157_9 : decode cJ3_checkIndex_8e157 9 = .ok (.aload_n 2, 1) := by decide +kernel
theorem dJ3_checkIndex_8e157_10 : decode cJ3_checkIndex_8e157 10 = .ok (.iload_n 0, 1) := by decide +kernel
theorem dJ3_checkIndex_8e157_11 : decode cJ3_checkIndex_8e157 11 = .ok (.iload_n 1, 1) := by decide +kernel
theorem dJ3_checkIndex_8e157_12 : decode cJ3_checkIndex_8e157 12 = .ok (.invokestatic 95, 3) := by decide +kernel
theorem dJ3_checkIndex_8e157_15 : decode cJ3_checkIndex_8e157 15 = .ok (.athrow, 1) := by decide +kernel
theorem dJ3_checkIndex_8e157_16 : decode cJ3_checkIndex_8e157 16 = .ok (.iload_n 0, 1) := by decide +kernel
theorem dJ3_checkIndex_8e157_17 : decode cJ3_checkIndex_8e157 17 = .ok (.ireturn, 1) := by decide +kernel
theorem dL_cell_0 : decode cL_cell 0 = .ok (.iload_n 1, 1) := by decide +kernel
theorem dL_cell_1 : decode cL_cell 1 = .ok (.aload_n 0, 1) := by decide +kernel
theorem dL_cell_2 : decode cL_cell 2 = .ok (.arraylength, 1) := by decide +kernel
theorem dL_cell_3 : decode cL_cell 3 = .ok (.if_icmp .ge 9, 3) := by decide +kernel
theorem dL_cell_6 : decode cL_cell 6 = .ok (.aload_n 0, 1) := by decide +kernel
theorem dL_cell_7 : decode cL_cell 7 = .ok (.iload_n 1, 1) := by decide +kernel
theorem dL_cell_8 : decode cL_cell 8 = .ok (.iaload, 1) := by decide +kernel
theorem dL_cell_9 : decode cL_cell 9 = .ok (.goto 9, 3) := by decide +kernel
theorem dL_cell_12 : decode cL_cell 12 = .ok (.ldc 7, 2) := by decide +kernel
theorem dL_cell_14 : decode cL_cell 14 = .ok (.iload_n 1, 1) := by decide +kernel
theorem dL_cell_15 : decode cL_cell 15 = .ok (.iconst 1, 1) := by decide +kernel
theorem dL_cell_16 : decode cL_cell 16 = .ok (.iadd, 1) := by decide +kernel
theorem dL_cell_17 : decode cL_cell 17 = .ok (.imul, 1) := by decide +kernel
theorem dL_cell_18 : decode cL_cell 18 = .ok (.ireturn, 1) := by decide +kernel
theorem dL_at_0 : decode cL_at 0 = .ok (.iload_n 0, 1) := by decide +kernel
theorem dL_at_1 : decode cL_at 1 = .ok (.iconst 1, 1) := by decide +kernel
theorem dL_at_2 : decode cL_at 2 = .ok (.iushr, 1) := by decide +kernel
theorem dL_at_3 : decode cL_at 3 = .ok (.iload_n 1, 1) := by decide +kernel
theorem dL_at_4 : decode cL_at 4 = .ok (.irem, 1) := by decide +kernel
theorem dL_at_5 : decode cL_at 5 = .ok (.ireturn, 1) := by decide +kernel
theorem dL_passing_0 : decode cL_passing 0 = .ok (.iload_n 0, 1) := by decide +kernel
theorem dL_passing_1 : decode cL_passing 1 = .ok (.ifCond .eq 23, 3) := by decide +kernel
theorem dL_passing_4 : decode cL_passing 4 = .ok (.iload_n 0, 1) := by decide +kernel
theorem dL_passing_5 : decode cL_passing 5 = .ok (.aload_n 1, 1) := by decide +kernel
theorem dL_passing_6 : decode cL_passing 6 = .ok (.iconst 0, 1) := by decide +kernel
theorem dL_passing_7 : decode cL_passing 7 = .ok (.iaload, 1) := by decide +kernel
theorem dL_passing_8 : decode cL_passing 8 = .ok (.iconst 1, 1) := by decide +kernel
theorem dL_passing_9 : decode cL_passing 9 = .ok (.isub, 1) := by decide +kernel
theorem dL_passing_10 : decode cL_passing 10 = .ok (.if_icmp .eq 14, 3) := by decide +kernel
theorem dL_passing_13 : decode cL_passing 13 = .ok (.aload_n 2, 1) := by decide +kernel
theorem dL_passing_14 : decode cL_passing 14 = .ok (.iconst 3, 1) := by decide +kernel
theorem dL_passing_15 : decode cL_passing 15 = .ok (.iload_n 0, 1) := by decide +kernel
theorem dL_passing_16 : decode cL_passing 16 = .ok (.imul, 1) := by decide +kernel
theorem dL_passing_17 : decode cL_passing 17 = .ok (.iconst 1, 1) := by decide +kernel
theorem dL_passing_18 : decode cL_passing 18 = .ok (.iadd, 1) := by decide +kernel
theorem dL_passing_19 : decode cL_passing 19 = .ok (.iaload, 1) := by decide +kernel
theorem dL_passing_20 : decode cL_passing 20 = .ok (.iconst 1, 1) := by decide +kernel
theorem dL_passing_21 : decode cL_passing 21 = .ok (.if_icmp .ne 7, 3) := by decide +kernel
theorem dL_passing_24 : decode cL_passing 24 = .ok (.iconst 1, 1) := by decide +kernel
theorem dL_passing_25 : decode cL_passing 25 = .ok (.goto 4, 3) := by decide +kernel
theorem dL_passing_28 : decode cL_passing 28 = .ok (.iconst 0, 1) := by decide +kernel
theorem dL_passing_29 : decode cL_passing 29 = .ok (.ireturn, 1) := by decide +kernel
theorem dL_room_0 : decode cL_room 0 = .ok (.iload_n 0, 1) := by decide +kernel
theorem dL_room_1 : decode cL_room 1 = .ok (.ifCond .eq 12, 3) := by decide +kernel
theorem dL_room_4 : decode cL_room 4 = .ok (.iload_n 0, 1) := by decide +kernel
theorem dL_room_5 : decode cL_room 5 = .ok (.aload_n 1, 1) := by decide +kernel
theorem dL_room_6 : decode cL_room 6 = .ok (.iconst 0, 1) := by decide +kernel
theorem dL_room_7 : decode cL_room 7 = .ok (.iaload, 1) := by decide +kernel
theorem dL_room_8 : decode cL_room 8 = .ok (.iconst 1, 1) := by decide +kernel
theorem dL_room_9 : decode cL_room 9 = .ok (.isub, 1) := by decide +kernel
theorem dL_room_10 : decode cL_room 10 = .ok (.if_icmp .ne 7, 3) := by decide +kernel
theorem dL_room_13 : decode cL_room 13 = .ok (.iconst 4, 1) := by decide +kernel
theorem dL_room_14 : decode cL_room 14 = .ok (.goto 17, 3) := by decide +kernel
theorem dL_room_17 : decode cL_room 17 = .ok (.iload_n 0, 1) := by decide +kernel
theorem dL_room_18 : decode cL_room 18 = .ok (.aload_n 1, 1) := by decide +kernel
theorem dL_room_19 : decode cL_room 19 = .ok (.aload_n 2, 1) := by decide +kernel
theorem dL_room_20 : decode cL_room 20 = .ok (.invokestatic 8, 3) := by decide +kernel
theorem dL_room_23 : decode cL_room 23 = .ok (.ifCond .eq 7, 3) := by decide +kernel
theorem dL_room_26 : decode cL_room 26 = .ok (.iconst 2, 1) := by decide +kernel
theorem dL_room_27 : decode cL_room 27 = .ok (.goto 4, 3) := by decide +kernel
theorem dL_room_30 : decode cL_room 30 = .ok (.iconst 1, 1) := by decide +kernel
theorem dL_room_31 : decode cL_room 31 = .ok (.ireturn, 1) := by decide +kernel
theorem dL_there_0 : decode cL_there 0 = .ok (.iconst 0, 1) := by decide +kernel
theorem dL_there_1 : decode cL_there 1 = .ok (.istore_n 3, 1) := by decide +kernel
theorem dL_there_2 : decode cL_there 2 = .ok (.iconst 0, 1) := by decide +kernel
theorem dL_there_3 : decode cL_there 3 = .ok (.istore 4, 2) := by decide +kernel
theorem dL_there_5 : decode cL_there 5 = .ok (.iload 4, 2) := by decide +kernel
theorem dL_there_7 : decode cL_there 7 = .ok (.aload_n 1, 1) := by decide +kernel
theorem dL_there_8 : decode cL_there 8 = .ok (.iconst 1, 1) := by decide +kernel
theorem dL_there_9 : decode cL_there 9 = .ok (.iaload, 1) := by decide +kernel
theorem dL_there_10 : decode cL_there 10 = .ok (.if_icmp .ge 55, 3) := by decide +kernel
theorem dL_there_13 : decode cL_there 13 = .ok (.aload_n 2, 1) := by decide +kernel
theorem dL_there_14 : decode cL_there 14 = .ok (.bipush 10, 2) := by decide +kernel
theorem dL_there_16 : decode cL_there 16 = .ok (.iload 4, 2) := by decide +kernel
theorem dL_there_18 : decode cL_there 18 = .ok (.imul, 1) := by decide +kernel
theorem dL_there_19 : decode cL_there 19 = .ok (.iconst 3, 1) := by decide +kernel
theorem dL_there_20 : decode cL_there 20 = .ok (.iadd, 1) := by decide +kernel
theorem dL_there_21 : decode cL_there 21 = .ok (.iaload, 1) := by decide +kernel
theorem dL_there_22 : decode cL_there 22 = .ok (.iload_n 0, 1) := by decide +kernel
theorem dL_there_23 : decode cL_there 23 = .ok (.if_icmp .ne 36, 3) := by decide +kernel
theorem dL_there_26 : decode cL_there 26 = .ok (.iload_n 3, 1) := by decide +kernel
theorem dL_there_27 : decode cL_there 27 = .ok (.aload_n 2, 1) := by decide +kernel
theorem dL_there_28 : decode cL_there 28 = .ok (.bipush 10, 2) := by decide +kernel
theorem dL_there_30 : decode cL_there 30 = .ok (.iload 4, 2) := by decide +kernel
theorem dL_there_32 : decode cL_there 32 = .ok (.imul, 1) := by decide +kernel
theorem dL_there_33 : decode cL_there 33 = .ok (.iconst 4, 1) := by decide +kernel
theorem dL_there_34 : decode cL_there 34 = .ok (.iadd, 1) := by decide +kernel
theorem dL_there_35 : decode cL_there 35 = .ok (.iaload, 1) := by decide +kernel
theorem dL_there_36 : decode cL_there 36 = .ok (.iconst 1, 1) := by decide +kernel
theorem dL_there_37 : decode cL_there 37 = .ok (.if_icmp .ne 7, 3) := by decide +kernel
theorem dL_there_40 : decode cL_there 40 = .ok (.iconst 1, 1) := by decide +kernel
theorem dL_there_41 : decode cL_there 41 = .ok (.goto 5, 3) := by decide +kernel
theorem dL_there_44 : decode cL_there 44 = .ok (.bipush 100, 2) := by decide +kernel
theorem dL_there_46 : decode cL_there 46 = .ok (.sipush 10000, 3) := by decide +kernel
theorem dL_there_49 : decode cL_there 49 = .ok (.iload 4, 2) := by decide +kernel
theorem dL_there_51 : decode cL_there 51 = .ok (.aload_n 2, 1) := by decide +kernel
theorem dL_there_52 : decode cL_there 52 = .ok (.invokestatic 14, 3) := by decide +kernel
theorem dL_there_55 : decode cL_there 55 = .ok (.imul, 1) := by decide +kernel
theorem dL_there_56 : decode cL_there 56 = .ok (.iadd, 1) := by decide +kernel
theorem dL_there_57 : decode cL_there 57 = .ok (.iadd, 1) := by decide +kernel
theorem dL_there_58 : decode cL_there 58 = .ok (.istore_n 3, 1) := by decide +kernel
theorem dL_there_59 : decode cL_there 59 = .ok (.iinc 4 1, 3) := by decide +kernel
theorem dL_there_62 : decode cL_there 62 = .ok (.goto (-57), 3) := by decide +kernel
theorem dL_there_65 : decode cL_there 65 = .ok (.iload_n 3, 1) := by decide +kernel
theorem dL_there_66 : decode cL_there 66 = .ok (.ireturn, 1) := by decide +kernel
theorem dL_weight_0 : decode cL_weight 0 = .ok (.iconst 4, 1) := by decide +kernel
theorem dL_weight_1 : decode cL_weight 1 = .ok (.iconst 2, 1) := by decide +kernel
theorem dL_weight_2 : decode cL_weight 2 = .ok (.aload_n 1, 1) := by decide +kernel
theorem dL_weight_3 : decode cL_weight 3 = .ok (.bipush 10, 2) := by decide +kernel
theorem dL_weight_5 : decode cL_weight 5 = .ok (.iload_n 0, 1) := by decide +kernel
theorem dL_weight_6 : decode cL_weight 6 = .ok (.imul, 1) := by decide +kernel
theorem dL_weight_7 : decode cL_weight 7 = .ok (.iaload, 1) := by decide +kernel
theorem dL_weight_8 : decode cL_weight 8 = .ok (.imul, 1) := by decide +kernel
theorem dL_weight_9 : decode cL_weight 9 = .ok (.iadd, 1) := by decide +kernel
theorem dL_weight_10 : decode cL_weight 10 = .ok (.aload_n 1, 1) := by decide +kernel
theorem dL_weight_11 : decode cL_weight 11 = .ok (.bipush 10, 2) := by decide +kernel
theorem dL_weight_13 : decode cL_weight 13 = .ok (.iload_n 0, 1) := by decide +kernel
theorem dL_weight_14 : decode cL_weight 14 = .ok (.imul, 1) := by decide +kernel
theorem dL_weight_15 : decode cL_weight 15 = .ok (.iconst 2, 1) := by decide +kernel
theorem dL_weight_16 : decode cL_weight 16 = .ok (.iadd, 1) := by decide +kernel
theorem dL_weight_17 : decode cL_weight 17 = .ok (.iaload, 1) := by decide +kernel
theorem dL_weight_18 : decode cL_weight 18 = .ok (.iadd, 1) := by decide +kernel
theorem dL_weight_19 : decode cL_weight 19 = .ok (.ireturn, 1) := by decide +kernel
theorem dL_many_0 : decode cL_many 0 = .ok (.iload_n 0, 1) := by decide +kernel
theorem dL_many_1 : decode cL_many 1 = .ok (.aload_n 1, 1) := by decide +kernel
theorem dL_many_2 : decode cL_many 2 = .ok (.aload_n 2, 1) := by decide +kernel
theorem dL_many_3 : decode cL_many 3 = .ok (.invokestatic 18, 3) := by decide +kernel
theorem dL_many_6 : decode cL_many 6 = .ok (.bipush 100, 2) := by decide +kernel
theorem dL_many_8 : decode cL_many 8 = .ok (.irem, 1) := by decide +kernel
theorem dL_many_9 : decode cL_many 9 = .ok (.iload_n 0, 1) := by decide +kernel
theorem dL_many_10 : decode cL_many 10 = .ok (.aload_n 1, 1) := by decide +kernel
theorem dL_many_11 : decode cL_many 11 = .ok (.aload_n 2, 1) := by decide +kernel
theorem dL_many_12 : decode cL_many 12 = .ok (.invokestatic 18, 3) := by decide +kernel
theorem dL_many_15 : decode cL_many 15 = .ok (.bipush 100, 2) := by decide +kernel
theorem dL_many_17 : decode cL_many 17 = .ok (.idiv, 1) := by decide +kernel
theorem dL_many_18 : decode cL_many 18 = .ok (.bipush 100, 2) := by decide +kernel
theorem dL_many_20 : decode cL_many 20 = .ok (.irem, 1) := by decide +kernel
theorem dL_many_21 : decode cL_many 21 = .ok (.iadd, 1) := by decide +kernel
theorem dL_many_22 : decode cL_many 22 = .ok (.ireturn, 1) := by decide +kernel
theorem dL_why_0 : decode cL_why 0 = .ok (.bipush 10, 2) := by decide +kernel
theorem dL_why_2 : decode cL_why 2 = .ok (.iload_n 0, 1) := by decide +kernel
theorem dL_why_3 : decode cL_why 3 = .ok (.imul, 1) := by decide +kernel
theorem dL_why_4 : decode cL_why 4 = .ok (.istore 4, 2) := by decide +kernel
theorem dL_why_6 : decode cL_why 6 = .ok (.aload_n 3, 1) := by decide +kernel
theorem dL_why_7 : decode cL_why 7 = .ok (.iload 4, 2) := by decide +kernel
theorem dL_why_9 : decode cL_why 9 = .ok (.iconst 4, 1) := by decide +kernel
theorem dL_why_10 : decode cL_why 10 = .ok (.iadd, 1) := by decide +kernel
theorem dL_why_11 : decode cL_why 11 = .ok (.iaload, 1) := by decide +kernel
theorem dL_why_12 : decode cL_why 12 = .ok (.iconst 1, 1) := by decide +kernel
theorem dL_why_13 : decode cL_why 13 = .ok (.if_icmp .ne 7, 3) := by decide +kernel
theorem dL_why_16 : decode cL_why 16 = .ok (.iconst 1, 1) := by decide +kernel
theorem dL_why_17 : decode cL_why 17 = .ok (.goto 4, 3) := by decide +kernel
theorem dL_why_20 : decode cL_why 20 = .ok (.iconst 0, 1) := by decide +kernel
theorem dL_why_21 : decode cL_why 21 = .ok (.istore 5, 2) := by decide +kernel
theorem dL_why_23 : decode cL_why 23 = .ok (.aload_n 3, 1) := by decide +kernel
theorem dL_why_24 : decode cL_why 24 = .ok (.iload 4, 2) := by decide +kernel
theorem dL_why_26 : decode cL_why 26 = .ok (.iconst 3, 1) := by decide +kernel
theorem dL_why_27 : decode cL_why 27 = .ok (.iadd, 1) := by decide +kernel
theorem dL_why_28 : decode cL_why 28 = .ok (.iaload, 1) := by decide +kernel
theorem dL_why_29 : decode cL_why 29 = .ok (.istore 6, 2) := by decide +kernel
theorem dL_why_31 : decode cL_why 31 = .ok (.iload 5, 2) := by decide +kernel
theorem dL_why_33 : decode cL_why 33 = .ok (.ifCond .eq 15, 3) := by decide +kernel
theorem dL_why_36 : decode cL_why 36 = .ok (.iload 6, 2) := by decide +kernel
theorem dL_why_38 : decode cL_why 38 = .ok (.aload_n 1, 1) := by decide +kernel
theorem dL_why_39 : decode cL_why 39 = .ok (.iconst 0, 1) := by decide +kernel
theorem dL_why_40 : decode cL_why 40 = .ok (.iaload, 1) := by decide +kernel
theorem dL_why_41 : decode cL_why 41 = .ok (.iconst 1, 1) := by decide +kernel
theorem dL_why_42 : decode cL_why 42 = .ok (.isub, 1) := by decide +kernel
theorem dL_why_43 : decode cL_why 43 = .ok (.if_icmp .ne 5, 3) := by decide +kernel
theorem dL_why_46 : decode cL_why 46 = .ok (.iconst 0, 1) := by decide +kernel
theorem dL_why_47 : decode cL_why 47 = .ok (.ireturn, 1) := by decide +kernel
theorem dL_why_48 : decode cL_why 48 = .ok (.iload 5, 2) := by decide +kernel
theorem dL_why_50 : decode cL_why 50 = .ok (.ifCond .ne 32, 3) := by decide +kernel
theorem dL_why_53 : decode cL_why 53 = .ok (.iload 6, 2) := by decide +kernel
theorem dL_why_55 : decode cL_why 55 = .ok (.ifCond .ne 27, 3) := by decide +kernel
theorem dL_why_58 : decode cL_why 58 = .ok (.aload_n 1, 1) := by decide +kernel
theorem dL_why_59 : decode cL_why 59 = .ok (.bipush 6, 2) := by decide +kernel
theorem dL_why_61 : decode cL_why 61 = .ok (.iaload, 1) := by decide +kernel
theorem dL_why_62 : decode cL_why 62 = .ok (.aload_n 3, 1) := by decide +kernel
theorem dL_why_63 : decode cL_why 63 = .ok (.iload 4, 2) := by decide +kernel
theorem dL_why_65 : decode cL_why 65 = .ok (.iaload, 1) := by decide +kernel
theorem dL_why_66 : decode cL_why 66 = .ok (.aload_n 3, 1) := by decide +kernel
theorem dL_why_67 : decode cL_why 67 = .ok (.iload 4, 2) := by decide +kernel
theorem dL_why_69 : decode cL_why 69 = .ok (.iconst 1, 1) := by decide +kernel
theorem dL_why_70 : decode cL_why 70 = .ok (.iadd, 1) := by decide +kernel
theorem dL_why_71 : decode cL_why 71 = .ok (.iaload, 1) := by decide +kernel
theorem dL_why_72 : decode cL_why 72 = .ok (.imul, 1) := by decide +kernel
theorem dL_why_73 : decode cL_why 73 = .ok (.if_icmp .ge 7, 3) := by decide +kernel
theorem dL_why_76 : decode cL_why 76 = .ok (.iconst 1, 1) := by decide +kernel
theorem dL_why_77 : decode cL_why 77 = .ok (.goto 4, 3) := by decide +kernel
theorem dL_why_80 : decode cL_why 80 = .ok (.iconst 0, 1) := by decide +kernel
theorem dL_why_81 : decode cL_why 81 = .ok (.ireturn, 1) := by decide +kernel
theorem dL_why_82 : decode cL_why 82 = .ok (.iload 5, 2) := by decide +kernel
theorem dL_why_84 : decode cL_why 84 = .ok (.ifCond .eq 7, 3) := by decide +kernel
theorem dL_why_87 : decode cL_why 87 = .ok (.iconst 1, 1) := by decide +kernel
theorem dL_why_88 : decode cL_why 88 = .ok (.goto 4, 3) := by decide +kernel
theorem dL_why_91 : decode cL_why 91 = .ok (.iconst (-1), 1) := by decide +kernel
theorem dL_why_92 : decode cL_why 92 = .ok (.istore 7, 2) := by decide +kernel
theorem dL_why_94 : decode cL_why 94 = .ok (.iload 6, 2) := by decide +kernel
theorem dL_why_96 : decode cL_why 96 = .ok (.iload 7, 2) := by decide +kernel
theorem dL_why_98 : decode cL_why 98 = .ok (.iadd, 1) := by decide +kernel
theorem dL_why_99 : decode cL_why 99 = .ok (.istore 8, 2) := by decide +kernel
theorem dL_why_101 : decode cL_why 101 = .ok (.aload_n 2, 1) := by decide +kernel
theorem dL_why_102 : decode cL_why 102 = .ok (.iconst 3, 1) := by decide +kernel
theorem dL_why_103 : decode cL_why 103 = .ok (.iload 8, 2) := by decide +kernel
theorem dL_why_105 : decode cL_why 105 = .ok (.imul, 1) := by decide +kernel
theorem dL_why_106 : decode cL_why 106 = .ok (.iconst 2, 1) := by decide +kernel
theorem dL_why_107 : decode cL_why 107 = .ok (.iadd, 1) := by decide +kernel
theorem dL_why_108 : decode cL_why 108 = .ok (.iaload, 1) := by decide +kernel
theorem dL_why_109 : decode cL_why 109 = .ok (.aload_n 1, 1) := by decide +kernel
theorem dL_why_110 : decode cL_why 110 = .ok (.iconst 2, 1) := by decide +kernel
theorem dL_why_111 : decode cL_why 111 = .ok (.iaload, 1) := by decide +kernel
theorem dL_why_112 : decode cL_why 112 = .ok (.if_icmp .le 5, 3) := by decide +kernel
theorem dL_why_115 : decode cL_why 115 = .ok (.iconst 2, 1) := by decide +kernel
theorem dL_why_116 : decode cL_why 116 = .ok (.ireturn, 1) := by decide +kernel
theorem dL_why_117 : decode cL_why 117 = .ok (.iload 8, 2) := by decide +kernel
theorem dL_why_119 : decode cL_why 119 = .ok (.aload_n 1, 1) := by decide +kernel
theorem dL_why_120 : decode cL_why 120 = .ok (.aload_n 3, 1) := by decide +kernel
theorem dL_why_121 : decode cL_why 121 = .ok (.invokestatic 22, 3) := by decide +kernel
theorem dL_why_124 : decode cL_why 124 = .ok (.iload 8, 2) := by decide +kernel
theorem dL_why_126 : decode cL_why 126 = .ok (.aload_n 1, 1) := by decide +kernel
theorem dL_why_127 : decode cL_why 127 = .ok (.aload_n 2, 1) := by decide +kernel
theorem dL_why_128 : decode cL_why 128 = .ok (.invokestatic 25, 3) := by decide +kernel
theorem dL_why_131 : decode cL_why 131 = .ok (.if_icmp .lt 5, 3) := by decide +kernel
theorem dL_why_134 : decode cL_why 134 = .ok (.iconst 3, 1) := by decide +kernel
theorem dL_why_135 : decode cL_why 135 = .ok (.ireturn, 1) := by decide +kernel
theorem dL_why_136 : decode cL_why 136 = .ok (.iload 6, 2) := by decide +kernel
theorem dL_why_138 : decode cL_why 138 = .ok (.aload_n 1, 1) := by decide +kernel
theorem dL_why_139 : decode cL_why 139 = .ok (.aload_n 2, 1) := by decide +kernel
theorem dL_why_140 : decode cL_why 140 = .ok (.invokestatic 8, 3) := by decide +kernel
theorem dL_why_143 : decode cL_why 143 = .ok (.ifCond .eq 13, 3) := by decide +kernel
theorem dL_why_146 : decode cL_why 146 = .ok (.iload 8, 2) := by decide +kernel
theorem dL_why_148 : decode cL_why 148 = .ok (.aload_n 1, 1) := by decide +kernel
theorem dL_why_149 : decode cL_why 149 = .ok (.aload_n 2, 1) := by decide +kernel
theorem dL_why_150 : decode cL_why 150 = .ok (.invokestatic 8, 3) := by decide +kernel
theorem dL_why_153 : decode cL_why 153 = .ok (.ifCond .eq 5, 3) := by decide +kernel
theorem dL_why_156 : decode cL_why 156 = .ok (.iconst 0, 1) := by decide +kernel
theorem dL_why_157 : decode cL_why 157 = .ok (.ireturn, 1) := by decide +kernel
theorem dL_why_158 : decode cL_why 158 = .ok (.iconst 0, 1) := by decide +kernel
theorem dL_why_159 : decode cL_why 159 = .ok (.istore 9, 2) := by decide +kernel
theorem dL_why_161 : decode cL_why 161 = .ok (.iload 8, 2) := by decide +kernel
theorem dL_why_163 : decode cL_why 163 = .ok (.istore 10, 2) := by decide +kernel
theorem dL_why_165 : decode cL_why 165 = .ok (.iload 10, 2) := by decide +kernel
theorem dL_why_167 : decode cL_why 167 = .ok (.aload_n 1, 1) := by decide +kernel
theorem dL_why_168 : decode cL_why 168 = .ok (.aload_n 2, 1) := by decide +kernel
theorem dL_why_169 : decode cL_why 169 = .ok (.invokestatic 8, 3) := by decide +kernel
theorem dL_why_172 : decode cL_why 172 = .ok (.ifCond .ne 74, 3) := by decide +kernel
theorem dL_why_175 : decode cL_why 175 = .ok (.iload 10, 2) := by decide +kernel
theorem dL_why_177 : decode cL_why 177 = .ok (.aload_n 1, 1) := by decide +kernel
theorem dL_why_178 : decode cL_why 178 = .ok (.aload_n 3, 1) := by decide +kernel
theorem dL_why_179 : decode cL_why 179 = .ok (.invokestatic 18, 3) := by decide +kernel
theorem dL_why_182 : decode cL_why 182 = .ok (.bipush 100, 2) := by decide +kernel
theorem dL_why_184 : decode cL_why 184 = .ok (.irem, 1) := by decide +kernel
theorem dL_why_185 : decode cL_why 185 = .ok (.istore 11, 2) := by decide +kernel
theorem dL_why_187 : decode cL_why 187 = .ok (.iload 10, 2) := by decide +kernel
theorem dL_why_189 : decode cL_why 189 = .ok (.aload_n 1, 1) := by decide +kernel
theorem dL_why_190 : decode cL_why 190 = .ok (.aload_n 3, 1) := by decide +kernel
theorem dL_why_191 : decode cL_why 191 = .ok (.invokestatic 18, 3) := by decide +kernel
theorem dL_why_194 : decode cL_why 194 = .ok (.bipush 100, 2) := by decide +kernel
theorem dL_why_196 : decode cL_why 196 = .ok (.idiv, 1) := by decide +kernel
theorem dL_why_197 : decode cL_why 197 = .ok (.bipush 100, 2) := by decide +kernel
theorem dL_why_199 : decode cL_why 199 = .ok (.irem, 1) := by decide +kernel
theorem dL_why_200 : decode cL_why 200 = .ok (.istore 12, 2) := by decide +kernel
theorem dL_why_202 : decode cL_why 202 = .ok (.iload 5, 2) := by decide +kernel
theorem dL_why_204 : decode cL_why 204 = .ok (.ifCond .eq 8, 3) := by decide +kernel
theorem dL_why_207 : decode cL_why 207 = .ok (.iload 12, 2) := by decide +kernel
theorem dL_why_209 : decode cL_why 209 = .ok (.goto 5, 3) := by decide +kernel
theorem dL_why_212 : decode cL_why 212 = .ok (.iload 11, 2) := by decide +kernel
theorem dL_why_214 : decode cL_why 214 = .ok (.ifCond .le 5, 3) := by decide +kernel
theorem dL_why_217 : decode cL_why 217 = .ok (.iconst 4, 1) := by decide +kernel
theorem dL_why_218 : decode cL_why 218 = .ok (.ireturn, 1) := by decide +kernel
theorem dL_why_219 : decode cL_why 219 = .ok (.iload 9, 2) := by decide +kernel
theorem dL_why_221 : decode cL_why 221 = .ok (.iload 5, 2) := by decide +kernel
theorem dL_why_223 : decode cL_why 223 = .ok (.ifCond .eq 8, 3) := by decide +kernel
theorem dL_why_226 : decode cL_why 226 = .ok (.iload 11, 2) := by decide +kernel
theorem dL_why_228 : decode cL_why 228 = .ok (.goto 5, 3) := by decide +kernel
theorem dL_why_231 : decode cL_why 231 = .ok (.iload 12, 2) := by decide +kernel
theorem dL_why_233 : decode cL_why 233 = .ok (.iadd, 1) := by decide +kernel
theorem dL_why_234 : decode cL_why 234 = .ok (.istore 9, 2) := by decide +kernel
theorem dL_why_236 : decode cL_why 236 = .ok (.iload 10, 2) := by decide +kernel
theorem dL_why_238 : decode cL_why 238 = .ok (.iload 7, 2) := by decide +kernel
theorem dL_why_240 : decode cL_why 240 = .ok (.iadd, 1) := by decide +kernel
theorem dL_why_241 : decode cL_why 241 = .ok (.istore 10, 2) := by decide +kernel
theorem dL_why_243 : decode cL_why 243 = .ok (.goto (-78), 3) := by decide +kernel
theorem dL_why_246 : decode cL_why 246 = .ok (.iload 10, 2) := by decide +kernel
theorem dL_why_248 : decode cL_why 248 = .ok (.ifCond .le 31, 3) := by decide +kernel
theorem dL_why_251 : decode cL_why 251 = .ok (.iload 10, 2) := by decide +kernel
theorem dL_why_253 : decode cL_why 253 = .ok (.aload_n 1, 1) := by decide +kernel
theorem dL_why_254 : decode cL_why 254 = .ok (.iconst 0, 1) := by decide +kernel
theorem dL_why_255 : decode cL_why 255 = .ok (.iaload, 1) := by decide +kernel
theorem dL_why_256 : decode cL_why 256 = .ok (.iconst 1, 1) := by decide +kernel
theorem dL_why_257 : decode cL_why 257 = .ok (.isub, 1) := by decide +kernel
theorem dL_why_258 : decode cL_why 258 = .ok (.if_icmp .ge 21, 3) := by decide +kernel
theorem dL_why_261 : decode cL_why 261 = .ok (.iload 10, 2) := by decide +kernel
theorem dL_why_263 : decode cL_why 263 = .ok (.aload_n 1, 1) := by decide +kernel
theorem dL_why_264 : decode cL_why 264 = .ok (.aload_n 3, 1) := by decide +kernel
theorem dL_why_265 : decode cL_why 265 = .ok (.invokestatic 22, 3) := by decide +kernel
theorem dL_why_268 : decode cL_why 268 = .ok (.iload 9, 2) := by decide +kernel
theorem dL_why_270 : decode cL_why 270 = .ok (.iadd, 1) := by decide +kernel
theorem dL_why_271 : decode cL_why 271 = .ok (.iconst 2, 1) := by decide +kernel
theorem dL_why_272 : decode cL_why 272 = .ok (.if_icmp .lt 7, 3) := by decide +kernel
theorem dL_why_275 : decode cL_why 275 = .ok (.iconst 5, 1) := by decide +kernel
theorem dL_why_276 : decode cL_why 276 = .ok (.goto 4, 3) := by decide +kernel
theorem dL_why_279 : decode cL_why 279 = .ok (.iconst 0, 1) := by decide +kernel
theorem dL_why_280 : decode cL_why 280 = .ok (.ireturn, 1) := by decide +kernel
theorem dL_turn_0 : decode cL_turn 0 = .ok (.bipush 10, 2) := by decide +kernel
theorem dL_turn_2 : decode cL_turn 2 = .ok (.iload_n 0, 1) := by decide +kernel
theorem dL_turn_3 : decode cL_turn 3 = .ok (.imul, 1) := by decide +kernel
theorem dL_turn_4 : decode cL_turn 4 = .ok (.istore 4, 2) := by decide +kernel
theorem dL_turn_6 : decode cL_turn 6 = .ok (.aload_n 3, 1) := by decide +kernel
theorem dL_turn_7 : decode cL_turn 7 = .ok (.iload 4, 2) := by decide +kernel
theorem dL_turn_9 : decode cL_turn 9 = .ok (.iconst 5, 1) := by decide +kernel
theorem dL_turn_10 : decode cL_turn 10 = .ok (.iadd, 1) := by decide +kernel
theorem dL_turn_11 : decode cL_turn 11 = .ok (.iaload, 1) := by decide +kernel
theorem dL_turn_12 : decode cL_turn 12 = .ok (.ifCond .le 22, 3) := by decide +kernel
theorem dL_turn_15 : decode cL_turn 15 = .ok (.aload_n 3, 1) := by decide +kernel
theorem dL_turn_16 : decode cL_turn 16 = .ok (.iload 4, 2) := by decide +kernel
theorem dL_turn_18 : decode cL_turn 18 = .ok (.iconst 5, 1) := by decide +kernel
theorem dL_turn_19 : decode cL_turn 19 = .ok (.iadd, 1) := by decide +kernel
theorem dL_turn_20 : decode cL_turn 20 = .ok (.dup2, 1) := by decide +kernel
theorem dL_turn_21 : decode cL_turn 21 = .ok (.iaload, 1) := by decide +kernel
theorem dL_turn_22 : decode cL_turn 22 = .ok (.iconst 1, 1) := by decide +kernel
theorem dL_turn_23 : decode cL_turn 23 = .ok (.isub, 1) := by decide +kernel
theorem dL_turn_24 : decode cL_turn 24 = .ok (.iastore, 1) := by decide +kernel
theorem dL_turn_25 : decode cL_turn 25 = .ok (.aload_n 3, 1) := by decide +kernel
theorem dL_turn_26 : decode cL_turn 26 = .ok (.iload 4, 2) := by decide +kernel
theorem dL_turn_28 : decode cL_turn 28 = .ok (.bipush 6, 2) := by decide +kernel
theorem dL_turn_30 : decode cL_turn 30 = .ok (.iadd, 1) := by decide +kernel
theorem dL_turn_31 : decode cL_turn 31 = .ok (.iconst 0, 1) := by decide +kernel
theorem dL_turn_32 : decode cL_turn 32 = .ok (.iastore, 1) := by decide +kernel
theorem dL_turn_33 : decode cL_turn 33 = .ok (.return_, 1) := by decide +kernel
theorem dL_turn_34 : decode cL_turn 34 = .ok (.iload_n 0, 1) := by decide +kernel
theorem dL_turn_35 : decode cL_turn 35 = .ok (.aload_n 1, 1) := by decide +kernel
theorem dL_turn_36 : decode cL_turn 36 = .ok (.aload_n 2, 1) := by decide +kernel
theorem dL_turn_37 : decode cL_turn 37 = .ok (.aload_n 3, 1) := by decide +kernel
theorem dL_turn_38 : decode cL_turn 38 = .ok (.invokestatic 28, 3) := by decide +kernel
theorem dL_turn_41 : decode cL_turn 41 = .ok (.istore 5, 2) := by decide +kernel
theorem dL_turn_43 : decode cL_turn 43 = .ok (.aload_n 3, 1) := by decide +kernel
theorem dL_turn_44 : decode cL_turn 44 = .ok (.iload 4, 2) := by decide +kernel
theorem dL_turn_46 : decode cL_turn 46 = .ok (.bipush 6, 2) := by decide +kernel
theorem dL_turn_48 : decode cL_turn 48 = .ok (.iadd, 1) := by decide +kernel
theorem dL_turn_49 : decode cL_turn 49 = .ok (.iload 5, 2) := by decide +kernel
theorem dL_turn_51 : decode cL_turn 51 = .ok (.iastore, 1) := by decide +kernel
theorem dL_turn_52 : decode cL_turn 52 = .ok (.iload 5, 2) := by decide +kernel
theorem dL_turn_54 : decode cL_turn 54 = .ok (.ifCond .le 15, 3) := by decide +kernel
theorem dL_turn_57 : decode cL_turn 57 = .ok (.aload_n 3, 1) := by decide +kernel
theorem dL_turn_58 : decode cL_turn 58 = .ok (.iload 4, 2) := by decide +kernel
theorem dL_turn_60 : decode cL_turn 60 = .ok (.bipush 7, 2) := by decide +kernel
theorem dL_turn_62 : decode cL_turn 62 = .ok (.iadd, 1) := by decide +kernel
theorem dL_turn_63 : decode cL_turn 63 = .ok (.dup2, 1) := by decide +kernel
theorem dL_turn_64 : decode cL_turn 64 = .ok (.iaload, 1) := by decide +kernel
theorem dL_turn_65 : decode cL_turn 65 = .ok (.iconst 1, 1) := by decide +kernel
theorem dL_turn_66 : decode cL_turn 66 = .ok (.iadd, 1) := by decide +kernel
theorem dL_turn_67 : decode cL_turn 67 = .ok (.iastore, 1) := by decide +kernel
theorem dL_turn_68 : decode cL_turn 68 = .ok (.return_, 1) := by decide +kernel
theorem dL_turn_69 : decode cL_turn 69 = .ok (.aload_n 3, 1) := by decide +kernel
theorem dL_turn_70 : decode cL_turn 70 = .ok (.iload 4, 2) := by decide +kernel
theorem dL_turn_72 : decode cL_turn 72 = .ok (.iconst 4, 1) := by decide +kernel
theorem dL_turn_73 : decode cL_turn 73 = .ok (.iadd, 1) := by decide +kernel
theorem dL_turn_74 : decode cL_turn 74 = .ok (.iaload, 1) := by decide +kernel
theorem dL_turn_75 : decode cL_turn 75 = .ok (.iconst 1, 1) := by decide +kernel
theorem dL_turn_76 : decode cL_turn 76 = .ok (.if_icmp .ne 7, 3) := by decide +kernel
theorem dL_turn_79 : decode cL_turn 79 = .ok (.iconst 1, 1) := by decide +kernel
theorem dL_turn_80 : decode cL_turn 80 = .ok (.goto 4, 3) := by decide +kernel
theorem dL_turn_83 : decode cL_turn 83 = .ok (.iconst 0, 1) := by decide +kernel
theorem dL_turn_84 : decode cL_turn 84 = .ok (.istore 6, 2) := by decide +kernel
theorem dL_turn_86 : decode cL_turn 86 = .ok (.aload_n 3, 1) := by decide +kernel
theorem dL_turn_87 : decode cL_turn 87 = .ok (.iload 4, 2) := by decide +kernel
theorem dL_turn_89 : decode cL_turn 89 = .ok (.iconst 3, 1) := by decide +kernel
theorem dL_turn_90 : decode cL_turn 90 = .ok (.iadd, 1) := by decide +kernel
theorem dL_turn_91 : decode cL_turn 91 = .ok (.iaload, 1) := by decide +kernel
theorem dL_turn_92 : decode cL_turn 92 = .ok (.iload 6, 2) := by decide +kernel
theorem dL_turn_94 : decode cL_turn 94 = .ok (.ifCond .eq 11, 3) := by decide +kernel
theorem dL_turn_97 : decode cL_turn 97 = .ok (.aload_n 1, 1) := by decide +kernel
theorem dL_turn_98 : decode cL_turn 98 = .ok (.iconst 0, 1) := by decide +kernel
theorem dL_turn_99 : decode cL_turn 99 = .ok (.iaload, 1) := by decide +kernel
theorem dL_turn_100 : decode cL_turn 100 = .ok (.iconst 1, 1) := by decide +kernel
theorem dL_turn_101 : decode cL_turn 101 = .ok (.isub, 1) := by decide +kernel
theorem dL_turn_102 : decode cL_turn 102 = .ok (.goto 4, 3) := by decide +kernel
theorem dL_turn_105 : decode cL_turn 105 = .ok (.iconst 0, 1) := by decide +kernel
theorem dL_turn_106 : decode cL_turn 106 = .ok (.if_icmp .ne 102, 3) := by decide +kernel
theorem dL_turn_109 : decode cL_turn 109 = .ok (.aload_n 1, 1) := by decide +kernel
theorem dL_turn_110 : decode cL_turn 110 = .ok (.bipush 7, 2) := by decide +kernel
theorem dL_turn_112 : decode cL_turn 112 = .ok (.dup2, 1) := by decide +kernel
theorem dL_turn_113 : decode cL_turn 113 = .ok (.iaload, 1) := by decide +kernel
theorem dL_turn_114 : decode cL_turn 114 = .ok (.aload_n 3, 1) := by decide +kernel
theorem dL_turn_115 : decode cL_turn 115 = .ok (.iload 4, 2) := by decide +kernel
theorem dL_turn_117 : decode cL_turn 117 = .ok (.iconst 2, 1) := by decide +kernel
theorem dL_turn_118 : decode cL_turn 118 = .ok (.iadd, 1) := by decide +kernel
theorem dL_turn_119 : decode cL_turn 119 = .ok (.iaload, 1) := by decide +kernel
theorem dL_turn_120 : decode cL_turn 120 = .ok (.iadd, 1) := by decide +kernel
theorem dL_turn_121 : decode cL_turn 121 = .ok (.iastore, 1) := by decide +kernel
theorem dL_turn_122 : decode cL_turn 122 = .ok (.aload_n 3, 1) := by decide +kernel
theorem dL_turn_123 : decode cL_turn 123 = .ok (.iload 4, 2) := by decide +kernel
theorem dL_turn_125 : decode cL_turn 125 = .ok (.bipush 8, 2) := by decide +kernel
theorem dL_turn_127 : decode cL_turn 127 = .ok (.iadd, 1) := by decide +kernel
theorem dL_turn_128 : decode cL_turn 128 = .ok (.dup2, 1) := by decide +kernel
theorem dL_turn_129 : decode cL_turn 129 = .ok (.iaload, 1) := by decide +kernel
theorem dL_turn_130 : decode cL_turn 130 = .ok (.iload 6, 2) := by decide +kernel
theorem dL_turn_132 : decode cL_turn 132 = .ok (.ifCond .eq 7, 3) := by decide +kernel
theorem dL_turn_135 : decode cL_turn 135 = .ok (.iconst 1, 1) := by decide +kernel
theorem dL_turn_136 : decode cL_turn 136 = .ok (.goto 4, 3) := by decide +kernel
theorem dL_turn_139 : decode cL_turn 139 = .ok (.iconst 0, 1) := by decide +kernel
theorem dL_turn_140 : decode cL_turn 140 = .ok (.iadd, 1) := by decide +kernel
theorem dL_turn_141 : decode cL_turn 141 = .ok (.iastore, 1) := by decide +kernel
theorem dL_turn_142 : decode cL_turn 142 = .ok (.aload_n 3, 1) := by decide +kernel
theorem dL_turn_143 : decode cL_turn 143 = .ok (.iload 4, 2) := by decide +kernel
theorem dL_turn_145 : decode cL_turn 145 = .ok (.iconst 2, 1) := by decide +kernel
theorem dL_turn_146 : decode cL_turn 146 = .ok (.iadd, 1) := by decide +kernel
theorem dL_turn_147 : decode cL_turn 147 = .ok (.iload 6, 2) := by decide +kernel
theorem dL_turn_149 : decode cL_turn 149 = .ok (.ifCond .eq 7, 3) := by decide +kernel
theorem dL_turn_152 : decode cL_turn 152 = .ok (.iconst 0, 1) := by decide +kernel
theorem dL_turn_153 : decode cL_turn 153 = .ok (.goto 14, 3) := by decide +kernel
theorem dL_turn_156 : decode cL_turn 156 = .ok (.aload_n 3, 1) := by decide +kernel
theorem dL_turn_157 : decode cL_turn 157 = .ok (.iload 4, 2) := by decide +kernel
theorem dL_turn_159 : decode cL_turn 159 = .ok (.iaload, 1) := by decide +kernel
theorem dL_turn_160 : decode cL_turn 160 = .ok (.aload_n 3, 1) := by decide +kernel
theorem dL_turn_161 : decode cL_turn 161 = .ok (.iload 4, 2) := by decide +kernel
theorem dL_turn_163 : decode cL_turn 163 = .ok (.iconst 1, 1) := by decide +kernel
theorem dL_turn_164 : decode cL_turn 164 = .ok (.iadd, 1) := by decide +kernel
theorem dL_turn_165 : decode cL_turn 165 = .ok (.iaload, 1) := by decide +kernel
theorem dL_turn_166 : decode cL_turn 166 = .ok (.imul, 1) := by decide +kernel
theorem dL_turn_167 : decode cL_turn 167 = .ok (.iastore, 1) := by decide +kernel
theorem dL_turn_168 : decode cL_turn 168 = .ok (.aload_n 1, 1) := by decide +kernel
theorem dL_turn_169 : decode cL_turn 169 = .ok (.bipush 6, 2) := by decide +kernel
theorem dL_turn_171 : decode cL_turn 171 = .ok (.dup2, 1) := by decide +kernel
theorem dL_turn_172 : decode cL_turn 172 = .ok (.iaload, 1) := by decide +kernel
theorem dL_turn_173 : decode cL_turn 173 = .ok (.aload_n 3, 1) := by decide +kernel
theorem dL_turn_174 : decode cL_turn 174 = .ok (.iload 4, 2) := by decide +kernel
theorem dL_turn_176 : decode cL_turn 176 = .ok (.iconst 2, 1) := by decide +kernel
theorem dL_turn_177 : decode cL_turn 177 = .ok (.iadd, 1) := by decide +kernel
theorem dL_turn_178 : decode cL_turn 178 = .ok (.iaload, 1) := by decide +kernel
theorem dL_turn_179 : decode cL_turn 179 = .ok (.isub, 1) := by decide +kernel
theorem dL_turn_180 : decode cL_turn 180 = .ok (.iastore, 1) := by decide +kernel
theorem dL_turn_181 : decode cL_turn 181 = .ok (.aload_n 3, 1) := by decide +kernel
theorem dL_turn_182 : decode cL_turn 182 = .ok (.iload 4, 2) := by decide +kernel
theorem dL_turn_184 : decode cL_turn 184 = .ok (.iconst 4, 1) := by decide +kernel
theorem dL_turn_185 : decode cL_turn 185 = .ok (.iadd, 1) := by decide +kernel
theorem dL_turn_186 : decode cL_turn 186 = .ok (.iload 6, 2) := by decide +kernel
theorem dL_turn_188 : decode cL_turn 188 = .ok (.ifCond .eq 7, 3) := by decide +kernel
theorem dL_turn_191 : decode cL_turn 191 = .ok (.iconst 0, 1) := by decide +kernel
theorem dL_turn_192 : decode cL_turn 192 = .ok (.goto 4, 3) := by decide +kernel
theorem dL_turn_195 : decode cL_turn 195 = .ok (.iconst 1, 1) := by decide +kernel
theorem dL_turn_196 : decode cL_turn 196 = .ok (.iastore, 1) := by decide +kernel
theorem dL_turn_197 : decode cL_turn 197 = .ok (.aload_n 3, 1) := by decide +kernel
theorem dL_turn_198 : decode cL_turn 198 = .ok (.iload 4, 2) := by decide +kernel
theorem dL_turn_200 : decode cL_turn 200 = .ok (.iconst 5, 1) := by decide +kernel
theorem dL_turn_201 : decode cL_turn 201 = .ok (.iadd, 1) := by decide +kernel
theorem dL_turn_202 : decode cL_turn 202 = .ok (.aload_n 3, 1) := by decide +kernel
theorem dL_turn_203 : decode cL_turn 203 = .ok (.iload 4, 2) := by decide +kernel
theorem dL_turn_205 : decode cL_turn 205 = .ok (.iaload, 1) := by decide +kernel
theorem dL_turn_206 : decode cL_turn 206 = .ok (.iastore, 1) := by decide +kernel
theorem dL_turn_207 : decode cL_turn 207 = .ok (.return_, 1) := by decide +kernel
theorem dL_turn_208 : decode cL_turn 208 = .ok (.aload_n 3, 1) := by decide +kernel
theorem dL_turn_209 : decode cL_turn 209 = .ok (.iload 4, 2) := by decide +kernel
theorem dL_turn_211 : decode cL_turn 211 = .ok (.iconst 3, 1) := by decide +kernel
theorem dL_turn_212 : decode cL_turn 212 = .ok (.iadd, 1) := by decide +kernel
theorem dL_turn_213 : decode cL_turn 213 = .ok (.dup2, 1) := by decide +kernel
theorem dL_turn_214 : decode cL_turn 214 = .ok (.iaload, 1) := by decide +kernel
theorem dL_turn_215 : decode cL_turn 215 = .ok (.iload 6, 2) := by decide +kernel
theorem dL_turn_217 : decode cL_turn 217 = .ok (.ifCond .eq 7, 3) := by decide +kernel
theorem dL_turn_220 : decode cL_turn 220 = .ok (.iconst 1, 1) := by decide +kernel
theorem dL_turn_221 : decode cL_turn 221 = .ok (.goto 4, 3) := by decide +kernel
theorem dL_turn_224 : decode cL_turn 224 = .ok (.iconst (-1), 1) := by decide +kernel
theorem dL_turn_225 : decode cL_turn 225 = .ok (.iadd, 1) := by decide +kernel
theorem dL_turn_226 : decode cL_turn 226 = .ok (.iastore, 1) := by decide +kernel
theorem dL_turn_227 : decode cL_turn 227 = .ok (.aload_n 3, 1) := by decide +kernel
theorem dL_turn_228 : decode cL_turn 228 = .ok (.iload 4, 2) := by decide +kernel
theorem dL_turn_230 : decode cL_turn 230 = .ok (.iconst 5, 1) := by decide +kernel
theorem dL_turn_231 : decode cL_turn 231 = .ok (.iadd, 1) := by decide +kernel
theorem dL_turn_232 : decode cL_turn 232 = .ok (.iconst 1, 1) := by decide +kernel
theorem dL_turn_233 : decode cL_turn 233 = .ok (.aload_n 2, 1) := by decide +kernel
theorem dL_turn_234 : decode cL_turn 234 = .ok (.iconst 3, 1) := by decide +kernel
theorem dL_turn_235 : decode cL_turn 235 = .ok (.aload_n 3, 1) := by decide +kernel
theorem dL_turn_236 : decode cL_turn 236 = .ok (.iload 4, 2) := by decide +kernel
theorem dL_turn_238 : decode cL_turn 238 = .ok (.iconst 3, 1) := by decide +kernel
theorem dL_turn_239 : decode cL_turn 239 = .ok (.iadd, 1) := by decide +kernel
theorem dL_turn_240 : decode cL_turn 240 = .ok (.iaload, 1) := by decide +kernel
theorem dL_turn_241 : decode cL_turn 241 = .ok (.imul, 1) := by decide +kernel
theorem dL_turn_242 : decode cL_turn 242 = .ok (.iconst 2, 1) := by decide +kernel
theorem dL_turn_243 : decode cL_turn 243 = .ok (.iadd, 1) := by decide +kernel
theorem dL_turn_244 : decode cL_turn 244 = .ok (.iaload, 1) := by decide +kernel
theorem dL_turn_245 : decode cL_turn 245 = .ok (.bipush 100, 2) := by decide +kernel
theorem dL_turn_247 : decode cL_turn 247 = .ok (.idiv, 1) := by decide +kernel
theorem dL_turn_248 : decode cL_turn 248 = .ok (.iadd, 1) := by decide +kernel
theorem dL_turn_249 : decode cL_turn 249 = .ok (.iastore, 1) := by decide +kernel
theorem dL_turn_250 : decode cL_turn 250 = .ok (.return_, 1) := by decide +kernel
theorem dL_tick_0 : decode cL_tick 0 = .ok (.iconst 0, 1) := by decide +kernel
theorem dL_tick_1 : decode cL_tick 1 = .ok (.istore_n 3, 1) := by decide +kernel
theorem dL_tick_2 : decode cL_tick 2 = .ok (.iload_n 3, 1) := by decide +kernel
theorem dL_tick_3 : decode cL_tick 3 = .ok (.aload_n 0, 1) := by decide +kernel
theorem dL_tick_4 : decode cL_tick 4 = .ok (.iconst 1, 1) := by decide +kernel
theorem dL_tick_5 : decode cL_tick 5 = .ok (.iaload, 1) := by decide +kernel
theorem dL_tick_6 : decode cL_tick 6 = .ok (.if_icmp .ge 61, 3) := by decide +kernel
theorem dL_tick_9 : decode cL_tick 9 = .ok (.aload_n 2, 1) := by decide +kernel
theorem dL_tick_10 : decode cL_tick 10 = .ok (.bipush 10, 2) := by decide +kernel
theorem dL_tick_12 : decode cL_tick 12 = .ok (.iload_n 3, 1) := by decide +kernel
theorem dL_tick_13 : decode cL_tick 13 = .ok (.imul, 1) := by decide +kernel
theorem dL_tick_14 : decode cL_tick 14 = .ok (.bipush 9, 2) := by decide +kernel
theorem dL_tick_16 : decode cL_tick 16 = .ok (.iadd, 1) := by decide +kernel
theorem dL_tick_17 : decode cL_tick 17 = .ok (.aload_n 0, 1) := by decide +kernel
theorem dL_tick_18 : decode cL_tick 18 = .ok (.iconst 4, 1) := by decide +kernel
theorem dL_tick_19 : decode cL_tick 19 = .ok (.iaload, 1) := by decide +kernel
theorem dL_tick_20 : decode cL_tick 20 = .ok (.iconst 2, 1) := by decide +kernel
theorem dL_tick_21 : decode cL_tick 21 = .ok (.if_icmp .eq 34, 3) := by decide +kernel
theorem dL_tick_24 : decode cL_tick 24 = .ok (.aload_n 2, 1) := by decide +kernel
theorem dL_tick_25 : decode cL_tick 25 = .ok (.bipush 10, 2) := by decide +kernel
theorem dL_tick_27 : decode cL_tick 27 = .ok (.iload_n 3, 1) := by decide +kernel
theorem dL_tick_28 : decode cL_tick 28 = .ok (.imul, 1) := by decide +kernel
theorem dL_tick_29 : decode cL_tick 29 = .ok (.iconst 4, 1) := by decide +kernel
theorem dL_tick_30 : decode cL_tick 30 = .ok (.iadd, 1) := by decide +kernel
theorem dL_tick_31 : decode cL_tick 31 = .ok (.iaload, 1) := by decide +kernel
theorem dL_tick_32 : decode cL_tick 32 = .ok (.iconst 1, 1) := by decide +kernel
theorem dL_tick_33 : decode cL_tick 33 = .ok (.if_icmp .ne 7, 3) := by decide +kernel
theorem dL_tick_36 : decode cL_tick 36 = .ok (.iconst 1, 1) := by decide +kernel
theorem dL_tick_37 : decode cL_tick 37 = .ok (.goto 4, 3) := by decide +kernel
theorem dL_tick_40 : decode cL_tick 40 = .ok (.iconst 0, 1) := by decide +kernel
theorem dL_tick_41 : decode cL_tick 41 = .ok (.aload_n 0, 1) := by decide +kernel
theorem dL_tick_42 : decode cL_tick 42 = .ok (.iconst 4, 1) := by decide +kernel
theorem dL_tick_43 : decode cL_tick 43 = .ok (.iaload, 1) := by decide +kernel
theorem dL_tick_44 : decode cL_tick 44 = .ok (.ifCond .ne 7, 3) := by decide +kernel
theorem dL_tick_47 : decode cL_tick 47 = .ok (.iconst 1, 1) := by decide +kernel
theorem dL_tick_48 : decode cL_tick 48 = .ok (.goto 4, 3) := by decide +kernel
theorem dL_tick_51 : decode cL_tick 51 = .ok (.iconst 0, 1) := by decide +kernel
theorem dL_tick_52 : decode cL_tick 52 = .ok (.if_icmp .ne 7, 3) := by decide +kernel
theorem dL_tick_55 : decode cL_tick 55 = .ok (.iconst 0, 1) := by decide +kernel
theorem dL_tick_56 : decode cL_tick 56 = .ok (.goto 4, 3) := by decide +kernel
theorem dL_tick_59 : decode cL_tick 59 = .ok (.iconst 1, 1) := by decide +kernel
theorem dL_tick_60 : decode cL_tick 60 = .ok (.iastore, 1) := by decide +kernel
theorem dL_tick_61 : decode cL_tick 61 = .ok (.iinc 3 1, 3) := by decide +kernel
theorem dL_tick_64 : decode cL_tick 64 = .ok (.goto (-62), 3) := by decide +kernel
theorem dL_tick_67 : decode cL_tick 67 = .ok (.iconst 0, 1) := by decide +kernel
theorem dL_tick_68 : decode cL_tick 68 = .ok (.istore_n 3, 1) := by decide +kernel
theorem dL_tick_69 : decode cL_tick 69 = .ok (.iload_n 3, 1) := by decide +kernel
theorem dL_tick_70 : decode cL_tick 70 = .ok (.iconst 2, 1) := by decide +kernel
theorem dL_tick_71 : decode cL_tick 71 = .ok (.if_icmp .ge 48, 3) := by decide +kernel
theorem dL_tick_74 : decode cL_tick 74 = .ok (.iconst 0, 1) := by decide +kernel
theorem dL_tick_75 : decode cL_tick 75 = .ok (.istore 4, 2) := by decide +kernel
theorem dL_tick_77 : decode cL_tick 77 = .ok (.iload 4, 2) := by decide +kernel
theorem dL_tick_79 : decode cL_tick 79 = .ok (.aload_n 0, 1) := by decide +kernel
theorem dL_tick_80 : decode cL_tick 80 = .ok (.iconst 1, 1) := by decide +kernel
theorem dL_tick_81 : decode cL_tick 81 = .ok (.iaload, 1) := by decide +kernel
theorem dL_tick_82 : decode cL_tick 82 = .ok (.if_icmp .ge 31, 3) := by decide +kernel
theorem dL_tick_85 : decode cL_tick 85 = .ok (.aload_n 2, 1) := by decide +kernel
theorem dL_tick_86 : decode cL_tick 86 = .ok (.bipush 10, 2) := by decide +kernel
theorem dL_tick_88 : decode cL_tick 88 = .ok (.iload 4, 2) := by decide +kernel
theorem dL_tick_90 : decode cL_tick 90 = .ok (.imul, 1) := by decide +kernel
theorem dL_tick_91 : decode cL_tick 91 = .ok (.bipush 9, 2) := by decide +kernel
theorem dL_tick_93 : decode cL_tick 93 = .ok (.iadd, 1) := by decide +kernel
theorem dL_tick_94 : decode cL_tick 94 = .ok (.iaload, 1) := by decide +kernel
theorem dL_tick_95 : decode cL_tick 95 = .ok (.iload_n 3, 1) := by decide +kernel
theorem dL_tick_96 : decode cL_tick 96 = .ok (.if_icmp .ne 11, 3) := by decide +kernel
theorem dL_tick_99 : decode cL_tick 99 = .ok (.iload 4, 2) := by decide +kernel
theorem dL_tick_101 : decode cL_tick 101 = .ok (.aload_n 0, 1) := by decide +kernel
theorem dL_tick_102 : decode cL_tick 102 = .ok (.aload_n 1, 1) := by decide +kernel
theorem dL_tick_103 : decode cL_tick 103 = .ok (.aload_n 2, 1) := by decide +kernel
theorem dL_tick_104 : decode cL_tick 104 = .ok (.invokestatic 32, 3) := by decide +kernel
theorem dL_tick_107 : decode cL_tick 107 = .ok (.iinc 4 1, 3) := by decide +kernel
theorem dL_tick_110 : decode cL_tick 110 = .ok (.goto (-33), 3) := by decide +kernel
theorem dL_tick_113 : decode cL_tick 113 = .ok (.iinc 3 1, 3) := by decide +kernel
theorem dL_tick_116 : decode cL_tick 116 = .ok (.goto (-47), 3) := by decide +kernel
theorem dL_tick_119 : decode cL_tick 119 = .ok (.iconst 0, 1) := by decide +kernel
theorem dL_tick_120 : decode cL_tick 120 = .ok (.istore_n 3, 1) := by decide +kernel
theorem dL_tick_121 : decode cL_tick 121 = .ok (.iload_n 3, 1) := by decide +kernel
theorem dL_tick_122 : decode cL_tick 122 = .ok (.aload_n 0, 1) := by decide +kernel
theorem dL_tick_123 : decode cL_tick 123 = .ok (.iconst 0, 1) := by decide +kernel
theorem dL_tick_124 : decode cL_tick 124 = .ok (.iaload, 1) := by decide +kernel
theorem dL_tick_125 : decode cL_tick 125 = .ok (.if_icmp .ge 93, 3) := by decide +kernel
theorem dL_tick_128 : decode cL_tick 128 = .ok (.iload_n 3, 1) := by decide +kernel
theorem dL_tick_129 : decode cL_tick 129 = .ok (.aload_n 0, 1) := by decide +kernel
theorem dL_tick_130 : decode cL_tick 130 = .ok (.aload_n 2, 1) := by decide +kernel
theorem dL_tick_131 : decode cL_tick 131 = .ok (.invokestatic 18, 3) := by decide +kernel
theorem dL_tick_134 : decode cL_tick 134 = .ok (.sipush 10000, 3) := by decide +kernel
theorem dL_tick_137 : decode cL_tick 137 = .ok (.idiv, 1) := by decide +kernel
theorem dL_tick_138 : decode cL_tick 138 = .ok (.istore 4, 2) := by decide +kernel
theorem dL_tick_140 : decode cL_tick 140 = .ok (.iload 4, 2) := by decide +kernel
theorem dL_tick_142 : decode cL_tick 142 = .ok (.ifCond .le 25, 3) := by decide +kernel
theorem dL_tick_145 : decode cL_tick 145 = .ok (.aload_n 1, 1) := by decide +kernel
theorem dL_tick_146 : decode cL_tick 146 = .ok (.iconst 3, 1) := by decide +kernel
theorem dL_tick_147 : decode cL_tick 147 = .ok (.iload_n 3, 1) := by decide +kernel
theorem dL_tick_148 : decode cL_tick 148 = .ok (.imul, 1) := by decide +kernel
theorem dL_tick_149 : decode cL_tick 149 = .ok (.iconst 2, 1) := by decide +kernel
theorem dL_tick_150 : decode cL_tick 150 = .ok (.iadd, 1) := by decide +kernel
theorem dL_tick_151 : decode cL_tick 151 = .ok (.iaload, 1) := by decide +kernel
theorem dL_tick_152 : decode cL_tick 152 = .ok (.iload 4, 2) := by decide +kernel
theorem dL_tick_154 : decode cL_tick 154 = .ok (.aload_n 1, 1) := by decide +kernel
theorem dL_tick_155 : decode cL_tick 155 = .ok (.iconst 3, 1) := by decide +kernel
theorem dL_tick_156 : decode cL_tick 156 = .ok (.iload_n 3, 1) := by decide +kernel
theorem dL_tick_157 : decode cL_tick 157 = .ok (.imul, 1) := by decide +kernel
theorem dL_tick_158 : decode cL_tick 158 = .ok (.iaload, 1) := by decide +kernel
theorem dL_tick_159 : decode cL_tick 159 = .ok (.imul, 1) := by decide +kernel
theorem dL_tick_160 : decode cL_tick 160 = .ok (.bipush 10, 2) := by decide +kernel
theorem dL_tick_162 : decode cL_tick 162 = .ok (.idiv, 1) := by decide +kernel
theorem dL_tick_163 : decode cL_tick 163 = .ok (.iadd, 1) := by decide +kernel
theorem dL_tick_164 : decode cL_tick 164 = .ok (.goto 14, 3) := by decide +kernel
theorem dL_tick_167 : decode cL_tick 167 = .ok (.aload_n 1, 1) := by decide +kernel
theorem dL_tick_168 : decode cL_tick 168 = .ok (.iconst 3, 1) := by decide +kernel
theorem dL_tick_169 : decode cL_tick 169 = .ok (.iload_n 3, 1) := by decide +kernel
theorem dL_tick_170 : decode cL_tick 170 = .ok (.imul, 1) := by decide +kernel
theorem dL_tick_171 : decode cL_tick 171 = .ok (.iconst 2, 1) := by decide +kernel
theorem dL_tick_172 : decode cL_tick 172 = .ok (.iadd, 1) := by decide +kernel
theorem dL_tick_173 : decode cL_tick 173 = .ok (.iaload, 1) := by decide +kernel
theorem dL_tick_174 : decode cL_tick 174 = .ok (.aload_n 0, 1) := by decide +kernel
theorem dL_tick_175 : decode cL_tick 175 = .ok (.iconst 3, 1) := by decide +kernel
theorem dL_tick_176 : decode cL_tick 176 = .ok (.iaload, 1) := by decide +kernel
theorem dL_tick_177 : decode cL_tick 177 = .ok (.isub, 1) := by decide +kernel
theorem dL_tick_178 : decode cL_tick 178 = .ok (.istore 5, 2) := by decide +kernel
theorem dL_tick_180 : decode cL_tick 180 = .ok (.aload_n 1, 1) := by decide +kernel
theorem dL_tick_181 : decode cL_tick 181 = .ok (.iconst 3, 1) := by decide +kernel
theorem dL_tick_182 : decode cL_tick 182 = .ok (.iload_n 3, 1) := by decide +kernel
theorem dL_tick_183 : decode cL_tick 183 = .ok (.imul, 1) := by decide +kernel
theorem dL_tick_184 : decode cL_tick 184 = .ok (.iconst 2, 1) := by decide +kernel
theorem dL_tick_185 : decode cL_tick 185 = .ok (.iadd, 1) := by decide +kernel
theorem dL_tick_186 : decode cL_tick 186 = .ok (.iload 5, 2) := by decide +kernel
theorem dL_tick_188 : decode cL_tick 188 = .ok (.ifCond .ge 7, 3) := by decide +kernel
theorem dL_tick_191 : decode cL_tick 191 = .ok (.iconst 0, 1) := by decide +kernel
theorem dL_tick_192 : decode cL_tick 192 = .ok (.goto 19, 3) := by decide +kernel
theorem dL_tick_195 : decode cL_tick 195 = .ok (.iload 5, 2) := by decide +kernel
theorem dL_tick_197 : decode cL_tick 197 = .ok (.sipush 999, 3) := by decide +kernel
theorem dL_tick_200 : decode cL_tick 200 = .ok (.if_icmp .le 9, 3) := by decide +kernel
theorem dL_tick_203 : decode cL_tick 203 = .ok (.sipush 999, 3) := by decide +kernel
theorem dL_tick_206 : decode cL_tick 206 = .ok (.goto 5, 3) := by decide +kernel
theorem dL_tick_209 : decode cL_tick 209 = .ok (.iload 5, 2) := by decide +kernel
theorem dL_tick_211 : decode cL_tick 211 = .ok (.iastore, 1) := by decide +kernel
theorem dL_tick_212 : decode cL_tick 212 = .ok (.iinc 3 1, 3) := by decide +kernel
theorem dL_tick_215 : decode cL_tick 215 = .ok (.goto (-94), 3) := by decide +kernel
theorem dL_tick_218 : decode cL_tick 218 = .ok (.aload_n 0, 1) := by decide +kernel
theorem dL_tick_219 : decode cL_tick 219 = .ok (.bipush 9, 2) := by decide +kernel
theorem dL_tick_221 : decode cL_tick 221 = .ok (.dup2, 1) := by decide +kernel
theorem dL_tick_222 : decode cL_tick 222 = .ok (.iaload, 1) := by decide +kernel
theorem dL_tick_223 : decode cL_tick 223 = .ok (.iconst 1, 1) := by decide +kernel
theorem dL_tick_224 : decode cL_tick 224 = .ok (.iadd, 1) := by decide +kernel
theorem dL_tick_225 : decode cL_tick 225 = .ok (.iastore, 1) := by decide +kernel
theorem dL_tick_226 : decode cL_tick 226 = .ok (.return_, 1) := by decide +kernel
theorem dL_sunk_0 : decode cL_sunk 0 = .ok (.iconst 0, 1) := by decide +kernel
theorem dL_sunk_1 : decode cL_sunk 1 = .ok (.istore_n 2, 1) := by decide +kernel
theorem dL_sunk_2 : decode cL_sunk 2 = .ok (.iconst 0, 1) := by decide +kernel
theorem dL_sunk_3 : decode cL_sunk 3 = .ok (.istore_n 3, 1) := by decide +kernel
theorem dL_sunk_4 : decode cL_sunk 4 = .ok (.iload_n 3, 1) := by decide +kernel
theorem dL_sunk_5 : decode cL_sunk 5 = .ok (.aload_n 0, 1) := by decide +kernel
theorem dL_sunk_6 : decode cL_sunk 6 = .ok (.iconst 0, 1) := by decide +kernel
theorem dL_sunk_7 : decode cL_sunk 7 = .ok (.iaload, 1) := by decide +kernel
theorem dL_sunk_8 : decode cL_sunk 8 = .ok (.if_icmp .ge 32, 3) := by decide +kernel
theorem dL_sunk_11 : decode cL_sunk 11 = .ok (.aload_n 1, 1) := by decide +kernel
theorem dL_sunk_12 : decode cL_sunk 12 = .ok (.iconst 3, 1) := by decide +kernel
theorem dL_sunk_13 : decode cL_sunk 13 = .ok (.iload_n 3, 1) := by decide +kernel
theorem dL_sunk_14 : decode cL_sunk 14 = .ok (.imul, 1) := by decide +kernel
theorem dL_sunk_15 : decode cL_sunk 15 = .ok (.iconst 2, 1) := by decide +kernel
theorem dL_sunk_16 : decode cL_sunk 16 = .ok (.iadd, 1) := by decide +kernel
theorem dL_sunk_17 : decode cL_sunk 17 = .ok (.iaload, 1) := by decide +kernel
theorem dL_sunk_18 : decode cL_sunk 18 = .ok (.iload_n 2, 1) := by decide +kernel
theorem dL_sunk_19 : decode cL_sunk 19 = .ok (.if_icmp .le 13, 3) := by decide +kernel
theorem dL_sunk_22 : decode cL_sunk 22 = .ok (.aload_n 1, 1) := by decide +kernel
theorem dL_sunk_23 : decode cL_sunk 23 = .ok (.iconst 3, 1) := by decide +kernel
theorem dL_sunk_24 : decode cL_sunk 24 = .ok (.iload_n 3, 1) := by decide +kernel
theorem dL_sunk_25 : decode cL_sunk 25 = .ok (.imul, 1) := by decide +kernel
theorem dL_sunk_26 : decode cL_sunk 26 = .ok (.iconst 2, 1) := by decide +kernel
theorem dL_sunk_27 : decode cL_sunk 27 = .ok (.iadd, 1) := by decide +kernel
theorem dL_sunk_28 : decode cL_sunk 28 = .ok (.iaload, 1) := by decide +kernel
theorem dL_sunk_29 : decode cL_sunk 29 = .ok (.goto 4, 3) := by decide +kernel
theorem dL_sunk_32 : decode cL_sunk 32 = .ok (.iload_n 2, 1) := by decide +kernel
theorem dL_sunk_33 : decode cL_sunk 33 = .ok (.istore_n 2, 1) := by decide +kernel
theorem dL_sunk_34 : decode cL_sunk 34 = .ok (.iinc 3 1, 3) := by decide +kernel
theorem dL_sunk_37 : decode cL_sunk 37 = .ok (.goto (-33), 3) := by decide +kernel
theorem dL_sunk_40 : decode cL_sunk 40 = .ok (.iload_n 2, 1) := by decide +kernel
theorem dL_sunk_41 : decode cL_sunk 41 = .ok (.ireturn, 1) := by decide +kernel
theorem dL_sum_0 : decode cL_sum 0 = .ok (.iconst 0, 1) := by decide +kernel
theorem dL_sum_1 : decode cL_sum 1 = .ok (.istore_n 3, 1) := by decide +kernel
theorem dL_sum_2 : decode cL_sum 2 = .ok (.iconst 0, 1) := by decide +kernel
theorem dL_sum_3 : decode cL_sum 3 = .ok (.istore 4, 2) := by decide +kernel
theorem dL_sum_5 : decode cL_sum 5 = .ok (.iload 4, 2) := by decide +kernel
theorem dL_sum_7 : decode cL_sum 7 = .ok (.aload_n 1, 1) := by decide +kernel
theorem dL_sum_8 : decode cL_sum 8 = .ok (.iconst 1, 1) := by decide +kernel
theorem dL_sum_9 : decode cL_sum 9 = .ok (.iaload, 1) := by decide +kernel
theorem dL_sum_10 : decode cL_sum 10 = .ok (.if_icmp .ge 21, 3) := by decide +kernel
theorem dL_sum_13 : decode cL_sum 13 = .ok (.iload_n 3, 1) := by decide +kernel
theorem dL_sum_14 : decode cL_sum 14 = .ok (.aload_n 2, 1) := by decide +kernel
theorem dL_sum_15 : decode cL_sum 15 = .ok (.bipush 10, 2) := by decide +kernel
theorem dL_sum_17 : decode cL_sum 17 = .ok (.iload 4, 2) := by decide +kernel
theorem dL_sum_19 : decode cL_sum 19 = .ok (.imul, 1) := by decide +kernel
theorem dL_sum_20 : decode cL_sum 20 = .ok (.iload_n 0, 1) := by decide +kernel
theorem dL_sum_21 : decode cL_sum 21 = .ok (.iadd, 1) := by decide +kernel
theorem dL_sum_22 : decode cL_sum 22 = .ok (.iaload, 1) := by decide +kernel
theorem dL_sum_23 : decode cL_sum 23 = .ok (.iadd, 1) := by decide +kernel
theorem dL_sum_24 : decode cL_sum 24 = .ok (.istore_n 3, 1) := by decide +kernel
theorem dL_sum_25 : decode cL_sum 25 = .ok (.iinc 4 1, 3) := by decide +kernel
theorem dL_sum_28 : decode cL_sum 28 = .ok (.goto (-23), 3) := by decide +kernel
theorem dL_sum_31 : decode cL_sum 31 = .ok (.iload_n 3, 1) := by decide +kernel
theorem dL_sum_32 : decode cL_sum 32 = .ok (.ireturn, 1) := by decide +kernel
theorem dL_told_0 : decode cL_told 0 = .ok (.iconst 0, 1) := by decide +kernel
theorem dL_told_1 : decode cL_told 1 = .ok (.istore 4, 2) := by decide +kernel
theorem dL_told_3 : decode cL_told 3 = .ok (.iconst 0, 1) := by decide +kernel
theorem dL_told_4 : decode cL_told 4 = .ok (.istore 5, 2) := by decide +kernel
theorem dL_told_6 : decode cL_told 6 = .ok (.iconst 0, 1) := by decide +kernel
theorem dL_told_7 : decode cL_told 7 = .ok (.istore 6, 2) := by decide +kernel
theorem dL_told_9 : decode cL_told 9 = .ok (.iload 6, 2) := by decide +kernel
theorem dL_told_11 : decode cL_told 11 = .ok (.aload_n 1, 1) := by decide +kernel
theorem dL_told_12 : decode cL_told 12 = .ok (.iconst 0, 1) := by decide +kernel
theorem dL_told_13 : decode cL_told 13 = .ok (.iaload, 1) := by decide +kernel
theorem dL_told_14 : decode cL_told 14 = .ok (.if_icmp .ge 202, 3) := by decide +kernel
theorem dL_told_17 : decode cL_told 17 = .ok (.aload_n 2, 1) := by decide +kernel
theorem dL_told_18 : decode cL_told 18 = .ok (.iconst 3, 1) := by decide +kernel
theorem dL_told_19 : decode cL_told 19 = .ok (.iload 6, 2) := by decide +kernel
theorem dL_told_21 : decode cL_told 21 = .ok (.imul, 1) := by decide +kernel
theorem dL_told_22 : decode cL_told 22 = .ok (.iconst 2, 1) := by decide +kernel
theorem dL_told_23 : decode cL_told 23 = .ok (.iadd, 1) := by decide +kernel
theorem dL_told_24 : decode cL_told 24 = .ok (.iaload, 1) := by decide +kernel
theorem dL_told_25 : decode cL_told 25 = .ok (.istore 7, 2) := by decide +kernel
theorem dL_told_27 : decode cL_told 27 = .ok (.iconst 0, 1) := by decide +kernel
theorem dL_told_28 : decode cL_told 28 = .ok (.istore 8, 2) := by decide +kernel
theorem dL_told_30 : decode cL_told 30 = .ok (.iload 7, 2) := by decide +kernel
theorem dL_told_32 : decode cL_told 32 = .ok (.iload 8, 2) := by decide +kernel
theorem dL_told_34 : decode cL_told 34 = .ok (.aload_n 1, 1) := by decide +kernel
theorem dL_told_35 : decode cL_told 35 = .ok (.iconst 3, 1) := by decide +kernel
theorem dL_told_36 : decode cL_told 36 = .ok (.iaload, 1) := by decide +kernel
theorem dL_told_37 : decode cL_told 37 = .ok (.imul, 1) := by decide +kernel
theorem dL_told_38 : decode cL_told 38 = .ok (.isub, 1) := by decide +kernel
theorem dL_told_39 : decode cL_told 39 = .ok (.aload_n 1, 1) := by decide +kernel
theorem dL_told_40 : decode cL_told 40 = .ok (.iconst 2, 1) := by decide +kernel
theorem dL_told_41 : decode cL_told 41 = .ok (.iaload, 1) := by decide +kernel
theorem dL_told_42 : decode cL_told 42 = .ok (.if_icmp .le 9, 3) := by decide +kernel
theorem dL_told_45 : decode cL_told 45 = .ok (.iinc 8 1, 3) := by decide +kernel
theorem dL_told_48 : decode cL_told 48 = .ok (.goto (-18), 3) := by decide +kernel
theorem dL_told_51 : decode cL_told 51 = .ok (.iload 4, 2) := by decide +kernel
theorem dL_told_53 : decode cL_told 53 = .ok (.iload 7, 2) := by decide +kernel
theorem dL_told_55 : decode cL_told 55 = .ok (.iadd, 1) := by decide +kernel
theorem dL_told_56 : decode cL_told 56 = .ok (.istore 4, 2) := by decide +kernel
theorem dL_told_58 : decode cL_told 58 = .ok (.iload 5, 2) := by decide +kernel
theorem dL_told_60 : decode cL_told 60 = .ok (.iload 7, 2) := by decide +kernel
theorem dL_told_62 : decode cL_told 62 = .ok (.aload_n 1, 1) := by decide +kernel
theorem dL_told_63 : decode cL_told 63 = .ok (.iconst 2, 1) := by decide +kernel
theorem dL_told_64 : decode cL_told 64 = .ok (.iaload, 1) := by decide +kernel
theorem dL_told_65 : decode cL_told 65 = .ok (.if_icmp .le 10, 3) := by decide +kernel
theorem dL_told_68 : decode cL_told 68 = .ok (.iconst 1, 1) := by decide +kernel
theorem dL_told_69 : decode cL_told 69 = .ok (.iload 6, 2) := by decide +kernel
theorem dL_told_71 : decode cL_told 71 = .ok (.ishl, 1) := by decide +kernel
theorem dL_told_72 : decode cL_told 72 = .ok (.goto 4, 3) := by decide +kernel
theorem dL_told_75 : decode cL_told 75 = .ok (.iconst 0, 1) := by decide +kernel
theorem dL_told_76 : decode cL_told 76 = .ok (.ior, 1) := by decide +kernel
theorem dL_told_77 : decode cL_told 77 = .ok (.istore 5, 2) := by decide +kernel
theorem dL_told_79 : decode cL_told 79 = .ok (.aload_n 0, 1) := by decide +kernel
theorem dL_told_80 : decode cL_told 80 = .ok (.iload 6, 2) := by decide +kernel
theorem dL_told_82 : decode cL_told 82 = .ok (.iconst 0, 1) := by decide +kernel
theorem dL_told_83 : decode cL_told 83 = .ok (.invokevirtual 36, 3) := by decide +kernel
theorem dL_told_86 : decode cL_told 86 = .ok (.aload_n 2, 1) := by decide +kernel
theorem dL_told_87 : decode cL_told 87 = .ok (.iconst 3, 1) := by decide +kernel
theorem dL_told_88 : decode cL_told 88 = .ok (.iload 6, 2) := by decide +kernel
theorem dL_told_90 : decode cL_told 90 = .ok (.imul, 1) := by decide +kernel
theorem dL_told_91 : decode cL_told 91 = .ok (.iaload, 1) := by decide +kernel
theorem dL_told_92 : decode cL_told 92 = .ok (.if_icmp .ne 116, 3) := by decide +kernel
theorem dL_told_95 : decode cL_told 95 = .ok (.aload_n 0, 1) := by decide +kernel
theorem dL_told_96 : decode cL_told 96 = .ok (.iload 6, 2) := by decide +kernel
theorem dL_told_98 : decode cL_told 98 = .ok (.iconst 1, 1) := by decide +kernel
theorem dL_told_99 : decode cL_told 99 = .ok (.invokevirtual 36, 3) := by decide +kernel
theorem dL_told_102 : decode cL_told 102 = .ok (.iload 6, 2) := by decide +kernel
theorem dL_told_104 : decode cL_told 104 = .ok (.aload_n 1, 1) := by decide +kernel
theorem dL_told_105 : decode cL_told 105 = .ok (.aload_n 2, 1) := by decide +kernel
theorem dL_told_106 : decode cL_told 106 = .ok (.invokestatic 8, 3) := by decide +kernel
theorem dL_told_109 : decode cL_told 109 = .ok (.ifCond .eq 7, 3) := by decide +kernel
theorem dL_told_112 : decode cL_told 112 = .ok (.iconst 1, 1) := by decide +kernel
theorem dL_told_113 : decode cL_told 113 = .ok (.goto 4, 3) := by decide +kernel
theorem dL_told_116 : decode cL_told 116 = .ok (.iconst 0, 1) := by decide +kernel
theorem dL_told_117 : decode cL_told 117 = .ok (.if_icmp .ne 91, 3) := by decide +kernel
theorem dL_told_120 : decode cL_told 120 = .ok (.aload_n 0, 1) := by decide +kernel
theorem dL_told_121 : decode cL_told 121 = .ok (.iload 6, 2) := by decide +kernel
theorem dL_told_123 : decode cL_told 123 = .ok (.iconst 2, 1) := by decide +kernel
theorem dL_told_124 : decode cL_told 124 = .ok (.invokevirtual 36, 3) := by decide +kernel
theorem dL_told_127 : decode cL_told 127 = .ok (.iload 7, 2) := by decide +kernel
theorem dL_told_129 : decode cL_told 129 = .ok (.if_icmp .ne 79, 3) := by decide +kernel
theorem dL_told_132 : decode cL_told 132 = .ok (.aload_n 0, 1) := by decide +kernel
theorem dL_told_133 : decode cL_told 133 = .ok (.iload 6, 2) := by decide +kernel
theorem dL_told_135 : decode cL_told 135 = .ok (.iconst 3, 1) := by decide +kernel
theorem dL_told_136 : decode cL_told 136 = .ok (.invokevirtual 36, 3) := by decide +kernel
theorem dL_told_139 : decode cL_told 139 = .ok (.iload 6, 2) := by decide +kernel
theorem dL_told_141 : decode cL_told 141 = .ok (.aload_n 1, 1) := by decide +kernel
theorem dL_told_142 : decode cL_told 142 = .ok (.aload_n 3, 1) := by decide +kernel
theorem dL_told_143 : decode cL_told 143 = .ok (.invokestatic 22, 3) := by decide +kernel
theorem dL_told_146 : decode cL_told 146 = .ok (.if_icmp .ne 62, 3) := by decide +kernel
theorem dL_told_149 : decode cL_told 149 = .ok (.aload_n 0, 1) := by decide +kernel
theorem dL_told_150 : decode cL_told 150 = .ok (.iload 6, 2) := by decide +kernel
theorem dL_told_152 : decode cL_told 152 = .ok (.iconst 4, 1) := by decide +kernel
theorem dL_told_153 : decode cL_told 153 = .ok (.invokevirtual 36, 3) := by decide +kernel
theorem dL_told_156 : decode cL_told 156 = .ok (.iload 6, 2) := by decide +kernel
theorem dL_told_158 : decode cL_told 158 = .ok (.aload_n 1, 1) := by decide +kernel
theorem dL_told_159 : decode cL_told 159 = .ok (.aload_n 3, 1) := by decide +kernel
theorem dL_told_160 : decode cL_told 160 = .ok (.invokestatic 18, 3) := by decide +kernel
theorem dL_told_163 : decode cL_told 163 = .ok (.sipush 10000, 3) := by decide +kernel
theorem dL_told_166 : decode cL_told 166 = .ok (.idiv, 1) := by decide +kernel
theorem dL_told_167 : decode cL_told 167 = .ok (.if_icmp .ne 41, 3) := by decide +kernel
theorem dL_told_170 : decode cL_told 170 = .ok (.aload_n 0, 1) := by decide +kernel
theorem dL_told_171 : decode cL_told 171 = .ok (.iload 6, 2) := by decide +kernel
theorem dL_told_173 : decode cL_told 173 = .ok (.iconst 5, 1) := by decide +kernel
theorem dL_told_174 : decode cL_told 174 = .ok (.invokevirtual 36, 3) := by decide +kernel
theorem dL_told_177 : decode cL_told 177 = .ok (.iload 6, 2) := by decide +kernel
theorem dL_told_179 : decode cL_told 179 = .ok (.aload_n 1, 1) := by decide +kernel
theorem dL_told_180 : decode cL_told 180 = .ok (.aload_n 2, 1) := by decide +kernel
theorem dL_told_181 : decode cL_told 181 = .ok (.invokestatic 25, 3) := by decide +kernel
theorem dL_told_184 : decode cL_told 184 = .ok (.iload 6, 2) := by decide +kernel
theorem dL_told_186 : decode cL_told 186 = .ok (.aload_n 1, 1) := by decide +kernel
theorem dL_told_187 : decode cL_told 187 = .ok (.aload_n 3, 1) := by decide +kernel
theorem dL_told_188 : decode cL_told 188 = .ok (.invokestatic 22, 3) := by decide +kernel
theorem dL_told_191 : decode cL_told 191 = .ok (.isub, 1) := by decide +kernel
theorem dL_told_192 : decode cL_told 192 = .ok (.if_icmp .ne 16, 3) := by decide +kernel
theorem dL_told_195 : decode cL_told 195 = .ok (.aload_n 0, 1) := by decide +kernel
theorem dL_told_196 : decode cL_told 196 = .ok (.iload 6, 2) := by decide +kernel
theorem dL_told_198 : decode cL_told 198 = .ok (.bipush 6, 2) := by decide +kernel
theorem dL_told_200 : decode cL_told 200 = .ok (.invokevirtual 36, 3) := by decide +kernel
theorem dL_told_203 : decode cL_told 203 = .ok (.iload 8, 2) := by decide +kernel
theorem dL_told_205 : decode cL_told 205 = .ok (.if_icmp .eq 5, 3) := by decide +kernel
theorem dL_told_208 : decode cL_told 208 = .ok (.iconst 0, 1) := by decide +kernel
theorem dL_told_209 : decode cL_told 209 = .ok (.ireturn, 1) := by decide +kernel
theorem dL_told_210 : decode cL_told 210 = .ok (.iinc 6 1, 3) := by decide +kernel
theorem dL_told_213 : decode cL_told 213 = .ok (.goto (-204), 3) := by decide +kernel
theorem dL_told_216 : decode cL_told 216 = .ok (.iconst 0, 1) := by decide +kernel
theorem dL_told_217 : decode cL_told 217 = .ok (.istore 6, 2) := by decide +kernel
theorem dL_told_219 : decode cL_told 219 = .ok (.iload 6, 2) := by decide +kernel
theorem dL_told_221 : decode cL_told 221 = .ok (.aload_n 1, 1) := by decide +kernel
theorem dL_told_222 : decode cL_told 222 = .ok (.iconst 1, 1) := by decide +kernel
theorem dL_told_223 : decode cL_told 223 = .ok (.iaload, 1) := by decide +kernel
theorem dL_told_224 : decode cL_told 224 = .ok (.if_icmp .ge 84, 3) := by decide +kernel
theorem dL_told_227 : decode cL_told 227 = .ok (.iconst 0, 1) := by decide +kernel
theorem dL_told_228 : decode cL_told 228 = .ok (.istore 7, 2) := by decide +kernel
theorem dL_told_230 : decode cL_told 230 = .ok (.iload 7, 2) := by decide +kernel
theorem dL_told_232 : decode cL_told 232 = .ok (.bipush 9, 2) := by decide +kernel
theorem dL_told_234 : decode cL_told 234 = .ok (.if_icmp .ge 32, 3) := by decide +kernel
theorem dL_told_237 : decode cL_told 237 = .ok (.aload_n 0, 1) := by decide +kernel
theorem dL_told_238 : decode cL_told 238 = .ok (.iload 6, 2) := by decide +kernel
theorem dL_told_240 : decode cL_told 240 = .ok (.iload 7, 2) := by decide +kernel
theorem dL_told_242 : decode cL_told 242 = .ok (.invokevirtual 42, 3) := by decide +kernel
theorem dL_told_245 : decode cL_told 245 = .ok (.aload_n 3, 1) := by decide +kernel
theorem dL_told_246 : decode cL_told 246 = .ok (.bipush 10, 2) := by decide +kernel
theorem dL_told_248 : decode cL_told 248 = .ok (.iload 6, 2) := by decide +kernel
theorem dL_told_250 : decode cL_told 250 = .ok (.imul, 1) := by decide +kernel
theorem dL_told_251 : decode cL_told 251 = .ok (.iload 7, 2) := by decide +kernel
theorem dL_told_253 : decode cL_told 253 = .ok (.iadd, 1) := by decide +kernel
theorem dL_told_254 : decode cL_told 254 = .ok (.iaload, 1) := by decide +kernel
theorem dL_told_255 : decode cL_told 255 = .ok (.if_icmp .eq 5, 3) := by decide +kernel
theorem dL_told_258 : decode cL_told 258 = .ok (.iconst 0, 1) := by decide +kernel
theorem dL_told_259 : decode cL_told 259 = .ok (.ireturn, 1) := by decide +kernel
theorem dL_told_260 : decode cL_told 260 = .ok (.iinc 7 1, 3) := by decide +kernel
theorem dL_told_263 : decode cL_told 263 = .ok (.goto (-33), 3) := by decide +kernel
theorem dL_told_266 : decode cL_told 266 = .ok (.aload_n 0, 1) := by decide +kernel
theorem dL_told_267 : decode cL_told 267 = .ok (.iload 6, 2) := by decide +kernel
theorem dL_told_269 : decode cL_told 269 = .ok (.bipush 9, 2) := by decide +kernel
theorem dL_told_271 : decode cL_told 271 = .ok (.invokevirtual 42, 3) := by decide +kernel
theorem dL_told_274 : decode cL_told 274 = .ok (.iload 6, 2) := by decide +kernel
theorem dL_told_276 : decode cL_told 276 = .ok (.aload_n 3, 1) := by decide +kernel
theorem dL_told_277 : decode cL_told 277 = .ok (.invokestatic 14, 3) := by decide +kernel
theorem dL_told_280 : decode cL_told 280 = .ok (.if_icmp .ne 20, 3) := by decide +kernel
theorem dL_told_283 : decode cL_told 283 = .ok (.aload_n 0, 1) := by decide +kernel
theorem dL_told_284 : decode cL_told 284 = .ok (.iload 6, 2) := by decide +kernel
theorem dL_told_286 : decode cL_told 286 = .ok (.invokevirtual 45, 3) := by decide +kernel
theorem dL_told_289 : decode cL_told 289 = .ok (.iload 6, 2) := by decide +kernel
theorem dL_told_291 : decode cL_told 291 = .ok (.aload_n 1, 1) := by decide +kernel
theorem dL_told_292 : decode cL_told 292 = .ok (.aload_n 2, 1) := by decide +kernel
theorem dL_told_293 : decode cL_told 293 = .ok (.aload_n 3, 1) := by decide +kernel
theorem dL_told_294 : decode cL_told 294 = .ok (.invokestatic 28, 3) := by decide +kernel
theorem dL_told_297 : decode cL_told 297 = .ok (.if_icmp .eq 5, 3) := by decide +kernel
theorem dL_told_300 : decode cL_told 300 = .ok (.iconst 0, 1) := by decide +kernel
theorem dL_told_301 : decode cL_told 301 = .ok (.ireturn, 1) := by decide +kernel
theorem dL_told_302 : decode cL_told 302 = .ok (.iinc 6 1, 3) := by decide +kernel
theorem dL_told_305 : decode cL_told 305 = .ok (.goto (-86), 3) := by decide +kernel
theorem dL_told_308 : decode cL_told 308 = .ok (.iconst 0, 1) := by decide +kernel
theorem dL_told_309 : decode cL_told 309 = .ok (.istore 6, 2) := by decide +kernel
theorem dL_told_311 : decode cL_told 311 = .ok (.iload 6, 2) := by decide +kernel
theorem dL_told_313 : decode cL_told 313 = .ok (.iconst 3, 1) := by decide +kernel
theorem dL_told_314 : decode cL_told 314 = .ok (.if_icmp .ge 26, 3) := by decide +kernel
theorem dL_told_317 : decode cL_told 317 = .ok (.aload_n 0, 1) := by decide +kernel
theorem dL_told_318 : decode cL_told 318 = .ok (.iload 6, 2) := by decide +kernel
theorem dL_told_320 : decode cL_told 320 = .ok (.invokevirtual 48, 3) := by decide +kernel
theorem dL_told_323 : decode cL_told 323 = .ok (.aload_n 1, 1) := by decide +kernel
theorem dL_told_324 : decode cL_told 324 = .ok (.iconst 2, 1) := by decide +kernel
theorem dL_told_325 : decode cL_told 325 = .ok (.iload 6, 2) := by decide +kernel
theorem dL_told_327 : decode cL_told 327 = .ok (.iadd, 1) := by decide +kernel
theorem dL_told_328 : decode cL_told 328 = .ok (.iaload, 1) := by decide +kernel
theorem dL_told_329 : decode cL_told 329 = .ok (.if_icmp .eq 5, 3) := by decide +kernel
theorem dL_told_332 : decode cL_told 332 = .ok (.iconst 0, 1) := by decide +kernel
theorem dL_told_333 : decode cL_told 333 = .ok (.ireturn, 1) := by decide +kernel
theorem dL_told_334 : decode cL_told 334 = .ok (.iinc 6 1, 3) := by decide +kernel
theorem dL_told_337 : decode cL_told 337 = .ok (.goto (-26), 3) := by decide +kernel
theorem dL_told_340 : decode cL_told 340 = .ok (.aload_n 0, 1) := by decide +kernel
theorem dL_told_341 : decode cL_told 341 = .ok (.iconst 0, 1) := by decide +kernel
theorem dL_told_342 : decode cL_told 342 = .ok (.invokevirtual 51, 3) := by decide +kernel
theorem dL_told_345 : decode cL_told 345 = .ok (.aload_n 1, 1) := by decide +kernel
theorem dL_told_346 : decode cL_told 346 = .ok (.iconst 5, 1) := by decide +kernel
theorem dL_told_347 : decode cL_told 347 = .ok (.iaload, 1) := by decide +kernel
theorem dL_told_348 : decode cL_told 348 = .ok (.if_icmp .ne 80, 3) := by decide +kernel
theorem dL_told_351 : decode cL_told 351 = .ok (.aload_n 0, 1) := by decide +kernel
theorem dL_told_352 : decode cL_told 352 = .ok (.iconst 1, 1) := by decide +kernel
theorem dL_told_353 : decode cL_told 353 = .ok (.invokevirtual 51, 3) := by decide +kernel
theorem dL_told_356 : decode cL_told 356 = .ok (.aload_n 1, 1) := by decide +kernel
theorem dL_told_357 : decode cL_told 357 = .ok (.bipush 6, 2) := by decide +kernel
theorem dL_told_359 : decode cL_told 359 = .ok (.iaload, 1) := by decide +kernel
theorem dL_told_360 : decode cL_told 360 = .ok (.if_icmp .ne 68, 3) := by decide +kernel
theorem dL_told_363 : decode cL_told 363 = .ok (.aload_n 0, 1) := by decide +kernel
theorem dL_told_364 : decode cL_told 364 = .ok (.iconst 2, 1) := by decide +kernel
theorem dL_told_365 : decode cL_told 365 = .ok (.invokevirtual 51, 3) := by decide +kernel
theorem dL_told_368 : decode cL_told 368 = .ok (.iconst 2, 1) := by decide +kernel
theorem dL_told_369 : decode cL_told 369 = .ok (.aload_n 1, 1) := by decide +kernel
theorem dL_told_370 : decode cL_told 370 = .ok (.aload_n 3, 1) := by decide +kernel
theorem dL_told_371 : decode cL_told 371 = .ok (.invokestatic 54, 3) := by decide +kernel
theorem dL_told_374 : decode cL_told 374 = .ok (.if_icmp .ne 54, 3) := by decide +kernel
theorem dL_told_377 : decode cL_told 377 = .ok (.aload_n 0, 1) := by decide +kernel
theorem dL_told_378 : decode cL_told 378 = .ok (.iconst 3, 1) := by decide +kernel
theorem dL_told_379 : decode cL_told 379 = .ok (.invokevirtual 51, 3) := by decide +kernel
theorem dL_told_382 : decode cL_told 382 = .ok (.aload_n 1, 1) := by decide +kernel
theorem dL_told_383 : decode cL_told 383 = .ok (.bipush 7, 2) := by decide +kernel
theorem dL_told_385 : decode cL_told 385 = .ok (.iaload, 1) := by decide +kernel
theorem dL_told_386 : decode cL_told 386 = .ok (.if_icmp .ne 42, 3) := by decide +kernel
theorem dL_told_389 : decode cL_told 389 = .ok (.aload_n 0, 1) := by decide +kernel
theorem dL_told_390 : decode cL_told 390 = .ok (.iconst 4, 1) := by decide +kernel
theorem dL_told_391 : decode cL_told 391 = .ok (.invokevirtual 51, 3) := by decide +kernel
theorem dL_told_394 : decode cL_told 394 = .ok (.aload_n 1, 1) := by decide +kernel
theorem dL_told_395 : decode cL_told 395 = .ok (.bipush 8, 2) := by decide +kernel
theorem dL_told_397 : decode cL_told 397 = .ok (.iaload, 1) := by decide +kernel
theorem dL_told_398 : decode cL_told 398 = .ok (.if_icmp .ne 30, 3) := by decide +kernel
theorem dL_told_401 : decode cL_told 401 = .ok (.aload_n 1, 1) := by decide +kernel
theorem dL_told_402 : decode cL_told 402 = .ok (.iconst 5, 1) := by decide +kernel
theorem dL_told_403 : decode cL_told 403 = .ok (.iaload, 1) := by decide +kernel
theorem dL_told_404 : decode cL_told 404 = .ok (.aload_n 1, 1) := by decide +kernel
theorem dL_told_405 : decode cL_told 405 = .ok (.bipush 6, 2) := by decide +kernel
theorem dL_told_407 : decode cL_told 407 = .ok (.iaload, 1) := by decide +kernel
theorem dL_told_408 : decode cL_told 408 = .ok (.iconst 2, 1) := by decide +kernel
theorem dL_told_409 : decode cL_told 409 = .ok (.aload_n 1, 1) := by decide +kernel
theorem dL_told_410 : decode cL_told 410 = .ok (.aload_n 3, 1) := by decide +kernel
theorem dL_told_411 : decode cL_told 411 = .ok (.invokestatic 54, 3) := by decide +kernel
theorem dL_told_414 : decode cL_told 414 = .ok (.iadd, 1) := by decide +kernel
theorem dL_told_415 : decode cL_told 415 = .ok (.aload_n 1, 1) := by decide +kernel
theorem dL_told_416 : decode cL_told 416 = .ok (.bipush 7, 2) := by decide +kernel
theorem dL_told_418 : decode cL_told 418 = .ok (.iaload, 1) := by decide +kernel
theorem dL_told_419 : decode cL_told 419 = .ok (.iadd, 1) := by decide +kernel
theorem dL_told_420 : decode cL_told 420 = .ok (.aload_n 1, 1) := by decide +kernel
theorem dL_told_421 : decode cL_told 421 = .ok (.bipush 8, 2) := by decide +kernel
theorem dL_told_423 : decode cL_told 423 = .ok (.iaload, 1) := by decide +kernel
theorem dL_told_424 : decode cL_told 424 = .ok (.iadd, 1) := by decide +kernel
theorem dL_told_425 : decode cL_told 425 = .ok (.if_icmp .eq 5, 3) := by decide +kernel
theorem dL_told_428 : decode cL_told 428 = .ok (.iconst 0, 1) := by decide +kernel
theorem dL_told_429 : decode cL_told 429 = .ok (.ireturn, 1) := by decide +kernel
theorem dL_told_430 : decode cL_told 430 = .ok (.aload_n 0, 1) := by decide +kernel
theorem dL_told_431 : decode cL_told 431 = .ok (.iconst 0, 1) := by decide +kernel
theorem dL_told_432 : decode cL_told 432 = .ok (.invokevirtual 57, 3) := by decide +kernel
theorem dL_told_435 : decode cL_told 435 = .ok (.aload_n 1, 1) := by decide +kernel
theorem dL_told_436 : decode cL_told 436 = .ok (.iconst 0, 1) := by decide +kernel
theorem dL_told_437 : decode cL_told 437 = .ok (.iaload, 1) := by decide +kernel
theorem dL_told_438 : decode cL_told 438 = .ok (.if_icmp .ne 87, 3) := by decide +kernel
theorem dL_told_441 : decode cL_told 441 = .ok (.aload_n 0, 1) := by decide +kernel
theorem dL_told_442 : decode cL_told 442 = .ok (.iconst 1, 1) := by decide +kernel
theorem dL_told_443 : decode cL_told 443 = .ok (.invokevirtual 57, 3) := by decide +kernel
theorem dL_told_446 : decode cL_told 446 = .ok (.aload_n 1, 1) := by decide +kernel
theorem dL_told_447 : decode cL_told 447 = .ok (.iconst 1, 1) := by decide +kernel
theorem dL_told_448 : decode cL_told 448 = .ok (.iaload, 1) := by decide +kernel
theorem dL_told_449 : decode cL_told 449 = .ok (.if_icmp .ne 76, 3) := by decide +kernel
theorem dL_told_452 : decode cL_told 452 = .ok (.aload_n 0, 1) := by decide +kernel
theorem dL_told_453 : decode cL_told 453 = .ok (.iconst 2, 1) := by decide +kernel
theorem dL_told_454 : decode cL_told 454 = .ok (.invokevirtual 57, 3) := by decide +kernel
theorem dL_told_457 : decode cL_told 457 = .ok (.aload_n 1, 1) := by decide +kernel
theorem dL_told_458 : decode cL_told 458 = .ok (.bipush 9, 2) := by decide +kernel
theorem dL_told_460 : decode cL_told 460 = .ok (.iaload, 1) := by decide +kernel
theorem dL_told_461 : decode cL_told 461 = .ok (.if_icmp .ne 64, 3) := by decide +kernel
theorem dL_told_464 : decode cL_told 464 = .ok (.aload_n 0, 1) := by decide +kernel
theorem dL_told_465 : decode cL_told 465 = .ok (.iconst 3, 1) := by decide +kernel
theorem dL_told_466 : decode cL_told 466 = .ok (.invokevirtual 57, 3) := by decide +kernel
theorem dL_told_469 : decode cL_told 469 = .ok (.aload_n 1, 1) := by decide +kernel
theorem dL_told_470 : decode cL_told 470 = .ok (.aload_n 2, 1) := by decide +kernel
theorem dL_told_471 : decode cL_told 471 = .ok (.invokestatic 60, 3) := by decide +kernel
theorem dL_told_474 : decode cL_told 474 = .ok (.if_icmp .ne 51, 3) := by decide +kernel
theorem dL_told_477 : decode cL_told 477 = .ok (.aload_n 0, 1) := by decide +kernel
theorem dL_told_478 : decode cL_told 478 = .ok (.iconst 4, 1) := by decide +kernel
theorem dL_told_479 : decode cL_told 479 = .ok (.invokevirtual 57, 3) := by decide +kernel
theorem dL_told_482 : decode cL_told 482 = .ok (.bipush 7, 2) := by decide +kernel
theorem dL_told_484 : decode cL_told 484 = .ok (.aload_n 1, 1) := by decide +kernel
theorem dL_told_485 : decode cL_told 485 = .ok (.aload_n 3, 1) := by decide +kernel
theorem dL_told_486 : decode cL_told 486 = .ok (.invokestatic 54, 3) := by decide +kernel
theorem dL_told_489 : decode cL_told 489 = .ok (.if_icmp .ne 36, 3) := by decide +kernel
theorem dL_told_492 : decode cL_told 492 = .ok (.aload_n 0, 1) := by decide +kernel
theorem dL_told_493 : decode cL_told 493 = .ok (.bipush 7, 2) := by decide +kernel
theorem dL_told_495 : decode cL_told 495 = .ok (.invokevirtual 57, 3) := by decide +kernel
theorem dL_told_498 : decode cL_told 498 = .ok (.iload 5, 2) := by decide +kernel
theorem dL_told_500 : decode cL_told 500 = .ok (.if_icmp .ne 25, 3) := by decide +kernel
theorem dL_told_503 : decode cL_told 503 = .ok (.aload_n 0, 1) := by decide +kernel
theorem dL_told_504 : decode cL_told 504 = .ok (.invokevirtual 64, 3) := by decide +kernel
theorem dL_told_507 : decode cL_told 507 = .ok (.dconst 1, 1) := by decide +kernel
theorem dL_told_508 : decode cL_told 508 = .ok (.iload 4, 2) := by decide +kernel
theorem dL_told_510 : decode cL_told 510 = .ok (.i2d, 1) := by decide +kernel
theorem dL_told_511 : decode cL_told 511 = .ok (.dmul, 1) := by decide +kernel
theorem dL_told_512 : decode cL_told 512 = .ok (.aload_n 1, 1) := by decide +kernel
theorem dL_told_513 : decode cL_told 513 = .ok (.iconst 0, 1) := by decide +kernel
theorem dL_told_514 : decode cL_told 514 = .ok (.iaload, 1) := by decide +kernel
theorem dL_told_515 : decode cL_told 515 = .ok (.i2d, 1) := by decide +kernel
theorem dL_told_516 : decode cL_told 516 = .ok (.ddiv, 1) := by decide +kernel
theorem dL_told_517 : decode cL_told 517 = .ok (.dcmp .l, 1) := by decide +kernel
theorem dL_told_518 : decode cL_told 518 = .ok (.ifCond .ne 7, 3) := by decide +kernel
theorem dL_told_521 : decode cL_told 521 = .ok (.iconst 1, 1) := by decide +kernel
theorem dL_told_522 : decode cL_told 522 = .ok (.goto 4, 3) := by decide +kernel
theorem dL_told_525 : decode cL_told 525 = .ok (.iconst 0, 1) := by decide +kernel
theorem dL_told_526 : decode cL_told 526 = .ok (.ireturn, 1) := by decide +kernel
theorem dL_copy_0 : decode cL_copy 0 = .ok (.iconst 0, 1) := by decide +kernel
theorem dL_copy_1 : decode cL_copy 1 = .ok (.istore_n 2, 1) := by decide +kernel
theorem dL_copy_2 : decode cL_copy 2 = .ok (.iload_n 2, 1) := by decide +kernel
theorem dL_copy_3 : decode cL_copy 3 = .ok (.aload_n 0, 1) := by decide +kernel
theorem dL_copy_4 : decode cL_copy 4 = .ok (.arraylength, 1) := by decide +kernel
theorem dL_copy_5 : decode cL_copy 5 = .ok (.if_icmp .ge 15, 3) := by decide +kernel
theorem dL_copy_8 : decode cL_copy 8 = .ok (.aload_n 1, 1) := by decide +kernel
theorem dL_copy_9 : decode cL_copy 9 = .ok (.iload_n 2, 1) := by decide +kernel
theorem dL_copy_10 : decode cL_copy 10 = .ok (.aload_n 0, 1) := by decide +kernel
theorem dL_copy_11 : decode cL_copy 11 = .ok (.iload_n 2, 1) := by decide +kernel
theorem dL_copy_12 : decode cL_copy 12 = .ok (.iaload, 1) := by decide +kernel
theorem dL_copy_13 : decode cL_copy 13 = .ok (.iastore, 1) := by decide +kernel
theorem dL_copy_14 : decode cL_copy 14 = .ok (.iinc 2 1, 3) := by decide +kernel
theorem dL_copy_17 : decode cL_copy 17 = .ok (.goto (-15), 3) := by decide +kernel
theorem dL_copy_20 : decode cL_copy 20 = .ok (.return_, 1) := by decide +kernel
theorem dL_ahead_0 : decode cL_ahead 0 = .ok (.bipush 10, 2) := by decide +kernel
theorem dL_ahead_2 : decode cL_ahead 2 = .ok (.newarray .int, 2) := by decide +kernel
theorem dL_ahead_4 : decode cL_ahead 4 = .ok (.astore 5, 2) := by decide +kernel
theorem dL_ahead_6 : decode cL_ahead 6 = .ok (.bipush 24, 2) := by decide +kernel
theorem dL_ahead_8 : decode cL_ahead 8 = .ok (.newarray .int, 2) := by decide +kernel
theorem dL_ahead_10 : decode cL_ahead 10 = .ok (.astore 6, 2) := by decide +kernel
theorem dL_ahead_12 : decode cL_ahead 12 = .ok (.bipush 40, 2) := by decide +kernel
theorem dL_ahead_14 : decode cL_ahead 14 = .ok (.newarray .int, 2) := by decide +kernel
theorem dL_ahead_16 : decode cL_ahead 16 = .ok (.astore 7, 2) := by decide +kernel
theorem dL_ahead_18 : decode cL_ahead 18 = .ok (.iload_n 1, 1) := by decide +kernel
theorem dL_ahead_19 : decode cL_ahead 19 = .ok (.iconst 4, 1) := by decide +kernel
theorem dL_ahead_20 : decode cL_ahead 20 = .ok (.invokestatic 68, 3) := by decide +kernel
theorem dL_ahead_23 : decode cL_ahead 23 = .ok (.istore 8, 2) := by decide +kernel
theorem dL_ahead_25 : decode cL_ahead 25 = .ok (.iconst 1, 1) := by decide +kernel
theorem dL_ahead_26 : decode cL_ahead 26 = .ok (.iload_n 1, 1) := by decide +kernel
theorem dL_ahead_27 : decode cL_ahead 27 = .ok (.iconst 2, 1) := by decide +kernel
theorem dL_ahead_28 : decode cL_ahead 28 = .ok (.ishr, 1) := by decide +kernel
theorem dL_ahead_29 : decode cL_ahead 29 = .ok (.bipush 90, 2) := by decide +kernel
theorem dL_ahead_31 : decode cL_ahead 31 = .ok (.invokestatic 68, 3) := by decide +kernel
theorem dL_ahead_34 : decode cL_ahead 34 = .ok (.iadd, 1) := by decide +kernel
theorem dL_ahead_35 : decode cL_ahead 35 = .ok (.istore 9, 2) := by decide +kernel
theorem dL_ahead_37 : decode cL_ahead 37 = .ok (.iload 8, 2) := by decide +kernel
theorem dL_ahead_39 : decode cL_ahead 39 = .ok (.ifCond .ne 159, 3) := by decide +kernel
theorem dL_ahead_42 : decode cL_ahead 42 = .ok (.iconst 0, 1) := by decide +kernel
theorem dL_ahead_43 : decode cL_ahead 43 = .ok (.istore 10, 2) := by decide +kernel
theorem dL_ahead_45 : decode cL_ahead 45 = .ok (.aload_n 2, 1) := by decide +kernel
theorem dL_ahead_46 : decode cL_ahead 46 = .ok (.aload 5, 2) := by decide +kernel
theorem dL_ahead_48 : decode cL_ahead 48 = .ok (.invokestatic 71, 3) := by decide +kernel
theorem dL_ahead_51 : decode cL_ahead 51 = .ok (.aload_n 3, 1) := by decide +kernel
theorem dL_ahead_52 : decode cL_ahead 52 = .ok (.aload 6, 2) := by decide +kernel
theorem dL_ahead_54 : decode cL_ahead 54 = .ok (.invokestatic 71, 3) := by decide +kernel
theorem dL_ahead_57 : decode cL_ahead 57 = .ok (.aload 4, 2) := by decide +kernel
theorem dL_ahead_59 : decode cL_ahead 59 = .ok (.aload 7, 2) := by decide +kernel
theorem dL_ahead_61 : decode cL_ahead 61 = .ok (.invokestatic 71, 3) := by decide +kernel
theorem dL_ahead_64 : decode cL_ahead 64 = .ok (.iconst 0, 1) := by decide +kernel
theorem dL_ahead_65 : decode cL_ahead 65 = .ok (.istore 11, 2) := by decide +kernel
theorem dL_ahead_67 : decode cL_ahead 67 = .ok (.iload 11, 2) := by decide +kernel
theorem dL_ahead_69 : decode cL_ahead 69 = .ok (.iload 9, 2) := by decide +kernel
theorem dL_ahead_71 : decode cL_ahead 71 = .ok (.if_icmp .ge 44, 3) := by decide +kernel
theorem dL_ahead_74 : decode cL_ahead 74 = .ok (.aload 5, 2) := by decide +kernel
theorem dL_ahead_76 : decode cL_ahead 76 = .ok (.aload 6, 2) := by decide +kernel
theorem dL_ahead_78 : decode cL_ahead 78 = .ok (.aload 7, 2) := by decide +kernel
theorem dL_ahead_80 : decode cL_ahead 80 = .ok (.invokestatic 75, 3) := by decide +kernel
theorem dL_ahead_83 : decode cL_ahead 83 = .ok (.aload 5, 2) := by decide +kernel
theorem dL_ahead_85 : decode cL_ahead 85 = .ok (.aload 6, 2) := by decide +kernel
theorem dL_ahead_87 : decode cL_ahead 87 = .ok (.invokestatic 60, 3) := by decide +kernel
theorem dL_ahead_90 : decode cL_ahead 90 = .ok (.iload 10, 2) := by decide +kernel
theorem dL_ahead_92 : decode cL_ahead 92 = .ok (.if_icmp .le 13, 3) := by decide +kernel
theorem dL_ahead_95 : decode cL_ahead 95 = .ok (.aload 5, 2) := by decide +kernel
theorem dL_ahead_97 : decode cL_ahead 97 = .ok (.aload 6, 2) := by decide +kernel
theorem dL_ahead_99 : decode cL_ahead 99 = .ok (.invokestatic 60, 3) := by decide +kernel
theorem dL_ahead_102 : decode cL_ahead 102 = .ok (.goto 5, 3) := by decide +kernel
theorem dL_ahead_105 : decode cL_ahead 105 = .ok (.iload 10, 2) := by decide +kernel
theorem dL_ahead_107 : decode cL_ahead 107 = .ok (.istore 10, 2) := by decide +kernel
theorem dL_ahead_109 : decode cL_ahead 109 = .ok (.iinc 11 1, 3) := by decide +kernel
theorem dL_ahead_112 : decode cL_ahead 112 = .ok (.goto (-45), 3) := by decide +kernel
theorem dL_ahead_115 : decode cL_ahead 115 = .ok (.aload_n 0, 1) := by decide +kernel
theorem dL_ahead_116 : decode cL_ahead 116 = .ok (.iload 9, 2) := by decide +kernel
theorem dL_ahead_118 : decode cL_ahead 118 = .ok (.iconst 0, 1) := by decide +kernel
theorem dL_ahead_119 : decode cL_ahead 119 = .ok (.invokevirtual 79, 3) := by decide +kernel
theorem dL_ahead_122 : decode cL_ahead 122 = .ok (.aload 5, 2) := by decide +kernel
theorem dL_ahead_124 : decode cL_ahead 124 = .ok (.bipush 7, 2) := by decide +kernel
theorem dL_ahead_126 : decode cL_ahead 126 = .ok (.iaload, 1) := by decide +kernel
theorem dL_ahead_127 : decode cL_ahead 127 = .ok (.aload_n 2, 1) := by decide +kernel
theorem dL_ahead_128 : decode cL_ahead 128 = .ok (.bipush 7, 2) := by decide +kernel
theorem dL_ahead_130 : decode cL_ahead 130 = .ok (.iaload, 1) := by decide +kernel
theorem dL_ahead_131 : decode cL_ahead 131 = .ok (.isub, 1) := by decide +kernel
theorem dL_ahead_132 : decode cL_ahead 132 = .ok (.if_icmp .ne 64, 3) := by decide +kernel
theorem dL_ahead_135 : decode cL_ahead 135 = .ok (.aload_n 0, 1) := by decide +kernel
theorem dL_ahead_136 : decode cL_ahead 136 = .ok (.iload 9, 2) := by decide +kernel
theorem dL_ahead_138 : decode cL_ahead 138 = .ok (.iconst 1, 1) := by decide +kernel
theorem dL_ahead_139 : decode cL_ahead 139 = .ok (.invokevirtual 79, 3) := by decide +kernel
theorem dL_ahead_142 : decode cL_ahead 142 = .ok (.aload 5, 2) := by decide +kernel
theorem dL_ahead_144 : decode cL_ahead 144 = .ok (.aload 6, 2) := by decide +kernel
theorem dL_ahead_146 : decode cL_ahead 146 = .ok (.invokestatic 60, 3) := by decide +kernel
theorem dL_ahead_149 : decode cL_ahead 149 = .ok (.if_icmp .ne 47, 3) := by decide +kernel
theorem dL_ahead_152 : decode cL_ahead 152 = .ok (.aload_n 0, 1) := by decide +kernel
theorem dL_ahead_153 : decode cL_ahead 153 = .ok (.iload 9, 2) := by decide +kernel
theorem dL_ahead_155 : decode cL_ahead 155 = .ok (.iconst 2, 1) := by decide +kernel
theorem dL_ahead_156 : decode cL_ahead 156 = .ok (.invokevirtual 79, 3) := by decide +kernel
theorem dL_ahead_159 : decode cL_ahead 159 = .ok (.bipush 7, 2) := by decide +kernel
theorem dL_ahead_161 : decode cL_ahead 161 = .ok (.aload 5, 2) := by decide +kernel
theorem dL_ahead_163 : decode cL_ahead 163 = .ok (.aload 7, 2) := by decide +kernel
theorem dL_ahead_165 : decode cL_ahead 165 = .ok (.invokestatic 54, 3) := by decide +kernel
theorem dL_ahead_168 : decode cL_ahead 168 = .ok (.bipush 7, 2) := by decide +kernel
theorem dL_ahead_170 : decode cL_ahead 170 = .ok (.aload_n 2, 1) := by decide +kernel
theorem dL_ahead_171 : decode cL_ahead 171 = .ok (.aload 4, 2) := by decide +kernel
theorem dL_ahead_173 : decode cL_ahead 173 = .ok (.invokestatic 54, 3) := by decide +kernel
theorem dL_ahead_176 : decode cL_ahead 176 = .ok (.isub, 1) := by decide +kernel
theorem dL_ahead_177 : decode cL_ahead 177 = .ok (.if_icmp .ne 19, 3) := by decide +kernel
theorem dL_ahead_180 : decode cL_ahead 180 = .ok (.aload_n 0, 1) := by decide +kernel
theorem dL_ahead_181 : decode cL_ahead 181 = .ok (.iload 9, 2) := by decide +kernel
theorem dL_ahead_183 : decode cL_ahead 183 = .ok (.iconst 3, 1) := by decide +kernel
theorem dL_ahead_184 : decode cL_ahead 184 = .ok (.invokevirtual 79, 3) := by decide +kernel
theorem dL_ahead_187 : decode cL_ahead 187 = .ok (.iload 10, 2) := by decide +kernel
theorem dL_ahead_189 : decode cL_ahead 189 = .ok (.if_icmp .ne 7, 3) := by decide +kernel
theorem dL_ahead_192 : decode cL_ahead 192 = .ok (.iconst 1, 1) := by decide +kernel
theorem dL_ahead_193 : decode cL_ahead 193 = .ok (.goto 4, 3) := by decide +kernel
theorem dL_ahead_196 : decode cL_ahead 196 = .ok (.iconst 0, 1) := by decide +kernel
theorem dL_ahead_197 : decode cL_ahead 197 = .ok (.ireturn, 1) := by decide +kernel
theorem dL_ahead_198 : decode cL_ahead 198 = .ok (.iload 8, 2) := by decide +kernel
theorem dL_ahead_200 : decode cL_ahead 200 = .ok (.iconst 1, 1) := by decide +kernel
theorem dL_ahead_201 : decode cL_ahead 201 = .ok (.if_icmp .ne 105, 3) := by decide +kernel
theorem dL_ahead_204 : decode cL_ahead 204 = .ok (.iconst 1, 1) := by decide +kernel
theorem dL_ahead_205 : decode cL_ahead 205 = .ok (.iload_n 1, 1) := by decide +kernel
theorem dL_ahead_206 : decode cL_ahead 206 = .ok (.bipush 9, 2) := by decide +kernel
theorem dL_ahead_208 : decode cL_ahead 208 = .ok (.ishr, 1) := by decide +kernel
theorem dL_ahead_209 : decode cL_ahead 209 = .ok (.bipush 120, 2) := by decide +kernel
theorem dL_ahead_211 : decode cL_ahead 211 = .ok (.invokestatic 68, 3) := by decide +kernel
theorem dL_ahead_214 : decode cL_ahead 214 = .ok (.iadd, 1) := by decide +kernel
theorem dL_ahead_215 : decode cL_ahead 215 = .ok (.istore 10, 2) := by decide +kernel
theorem dL_ahead_217 : decode cL_ahead 217 = .ok (.iconst 0, 1) := by decide +kernel
theorem dL_ahead_218 : decode cL_ahead 218 = .ok (.istore 11, 2) := by decide +kernel
theorem dL_ahead_220 : decode cL_ahead 220 = .ok (.aload_n 2, 1) := by decide +kernel
theorem dL_ahead_221 : decode cL_ahead 221 = .ok (.aload 5, 2) := by decide +kernel
theorem dL_ahead_223 : decode cL_ahead 223 = .ok (.invokestatic 71, 3) := by decide +kernel
theorem dL_ahead_226 : decode cL_ahead 226 = .ok (.aload_n 3, 1) := by decide +kernel
theorem dL_ahead_227 : decode cL_ahead 227 = .ok (.aload 6, 2) := by decide +kernel
theorem dL_ahead_229 : decode cL_ahead 229 = .ok (.invokestatic 71, 3) := by decide +kernel
theorem dL_ahead_232 : decode cL_ahead 232 = .ok (.aload 4, 2) := by decide +kernel
theorem dL_ahead_234 : decode cL_ahead 234 = .ok (.aload 7, 2) := by decide +kernel
theorem dL_ahead_236 : decode cL_ahead 236 = .ok (.invokestatic 71, 3) := by decide +kernel
theorem dL_ahead_239 : decode cL_ahead 239 = .ok (.iload 11, 2) := by decide +kernel
theorem dL_ahead_241 : decode cL_ahead 241 = .ok (.sipush 501, 3) := by decide +kernel
theorem dL_ahead_244 : decode cL_ahead 244 = .ok (.if_icmp .ge 33, 3) := by decide +kernel
theorem dL_ahead_247 : decode cL_ahead 247 = .ok (.aload 5, 2) := by decide +kernel
theorem dL_ahead_249 : decode cL_ahead 249 = .ok (.bipush 7, 2) := by decide +kernel
theorem dL_ahead_251 : decode cL_ahead 251 = .ok (.iaload, 1) := by decide +kernel
theorem dL_ahead_252 : decode cL_ahead 252 = .ok (.aload_n 2, 1) := by decide +kernel
theorem dL_ahead_253 : decode cL_ahead 253 = .ok (.bipush 7, 2) := by decide +kernel
theorem dL_ahead_255 : decode cL_ahead 255 = .ok (.iaload, 1) := by decide +kernel
theorem dL_ahead_256 : decode cL_ahead 256 = .ok (.iload 10, 2) := by decide +kernel
theorem dL_ahead_258 : decode cL_ahead 258 = .ok (.iadd, 1) := by decide +kernel
theorem dL_ahead_259 : decode cL_ahead 259 = .ok (.if_icmp .ge 18, 3) := by decide +kernel
theorem dL_ahead_262 : decode cL_ahead 262 = .ok (.aload 5, 2) := by decide +kernel
theorem dL_ahead_264 : decode cL_ahead 264 = .ok (.aload 6, 2) := by decide +kernel
theorem dL_ahead_266 : decode cL_ahead 266 = .ok (.aload 7, 2) := by decide +kernel
theorem dL_ahead_268 : decode cL_ahead 268 = .ok (.invokestatic 75, 3) := by decide +kernel
theorem dL_ahead_271 : decode cL_ahead 271 = .ok (.iinc 11 1, 3) := by decide +kernel
theorem dL_ahead_274 : decode cL_ahead 274 = .ok (.goto (-35), 3) := by decide +kernel
theorem dL_ahead_277 : decode cL_ahead 277 = .ok (.aload_n 0, 1) := by decide +kernel
theorem dL_ahead_278 : decode cL_ahead 278 = .ok (.iload 10, 2) := by decide +kernel
theorem dL_ahead_280 : decode cL_ahead 280 = .ok (.invokevirtual 82, 3) := by decide +kernel
theorem dL_ahead_283 : decode cL_ahead 283 = .ok (.iload 11, 2) := by decide +kernel
theorem dL_ahead_285 : decode cL_ahead 285 = .ok (.sipush 500, 3) := by decide +kernel
theorem dL_ahead_288 : decode cL_ahead 288 = .ok (.if_icmp .le 7, 3) := by decide +kernel
theorem dL_ahead_291 : decode cL_ahead 291 = .ok (.iconst (-1), 1) := by decide +kernel
theorem dL_ahead_292 : decode cL_ahead 292 = .ok (.goto 5, 3) := by decide +kernel
theorem dL_ahead_295 : decode cL_ahead 295 = .ok (.iload 11, 2) := by decide +kernel
theorem dL_ahead_297 : decode cL_ahead 297 = .ok (.if_icmp .ne 7, 3) := by decide +kernel
theorem dL_ahead_300 : decode cL_ahead 300 = .ok (.iconst 1, 1) := by decide +kernel
theorem dL_ahead_301 : decode cL_ahead 301 = .ok (.goto 4, 3) := by decide +kernel
theorem dL_ahead_304 : decode cL_ahead 304 = .ok (.iconst 0, 1) := by decide +kernel
theorem dL_ahead_305 : decode cL_ahead 305 = .ok (.ireturn, 1) := by decide +kernel
theorem dL_ahead_306 : decode cL_ahead 306 = .ok (.iload 8, 2) := by decide +kernel
theorem dL_ahead_308 : decode cL_ahead 308 = .ok (.iconst 3, 1) := by decide +kernel
theorem dL_ahead_309 : decode cL_ahead 309 = .ok (.if_icmp .ne 11, 3) := by decide +kernel
theorem dL_ahead_312 : decode cL_ahead 312 = .ok (.aload_n 2, 1) := by decide +kernel
theorem dL_ahead_313 : decode cL_ahead 313 = .ok (.iconst 1, 1) := by decide +kernel
theorem dL_ahead_314 : decode cL_ahead 314 = .ok (.iaload, 1) := by decide +kernel
theorem dL_ahead_315 : decode cL_ahead 315 = .ok (.ifCond .ne 5, 3) := by decide +kernel
theorem dL_ahead_318 : decode cL_ahead 318 = .ok (.iconst 1, 1) := by decide +kernel
theorem dL_ahead_319 : decode cL_ahead 319 = .ok (.ireturn, 1) := by decide +kernel
theorem dL_ahead_320 : decode cL_ahead 320 = .ok (.iload 8, 2) := by decide +kernel
theorem dL_ahead_322 : decode cL_ahead 322 = .ok (.iconst 2, 1) := by decide +kernel
theorem dL_ahead_323 : decode cL_ahead 323 = .ok (.if_icmp .ne 7, 3) := by decide +kernel
theorem dL_ahead_326 : decode cL_ahead 326 = .ok (.iconst 0, 1) := by decide +kernel
theorem dL_ahead_327 : decode cL_ahead 327 = .ok (.goto 13, 3) := by decide +kernel
theorem dL_ahead_330 : decode cL_ahead 330 = .ok (.iload_n 1, 1) := by decide +kernel
theorem dL_ahead_331 : decode cL_ahead 331 = .ok (.bipush 10, 2) := by decide +kernel
theorem dL_ahead_333 : decode cL_ahead 333 = .ok (.ishr, 1) := by decide +kernel
theorem dL_ahead_334 : decode cL_ahead 334 = .ok (.aload_n 2, 1) := by decide +kernel
theorem dL_ahead_335 : decode cL_ahead 335 = .ok (.iconst 1, 1) := by decide +kernel
theorem dL_ahead_336 : decode cL_ahead 336 = .ok (.iaload, 1) := by decide +kernel
theorem dL_ahead_337 : decode cL_ahead 337 = .ok (.invokestatic 68, 3) := by decide +kernel
theorem dL_ahead_340 : decode cL_ahead 340 = .ok (.istore 10, 2) := by decide +kernel
theorem dL_ahead_342 : decode cL_ahead 342 = .ok (.iconst (-1), 1) := by decide +kernel
theorem dL_ahead_343 : decode cL_ahead 343 = .ok (.istore 11, 2) := by decide +kernel
theorem dL_ahead_345 : decode cL_ahead 345 = .ok (.iconst 0, 1) := by decide +kernel
theorem dL_ahead_346 : decode cL_ahead 346 = .ok (.istore 12, 2) := by decide +kernel
theorem dL_ahead_348 : decode cL_ahead 348 = .ok (.iload 8, 2) := by decide +kernel
theorem dL_ahead_350 : decode cL_ahead 350 = .ok (.iconst 2, 1) := by decide +kernel
theorem dL_ahead_351 : decode cL_ahead 351 = .ok (.if_icmp .ne 7, 3) := by decide +kernel
theorem dL_ahead_354 : decode cL_ahead 354 = .ok (.iconst 0, 1) := by decide +kernel
theorem dL_ahead_355 : decode cL_ahead 355 = .ok (.goto 4, 3) := by decide +kernel
theorem dL_ahead_358 : decode cL_ahead 358 = .ok (.iconst 1, 1) := by decide +kernel
theorem dL_ahead_359 : decode cL_ahead 359 = .ok (.istore 13, 2) := by decide +kernel
theorem dL_ahead_361 : decode cL_ahead 361 = .ok (.iload 13, 2) := by decide +kernel
theorem dL_ahead_363 : decode cL_ahead 363 = .ok (.iload 8, 2) := by decide +kernel
theorem dL_ahead_365 : decode cL_ahead 365 = .ok (.iconst 2, 1) := by decide +kernel
theorem dL_ahead_366 : decode cL_ahead 366 = .ok (.if_icmp .ne 7, 3) := by decide +kernel
theorem dL_ahead_369 : decode cL_ahead 369 = .ok (.iconst 3, 1) := by decide +kernel
theorem dL_ahead_370 : decode cL_ahead 370 = .ok (.goto 5, 3) := by decide +kernel
theorem dL_ahead_373 : decode cL_ahead 373 = .ok (.bipush 21, 2) := by decide +kernel
theorem dL_ahead_375 : decode cL_ahead 375 = .ok (.if_icmp .ge 109, 3) := by decide +kernel
theorem dL_ahead_378 : decode cL_ahead 378 = .ok (.aload_n 2, 1) := by decide +kernel
theorem dL_ahead_379 : decode cL_ahead 379 = .ok (.aload 5, 2) := by decide +kernel
theorem dL_ahead_381 : decode cL_ahead 381 = .ok (.invokestatic 71, 3) := by decide +kernel
theorem dL_ahead_384 : decode cL_ahead 384 = .ok (.aload_n 3, 1) := by decide +kernel
theorem dL_ahead_385 : decode cL_ahead 385 = .ok (.aload 6, 2) := by decide +kernel
theorem dL_ahead_387 : decode cL_ahead 387 = .ok (.invokestatic 71, 3) := by decide +kernel
theorem dL_ahead_390 : decode cL_ahead 390 = .ok (.aload 4, 2) := by decide +kernel
theorem dL_ahead_392 : decode cL_ahead 392 = .ok (.aload 7, 2) := by decide +kernel
theorem dL_ahead_394 : decode cL_ahead 394 = .ok (.invokestatic 71, 3) := by decide +kernel
theorem dL_ahead_397 : decode cL_ahead 397 = .ok (.iload 8, 2) := by decide +kernel
theorem dL_ahead_399 : decode cL_ahead 399 = .ok (.iconst 2, 1) := by decide +kernel
theorem dL_ahead_400 : decode cL_ahead 400 = .ok (.if_icmp .ne 12, 3) := by decide +kernel
theorem dL_ahead_403 : decode cL_ahead 403 = .ok (.aload 5, 2) := by decide +kernel
theorem dL_ahead_405 : decode cL_ahead 405 = .ok (.iconst 4, 1) := by decide +kernel
theorem dL_ahead_406 : decode cL_ahead 406 = .ok (.iload 13, 2) := by decide +kernel
theorem dL_ahead_408 : decode cL_ahead 408 = .ok (.iastore, 1) := by decide +kernel
theorem dL_ahead_409 : decode cL_ahead 409 = .ok (.goto 15, 3) := by decide +kernel
theorem dL_ahead_412 : decode cL_ahead 412 = .ok (.aload 7, 2) := by decide +kernel
theorem dL_ahead_414 : decode cL_ahead 414 = .ok (.bipush 10, 2) := by decide +kernel
theorem dL_ahead_416 : decode cL_ahead 416 = .ok (.iload 10, 2) := by decide +kernel
theorem dL_ahead_418 : decode cL_ahead 418 = .ok (.imul, 1) := by decide +kernel
theorem dL_ahead_419 : decode cL_ahead 419 = .ok (.iconst 1, 1) := by decide +kernel
theorem dL_ahead_420 : decode cL_ahead 420 = .ok (.iadd, 1) := by decide +kernel
theorem dL_ahead_421 : decode cL_ahead 421 = .ok (.iload 13, 2) := by decide +kernel
theorem dL_ahead_423 : decode cL_ahead 423 = .ok (.iastore, 1) := by decide +kernel
theorem dL_ahead_424 : decode cL_ahead 424 = .ok (.iconst 0, 1) := by decide +kernel
theorem dL_ahead_425 : decode cL_ahead 425 = .ok (.istore 14, 2) := by decide +kernel
theorem dL_ahead_427 : decode cL_ahead 427 = .ok (.iload 14, 2) := by decide +kernel
theorem dL_ahead_429 : decode cL_ahead 429 = .ok (.iload 9, 2) := by decide +kernel
theorem dL_ahead_431 : decode cL_ahead 431 = .ok (.if_icmp .ge 18, 3) := by decide +kernel
theorem dL_ahead_434 : decode cL_ahead 434 = .ok (.aload 5, 2) := by decide +kernel
theorem dL_ahead_436 : decode cL_ahead 436 = .ok (.aload 6, 2) := by decide +kernel
theorem dL_ahead_438 : decode cL_ahead 438 = .ok (.aload 7, 2) := by decide +kernel
theorem dL_ahead_440 : decode cL_ahead 440 = .ok (.invokestatic 75, 3) := by decide +kernel
theorem dL_ahead_443 : decode cL_ahead 443 = .ok (.iinc 14 1, 3) := by decide +kernel
theorem dL_ahead_446 : decode cL_ahead 446 = .ok (.goto (-19), 3) := by decide +kernel
theorem dL_ahead_449 : decode cL_ahead 449 = .ok (.iload 11, 2) := by decide +kernel
theorem dL_ahead_451 : decode cL_ahead 451 = .ok (.ifCond .lt 16, 3) := by decide +kernel
theorem dL_ahead_454 : decode cL_ahead 454 = .ok (.aload 5, 2) := by decide +kernel
theorem dL_ahead_456 : decode cL_ahead 456 = .ok (.bipush 7, 2) := by decide +kernel
theorem dL_ahead_458 : decode cL_ahead 458 = .ok (.iaload, 1) := by decide +kernel
theorem dL_ahead_459 : decode cL_ahead 459 = .ok (.iload 12, 2) := by decide +kernel
theorem dL_ahead_461 : decode cL_ahead 461 = .ok (.if_icmp .gt 6, 3) := by decide +kernel
theorem dL_ahead_464 : decode cL_ahead 464 = .ok (.goto 14, 3) := by decide +kernel
theorem dL_ahead_467 : decode cL_ahead 467 = .ok (.iload 13, 2) := by decide +kernel
theorem dL_ahead_469 : decode cL_ahead 469 = .ok (.istore 11, 2) := by decide +kernel
theorem dL_ahead_471 : decode cL_ahead 471 = .ok (.aload 5, 2) := by decide +kernel
theorem dL_ahead_473 : decode cL_ahead 473 = .ok (.bipush 7, 2) := by decide +kernel
theorem dL_ahead_475 : decode cL_ahead 475 = .ok (.iaload, 1) := by decide +kernel
theorem dL_ahead_476 : decode cL_ahead 476 = .ok (.istore 12, 2) := by decide +kernel
theorem dL_ahead_478 : decode cL_ahead 478 = .ok (.iinc 13 1, 3) := by decide +kernel
theorem dL_ahead_481 : decode cL_ahead 481 = .ok (.goto (-120), 3) := by decide +kernel
theorem dL_ahead_484 : decode cL_ahead 484 = .ok (.iload 8, 2) := by decide +kernel
theorem dL_ahead_486 : decode cL_ahead 486 = .ok (.iconst 2, 1) := by decide +kernel
theorem dL_ahead_487 : decode cL_ahead 487 = .ok (.if_icmp .ne 22, 3) := by decide +kernel
theorem dL_ahead_490 : decode cL_ahead 490 = .ok (.aload_n 0, 1) := by decide +kernel
theorem dL_ahead_491 : decode cL_ahead 491 = .ok (.iload 9, 2) := by decide +kernel
theorem dL_ahead_493 : decode cL_ahead 493 = .ok (.invokevirtual 85, 3) := by decide +kernel
theorem dL_ahead_496 : decode cL_ahead 496 = .ok (.iload 11, 2) := by decide +kernel
theorem dL_ahead_498 : decode cL_ahead 498 = .ok (.if_icmp .ne 7, 3) := by decide +kernel
theorem dL_ahead_501 : decode cL_ahead 501 = .ok (.iconst 1, 1) := by decide +kernel
theorem dL_ahead_502 : decode cL_ahead 502 = .ok (.goto 25, 3) := by decide +kernel
theorem dL_ahead_505 : decode cL_ahead 505 = .ok (.iconst 0, 1) := by decide +kernel
theorem dL_ahead_506 : decode cL_ahead 506 = .ok (.goto 21, 3) := by decide +kernel
theorem dL_ahead_509 : decode cL_ahead 509 = .ok (.aload_n 0, 1) := by decide +kernel
theorem dL_ahead_510 : decode cL_ahead 510 = .ok (.iload 10, 2) := by decide +kernel
theorem dL_ahead_512 : decode cL_ahead 512 = .ok (.iload 9, 2) := by decide +kernel
theorem dL_ahead_514 : decode cL_ahead 514 = .ok (.invokevirtual 88, 3) := by decide +kernel
theorem dL_ahead_517 : decode cL_ahead 517 = .ok (.iload 11, 2) := by decide +kernel
theorem dL_ahead_519 : decode cL_ahead 519 = .ok (.if_icmp .ne 7, 3) := by decide +kernel
theorem dL_ahead_522 : decode cL_ahead 522 = .ok (.iconst 1, 1) := by decide +kernel
theorem dL_ahead_523 : decode cL_ahead 523 = .ok (.goto 4, 3) := by decide +kernel
theorem dL_ahead_526 : decode cL_ahead 526 = .ok (.iconst 0, 1) := by decide +kernel
theorem dL_ahead_527 : decode cL_ahead 527 = .ok (.ireturn, 1) := by decide +kernel
theorem dL_lay_0 : decode cL_lay 0 = .ok (.iconst 3, 1) := by decide +kernel
theorem dL_lay_1 : decode cL_lay 1 = .ok (.iload_n 1, 1) := by decide +kernel
theorem dL_lay_2 : decode cL_lay 2 = .ok (.bipush 6, 2) := by decide +kernel
theorem dL_lay_4 : decode cL_lay 4 = .ok (.invokestatic 68, 3) := by decide +kernel
theorem dL_lay_7 : decode cL_lay 7 = .ok (.iadd, 1) := by decide +kernel
theorem dL_lay_8 : decode cL_lay 8 = .ok (.istore 6, 2) := by decide +kernel
theorem dL_lay_10 : decode cL_lay 10 = .ok (.iconst 0, 1) := by decide +kernel
theorem dL_lay_11 : decode cL_lay 11 = .ok (.istore 7, 2) := by decide +kernel
theorem dL_lay_13 : decode cL_lay 13 = .ok (.aload_n 0, 1) := by decide +kernel
theorem dL_lay_14 : decode cL_lay 14 = .ok (.invokevirtual 91, 3) := by decide +kernel
theorem dL_lay_17 : decode cL_lay 17 = .ok (.pop, 1) := by decide +kernel
theorem dL_lay_18 : decode cL_lay 18 = .ok (.aload_n 3, 1) := by decide +kernel
theorem dL_lay_19 : decode cL_lay 19 = .ok (.bipush 8, 2) := by decide +kernel
theorem dL_lay_21 : decode cL_lay 21 = .ok (.dup2, 1) := by decide +kernel
theorem dL_lay_22 : decode cL_lay 22 = .ok (.iaload, 1) := by decide +kernel
theorem dL_lay_23 : decode cL_lay 23 = .ok (.iconst 2, 1) := by decide +kernel
theorem dL_lay_24 : decode cL_lay 24 = .ok (.aload_n 3, 1) := by decide +kernel
theorem dL_lay_25 : decode cL_lay 25 = .ok (.aload 5, 2) := by decide +kernel
theorem dL_lay_27 : decode cL_lay 27 = .ok (.invokestatic 54, 3) := by decide +kernel
theorem dL_lay_30 : decode cL_lay 30 = .ok (.iadd, 1) := by decide +kernel
theorem dL_lay_31 : decode cL_lay 31 = .ok (.iastore, 1) := by decide +kernel
theorem dL_lay_32 : decode cL_lay 32 = .ok (.aload_n 3, 1) := by decide +kernel
theorem dL_lay_33 : decode cL_lay 33 = .ok (.iconst 0, 1) := by decide +kernel
theorem dL_lay_34 : decode cL_lay 34 = .ok (.iload 6, 2) := by decide +kernel
theorem dL_lay_36 : decode cL_lay 36 = .ok (.iastore, 1) := by decide +kernel
theorem dL_lay_37 : decode cL_lay 37 = .ok (.aload_n 3, 1) := by decide +kernel
theorem dL_lay_38 : decode cL_lay 38 = .ok (.iconst 1, 1) := by decide +kernel
theorem dL_lay_39 : decode cL_lay 39 = .ok (.iconst 0, 1) := by decide +kernel
theorem dL_lay_40 : decode cL_lay 40 = .ok (.iastore, 1) := by decide +kernel
theorem dL_lay_41 : decode cL_lay 41 = .ok (.iconst 0, 1) := by decide +kernel
theorem dL_lay_42 : decode cL_lay 42 = .ok (.istore 8, 2) := by decide +kernel
theorem dL_lay_44 : decode cL_lay 44 = .ok (.iload 8, 2) := by decide +kernel
theorem dL_lay_46 : decode cL_lay 46 = .ok (.iload 6, 2) := by decide +kernel
theorem dL_lay_48 : decode cL_lay 48 = .ok (.if_icmp .ge 224, 3) := by decide +kernel
theorem dL_lay_51 : decode cL_lay 51 = .ok (.aload_n 0, 1) := by decide +kernel
theorem dL_lay_52 : decode cL_lay 52 = .ok (.invokevirtual 95, 3) := by decide +kernel
theorem dL_lay_55 : decode cL_lay 55 = .ok (.iload 7, 2) := by decide +kernel
theorem dL_lay_57 : decode cL_lay 57 = .ok (.if_icmp .eq 5, 3) := by decide +kernel
theorem dL_lay_60 : decode cL_lay 60 = .ok (.iconst 0, 1) := by decide +kernel
theorem dL_lay_61 : decode cL_lay 61 = .ok (.ireturn, 1) := by decide +kernel
theorem dL_lay_62 : decode cL_lay 62 = .ok (.aload 4, 2) := by decide +kernel
theorem dL_lay_64 : decode cL_lay 64 = .ok (.iconst 3, 1) := by decide +kernel
theorem dL_lay_65 : decode cL_lay 65 = .ok (.iload 8, 2) := by decide +kernel
theorem dL_lay_67 : decode cL_lay 67 = .ok (.imul, 1) := by decide +kernel
theorem dL_lay_68 : decode cL_lay 68 = .ok (.iload_n 2, 1) := by decide +kernel
theorem dL_lay_69 : decode cL_lay 69 = .ok (.iconst 2, 1) := by decide +kernel
theorem dL_lay_70 : decode cL_lay 70 = .ok (.iload 8, 2) := by decide +kernel
theorem dL_lay_72 : decode cL_lay 72 = .ok (.imul, 1) := by decide +kernel
theorem dL_lay_73 : decode cL_lay 73 = .ok (.ishr, 1) := by decide +kernel
theorem dL_lay_74 : decode cL_lay 74 = .ok (.iload 8, 2) := by decide +kernel
theorem dL_lay_76 : decode cL_lay 76 = .ok (.iadd, 1) := by decide +kernel
theorem dL_lay_77 : decode cL_lay 77 = .ok (.iload_n 2, 1) := by decide +kernel
theorem dL_lay_78 : decode cL_lay 78 = .ok (.bipush 20, 2) := by decide +kernel
theorem dL_lay_80 : decode cL_lay 80 = .ok (.ishr, 1) := by decide +kernel
theorem dL_lay_81 : decode cL_lay 81 = .ok (.iconst 2, 1) := by decide +kernel
theorem dL_lay_82 : decode cL_lay 82 = .ok (.invokestatic 68, 3) := by decide +kernel
theorem dL_lay_85 : decode cL_lay 85 = .ok (.ifCond .ne 8, 3) := by decide +kernel
theorem dL_lay_88 : decode cL_lay 88 = .ok (.bipush 10, 2) := by decide +kernel
theorem dL_lay_90 : decode cL_lay 90 = .ok (.goto 4, 3) := by decide +kernel
theorem dL_lay_93 : decode cL_lay 93 = .ok (.iconst 4, 1) := by decide +kernel
theorem dL_lay_94 : decode cL_lay 94 = .ok (.invokestatic 68, 3) := by decide +kernel
theorem dL_lay_97 : decode cL_lay 97 = .ok (.iastore, 1) := by decide +kernel
theorem dL_lay_98 : decode cL_lay 98 = .ok (.aload 4, 2) := by decide +kernel
theorem dL_lay_100 : decode cL_lay 100 = .ok (.iconst 3, 1) := by decide +kernel
theorem dL_lay_101 : decode cL_lay 101 = .ok (.iload 8, 2) := by decide +kernel
theorem dL_lay_103 : decode cL_lay 103 = .ok (.imul, 1) := by decide +kernel
theorem dL_lay_104 : decode cL_lay 104 = .ok (.iconst 1, 1) := by decide +kernel
theorem dL_lay_105 : decode cL_lay 105 = .ok (.iadd, 1) := by decide +kernel
theorem dL_lay_106 : decode cL_lay 106 = .ok (.iload_n 1, 1) := by decide +kernel
theorem dL_lay_107 : decode cL_lay 107 = .ok (.iconst 2, 1) := by decide +kernel
theorem dL_lay_108 : decode cL_lay 108 = .ok (.iload 8, 2) := by decide +kernel
theorem dL_lay_110 : decode cL_lay 110 = .ok (.imul, 1) := by decide +kernel
theorem dL_lay_111 : decode cL_lay 111 = .ok (.iconst 3, 1) := by decide +kernel
theorem dL_lay_112 : decode cL_lay 112 = .ok (.iadd, 1) := by decide +kernel
theorem dL_lay_113 : decode cL_lay 113 = .ok (.ishr, 1) := by decide +kernel
theorem dL_lay_114 : decode cL_lay 114 = .ok (.iload 8, 2) := by decide +kernel
theorem dL_lay_116 : decode cL_lay 116 = .ok (.iadd, 1) := by decide +kernel
theorem dL_lay_117 : decode cL_lay 117 = .ok (.iconst 3, 1) := by decide +kernel
theorem dL_lay_118 : decode cL_lay 118 = .ok (.invokestatic 68, 3) := by decide +kernel
theorem dL_lay_121 : decode cL_lay 121 = .ok (.ifCond .ne 7, 3) := by decide +kernel
theorem dL_lay_124 : decode cL_lay 124 = .ok (.iconst 1, 1) := by decide +kernel
theorem dL_lay_125 : decode cL_lay 125 = .ok (.goto 4, 3) := by decide +kernel
theorem dL_lay_128 : decode cL_lay 128 = .ok (.iconst 0, 1) := by decide +kernel
theorem dL_lay_129 : decode cL_lay 129 = .ok (.iastore, 1) := by decide +kernel
theorem dL_lay_130 : decode cL_lay 130 = .ok (.aload 4, 2) := by decide +kernel
theorem dL_lay_132 : decode cL_lay 132 = .ok (.iconst 3, 1) := by decide +kernel
theorem dL_lay_133 : decode cL_lay 133 = .ok (.iload 8, 2) := by decide +kernel
theorem dL_lay_135 : decode cL_lay 135 = .ok (.imul, 1) := by decide +kernel
theorem dL_lay_136 : decode cL_lay 136 = .ok (.iconst 2, 1) := by decide +kernel
theorem dL_lay_137 : decode cL_lay 137 = .ok (.iadd, 1) := by decide +kernel
theorem dL_lay_138 : decode cL_lay 138 = .ok (.iconst 0, 1) := by decide +kernel
theorem dL_lay_139 : decode cL_lay 139 = .ok (.iastore, 1) := by decide +kernel
theorem dL_lay_140 : decode cL_lay 140 = .ok (.aload_n 0, 1) := by decide +kernel
theorem dL_lay_141 : decode cL_lay 141 = .ok (.bipush 48, 2) := by decide +kernel
theorem dL_lay_143 : decode cL_lay 143 = .ok (.aload 4, 2) := by decide +kernel
theorem dL_lay_145 : decode cL_lay 145 = .ok (.iconst 3, 1) := by decide +kernel
theorem dL_lay_146 : decode cL_lay 146 = .ok (.iload 8, 2) := by decide +kernel
theorem dL_lay_148 : decode cL_lay 148 = .ok (.imul, 1) := by decide +kernel
theorem dL_lay_149 : decode cL_lay 149 = .ok (.iaload, 1) := by decide +kernel
theorem dL_lay_150 : decode cL_lay 150 = .ok (.iadd, 1) := by decide +kernel
theorem dL_lay_151 : decode cL_lay 151 = .ok (.invokevirtual 98, 3) := by decide +kernel
theorem dL_lay_154 : decode cL_lay 154 = .ok (.iinc 7 1, 3) := by decide +kernel
theorem dL_lay_157 : decode cL_lay 157 = .ok (.iload 7, 2) := by decide +kernel
theorem dL_lay_159 : decode cL_lay 159 = .ok (.if_icmp .ne 30, 3) := by decide +kernel
theorem dL_lay_162 : decode cL_lay 162 = .ok (.aload 4, 2) := by decide +kernel
theorem dL_lay_164 : decode cL_lay 164 = .ok (.iconst 3, 1) := by decide +kernel
theorem dL_lay_165 : decode cL_lay 165 = .ok (.iload 8, 2) := by decide +kernel
theorem dL_lay_167 : decode cL_lay 167 = .ok (.imul, 1) := by decide +kernel
theorem dL_lay_168 : decode cL_lay 168 = .ok (.iconst 1, 1) := by decide +kernel
theorem dL_lay_169 : decode cL_lay 169 = .ok (.iadd, 1) := by decide +kernel
theorem dL_lay_170 : decode cL_lay 170 = .ok (.iaload, 1) := by decide +kernel
theorem dL_lay_171 : decode cL_lay 171 = .ok (.iconst 1, 1) := by decide +kernel
theorem dL_lay_172 : decode cL_lay 172 = .ok (.if_icmp .ne 19, 3) := by decide +kernel
theorem dL_lay_175 : decode cL_lay 175 = .ok (.aload_n 0, 1) := by decide +kernel
theorem dL_lay_176 : decode cL_lay 176 = .ok (.bipush 112, 2) := by decide +kernel
theorem dL_lay_178 : decode cL_lay 178 = .ok (.invokevirtual 98, 3) := by decide +kernel
theorem dL_lay_181 : decode cL_lay 181 = .ok (.iinc 7 1, 3) := by decide +kernel
theorem dL_lay_184 : decode cL_lay 184 = .ok (.iload 7, 2) := by decide +kernel
theorem dL_lay_186 : decode cL_lay 186 = .ok (.if_icmp .eq 5, 3) := by decide +kernel
theorem dL_lay_189 : decode cL_lay 189 = .ok (.iconst 0, 1) := by decide +kernel
theorem dL_lay_190 : decode cL_lay 190 = .ok (.ireturn, 1) := by decide +kernel
theorem dL_lay_191 : decode cL_lay 191 = .ok (.iload 8, 2) := by decide +kernel
theorem dL_lay_193 : decode cL_lay 193 = .ok (.iload 6, 2) := by decide +kernel
theorem dL_lay_195 : decode cL_lay 195 = .ok (.iconst 1, 1) := by decide +kernel
theorem dL_lay_196 : decode cL_lay 196 = .ok (.isub, 1) := by decide +kernel
theorem dL_lay_197 : decode cL_lay 197 = .ok (.if_icmp .ne 6, 3) := by decide +kernel
theorem dL_lay_200 : decode cL_lay 200 = .ok (.goto 66, 3) := by decide +kernel
theorem dL_lay_203 : decode cL_lay 203 = .ok (.iload_n 2, 1) := by decide +kernel
theorem dL_lay_204 : decode cL_lay 204 = .ok (.iload 8, 2) := by decide +kernel
theorem dL_lay_206 : decode cL_lay 206 = .ok (.ishr, 1) := by decide +kernel
theorem dL_lay_207 : decode cL_lay 207 = .ok (.bipush 6, 2) := by decide +kernel
theorem dL_lay_209 : decode cL_lay 209 = .ok (.invokestatic 68, 3) := by decide +kernel
theorem dL_lay_212 : decode cL_lay 212 = .ok (.ifCond .ne 38, 3) := by decide +kernel
theorem dL_lay_215 : decode cL_lay 215 = .ok (.aload_n 0, 1) := by decide +kernel
theorem dL_lay_216 : decode cL_lay 216 = .ok (.bipush 53, 2) := by decide +kernel
theorem dL_lay_218 : decode cL_lay 218 = .ok (.invokevirtual 98, 3) := by decide +kernel
theorem dL_lay_221 : decode cL_lay 221 = .ok (.iload 7, 2) := by decide +kernel
theorem dL_lay_223 : decode cL_lay 223 = .ok (.iconst 1, 1) := by decide +kernel
theorem dL_lay_224 : decode cL_lay 224 = .ok (.iadd, 1) := by decide +kernel
theorem dL_lay_225 : decode cL_lay 225 = .ok (.if_icmp .ne 23, 3) := by decide +kernel
theorem dL_lay_228 : decode cL_lay 228 = .ok (.aload_n 0, 1) := by decide +kernel
theorem dL_lay_229 : decode cL_lay 229 = .ok (.invokevirtual 95, 3) := by decide +kernel
theorem dL_lay_232 : decode cL_lay 232 = .ok (.iload 7, 2) := by decide +kernel
theorem dL_lay_234 : decode cL_lay 234 = .ok (.if_icmp .ne 14, 3) := by decide +kernel
theorem dL_lay_237 : decode cL_lay 237 = .ok (.aload_n 0, 1) := by decide +kernel
theorem dL_lay_238 : decode cL_lay 238 = .ok (.iload 8, 2) := by decide +kernel
theorem dL_lay_240 : decode cL_lay 240 = .ok (.aload 4, 2) := by decide +kernel
theorem dL_lay_242 : decode cL_lay 242 = .ok (.invokestatic 101, 3) := by decide +kernel
theorem dL_lay_245 : decode cL_lay 245 = .ok (.ifCond .ne 5, 3) := by decide +kernel
theorem dL_lay_248 : decode cL_lay 248 = .ok (.iconst 0, 1) := by decide +kernel
theorem dL_lay_249 : decode cL_lay 249 = .ok (.ireturn, 1) := by decide +kernel
theorem dL_lay_250 : decode cL_lay 250 = .ok (.aload_n 0, 1) := by decide +kernel
theorem dL_lay_251 : decode cL_lay 251 = .ok (.bipush 44, 2) := by decide +kernel
theorem dL_lay_253 : decode cL_lay 253 = .ok (.invokevirtual 98, 3) := by decide +kernel
theorem dL_lay_256 : decode cL_lay 256 = .ok (.iinc 7 1, 3) := by decide +kernel
theorem dL_lay_259 : decode cL_lay 259 = .ok (.iload 7, 2) := by decide +kernel
theorem dL_lay_261 : decode cL_lay 261 = .ok (.if_icmp .eq 5, 3) := by decide +kernel
theorem dL_lay_264 : decode cL_lay 264 = .ok (.iconst 0, 1) := by decide +kernel
theorem dL_lay_265 : decode cL_lay 265 = .ok (.ireturn, 1) := by decide +kernel
theorem dL_lay_266 : decode cL_lay 266 = .ok (.iinc 8 1, 3) := by decide +kernel
theorem dL_lay_269 : decode cL_lay 269 = .ok (.goto (-225), 3) := by decide +kernel
theorem dL_lay_272 : decode cL_lay 272 = .ok (.aload_n 0, 1) := by decide +kernel
theorem dL_lay_273 : decode cL_lay 273 = .ok (.invokevirtual 95, 3) := by decide +kernel
theorem dL_lay_276 : decode cL_lay 276 = .ok (.iconst (-1), 1) := by decide +kernel
theorem dL_lay_277 : decode cL_lay 277 = .ok (.if_icmp .ne 23, 3) := by decide +kernel
theorem dL_lay_280 : decode cL_lay 280 = .ok (.aload_n 0, 1) := by decide +kernel
theorem dL_lay_281 : decode cL_lay 281 = .ok (.invokevirtual 105, 3) := by decide +kernel
theorem dL_lay_284 : decode cL_lay 284 = .ok (.iload 6, 2) := by decide +kernel
theorem dL_lay_286 : decode cL_lay 286 = .ok (.if_icmp .ne 14, 3) := by decide +kernel
theorem dL_lay_289 : decode cL_lay 289 = .ok (.aload_n 0, 1) := by decide +kernel
theorem dL_lay_290 : decode cL_lay 290 = .ok (.invokevirtual 91, 3) := by decide +kernel
theorem dL_lay_293 : decode cL_lay 293 = .ok (.ifCond .ne 7, 3) := by decide +kernel
theorem dL_lay_296 : decode cL_lay 296 = .ok (.iconst 1, 1) := by decide +kernel
theorem dL_lay_297 : decode cL_lay 297 = .ok (.goto 4, 3) := by decide +kernel
theorem dL_lay_300 : decode cL_lay 300 = .ok (.iconst 0, 1) := by decide +kernel
theorem dL_lay_301 : decode cL_lay 301 = .ok (.ireturn, 1) := by decide +kernel
theorem dL_again_0 : decode cL_again 0 = .ok (.aload_n 0, 1) := by decide +kernel
theorem dL_again_1 : decode cL_again 1 = .ok (.invokevirtual 91, 3) := by decide +kernel
theorem dL_again_4 : decode cL_again 4 = .ok (.pop, 1) := by decide +kernel
theorem dL_again_5 : decode cL_again 5 = .ok (.iconst 0, 1) := by decide +kernel
theorem dL_again_6 : decode cL_again 6 = .ok (.istore_n 3, 1) := by decide +kernel
theorem dL_again_7 : decode cL_again 7 = .ok (.iload_n 3, 1) := by decide +kernel
theorem dL_again_8 : decode cL_again 8 = .ok (.iload_n 1, 1) := by decide +kernel
theorem dL_again_9 : decode cL_again 9 = .ok (.if_icmp .gt 62, 3) := by decide +kernel
theorem dL_again_12 : decode cL_again 12 = .ok (.iload_n 3, 1) := by decide +kernel
theorem dL_again_13 : decode cL_again 13 = .ok (.ifCond .le 13, 3) := by decide +kernel
theorem dL_again_16 : decode cL_again 16 = .ok (.aload_n 0, 1) := by decide +kernel
theorem dL_again_17 : decode cL_again 17 = .ok (.bipush 44, 2) := by decide +kernel
theorem dL_again_19 : decode cL_again 19 = .ok (.invokevirtual 98, 3) := by decide +kernel
theorem dL_again_22 : decode cL_again 22 = .ok (.iconst 1, 1) := by decide +kernel
theorem dL_again_23 : decode cL_again 23 = .ok (.if_icmp .lt 40, 3) := by decide +kernel
theorem dL_again_26 : decode cL_again 26 = .ok (.aload_n 0, 1) := by decide +kernel
theorem dL_again_27 : decode cL_again 27 = .ok (.bipush 48, 2) := by decide +kernel
theorem dL_again_29 : decode cL_again 29 = .ok (.aload_n 2, 1) := by decide +kernel
theorem dL_again_30 : decode cL_again 30 = .ok (.iconst 3, 1) := by decide +kernel
theorem dL_again_31 : decode cL_again 31 = .ok (.iload_n 3, 1) := by decide +kernel
theorem dL_again_32 : decode cL_again 32 = .ok (.imul, 1) := by decide +kernel
theorem dL_again_33 : decode cL_again 33 = .ok (.iaload, 1) := by decide +kernel
theorem dL_again_34 : decode cL_again 34 = .ok (.iadd, 1) := by decide +kernel
theorem dL_again_35 : decode cL_again 35 = .ok (.invokevirtual 98, 3) := by decide +kernel
theorem dL_again_38 : decode cL_again 38 = .ok (.iconst 1, 1) := by decide +kernel
theorem dL_again_39 : decode cL_again 39 = .ok (.if_icmp .lt 24, 3) := by decide +kernel
theorem dL_again_42 : decode cL_again 42 = .ok (.aload_n 2, 1) := by decide +kernel
theorem dL_again_43 : decode cL_again 43 = .ok (.iconst 3, 1) := by decide +kernel
theorem dL_again_44 : decode cL_again 44 = .ok (.iload_n 3, 1) := by decide +kernel
theorem dL_again_45 : decode cL_again 45 = .ok (.imul, 1) := by decide +kernel
theorem dL_again_46 : decode cL_again 46 = .ok (.iconst 1, 1) := by decide +kernel
theorem dL_again_47 : decode cL_again 47 = .ok (.iadd, 1) := by decide +kernel
theorem dL_again_48 : decode cL_again 48 = .ok (.iaload, 1) := by decide +kernel
theorem dL_again_49 : decode cL_again 49 = .ok (.iconst 1, 1) := by decide +kernel
theorem dL_again_50 : decode cL_again 50 = .ok (.if_icmp .ne 15, 3) := by decide +kernel
theorem dL_again_53 : decode cL_again 53 = .ok (.aload_n 0, 1) := by decide +kernel
theorem dL_again_54 : decode cL_again 54 = .ok (.bipush 112, 2) := by decide +kernel
theorem dL_again_56 : decode cL_again 56 = .ok (.invokevirtual 98, 3) := by decide +kernel
theorem dL_again_59 : decode cL_again 59 = .ok (.iconst 1, 1) := by decide +kernel
theorem dL_again_60 : decode cL_again 60 = .ok (.if_icmp .ge 5, 3) := by decide +kernel
theorem dL_again_63 : decode cL_again 63 = .ok (.iconst 0, 1) := by decide +kernel
theorem dL_again_64 : decode cL_again 64 = .ok (.ireturn, 1) := by decide +kernel
theorem dL_again_65 : decode cL_again 65 = .ok (.iinc 3 1, 3) := by decide +kernel
theorem dL_again_68 : decode cL_again 68 = .ok (.goto (-61), 3) := by decide +kernel
theorem dL_again_71 : decode cL_again 71 = .ok (.iconst 1, 1) := by decide +kernel
theorem dL_again_72 : decode cL_again 72 = .ok (.ireturn, 1) := by decide +kernel
theorem dL_act_0 : decode cL_act 0 = .ok (.iload_n 1, 1) := by decide +kernel
theorem dL_act_1 : decode cL_act 1 = .ok (.bipush 7, 2) := by decide +kernel
theorem dL_act_3 : decode cL_act 3 = .ok (.if_icmp .ge 82, 3) := by decide +kernel
theorem dL_act_6 : decode cL_act 6 = .ok (.iconst 1, 1) := by decide +kernel
theorem dL_act_7 : decode cL_act 7 = .ok (.iload_n 2, 1) := by decide +kernel
theorem dL_act_8 : decode cL_act 8 = .ok (.iload_n 3, 1) := by decide +kernel
theorem dL_act_9 : decode cL_act 9 = .ok (.iconst 4, 1) := by decide +kernel
theorem dL_act_10 : decode cL_act 10 = .ok (.invokestatic 68, 3) := by decide +kernel
theorem dL_act_13 : decode cL_act 13 = .ok (.ifCond .ne 9, 3) := by decide +kernel
theorem dL_act_16 : decode cL_act 16 = .ok (.sipush 200, 3) := by decide +kernel
theorem dL_act_19 : decode cL_act 19 = .ok (.goto 5, 3) := by decide +kernel
theorem dL_act_22 : decode cL_act 22 = .ok (.bipush 30, 2) := by decide +kernel
theorem dL_act_24 : decode cL_act 24 = .ok (.invokestatic 68, 3) := by decide +kernel
theorem dL_act_27 : decode cL_act 27 = .ok (.iadd, 1) := by decide +kernel
theorem dL_act_28 : decode cL_act 28 = .ok (.istore 7, 2) := by decide +kernel
theorem dL_act_30 : decode cL_act 30 = .ok (.aload 4, 2) := by decide +kernel
theorem dL_act_32 : decode cL_act 32 = .ok (.bipush 7, 2) := by decide +kernel
theorem dL_act_34 : decode cL_act 34 = .ok (.iaload, 1) := by decide +kernel
theorem dL_act_35 : decode cL_act 35 = .ok (.istore 8, 2) := by decide +kernel
theorem dL_act_37 : decode cL_act 37 = .ok (.iconst 0, 1) := by decide +kernel
theorem dL_act_38 : decode cL_act 38 = .ok (.istore 9, 2) := by decide +kernel
theorem dL_act_40 : decode cL_act 40 = .ok (.iload 9, 2) := by decide +kernel
theorem dL_act_42 : decode cL_act 42 = .ok (.iload 7, 2) := by decide +kernel
theorem dL_act_44 : decode cL_act 44 = .ok (.if_icmp .ge 18, 3) := by decide +kernel
theorem dL_act_47 : decode cL_act 47 = .ok (.aload 4, 2) := by decide +kernel
theorem dL_act_49 : decode cL_act 49 = .ok (.aload 5, 2) := by decide +kernel
theorem dL_act_51 : decode cL_act 51 = .ok (.aload 6, 2) := by decide +kernel
theorem dL_act_53 : decode cL_act 53 = .ok (.invokestatic 75, 3) := by decide +kernel
theorem dL_act_56 : decode cL_act 56 = .ok (.iinc 9 1, 3) := by decide +kernel
theorem dL_act_59 : decode cL_act 59 = .ok (.goto (-19), 3) := by decide +kernel
theorem dL_act_62 : decode cL_act 62 = .ok (.aload_n 0, 1) := by decide +kernel
theorem dL_act_63 : decode cL_act 63 = .ok (.iload 7, 2) := by decide +kernel
theorem dL_act_65 : decode cL_act 65 = .ok (.invokevirtual 108, 3) := by decide +kernel
theorem dL_act_68 : decode cL_act 68 = .ok (.aload 4, 2) := by decide +kernel
theorem dL_act_70 : decode cL_act 70 = .ok (.bipush 7, 2) := by decide +kernel
theorem dL_act_72 : decode cL_act 72 = .ok (.iaload, 1) := by decide +kernel
theorem dL_act_73 : decode cL_act 73 = .ok (.iload 8, 2) := by decide +kernel
theorem dL_act_75 : decode cL_act 75 = .ok (.isub, 1) := by decide +kernel
theorem dL_act_76 : decode cL_act 76 = .ok (.if_icmp .ne 7, 3) := by decide +kernel
theorem dL_act_79 : decode cL_act 79 = .ok (.iconst 1, 1) := by decide +kernel
theorem dL_act_80 : decode cL_act 80 = .ok (.goto 4, 3) := by decide +kernel
theorem dL_act_83 : decode cL_act 83 = .ok (.iconst 0, 1) := by decide +kernel
theorem dL_act_84 : decode cL_act 84 = .ok (.ireturn, 1) := by decide +kernel
theorem dL_act_85 : decode cL_act 85 = .ok (.iload_n 1, 1) := by decide +kernel
theorem dL_act_86 : decode cL_act 86 = .ok (.bipush 10, 2) := by decide +kernel
theorem dL_act_88 : decode cL_act 88 = .ok (.if_icmp .ge 98, 3) := by decide +kernel
theorem dL_act_91 : decode cL_act 91 = .ok (.iconst 1, 1) := by decide +kernel
theorem dL_act_92 : decode cL_act 92 = .ok (.iload_n 2, 1) := by decide +kernel
theorem dL_act_93 : decode cL_act 93 = .ok (.iload_n 3, 1) := by decide +kernel
theorem dL_act_94 : decode cL_act 94 = .ok (.iconst 3, 1) := by decide +kernel
theorem dL_act_95 : decode cL_act 95 = .ok (.invokestatic 68, 3) := by decide +kernel
theorem dL_act_98 : decode cL_act 98 = .ok (.ifCond .ne 9, 3) := by decide +kernel
theorem dL_act_101 : decode cL_act 101 = .ok (.sipush 1000, 3) := by decide +kernel
theorem dL_act_104 : decode cL_act 104 = .ok (.goto 6, 3) := by decide +kernel
theorem dL_act_107 : decode cL_act 107 = .ok (.sipush 150, 3) := by decide +kernel
theorem dL_act_110 : decode cL_act 110 = .ok (.invokestatic 68, 3) := by decide +kernel
theorem dL_act_113 : decode cL_act 113 = .ok (.iadd, 1) := by decide +kernel
theorem dL_act_114 : decode cL_act 114 = .ok (.istore 7, 2) := by decide +kernel
theorem dL_act_116 : decode cL_act 116 = .ok (.aload 4, 2) := by decide +kernel
theorem dL_act_118 : decode cL_act 118 = .ok (.bipush 6, 2) := by decide +kernel
theorem dL_act_120 : decode cL_act 120 = .ok (.iaload, 1) := by decide +kernel
theorem dL_act_121 : decode cL_act 121 = .ok (.iload 7, 2) := by decide +kernel
theorem dL_act_123 : decode cL_act 123 = .ok (.iadd, 1) := by decide +kernel
theorem dL_act_124 : decode cL_act 124 = .ok (.sipush 5000, 3) := by decide +kernel
theorem dL_act_127 : decode cL_act 127 = .ok (.if_icmp .le 20, 3) := by decide +kernel
theorem dL_act_130 : decode cL_act 130 = .ok (.aload_n 0, 1) := by decide +kernel
theorem dL_act_131 : decode cL_act 131 = .ok (.iload 7, 2) := by decide +kernel
theorem dL_act_133 : decode cL_act 133 = .ok (.invokevirtual 111, 3) := by decide +kernel
theorem dL_act_136 : decode cL_act 136 = .ok (.bipush (-4), 2) := by decide +kernel
theorem dL_act_138 : decode cL_act 138 = .ok (.if_icmp .ne 7, 3) := by decide +kernel
theorem dL_act_141 : decode cL_act 141 = .ok (.iconst 1, 1) := by decide +kernel
theorem dL_act_142 : decode cL_act 142 = .ok (.goto 4, 3) := by decide +kernel
theorem dL_act_145 : decode cL_act 145 = .ok (.iconst 0, 1) := by decide +kernel
theorem dL_act_146 : decode cL_act 146 = .ok (.ireturn, 1) := by decide +kernel
theorem dL_act_147 : decode cL_act 147 = .ok (.aload 4, 2) := by decide +kernel
theorem dL_act_149 : decode cL_act 149 = .ok (.iconst 5, 1) := by decide +kernel
theorem dL_act_150 : decode cL_act 150 = .ok (.dup2, 1) := by decide +kernel
theorem dL_act_151 : decode cL_act 151 = .ok (.iaload, 1) := by decide +kernel
theorem dL_act_152 : decode cL_act 152 = .ok (.iload 7, 2) := by decide +kernel
theorem dL_act_154 : decode cL_act 154 = .ok (.iadd, 1) := by decide +kernel
theorem dL_act_155 : decode cL_act 155 = .ok (.iastore, 1) := by decide +kernel
theorem dL_act_156 : decode cL_act 156 = .ok (.aload 4, 2) := by decide +kernel
theorem dL_act_158 : decode cL_act 158 = .ok (.bipush 6, 2) := by decide +kernel
theorem dL_act_160 : decode cL_act 160 = .ok (.dup2, 1) := by decide +kernel
theorem dL_act_161 : decode cL_act 161 = .ok (.iaload, 1) := by decide +kernel
theorem dL_act_162 : decode cL_act 162 = .ok (.iload 7, 2) := by decide +kernel
theorem dL_act_164 : decode cL_act 164 = .ok (.iadd, 1) := by decide +kernel
theorem dL_act_165 : decode cL_act 165 = .ok (.iastore, 1) := by decide +kernel
theorem dL_act_166 : decode cL_act 166 = .ok (.aload_n 0, 1) := by decide +kernel
theorem dL_act_167 : decode cL_act 167 = .ok (.iload 7, 2) := by decide +kernel
theorem dL_act_169 : decode cL_act 169 = .ok (.invokevirtual 111, 3) := by decide +kernel
theorem dL_act_172 : decode cL_act 172 = .ok (.aload 4, 2) := by decide +kernel
theorem dL_act_174 : decode cL_act 174 = .ok (.bipush 6, 2) := by decide +kernel
theorem dL_act_176 : decode cL_act 176 = .ok (.iaload, 1) := by decide +kernel
theorem dL_act_177 : decode cL_act 177 = .ok (.if_icmp .ne 7, 3) := by decide +kernel
theorem dL_act_180 : decode cL_act 180 = .ok (.iconst 1, 1) := by decide +kernel
theorem dL_act_181 : decode cL_act 181 = .ok (.goto 4, 3) := by decide +kernel
theorem dL_act_184 : decode cL_act 184 = .ok (.iconst 0, 1) := by decide +kernel
theorem dL_act_185 : decode cL_act 185 = .ok (.ireturn, 1) := by decide +kernel
theorem dL_act_186 : decode cL_act 186 = .ok (.iload_n 1, 1) := by decide +kernel
theorem dL_act_187 : decode cL_act 187 = .ok (.bipush 13, 2) := by decide +kernel
theorem dL_act_189 : decode cL_act 189 = .ok (.if_icmp .ge 132, 3) := by decide +kernel
theorem dL_act_192 : decode cL_act 192 = .ok (.iconst 1, 1) := by decide +kernel
theorem dL_act_193 : decode cL_act 193 = .ok (.iload_n 2, 1) := by decide +kernel
theorem dL_act_194 : decode cL_act 194 = .ok (.bipush 6, 2) := by decide +kernel
theorem dL_act_196 : decode cL_act 196 = .ok (.invokestatic 68, 3) := by decide +kernel
theorem dL_act_199 : decode cL_act 199 = .ok (.iadd, 1) := by decide +kernel
theorem dL_act_200 : decode cL_act 200 = .ok (.istore 7, 2) := by decide +kernel
theorem dL_act_202 : decode cL_act 202 = .ok (.iconst 1, 1) := by decide +kernel
theorem dL_act_203 : decode cL_act 203 = .ok (.iload_n 3, 1) := by decide +kernel
theorem dL_act_204 : decode cL_act 204 = .ok (.bipush 20, 2) := by decide +kernel
theorem dL_act_206 : decode cL_act 206 = .ok (.invokestatic 68, 3) := by decide +kernel
theorem dL_act_209 : decode cL_act 209 = .ok (.iadd, 1) := by decide +kernel
theorem dL_act_210 : decode cL_act 210 = .ok (.istore 8, 2) := by decide +kernel
theorem dL_act_212 : decode cL_act 212 = .ok (.aload 4, 2) := by decide +kernel
theorem dL_act_214 : decode cL_act 214 = .ok (.iconst 1, 1) := by decide +kernel
theorem dL_act_215 : decode cL_act 215 = .ok (.iaload, 1) := by decide +kernel
theorem dL_act_216 : decode cL_act 216 = .ok (.iconst 4, 1) := by decide +kernel
theorem dL_act_217 : decode cL_act 217 = .ok (.if_icmp .ne 22, 3) := by decide +kernel
theorem dL_act_220 : decode cL_act 220 = .ok (.aload_n 0, 1) := by decide +kernel
theorem dL_act_221 : decode cL_act 221 = .ok (.iload 7, 2) := by decide +kernel
theorem dL_act_223 : decode cL_act 223 = .ok (.iload 8, 2) := by decide +kernel
theorem dL_act_225 : decode cL_act 225 = .ok (.invokevirtual 114, 3) := by decide +kernel
theorem dL_act_228 : decode cL_act 228 = .ok (.bipush (-4), 2) := by decide +kernel
theorem dL_act_230 : decode cL_act 230 = .ok (.if_icmp .ne 7, 3) := by decide +kernel
theorem dL_act_233 : decode cL_act 233 = .ok (.iconst 1, 1) := by decide +kernel
theorem dL_act_234 : decode cL_act 234 = .ok (.goto 4, 3) := by decide +kernel
theorem dL_act_237 : decode cL_act 237 = .ok (.iconst 0, 1) := by decide +kernel
theorem dL_act_238 : decode cL_act 238 = .ok (.ireturn, 1) := by decide +kernel
theorem dL_act_239 : decode cL_act 239 = .ok (.iconst 0, 1) := by decide +kernel
theorem dL_act_240 : decode cL_act 240 = .ok (.istore 9, 2) := by decide +kernel
theorem dL_act_242 : decode cL_act 242 = .ok (.iload 9, 2) := by decide +kernel
theorem dL_act_244 : decode cL_act 244 = .ok (.bipush 10, 2) := by decide +kernel
theorem dL_act_246 : decode cL_act 246 = .ok (.if_icmp .ge 44, 3) := by decide +kernel
theorem dL_act_249 : decode cL_act 249 = .ok (.aload 6, 2) := by decide +kernel
theorem dL_act_251 : decode cL_act 251 = .ok (.bipush 10, 2) := by decide +kernel
theorem dL_act_253 : decode cL_act 253 = .ok (.aload 4, 2) := by decide +kernel
theorem dL_act_255 : decode cL_act 255 = .ok (.iconst 1, 1) := by decide +kernel
theorem dL_act_256 : decode cL_act 256 = .ok (.iaload, 1) := by decide +kernel
theorem dL_act_257 : decode cL_act 257 = .ok (.imul, 1) := by decide +kernel
theorem dL_act_258 : decode cL_act 258 = .ok (.iload 9, 2) := by decide +kernel
theorem dL_act_260 : decode cL_act 260 = .ok (.iadd, 1) := by decide +kernel
theorem dL_act_261 : decode cL_act 261 = .ok (.iload 9, 2) := by decide +kernel
theorem dL_act_263 : decode cL_act 263 = .ok (.ifCond .ne 8, 3) := by decide +kernel
theorem dL_act_266 : decode cL_act 266 = .ok (.iload 7, 2) := by decide +kernel
theorem dL_act_268 : decode cL_act 268 = .ok (.goto 15, 3) := by decide +kernel
theorem dL_act_271 : decode cL_act 271 = .ok (.iload 9, 2) := by decide +kernel
theorem dL_act_273 : decode cL_act 273 = .ok (.iconst 1, 1) := by decide +kernel
theorem dL_act_274 : decode cL_act 274 = .ok (.if_icmp .ne 8, 3) := by decide +kernel
theorem dL_act_277 : decode cL_act 277 = .ok (.iload 8, 2) := by decide +kernel
theorem dL_act_279 : decode cL_act 279 = .ok (.goto 4, 3) := by decide +kernel
theorem dL_act_282 : decode cL_act 282 = .ok (.iconst 0, 1) := by decide +kernel
theorem dL_act_283 : decode cL_act 283 = .ok (.iastore, 1) := by decide +kernel
theorem dL_act_284 : decode cL_act 284 = .ok (.iinc 9 1, 3) := by decide +kernel
theorem dL_act_287 : decode cL_act 287 = .ok (.goto (-45), 3) := by decide +kernel
theorem dL_act_290 : decode cL_act 290 = .ok (.aload 4, 2) := by decide +kernel
theorem dL_act_292 : decode cL_act 292 = .ok (.iconst 1, 1) := by decide +kernel
theorem dL_act_293 : decode cL_act 293 = .ok (.dup2, 1) := by decide +kernel
theorem dL_act_294 : decode cL_act 294 = .ok (.iaload, 1) := by decide +kernel
theorem dL_act_295 : decode cL_act 295 = .ok (.iconst 1, 1) := by decide +kernel
theorem dL_act_296 : decode cL_act 296 = .ok (.iadd, 1) := by decide +kernel
theorem dL_act_297 : decode cL_act 297 = .ok (.iastore, 1) := by decide +kernel
theorem dL_act_298 : decode cL_act 298 = .ok (.aload_n 0, 1) := by decide +kernel
theorem dL_act_299 : decode cL_act 299 = .ok (.iload 7, 2) := by decide +kernel
theorem dL_act_301 : decode cL_act 301 = .ok (.iload 8, 2) := by decide +kernel
theorem dL_act_303 : decode cL_act 303 = .ok (.invokevirtual 114, 3) := by decide +kernel
theorem dL_act_306 : decode cL_act 306 = .ok (.aload 4, 2) := by decide +kernel
theorem dL_act_308 : decode cL_act 308 = .ok (.iconst 1, 1) := by decide +kernel
theorem dL_act_309 : decode cL_act 309 = .ok (.iaload, 1) := by decide +kernel
theorem dL_act_310 : decode cL_act 310 = .ok (.iconst 1, 1) := by decide +kernel
theorem dL_act_311 : decode cL_act 311 = .ok (.isub, 1) := by decide +kernel
theorem dL_act_312 : decode cL_act 312 = .ok (.if_icmp .ne 7, 3) := by decide +kernel
theorem dL_act_315 : decode cL_act 315 = .ok (.iconst 1, 1) := by decide +kernel
theorem dL_act_316 : decode cL_act 316 = .ok (.goto 4, 3) := by decide +kernel
theorem dL_act_319 : decode cL_act 319 = .ok (.iconst 0, 1) := by decide +kernel
theorem dL_act_320 : decode cL_act 320 = .ok (.ireturn, 1) := by decide +kernel
theorem dL_act_321 : decode cL_act 321 = .ok (.iload_n 1, 1) := by decide +kernel
theorem dL_act_322 : decode cL_act 322 = .ok (.bipush 15, 2) := by decide +kernel
theorem dL_act_324 : decode cL_act 324 = .ok (.if_icmp .ge 107, 3) := by decide +kernel
theorem dL_act_327 : decode cL_act 327 = .ok (.iload_n 2, 1) := by decide +kernel
theorem dL_act_328 : decode cL_act 328 = .ok (.iconst 3, 1) := by decide +kernel
theorem dL_act_329 : decode cL_act 329 = .ok (.invokestatic 68, 3) := by decide +kernel
theorem dL_act_332 : decode cL_act 332 = .ok (.istore 7, 2) := by decide +kernel
theorem dL_act_334 : decode cL_act 334 = .ok (.aload 4, 2) := by decide +kernel
theorem dL_act_336 : decode cL_act 336 = .ok (.iconst 2, 1) := by decide +kernel
theorem dL_act_337 : decode cL_act 337 = .ok (.iload 7, 2) := by decide +kernel
theorem dL_act_339 : decode cL_act 339 = .ok (.iadd, 1) := by decide +kernel
theorem dL_act_340 : decode cL_act 340 = .ok (.iaload, 1) := by decide +kernel
theorem dL_act_341 : decode cL_act 341 = .ok (.istore 8, 2) := by decide +kernel
theorem dL_act_343 : decode cL_act 343 = .ok (.aload 4, 2) := by decide +kernel
theorem dL_act_345 : decode cL_act 345 = .ok (.iconst 2, 1) := by decide +kernel
theorem dL_act_346 : decode cL_act 346 = .ok (.iload 7, 2) := by decide +kernel
theorem dL_act_348 : decode cL_act 348 = .ok (.iadd, 1) := by decide +kernel
theorem dL_act_349 : decode cL_act 349 = .ok (.iload 7, 2) := by decide +kernel
theorem dL_act_351 : decode cL_act 351 = .ok (.ifCond .ne 33, 3) := by decide +kernel
theorem dL_act_354 : decode cL_act 354 = .ok (.bipush 10, 2) := by decide +kernel
theorem dL_act_356 : decode cL_act 356 = .ok (.iload_n 3, 1) := by decide +kernel
theorem dL_act_357 : decode cL_act 357 = .ok (.iload_n 3, 1) := by decide +kernel
theorem dL_act_358 : decode cL_act 358 = .ok (.bipush 8, 2) := by decide +kernel
theorem dL_act_360 : decode cL_act 360 = .ok (.ishr, 1) := by decide +kernel
theorem dL_act_361 : decode cL_act 361 = .ok (.iconst 2, 1) := by decide +kernel
theorem dL_act_362 : decode cL_act 362 = .ok (.invokestatic 68, 3) := by decide +kernel
theorem dL_act_365 : decode cL_act 365 = .ok (.ifCond .ne 9, 3) := by decide +kernel
theorem dL_act_368 : decode cL_act 368 = .ok (.sipush 891, 3) := by decide +kernel
theorem dL_act_371 : decode cL_act 371 = .ok (.goto 6, 3) := by decide +kernel
theorem dL_act_374 : decode cL_act 374 = .ok (.sipush 200, 3) := by decide +kernel
theorem dL_act_377 : decode cL_act 377 = .ok (.invokestatic 68, 3) := by decide +kernel
theorem dL_act_380 : decode cL_act 380 = .ok (.iadd, 1) := by decide +kernel
theorem dL_act_381 : decode cL_act 381 = .ok (.goto 25, 3) := by decide +kernel
theorem dL_act_384 : decode cL_act 384 = .ok (.iload 7, 2) := by decide +kernel
theorem dL_act_386 : decode cL_act 386 = .ok (.iconst 1, 1) := by decide +kernel
theorem dL_act_387 : decode cL_act 387 = .ok (.if_icmp .ne 14, 3) := by decide +kernel
theorem dL_act_390 : decode cL_act 390 = .ok (.iconst 1, 1) := by decide +kernel
theorem dL_act_391 : decode cL_act 391 = .ok (.iload_n 3, 1) := by decide +kernel
theorem dL_act_392 : decode cL_act 392 = .ok (.bipush 50, 2) := by decide +kernel
theorem dL_act_394 : decode cL_act 394 = .ok (.invokestatic 68, 3) := by decide +kernel
theorem dL_act_397 : decode cL_act 397 = .ok (.iadd, 1) := by decide +kernel
theorem dL_act_398 : decode cL_act 398 = .ok (.goto 8, 3) := by decide +kernel
theorem dL_act_401 : decode cL_act 401 = .ok (.iload_n 3, 1) := by decide +kernel
theorem dL_act_402 : decode cL_act 402 = .ok (.iconst 3, 1) := by decide +kernel
theorem dL_act_403 : decode cL_act 403 = .ok (.invokestatic 68, 3) := by decide +kernel
theorem dL_act_406 : decode cL_act 406 = .ok (.iastore, 1) := by decide +kernel
theorem dL_act_407 : decode cL_act 407 = .ok (.aload_n 0, 1) := by decide +kernel
theorem dL_act_408 : decode cL_act 408 = .ok (.iload 7, 2) := by decide +kernel
theorem dL_act_410 : decode cL_act 410 = .ok (.aload 4, 2) := by decide +kernel
theorem dL_act_412 : decode cL_act 412 = .ok (.iconst 2, 1) := by decide +kernel
theorem dL_act_413 : decode cL_act 413 = .ok (.iload 7, 2) := by decide +kernel
theorem dL_act_415 : decode cL_act 415 = .ok (.iadd, 1) := by decide +kernel
theorem dL_act_416 : decode cL_act 416 = .ok (.iaload, 1) := by decide +kernel
theorem dL_act_417 : decode cL_act 417 = .ok (.invokevirtual 117, 3) := by decide +kernel
theorem dL_act_420 : decode cL_act 420 = .ok (.iload 8, 2) := by decide +kernel
theorem dL_act_422 : decode cL_act 422 = .ok (.if_icmp .ne 7, 3) := by decide +kernel
theorem dL_act_425 : decode cL_act 425 = .ok (.iconst 1, 1) := by decide +kernel
theorem dL_act_426 : decode cL_act 426 = .ok (.goto 4, 3) := by decide +kernel
theorem dL_act_429 : decode cL_act 429 = .ok (.iconst 0, 1) := by decide +kernel
theorem dL_act_430 : decode cL_act 430 = .ok (.ireturn, 1) := by decide +kernel
theorem dL_act_431 : decode cL_act 431 = .ok (.iload_n 1, 1) := by decide +kernel
theorem dL_act_432 : decode cL_act 432 = .ok (.bipush 15, 2) := by decide +kernel
theorem dL_act_434 : decode cL_act 434 = .ok (.if_icmp .ne 34, 3) := by decide +kernel
theorem dL_act_437 : decode cL_act 437 = .ok (.iload_n 3, 1) := by decide +kernel
theorem dL_act_438 : decode cL_act 438 = .ok (.iconst 3, 1) := by decide +kernel
theorem dL_act_439 : decode cL_act 439 = .ok (.invokestatic 68, 3) := by decide +kernel
theorem dL_act_442 : decode cL_act 442 = .ok (.ifCond .gt 20, 3) := by decide +kernel
theorem dL_act_445 : decode cL_act 445 = .ok (.aload_n 0, 1) := by decide +kernel
theorem dL_act_446 : decode cL_act 446 = .ok (.iload_n 2, 1) := by decide +kernel
theorem dL_act_447 : decode cL_act 447 = .ok (.iload_n 3, 1) := by decide +kernel
theorem dL_act_448 : decode cL_act 448 = .ok (.iconst 2, 1) := by decide +kernel
theorem dL_act_449 : decode cL_act 449 = .ok (.ishr, 1) := by decide +kernel
theorem dL_act_450 : decode cL_act 450 = .ok (.aload 4, 2) := by decide +kernel
theorem dL_act_452 : decode cL_act 452 = .ok (.aload 5, 2) := by decide +kernel
theorem dL_act_454 : decode cL_act 454 = .ok (.aload 6, 2) := by decide +kernel
theorem dL_act_456 : decode cL_act 456 = .ok (.invokestatic 120, 3) := by decide +kernel
theorem dL_act_459 : decode cL_act 459 = .ok (.ifCond .eq 7, 3) := by decide +kernel
theorem dL_act_462 : decode cL_act 462 = .ok (.iconst 1, 1) := by decide +kernel
theorem dL_act_463 : decode cL_act 463 = .ok (.goto 4, 3) := by decide +kernel
theorem dL_act_466 : decode cL_act 466 = .ok (.iconst 0, 1) := by decide +kernel
theorem dL_act_467 : decode cL_act 467 = .ok (.ireturn, 1) := by decide +kernel
theorem dL_act_468 : decode cL_act 468 = .ok (.aload 4, 2) := by decide +kernel
theorem dL_act_470 : decode cL_act 470 = .ok (.iconst 1, 1) := by decide +kernel
theorem dL_act_471 : decode cL_act 471 = .ok (.iaload, 1) := by decide +kernel
theorem dL_act_472 : decode cL_act 472 = .ok (.ifCond .ne 40, 3) := by decide +kernel
theorem dL_act_475 : decode cL_act 475 = .ok (.aload_n 0, 1) := by decide +kernel
theorem dL_act_476 : decode cL_act 476 = .ok (.iconst 0, 1) := by decide +kernel
theorem dL_act_477 : decode cL_act 477 = .ok (.invokevirtual 124, 3) := by decide +kernel
theorem dL_act_480 : decode cL_act 480 = .ok (.bipush (-2), 2) := by decide +kernel
theorem dL_act_482 : decode cL_act 482 = .ok (.if_icmp .ne 28, 3) := by decide +kernel
theorem dL_act_485 : decode cL_act 485 = .ok (.aload_n 0, 1) := by decide +kernel
theorem dL_act_486 : decode cL_act 486 = .ok (.iconst 0, 1) := by decide +kernel
theorem dL_act_487 : decode cL_act 487 = .ok (.iconst 1, 1) := by decide +kernel
theorem dL_act_488 : decode cL_act 488 = .ok (.invokevirtual 127, 3) := by decide +kernel
theorem dL_act_491 : decode cL_act 491 = .ok (.bipush (-2), 2) := by decide +kernel
theorem dL_act_493 : decode cL_act 493 = .ok (.if_icmp .ne 17, 3) := by decide +kernel
theorem dL_act_496 : decode cL_act 496 = .ok (.aload_n 0, 1) := by decide +kernel
theorem dL_act_497 : decode cL_act 497 = .ok (.iconst 0, 1) := by decide +kernel
theorem dL_act_498 : decode cL_act 498 = .ok (.invokevirtual 45, 3) := by decide +kernel
theorem dL_act_501 : decode cL_act 501 = .ok (.bipush (-2), 2) := by decide +kernel
theorem dL_act_503 : decode cL_act 503 = .ok (.if_icmp .ne 7, 3) := by decide +kernel
theorem dL_act_506 : decode cL_act 506 = .ok (.iconst 1, 1) := by decide +kernel
theorem dL_act_507 : decode cL_act 507 = .ok (.goto 4, 3) := by decide +kernel
theorem dL_act_510 : decode cL_act 510 = .ok (.iconst 0, 1) := by decide +kernel
theorem dL_act_511 : decode cL_act 511 = .ok (.ireturn, 1) := by decide +kernel
theorem dL_act_512 : decode cL_act 512 = .ok (.iload_n 2, 1) := by decide +kernel
theorem dL_act_513 : decode cL_act 513 = .ok (.aload 4, 2) := by decide +kernel
theorem dL_act_515 : decode cL_act 515 = .ok (.iconst 1, 1) := by decide +kernel
theorem dL_act_516 : decode cL_act 516 = .ok (.iaload, 1) := by decide +kernel
theorem dL_act_517 : decode cL_act 517 = .ok (.invokestatic 68, 3) := by decide +kernel
theorem dL_act_520 : decode cL_act 520 = .ok (.istore 7, 2) := by decide +kernel
theorem dL_act_522 : decode cL_act 522 = .ok (.iload_n 1, 1) := by decide +kernel
theorem dL_act_523 : decode cL_act 523 = .ok (.bipush 16, 2) := by decide +kernel
theorem dL_act_525 : decode cL_act 525 = .ok (.if_icmp .ne 60, 3) := by decide +kernel
theorem dL_act_528 : decode cL_act 528 = .ok (.aload 6, 2) := by decide +kernel
theorem dL_act_530 : decode cL_act 530 = .ok (.bipush 10, 2) := by decide +kernel
theorem dL_act_532 : decode cL_act 532 = .ok (.iload 7, 2) := by decide +kernel
theorem dL_act_534 : decode cL_act 534 = .ok (.imul, 1) := by decide +kernel
theorem dL_act_535 : decode cL_act 535 = .ok (.iconst 1, 1) := by decide +kernel
theorem dL_act_536 : decode cL_act 536 = .ok (.iadd, 1) := by decide +kernel
theorem dL_act_537 : decode cL_act 537 = .ok (.iaload, 1) := by decide +kernel
theorem dL_act_538 : decode cL_act 538 = .ok (.istore 8, 2) := by decide +kernel
theorem dL_act_540 : decode cL_act 540 = .ok (.aload 6, 2) := by decide +kernel
theorem dL_act_542 : decode cL_act 542 = .ok (.bipush 10, 2) := by decide +kernel
theorem dL_act_544 : decode cL_act 544 = .ok (.iload 7, 2) := by decide +kernel
theorem dL_act_546 : decode cL_act 546 = .ok (.imul, 1) := by decide +kernel
theorem dL_act_547 : decode cL_act 547 = .ok (.iconst 1, 1) := by decide +kernel
theorem dL_act_548 : decode cL_act 548 = .ok (.iadd, 1) := by decide +kernel
theorem dL_act_549 : decode cL_act 549 = .ok (.iconst 1, 1) := by decide +kernel
theorem dL_act_550 : decode cL_act 550 = .ok (.iload_n 3, 1) := by decide +kernel
theorem dL_act_551 : decode cL_act 551 = .ok (.bipush 20, 2) := by decide +kernel
theorem dL_act_553 : decode cL_act 553 = .ok (.invokestatic 68, 3) := by decide +kernel
theorem dL_act_556 : decode cL_act 556 = .ok (.iadd, 1) := by decide +kernel
theorem dL_act_557 : decode cL_act 557 = .ok (.iastore, 1) := by decide +kernel
theorem dL_act_558 : decode cL_act 558 = .ok (.aload_n 0, 1) := by decide +kernel
theorem dL_act_559 : decode cL_act 559 = .ok (.iload 7, 2) := by decide +kernel
theorem dL_act_561 : decode cL_act 561 = .ok (.aload 6, 2) := by decide +kernel
theorem dL_act_563 : decode cL_act 563 = .ok (.bipush 10, 2) := by decide +kernel
theorem dL_act_565 : decode cL_act 565 = .ok (.iload 7, 2) := by decide +kernel
theorem dL_act_567 : decode cL_act 567 = .ok (.imul, 1) := by decide +kernel
theorem dL_act_568 : decode cL_act 568 = .ok (.iconst 1, 1) := by decide +kernel
theorem dL_act_569 : decode cL_act 569 = .ok (.iadd, 1) := by decide +kernel
theorem dL_act_570 : decode cL_act 570 = .ok (.iaload, 1) := by decide +kernel
theorem dL_act_571 : decode cL_act 571 = .ok (.invokevirtual 127, 3) := by decide +kernel
theorem dL_act_574 : decode cL_act 574 = .ok (.iload 8, 2) := by decide +kernel
theorem dL_act_576 : decode cL_act 576 = .ok (.if_icmp .ne 7, 3) := by decide +kernel
theorem dL_act_579 : decode cL_act 579 = .ok (.iconst 1, 1) := by decide +kernel
theorem dL_act_580 : decode cL_act 580 = .ok (.goto 4, 3) := by decide +kernel
theorem dL_act_583 : decode cL_act 583 = .ok (.iconst 0, 1) := by decide +kernel
theorem dL_act_584 : decode cL_act 584 = .ok (.ireturn, 1) := by decide +kernel
theorem dL_act_585 : decode cL_act 585 = .ok (.iload_n 3, 1) := by decide +kernel
theorem dL_act_586 : decode cL_act 586 = .ok (.iconst 2, 1) := by decide +kernel
theorem dL_act_587 : decode cL_act 587 = .ok (.invokestatic 68, 3) := by decide +kernel
theorem dL_act_590 : decode cL_act 590 = .ok (.ifCond .ne 5, 3) := by decide +kernel
theorem dL_act_593 : decode cL_act 593 = .ok (.iconst 1, 1) := by decide +kernel
theorem dL_act_594 : decode cL_act 594 = .ok (.ireturn, 1) := by decide +kernel
theorem dL_act_595 : decode cL_act 595 = .ok (.aload 6, 2) := by decide +kernel
theorem dL_act_597 : decode cL_act 597 = .ok (.bipush 10, 2) := by decide +kernel
theorem dL_act_599 : decode cL_act 599 = .ok (.iload 7, 2) := by decide +kernel
theorem dL_act_601 : decode cL_act 601 = .ok (.imul, 1) := by decide +kernel
theorem dL_act_602 : decode cL_act 602 = .ok (.iconst 2, 1) := by decide +kernel
theorem dL_act_603 : decode cL_act 603 = .ok (.iadd, 1) := by decide +kernel
theorem dL_act_604 : decode cL_act 604 = .ok (.iaload, 1) := by decide +kernel
theorem dL_act_605 : decode cL_act 605 = .ok (.istore 8, 2) := by decide +kernel
theorem dL_act_607 : decode cL_act 607 = .ok (.aload 4, 2) := by decide +kernel
theorem dL_act_609 : decode cL_act 609 = .ok (.bipush 8, 2) := by decide +kernel
theorem dL_act_611 : decode cL_act 611 = .ok (.dup2, 1) := by decide +kernel
theorem dL_act_612 : decode cL_act 612 = .ok (.iaload, 1) := by decide +kernel
theorem dL_act_613 : decode cL_act 613 = .ok (.iload 8, 2) := by decide +kernel
theorem dL_act_615 : decode cL_act 615 = .ok (.iadd, 1) := by decide +kernel
theorem dL_act_616 : decode cL_act 616 = .ok (.iastore, 1) := by decide +kernel
theorem dL_act_617 : decode cL_act 617 = .ok (.aload 4, 2) := by decide +kernel
theorem dL_act_619 : decode cL_act 619 = .ok (.iconst 1, 1) := by decide +kernel
theorem dL_act_620 : decode cL_act 620 = .ok (.dup2, 1) := by decide +kernel
theorem dL_act_621 : decode cL_act 621 = .ok (.iaload, 1) := by decide +kernel
theorem dL_act_622 : decode cL_act 622 = .ok (.iconst 1, 1) := by decide +kernel
theorem dL_act_623 : decode cL_act 623 = .ok (.isub, 1) := by decide +kernel
theorem dL_act_624 : decode cL_act 624 = .ok (.iastore, 1) := by decide +kernel
theorem dL_act_625 : decode cL_act 625 = .ok (.bipush 10, 2) := by decide +kernel
theorem dL_act_627 : decode cL_act 627 = .ok (.iload 7, 2) := by decide +kernel
theorem dL_act_629 : decode cL_act 629 = .ok (.imul, 1) := by decide +kernel
theorem dL_act_630 : decode cL_act 630 = .ok (.istore 9, 2) := by decide +kernel
theorem dL_act_632 : decode cL_act 632 = .ok (.iload 9, 2) := by decide +kernel
theorem dL_act_634 : decode cL_act 634 = .ok (.bipush 10, 2) := by decide +kernel
theorem dL_act_636 : decode cL_act 636 = .ok (.aload 4, 2) := by decide +kernel
theorem dL_act_638 : decode cL_act 638 = .ok (.iconst 1, 1) := by decide +kernel
theorem dL_act_639 : decode cL_act 639 = .ok (.iaload, 1) := by decide +kernel
theorem dL_act_640 : decode cL_act 640 = .ok (.imul, 1) := by decide +kernel
theorem dL_act_641 : decode cL_act 641 = .ok (.if_icmp .ge 22, 3) := by decide +kernel
theorem dL_act_644 : decode cL_act 644 = .ok (.aload 6, 2) := by decide +kernel
theorem dL_act_646 : decode cL_act 646 = .ok (.iload 9, 2) := by decide +kernel
theorem dL_act_648 : decode cL_act 648 = .ok (.aload 6, 2) := by decide +kernel
theorem dL_act_650 : decode cL_act 650 = .ok (.iload 9, 2) := by decide +kernel
theorem dL_act_652 : decode cL_act 652 = .ok (.bipush 10, 2) := by decide +kernel
theorem dL_act_654 : decode cL_act 654 = .ok (.iadd, 1) := by decide +kernel
theorem dL_act_655 : decode cL_act 655 = .ok (.iaload, 1) := by decide +kernel
theorem dL_act_656 : decode cL_act 656 = .ok (.iastore, 1) := by decide +kernel
theorem dL_act_657 : decode cL_act 657 = .ok (.iinc 9 1, 3) := by decide +kernel
theorem dL_act_660 : decode cL_act 660 = .ok (.goto (-28), 3) := by decide +kernel
theorem dL_act_663 : decode cL_act 663 = .ok (.aload_n 0, 1) := by decide +kernel
theorem dL_act_664 : decode cL_act 664 = .ok (.iload 7, 2) := by decide +kernel
theorem dL_act_666 : decode cL_act 666 = .ok (.invokevirtual 124, 3) := by decide +kernel
theorem dL_act_669 : decode cL_act 669 = .ok (.iload 8, 2) := by decide +kernel
theorem dL_act_671 : decode cL_act 671 = .ok (.if_icmp .ne 7, 3) := by decide +kernel
theorem dL_act_674 : decode cL_act 674 = .ok (.iconst 1, 1) := by decide +kernel
theorem dL_act_675 : decode cL_act 675 = .ok (.goto 4, 3) := by decide +kernel
theorem dL_act_678 : decode cL_act 678 = .ok (.iconst 0, 1) := by decide +kernel
theorem dL_act_679 : decode cL_act 679 = .ok (.ireturn, 1) := by decide +kernel
theorem dL_law_0 : decode cL_law 0 = .ok (.new 37, 3) := by decide +kernel
theorem dL_law_3 : decode cL_law 3 = .ok (.dup, 1) := by decide +kernel
theorem dL_law_4 : decode cL_law 4 = .ok (.invokespecial 130, 3) := by decide +kernel
theorem dL_law_7 : decode cL_law 7 = .ok (.astore_n 1, 1) := by decide +kernel
theorem dL_law_8 : decode cL_law 8 = .ok (.bipush 10, 2) := by decide +kernel
theorem dL_law_10 : decode cL_law 10 = .ok (.newarray .int, 2) := by decide +kernel
theorem dL_law_12 : decode cL_law 12 = .ok (.astore_n 2, 1) := by decide +kernel
theorem dL_law_13 : decode cL_law 13 = .ok (.bipush 24, 2) := by decide +kernel
theorem dL_law_15 : decode cL_law 15 = .ok (.newarray .int, 2) := by decide +kernel
theorem dL_law_17 : decode cL_law 17 = .ok (.astore_n 3, 1) := by decide +kernel
theorem dL_law_18 : decode cL_law 18 = .ok (.bipush 40, 2) := by decide +kernel
theorem dL_law_20 : decode cL_law 20 = .ok (.newarray .int, 2) := by decide +kernel
theorem dL_law_22 : decode cL_law 22 = .ok (.astore 4, 2) := by decide +kernel
theorem dL_law_24 : decode cL_law 24 = .ok (.bipush 10, 2) := by decide +kernel
theorem dL_law_26 : decode cL_law 26 = .ok (.newarray .int, 2) := by decide +kernel
theorem dL_law_28 : decode cL_law 28 = .ok (.astore 5, 2) := by decide +kernel
theorem dL_law_30 : decode cL_law 30 = .ok (.bipush 24, 2) := by decide +kernel
theorem dL_law_32 : decode cL_law 32 = .ok (.newarray .int, 2) := by decide +kernel
theorem dL_law_34 : decode cL_law 34 = .ok (.astore 6, 2) := by decide +kernel
theorem dL_law_36 : decode cL_law 36 = .ok (.bipush 40, 2) := by decide +kernel
theorem dL_law_38 : decode cL_law 38 = .ok (.newarray .int, 2) := by decide +kernel
theorem dL_law_40 : decode cL_law 40 = .ok (.astore 7, 2) := by decide +kernel
theorem dL_law_42 : decode cL_law 42 = .ok (.aload_n 2, 1) := by decide +kernel
theorem dL_law_43 : decode cL_law 43 = .ok (.iconst 0, 1) := by decide +kernel
theorem dL_law_44 : decode cL_law 44 = .ok (.bipush 7, 2) := by decide +kernel
theorem dL_law_46 : decode cL_law 46 = .ok (.iastore, 1) := by decide +kernel
theorem dL_law_47 : decode cL_law 47 = .ok (.aload_n 2, 1) := by decide +kernel
theorem dL_law_48 : decode cL_law 48 = .ok (.iconst 2, 1) := by decide +kernel
theorem dL_law_49 : decode cL_law 49 = .ok (.sipush 300, 3) := by decide +kernel
theorem dL_law_52 : decode cL_law 52 = .ok (.iastore, 1) := by decide +kernel
theorem dL_law_53 : decode cL_law 53 = .ok (.aload_n 2, 1) := by decide +kernel
theorem dL_law_54 : decode cL_law 54 = .ok (.iconst 3, 1) := by decide +kernel
theorem dL_law_55 : decode cL_law 55 = .ok (.iconst 5, 1) := by decide +kernel
theorem dL_law_56 : decode cL_law 56 = .ok (.iastore, 1) := by decide +kernel
theorem dL_law_57 : decode cL_law 57 = .ok (.iconst 0, 1) := by decide +kernel
theorem dL_law_58 : decode cL_law 58 = .ok (.istore 8, 2) := by decide +kernel
theorem dL_law_60 : decode cL_law 60 = .ok (.iload 8, 2) := by decide +kernel
theorem dL_law_62 : decode cL_law 62 = .ok (.bipush 7, 2) := by decide +kernel
theorem dL_law_64 : decode cL_law 64 = .ok (.if_icmp .ge 62, 3) := by decide +kernel
theorem dL_law_67 : decode cL_law 67 = .ok (.aload_n 3, 1) := by decide +kernel
theorem dL_law_68 : decode cL_law 68 = .ok (.iconst 3, 1) := by decide +kernel
theorem dL_law_69 : decode cL_law 69 = .ok (.iload 8, 2) := by decide +kernel
theorem dL_law_71 : decode cL_law 71 = .ok (.imul, 1) := by decide +kernel
theorem dL_law_72 : decode cL_law 72 = .ok (.iload 8, 2) := by decide +kernel
theorem dL_law_74 : decode cL_law 74 = .ok (.ifCond .eq 10, 3) := by decide +kernel
theorem dL_law_77 : decode cL_law 77 = .ok (.iload 8, 2) := by decide +kernel
theorem dL_law_79 : decode cL_law 79 = .ok (.bipush 6, 2) := by decide +kernel
theorem dL_law_81 : decode cL_law 81 = .ok (.if_icmp .ne 7, 3) := by decide +kernel
theorem dL_law_84 : decode cL_law 84 = .ok (.iconst 0, 1) := by decide +kernel
theorem dL_law_85 : decode cL_law 85 = .ok (.goto 14, 3) := by decide +kernel
theorem dL_law_88 : decode cL_law 88 = .ok (.iload 8, 2) := by decide +kernel
theorem dL_law_90 : decode cL_law 90 = .ok (.iconst 3, 1) := by decide +kernel
theorem dL_law_91 : decode cL_law 91 = .ok (.if_icmp .ne 7, 3) := by decide +kernel
theorem dL_law_94 : decode cL_law 94 = .ok (.iconst 2, 1) := by decide +kernel
theorem dL_law_95 : decode cL_law 95 = .ok (.goto 4, 3) := by decide +kernel
theorem dL_law_98 : decode cL_law 98 = .ok (.iconst 4, 1) := by decide +kernel
theorem dL_law_99 : decode cL_law 99 = .ok (.iastore, 1) := by decide +kernel
theorem dL_law_100 : decode cL_law 100 = .ok (.aload_n 3, 1) := by decide +kernel
theorem dL_law_101 : decode cL_law 101 = .ok (.iconst 3, 1) := by decide +kernel
theorem dL_law_102 : decode cL_law 102 = .ok (.iload 8, 2) := by decide +kernel
theorem dL_law_104 : decode cL_law 104 = .ok (.imul, 1) := by decide +kernel
theorem dL_law_105 : decode cL_law 105 = .ok (.iconst 1, 1) := by decide +kernel
theorem dL_law_106 : decode cL_law 106 = .ok (.iadd, 1) := by decide +kernel
theorem dL_law_107 : decode cL_law 107 = .ok (.iload 8, 2) := by decide +kernel
theorem dL_law_109 : decode cL_law 109 = .ok (.iconst 3, 1) := by decide +kernel
theorem dL_law_110 : decode cL_law 110 = .ok (.irem, 1) := by decide +kernel
theorem dL_law_111 : decode cL_law 111 = .ok (.ifCond .ne 7, 3) := by decide +kernel
theorem dL_law_114 : decode cL_law 114 = .ok (.iconst 1, 1) := by decide +kernel
theorem dL_law_115 : decode cL_law 115 = .ok (.goto 4, 3) := by decide +kernel
theorem dL_law_118 : decode cL_law 118 = .ok (.iconst 0, 1) := by decide +kernel
theorem dL_law_119 : decode cL_law 119 = .ok (.iastore, 1) := by decide +kernel
theorem dL_law_120 : decode cL_law 120 = .ok (.iinc 8 1, 3) := by decide +kernel
theorem dL_law_123 : decode cL_law 123 = .ok (.goto (-63), 3) := by decide +kernel
theorem dL_law_126 : decode cL_law 126 = .ok (.aload_n 1, 1) := by decide +kernel
theorem dL_law_127 : decode cL_law 127 = .ok (.invokevirtual 131, 3) := by decide +kernel
theorem dL_law_130 : decode cL_law 130 = .ok (.bipush (-3), 2) := by decide +kernel
theorem dL_law_132 : decode cL_law 132 = .ok (.if_icmp .ne 24, 3) := by decide +kernel
theorem dL_law_135 : decode cL_law 135 = .ok (.aload_n 1, 1) := by decide +kernel
theorem dL_law_136 : decode cL_law 136 = .ok (.iconst 0, 1) := by decide +kernel
theorem dL_law_137 : decode cL_law 137 = .ok (.invokevirtual 134, 3) := by decide +kernel
theorem dL_law_140 : decode cL_law 140 = .ok (.bipush (-3), 2) := by decide +kernel
theorem dL_law_142 : decode cL_law 142 = .ok (.if_icmp .ne 14, 3) := by decide +kernel
theorem dL_law_145 : decode cL_law 145 = .ok (.aload_n 1, 1) := by decide +kernel
theorem dL_law_146 : decode cL_law 146 = .ok (.aload_n 2, 1) := by decide +kernel
theorem dL_law_147 : decode cL_law 147 = .ok (.aload_n 3, 1) := by decide +kernel
theorem dL_law_148 : decode cL_law 148 = .ok (.aload 4, 2) := by decide +kernel
theorem dL_law_150 : decode cL_law 150 = .ok (.invokestatic 137, 3) := by decide +kernel
theorem dL_law_153 : decode cL_law 153 = .ok (.ifCond .ne 5, 3) := by decide +kernel
theorem dL_law_156 : decode cL_law 156 = .ok (.iconst 0, 1) := by decide +kernel
theorem dL_law_157 : decode cL_law 157 = .ok (.ireturn, 1) := by decide +kernel
theorem dL_law_158 : decode cL_law 158 = .ok (.iconst 1, 1) := by decide +kernel
theorem dL_law_159 : decode cL_law 159 = .ok (.istore 8, 2) := by decide +kernel
theorem dL_law_161 : decode cL_law 161 = .ok (.iload 8, 2) := by decide +kernel
theorem dL_law_163 : decode cL_law 163 = .ok (.bipush 26, 2) := by decide +kernel
theorem dL_law_165 : decode cL_law 165 = .ok (.if_icmp .ge 235, 3) := by decide +kernel
theorem dL_law_168 : decode cL_law 168 = .ok (.aload_n 0, 1) := by decide +kernel
theorem dL_law_169 : decode cL_law 169 = .ok (.iconst 2, 1) := by decide +kernel
theorem dL_law_170 : decode cL_law 170 = .ok (.iload 8, 2) := by decide +kernel
theorem dL_law_172 : decode cL_law 172 = .ok (.imul, 1) := by decide +kernel
theorem dL_law_173 : decode cL_law 173 = .ok (.invokestatic 141, 3) := by decide +kernel
theorem dL_law_176 : decode cL_law 176 = .ok (.ldc 145, 2) := by decide +kernel
theorem dL_law_178 : decode cL_law 178 = .ok (.iand, 1) := by decide +kernel
theorem dL_law_179 : decode cL_law 179 = .ok (.istore 9, 2) := by decide +kernel
theorem dL_law_181 : decode cL_law 181 = .ok (.aload_n 0, 1) := by decide +kernel
theorem dL_law_182 : decode cL_law 182 = .ok (.iconst 2, 1) := by decide +kernel
theorem dL_law_183 : decode cL_law 183 = .ok (.iload 8, 2) := by decide +kernel
theorem dL_law_185 : decode cL_law 185 = .ok (.imul, 1) := by decide +kernel
theorem dL_law_186 : decode cL_law 186 = .ok (.iconst 1, 1) := by decide +kernel
theorem dL_law_187 : decode cL_law 187 = .ok (.iadd, 1) := by decide +kernel
theorem dL_law_188 : decode cL_law 188 = .ok (.invokestatic 141, 3) := by decide +kernel
theorem dL_law_191 : decode cL_law 191 = .ok (.ldc 145, 2) := by decide +kernel
theorem dL_law_193 : decode cL_law 193 = .ok (.iand, 1) := by decide +kernel
theorem dL_law_194 : decode cL_law 194 = .ok (.istore 10, 2) := by decide +kernel
theorem dL_law_196 : decode cL_law 196 = .ok (.aload_n 2, 1) := by decide +kernel
theorem dL_law_197 : decode cL_law 197 = .ok (.aload 5, 2) := by decide +kernel
theorem dL_law_199 : decode cL_law 199 = .ok (.invokestatic 71, 3) := by decide +kernel
theorem dL_law_202 : decode cL_law 202 = .ok (.aload_n 3, 1) := by decide +kernel
theorem dL_law_203 : decode cL_law 203 = .ok (.aload 6, 2) := by decide +kernel
theorem dL_law_205 : decode cL_law 205 = .ok (.invokestatic 71, 3) := by decide +kernel
theorem dL_law_208 : decode cL_law 208 = .ok (.aload 4, 2) := by decide +kernel
theorem dL_law_210 : decode cL_law 210 = .ok (.aload 7, 2) := by decide +kernel
theorem dL_law_212 : decode cL_law 212 = .ok (.invokestatic 71, 3) := by decide +kernel
theorem dL_law_215 : decode cL_law 215 = .ok (.aload_n 1, 1) := by decide +kernel
theorem dL_law_216 : decode cL_law 216 = .ok (.iconst 5, 1) := by decide +kernel
theorem dL_law_217 : decode cL_law 217 = .ok (.invokevirtual 57, 3) := by decide +kernel
theorem dL_law_220 : decode cL_law 220 = .ok (.istore 11, 2) := by decide +kernel
theorem dL_law_222 : decode cL_law 222 = .ok (.aload_n 1, 1) := by decide +kernel
theorem dL_law_223 : decode cL_law 223 = .ok (.iload 8, 2) := by decide +kernel
theorem dL_law_225 : decode cL_law 225 = .ok (.iconst 1, 1) := by decide +kernel
theorem dL_law_226 : decode cL_law 226 = .ok (.if_icmp .ne 8, 3) := by decide +kernel
theorem dL_law_229 : decode cL_law 229 = .ok (.bipush 15, 2) := by decide +kernel
theorem dL_law_231 : decode cL_law 231 = .ok (.goto 36, 3) := by decide +kernel
theorem dL_law_234 : decode cL_law 234 = .ok (.iload 8, 2) := by decide +kernel
theorem dL_law_236 : decode cL_law 236 = .ok (.iconst 4, 1) := by decide +kernel
theorem dL_law_237 : decode cL_law 237 = .ok (.if_icmp .ge 8, 3) := by decide +kernel
theorem dL_law_240 : decode cL_law 240 = .ok (.bipush 10, 2) := by decide +kernel
theorem dL_law_242 : decode cL_law 242 = .ok (.goto 25, 3) := by decide +kernel
theorem dL_law_245 : decode cL_law 245 = .ok (.iload 8, 2) := by decide +kernel
theorem dL_law_247 : decode cL_law 247 = .ok (.bipush 6, 2) := by decide +kernel
theorem dL_law_249 : decode cL_law 249 = .ok (.if_icmp .ge 8, 3) := by decide +kernel
theorem dL_law_252 : decode cL_law 252 = .ok (.bipush 7, 2) := by decide +kernel
theorem dL_law_254 : decode cL_law 254 = .ok (.goto 13, 3) := by decide +kernel
theorem dL_law_257 : decode cL_law 257 = .ok (.iload 9, 2) := by decide +kernel
theorem dL_law_259 : decode cL_law 259 = .ok (.bipush 13, 2) := by decide +kernel
theorem dL_law_261 : decode cL_law 261 = .ok (.ishr, 1) := by decide +kernel
theorem dL_law_262 : decode cL_law 262 = .ok (.bipush 18, 2) := by decide +kernel
theorem dL_law_264 : decode cL_law 264 = .ok (.invokestatic 68, 3) := by decide +kernel
theorem dL_law_267 : decode cL_law 267 = .ok (.iload 9, 2) := by decide +kernel
theorem dL_law_269 : decode cL_law 269 = .ok (.iload 10, 2) := by decide +kernel
theorem dL_law_271 : decode cL_law 271 = .ok (.aload_n 2, 1) := by decide +kernel
theorem dL_law_272 : decode cL_law 272 = .ok (.aload_n 3, 1) := by decide +kernel
theorem dL_law_273 : decode cL_law 273 = .ok (.aload 4, 2) := by decide +kernel
theorem dL_law_275 : decode cL_law 275 = .ok (.invokestatic 146, 3) := by decide +kernel
theorem dL_law_278 : decode cL_law 278 = .ok (.ifCond .eq 14, 3) := by decide +kernel
theorem dL_law_281 : decode cL_law 281 = .ok (.aload_n 1, 1) := by decide +kernel
theorem dL_law_282 : decode cL_law 282 = .ok (.aload_n 2, 1) := by decide +kernel
theorem dL_law_283 : decode cL_law 283 = .ok (.aload_n 3, 1) := by decide +kernel
theorem dL_law_284 : decode cL_law 284 = .ok (.aload 4, 2) := by decide +kernel
theorem dL_law_286 : decode cL_law 286 = .ok (.invokestatic 137, 3) := by decide +kernel
theorem dL_law_289 : decode cL_law 289 = .ok (.ifCond .ne 5, 3) := by decide +kernel
theorem dL_law_292 : decode cL_law 292 = .ok (.iconst 0, 1) := by decide +kernel
theorem dL_law_293 : decode cL_law 293 = .ok (.ireturn, 1) := by decide +kernel
theorem dL_law_294 : decode cL_law 294 = .ok (.iload 11, 2) := by decide +kernel
theorem dL_law_296 : decode cL_law 296 = .ok (.bipush 8, 2) := by decide +kernel
theorem dL_law_298 : decode cL_law 298 = .ok (.if_icmp .ge 70, 3) := by decide +kernel
theorem dL_law_301 : decode cL_law 301 = .ok (.aload_n 1, 1) := by decide +kernel
theorem dL_law_302 : decode cL_law 302 = .ok (.iconst 5, 1) := by decide +kernel
theorem dL_law_303 : decode cL_law 303 = .ok (.invokevirtual 57, 3) := by decide +kernel
theorem dL_law_306 : decode cL_law 306 = .ok (.iload 11, 2) := by decide +kernel
theorem dL_law_308 : decode cL_law 308 = .ok (.iconst 1, 1) := by decide +kernel
theorem dL_law_309 : decode cL_law 309 = .ok (.iadd, 1) := by decide +kernel
theorem dL_law_310 : decode cL_law 310 = .ok (.if_icmp .ne 58, 3) := by decide +kernel
theorem dL_law_313 : decode cL_law 313 = .ok (.iload 10, 2) := by decide +kernel
theorem dL_law_315 : decode cL_law 315 = .ok (.bipush 12, 2) := by decide +kernel
theorem dL_law_317 : decode cL_law 317 = .ok (.ishr, 1) := by decide +kernel
theorem dL_law_318 : decode cL_law 318 = .ok (.iconst 5, 1) := by decide +kernel
theorem dL_law_319 : decode cL_law 319 = .ok (.invokestatic 68, 3) := by decide +kernel
theorem dL_law_322 : decode cL_law 322 = .ok (.ifCond .ne 46, 3) := by decide +kernel
theorem dL_law_325 : decode cL_law 325 = .ok (.aload_n 1, 1) := by decide +kernel
theorem dL_law_326 : decode cL_law 326 = .ok (.invokevirtual 131, 3) := by decide +kernel
theorem dL_law_329 : decode cL_law 329 = .ok (.iload 11, 2) := by decide +kernel
theorem dL_law_331 : decode cL_law 331 = .ok (.if_icmp .eq 5, 3) := by decide +kernel
theorem dL_law_334 : decode cL_law 334 = .ok (.iconst 0, 1) := by decide +kernel
theorem dL_law_335 : decode cL_law 335 = .ok (.ireturn, 1) := by decide +kernel
theorem dL_law_336 : decode cL_law 336 = .ok (.aload 5, 2) := by decide +kernel
theorem dL_law_338 : decode cL_law 338 = .ok (.aload_n 2, 1) := by decide +kernel
theorem dL_law_339 : decode cL_law 339 = .ok (.invokestatic 71, 3) := by decide +kernel
theorem dL_law_342 : decode cL_law 342 = .ok (.aload 6, 2) := by decide +kernel
theorem dL_law_344 : decode cL_law 344 = .ok (.aload_n 3, 1) := by decide +kernel
theorem dL_law_345 : decode cL_law 345 = .ok (.invokestatic 71, 3) := by decide +kernel
theorem dL_law_348 : decode cL_law 348 = .ok (.aload 7, 2) := by decide +kernel
theorem dL_law_350 : decode cL_law 350 = .ok (.aload 4, 2) := by decide +kernel
theorem dL_law_352 : decode cL_law 352 = .ok (.invokestatic 71, 3) := by decide +kernel
theorem dL_law_355 : decode cL_law 355 = .ok (.aload_n 1, 1) := by decide +kernel
theorem dL_law_356 : decode cL_law 356 = .ok (.aload_n 2, 1) := by decide +kernel
theorem dL_law_357 : decode cL_law 357 = .ok (.aload_n 3, 1) := by decide +kernel
theorem dL_law_358 : decode cL_law 358 = .ok (.aload 4, 2) := by decide +kernel
theorem dL_law_360 : decode cL_law 360 = .ok (.invokestatic 137, 3) := by decide +kernel
theorem dL_law_363 : decode cL_law 363 = .ok (.ifCond .ne 5, 3) := by decide +kernel
theorem dL_law_366 : decode cL_law 366 = .ok (.iconst 0, 1) := by decide +kernel
theorem dL_law_367 : decode cL_law 367 = .ok (.ireturn, 1) := by decide +kernel
theorem dL_law_368 : decode cL_law 368 = .ok (.iload 8, 2) := by decide +kernel
theorem dL_law_370 : decode cL_law 370 = .ok (.bipush 6, 2) := by decide +kernel
theorem dL_law_372 : decode cL_law 372 = .ok (.irem, 1) := by decide +kernel
theorem dL_law_373 : decode cL_law 373 = .ok (.iconst 5, 1) := by decide +kernel
theorem dL_law_374 : decode cL_law 374 = .ok (.if_icmp .ne 20, 3) := by decide +kernel
theorem dL_law_377 : decode cL_law 377 = .ok (.aload_n 1, 1) := by decide +kernel
theorem dL_law_378 : decode cL_law 378 = .ok (.iload 10, 2) := by decide +kernel
theorem dL_law_380 : decode cL_law 380 = .ok (.iconst 2, 1) := by decide +kernel
theorem dL_law_381 : decode cL_law 381 = .ok (.ishr, 1) := by decide +kernel
theorem dL_law_382 : decode cL_law 382 = .ok (.aload_n 2, 1) := by decide +kernel
theorem dL_law_383 : decode cL_law 383 = .ok (.aload_n 3, 1) := by decide +kernel
theorem dL_law_384 : decode cL_law 384 = .ok (.aload 4, 2) := by decide +kernel
theorem dL_law_386 : decode cL_law 386 = .ok (.invokestatic 150, 3) := by decide +kernel
theorem dL_law_389 : decode cL_law 389 = .ok (.ifCond .ne 5, 3) := by decide +kernel
theorem dL_law_392 : decode cL_law 392 = .ok (.iconst 0, 1) := by decide +kernel
theorem dL_law_393 : decode cL_law 393 = .ok (.ireturn, 1) := by decide +kernel
theorem dL_law_394 : decode cL_law 394 = .ok (.iinc 8 1, 3) := by decide +kernel
theorem dL_law_397 : decode cL_law 397 = .ok (.goto (-236), 3) := by decide +kernel
theorem dL_law_400 : decode cL_law 400 = .ok (.iconst 1, 1) := by decide +kernel
theorem dL_law_401 : decode cL_law 401 = .ok (.ireturn, 1) := by decide +kernel
