theorem dX6_putSegment_28 : decode cX6_putSegment 28 = .ok (.iconst 1, 1) := by decide +kernel
theorem dX6_putSegment_29 : decode cX6_putSegment 29 = .ok (.goto 4, 3) := by decide +kernel
theorem dX6_putSegment_32 : decode cX6_putSegment 32 = .ok (.iconst 0, 1) := by decide +kernel
theorem dX6_putSegment_33 : decode cX6_putSegment 33 = .ok (.iastore, 1) := by decide +kernel
theorem dX6_putSegment_34 : decode cX6_putSegment 34 = .ok (.aload_n 0, 1) := by decide +kernel
theorem dX6_putSegment_35 : decode cX6_putSegment 35 = .ok (.getfield 7, 3) := by decide +kernel
theorem dX6_putSegment_38 : decode cX6_putSegment 38 = .ok (.iconst 0, 1) := by decide +kernel
theorem dX6_putSegment_39 : decode cX6_putSegment 39 = .ok (.iconst 3, 1) := by decide +kernel
theorem dX6_putSegment_40 : decode cX6_putSegment 40 = .ok (.iload_n 1, 1) := by decide +kernel
theorem dX6_putSegment_41 : decode cX6_putSegment 41 = .ok (.imul, 1) := by decide +kernel
theorem dX6_putSegment_42 : decode cX6_putSegment 42 = .ok (.iadd, 1) := by decide +kernel
theorem dX6_putSegment_43 : decode cX6_putSegment 43 = .ok (.iconst 2, 1) := by decide +kernel
theorem dX6_putSegment_44 : decode cX6_putSegment 44 = .ok (.iadd, 1) := by decide +kernel
theorem dX6_putSegment_45 : decode cX6_putSegment 45 = .ok (.iconst 0, 1) := by decide +kernel
theorem dX6_putSegment_46 : decode cX6_putSegment 46 = .ok (.iastore, 1) := by decide +kernel
theorem dX6_putSegment_47 : decode cX6_putSegment 47 = .ok (.return_, 1) := by decide +kernel
theorem dX6_isTrain_0 : decode cX6_isTrain 0 = .ok (.iload_n 1, 1) := by decide +kernel
theorem dX6_isTrain_1 : decode cX6_isTrain 1 = .ok (.iconst 0, 1) := by decide +kernel
theorem dX6_isTrain_2 : decode cX6_isTrain 2 = .ok (.aload_n 0, 1) := by decide +kernel
theorem dX6_isTrain_3 : decode cX6_isTrain 3 = .ok (.getfield 7, 3) := by decide +kernel
theorem dX6_isTrain_6 : decode cX6_isTrain 6 = .ok (.bipush 73, 2) := by decide +kernel
theorem dX6_isTrain_8 : decode cX6_isTrain 8 = .ok (.iaload, 1) := by decide +kernel
theorem dX6_isTrain_9 : decode cX6_isTrain 9 = .ok (.iconst 1, 1) := by decide +kernel
theorem dX6_isTrain_10 : decode cX6_isTrain 10 = .ok (.isub, 1) := by decide +kernel
theorem dX6_isTrain_11 : decode cX6_isTrain 11 = .ok (.invokestatic 29, 3) := by decide +kernel
theorem dX6_isTrain_14 : decode cX6_isTrain 14 = .ok (.ireturn, 1) := by decide +kernel
theorem dX6_isSegment_0 : decode cX6_isSegment 0 = .ok (.iload_n 1, 1) := by decide +kernel
theorem dX6_isSegment_1 : decode cX6_isSegment 1 = .ok (.iconst 0, 1) := by decide +kernel
theorem dX6_isSegment_2 : decode cX6_isSegment 2 = .ok (.aload_n 0, 1) := by decide +kernel
theorem dX6_isSegment_3 : decode cX6_isSegment 3 = .ok (.getfield 7, 3) := by decide +kernel
theorem dX6_isSegment_6 : decode cX6_isSegment 6 = .ok (.bipush 72, 2) := by decide +kernel
theorem dX6_isSegment_8 : decode cX6_isSegment 8 = .ok (.iaload, 1) := by decide +kernel
theorem dX6_isSegment_9 : decode cX6_isSegment 9 = .ok (.iconst 1, 1) := by decide +kernel
theorem dX6_isSegment_10 : decode cX6_isSegment 10 = .ok (.isub, 1) := by decide +kernel
theorem dX6_isSegment_11 : decode cX6_isSegment 11 = .ok (.invokestatic 29, 3) := by decide +kernel
theorem dX6_isSegment_14 : decode cX6_isSegment 14 = .ok (.ireturn, 1) := by decide +kernel
theorem dX6_copy_0 : decode cX6_copy 0 = .ok (.iconst 0, 1) := by decide +kernel
theorem dX6_copy_1 : decode cX6_copy 1 = .ok (.istore 5, 2) := by decide +kernel
theorem dX6_copy_3 : decode cX6_copy 3 = .ok (.iload 5, 2) := by decide +kernel
theorem dX6_copy_5 : decode cX6_copy 5 = .ok (.bipush 82, 2) := by decide +kernel
theorem dX6_copy_7 : decode cX6_copy 7 = .ok (.if_icmp .ge 22, 3) := by decide +kernel
theorem dX6_copy_10 : decode cX6_copy 10 = .ok (.aload_n 3, 1) := by decide +kernel
theorem dX6_copy_11 : decode cX6_copy 11 = .ok (.iload 4, 2) := by decide +kernel
theorem dX6_copy_13 : decode cX6_copy 13 = .ok (.iload 5, 2) := by decide +kernel
theorem dX6_copy_15 : decode cX6_copy 15 = .ok (.iadd, 1) := by decide +kernel
theorem dX6_copy_16 : decode cX6_copy 16 = .ok (.aload_n 1, 1) := by decide +kernel
theorem dX6_copy_17 : decode cX6_copy 17 = .ok (.iload_n 2, 1) := by decide +kernel
theorem dX6_copy_18 : decode cX6_copy 18 = .ok (.iload 5, 2) := by decide +kernel
theorem dX6_copy_20 : decode cX6_copy 20 = .ok (.iadd, 1) := by decide +kernel
theorem dX6_copy_21 : decode cX6_copy 21 = .ok (.iaload, 1) := by decide +kernel
theorem dX6_copy_22 : decode cX6_copy 22 = .ok (.iastore, 1) := by decide +kernel
theorem dX6_copy_23 : decode cX6_copy 23 = .ok (.iinc 5 1, 3) := by decide +kernel
theorem dX6_copy_26 : decode cX6_copy 26 = .ok (.goto (-23), 3) := by decide +kernel
theorem dX6_copy_29 : decode cX6_copy 29 = .ok (.return_, 1) := by decide +kernel
theorem dX6_record_0 : decode cX6_record 0 = .ok (.aload_n 0, 1) := by decide +kernel
theorem dX6_record_1 : decode cX6_record 1 = .ok (.getfield 33, 3) := by decide +kernel
theorem dX6_record_4 : decode cX6_record 4 = .ok (.bipush 8, 2) := by decide +kernel
theorem dX6_record_6 : decode cX6_record 6 = .ok (.if_icmp .ne 44, 3) := by decide +kernel
theorem dX6_record_9 : decode cX6_record 9 = .ok (.bipush 82, 2) := by decide +kernel
theorem dX6_record_11 : decode cX6_record 11 = .ok (.istore_n 1, 1) := by decide +kernel
theorem dX6_record_12 : decode cX6_record 12 = .ok (.iload_n 1, 1) := by decide +kernel
theorem dX6_record_13 : decode cX6_record 13 = .ok (.sipush 656, 3) := by decide +kernel
theorem dX6_record_16 : decode cX6_record 16 = .ok (.if_icmp .ge 24, 3) := by decide +kernel
theorem dX6_record_19 : decode cX6_record 19 = .ok (.aload_n 0, 1) := by decide +kernel
theorem dX6_record_20 : decode cX6_record 20 = .ok (.getfield 16, 3) := by decide +kernel
theorem dX6_record_23 : decode cX6_record 23 = .ok (.iload_n 1, 1) := by decide +kernel
theorem dX6_record_24 : decode cX6_record 24 = .ok (.bipush 82, 2) := by decide +kernel
theorem dX6_record_26 : decode cX6_record 26 = .ok (.isub, 1) := by decide +kernel
theorem dX6_record_27 : decode cX6_record 27 = .ok (.aload_n 0, 1) := by decide +kernel
theorem dX6_record_28 : decode cX6_record 28 = .ok (.getfield 16, 3) := by decide +kernel
theorem dX6_record_31 : decode cX6_record 31 = .ok (.iload_n 1, 1) := by decide +kernel
theorem dX6_record_32 : decode cX6_record 32 = .ok (.iaload, 1) := by decide +kernel
theorem dX6_record_33 : decode cX6_record 33 = .ok (.iastore, 1) := by decide +kernel
theorem dX6_record_34 : decode cX6_record 34 = .ok (.iinc 1 1, 3) := by decide +kernel
theorem dX6_record_37 : decode cX6_record 37 = .ok (.goto (-25), 3) := by decide +kernel
theorem dX6_record_40 : decode cX6_record 40 = .ok (.aload_n 0, 1) := by decide +kernel
theorem dX6_record_41 : decode cX6_record 41 = .ok (.dup, 1) := by decide +kernel
theorem dX6_record_42 : decode cX6_record 42 = .ok (.getfield 33, 3) := by decide +kernel
theorem dX6_record_45 : decode cX6_record 45 = .ok (.iconst 1, 1) := by decide +kernel
theorem dX6_record_46 : decode cX6_record 46 = .ok (.isub, 1) := by decide +kernel
theorem dX6_record_47 : decode cX6_record 47 = .ok (.putfield 33, 3) := by decide +kernel
theorem dX6_record_50 : decode cX6_record 50 = .ok (.aload_n 0, 1) := by decide +kernel
theorem dX6_record_51 : decode cX6_record 51 = .ok (.aload_n 0, 1) := by decide +kernel
theorem dX6_record_52 : decode cX6_record 52 = .ok (.getfield 7, 3) := by decide +kernel
theorem dX6_record_55 : decode cX6_record 55 = .ok (.iconst 0, 1) := by decide +kernel
theorem dX6_record_56 : decode cX6_record 56 = .ok (.aload_n 0, 1) := by decide +kernel
theorem dX6_record_57 : decode cX6_record 57 = .ok (.getfield 16, 3) := by decide +kernel
theorem dX6_record_60 : decode cX6_record 60 = .ok (.bipush 82, 2) := by decide +kernel
theorem dX6_record_62 : decode cX6_record 62 = .ok (.aload_n 0, 1) := by decide +kernel
theorem dX6_record_63 : decode cX6_record 63 = .ok (.getfield 33, 3) := by decide +kernel
theorem dX6_record_66 : decode cX6_record 66 = .ok (.imul, 1) := by decide +kernel
theorem dX6_record_67 : decode cX6_record 67 = .ok (.invokevirtual 37, 3) := by decide +kernel
theorem dX6_record_70 : decode cX6_record 70 = .ok (.aload_n 0, 1) := by decide +kernel
theorem dX6_record_71 : decode cX6_record 71 = .ok (.dup, 1) := by decide +kernel
theorem dX6_record_72 : decode cX6_record 72 = .ok (.getfield 33, 3) := by decide +kernel
theorem dX6_record_75 : decode cX6_record 75 = .ok (.iconst 1, 1) := by decide +kernel
theorem dX6_record_76 : decode cX6_record 76 = .ok (.iadd, 1) := by decide +kernel
theorem dX6_record_77 : decode cX6_record 77 = .ok (.putfield 33, 3) := by decide +kernel
theorem dX6_record_80 : decode cX6_record 80 = .ok (.return_, 1) := by decide +kernel
theorem dX6_type_0 : decode cX6_type 0 = .ok (.iload_n 1, 1) := by decide +kernel
theorem dX6_type_1 : decode cX6_type 1 = .ok (.bipush 32, 2) := by decide +kernel
theorem dX6_type_3 : decode cX6_type 3 = .ok (.bipush 126, 2) := by decide +kernel
theorem dX6_type_5 : decode cX6_type 5 = .ok (.invokestatic 29, 3) := by decide +kernel
theorem dX6_type_8 : decode cX6_type 8 = .ok (.ifCond .ne 6, 3) := by decide +kernel
theorem dX6_type_11 : decode cX6_type 11 = .ok (.bipush (-2), 2) := by decide +kernel
theorem dX6_type_13 : decode cX6_type 13 = .ok (.ireturn, 1) := by decide +kernel
theorem dX6_type_14 : decode cX6_type 14 = .ok (.aload_n 0, 1) := by decide +kernel
theorem dX6_type_15 : decode cX6_type 15 = .ok (.getfield 41, 3) := by decide +kernel
theorem dX6_type_18 : decode cX6_type 18 = .ok (.bipush 40, 2) := by decide +kernel
theorem dX6_type_20 : decode cX6_type 20 = .ok (.if_icmp .ne 6, 3) := by decide +kernel
theorem dX6_type_23 : decode cX6_type 23 = .ok (.bipush (-4), 2) := by decide +kernel
theorem dX6_type_25 : decode cX6_type 25 = .ok (.ireturn, 1) := by decide +kernel
theorem dX6_type_26 : decode cX6_type 26 = .ok (.aload_n 0, 1) := by decide +kernel
theorem dX6_type_27 : decode cX6_type 27 = .ok (.getfield 22, 3) := by decide +kernel
theorem dX6_type_30 : decode cX6_type 30 = .ok (.aload_n 0, 1) := by decide +kernel
theorem dX6_type_31 : decode cX6_type 31 = .ok (.getfield 41, 3) := by decide +kernel
theorem dX6_type_34 : decode cX6_type 34 = .ok (.iload_n 1, 1) := by decide +kernel
theorem dX6_type_35 : decode cX6_type 35 = .ok (.iastore, 1) := by decide +kernel
theorem dX6_type_36 : decode cX6_type 36 = .ok (.aload_n 0, 1) := by decide +kernel
theorem dX6_type_37 : decode cX6_type 37 = .ok (.dup, 1) := by decide +kernel
theorem dX6_type_38 : decode cX6_type 38 = .ok (.getfield 41, 3) := by decide +kernel
theorem dX6_type_41 : decode cX6_type 41 = .ok (.iconst 1, 1) := by decide +kernel
theorem dX6_type_42 : decode cX6_type 42 = .ok (.iadd, 1) := by decide +kernel
theorem dX6_type_43 : decode cX6_type 43 = .ok (.putfield 41, 3) := by decide +kernel
theorem dX6_type_46 : decode cX6_type 46 = .ok (.aload_n 0, 1) := by decide +kernel
theorem dX6_type_47 : decode cX6_type 47 = .ok (.getfield 41, 3) := by decide +kernel
theorem dX6_type_50 : decode cX6_type 50 = .ok (.ireturn, 1) := by decide +kernel
theorem dX6_clear_0 : decode cX6_clear 0 = .ok (.aload_n 0, 1) := by decide +kernel
theorem dX6_clear_1 : decode cX6_clear 1 = .ok (.getfield 41, 3) := by decide +kernel
theorem dX6_clear_4 : decode cX6_clear 4 = .ok (.istore_n 1, 1) := by decide +kernel
theorem dX6_clear_5 : decode cX6_clear 5 = .ok (.aload_n 0, 1) := by decide +kernel
theorem dX6_clear_6 : decode cX6_clear 6 = .ok (.iconst 0, 1) := by decide +kernel
theorem dX6_clear_7 : decode cX6_clear 7 = .ok (.putfield 41, 3) := by decide +kernel
theorem dX6_clear_10 : decode cX6_clear 10 = .ok (.iload_n 1, 1) := by decide +kernel
theorem dX6_clear_11 : decode cX6_clear 11 = .ok (.ireturn, 1) := by decide +kernel
theorem dX6_takes_0 : decode cX6_takes 0 = .ok (.aload_n 0, 1) := by decide +kernel
theorem dX6_takes_1 : decode cX6_takes 1 = .ok (.getfield 44, 3) := by decide +kernel
theorem dX6_takes_4 : decode cX6_takes 4 = .ok (.ifCond .ne 45, 3) := by decide +kernel
theorem dX6_takes_7 : decode cX6_takes 7 = .ok (.iload_n 1, 1) := by decide +kernel
theorem dX6_takes_8 : decode cX6_takes 8 = .ok (.bipush 48, 2) := by decide +kernel
theorem dX6_takes_10 : decode cX6_takes 10 = .ok (.bipush 57, 2) := by decide +kernel
theorem dX6_takes_12 : decode cX6_takes 12 = .ok (.invokestatic 29, 3) := by decide +kernel
theorem dX6_takes_15 : decode cX6_takes 15 = .ok (.istore_n 2, 1) := by decide +kernel
theorem dX6_takes_16 : decode cX6_takes 16 = .ok (.aload_n 0, 1) := by decide +kernel
theorem dX6_takes_17 : decode cX6_takes 17 = .ok (.dup, 1) := by decide +kernel
theorem dX6_takes_18 : decode cX6_takes 18 = .ok (.getfield 47, 3) := by decide +kernel
theorem dX6_takes_21 : decode cX6_takes 21 = .ok (.iload_n 2, 1) := by decide +kernel
theorem dX6_takes_22 : decode cX6_takes 22 = .ok (.ifCond .eq 7, 3) := by decide +kernel
theorem dX6_takes_25 : decode cX6_takes 25 = .ok (.iconst 1, 1) := by decide +kernel
theorem dX6_takes_26 : decode cX6_takes 26 = .ok (.goto 4, 3) := by decide +kernel
theorem dX6_takes_29 : decode cX6_takes 29 = .ok (.iconst 0, 1) := by decide +kernel
theorem dX6_takes_30 : decode cX6_takes 30 = .ok (.iadd, 1) := by decide +kernel
theorem dX6_takes_31 : decode cX6_takes 31 = .ok (.putfield 47, 3) := by decide +kernel
theorem dX6_takes_34 : decode cX6_takes 34 = .ok (.aload_n 0, 1) := by decide +kernel
theorem dX6_takes_35 : decode cX6_takes 35 = .ok (.iload_n 2, 1) := by decide +kernel
theorem dX6_takes_36 : decode cX6_takes 36 = .ok (.ifCond .eq 7, 3) := by decide +kernel
theorem dX6_takes_39 : decode cX6_takes 39 = .ok (.iconst 1, 1) := by decide +kernel
theorem dX6_takes_40 : decode cX6_takes 40 = .ok (.goto 4, 3) := by decide +kernel
theorem dX6_takes_43 : decode cX6_takes 43 = .ok (.iconst 0, 1) := by decide +kernel
theorem dX6_takes_44 : decode cX6_takes 44 = .ok (.putfield 44, 3) := by decide +kernel
theorem dX6_takes_47 : decode cX6_takes 47 = .ok (.iload_n 2, 1) := by decide +kernel
theorem dX6_takes_48 : decode cX6_takes 48 = .ok (.ireturn, 1) := by decide +kernel
theorem dX6_takes_49 : decode cX6_takes 49 = .ok (.iload_n 1, 1) := by decide +kernel
theorem dX6_takes_50 : decode cX6_takes 50 = .ok (.bipush 112, 2) := by decide +kernel
theorem dX6_takes_52 : decode cX6_takes 52 = .ok (.if_icmp .ne 18, 3) := by decide +kernel
theorem dX6_takes_55 : decode cX6_takes 55 = .ok (.aload_n 0, 1) := by decide +kernel
theorem dX6_takes_56 : decode cX6_takes 56 = .ok (.getfield 44, 3) := by decide +kernel
theorem dX6_takes_59 : decode cX6_takes 59 = .ok (.iconst 1, 1) := by decide +kernel
theorem dX6_takes_60 : decode cX6_takes 60 = .ok (.if_icmp .ne 10, 3) := by decide +kernel
theorem dX6_takes_63 : decode cX6_takes 63 = .ok (.aload_n 0, 1) := by decide +kernel
theorem dX6_takes_64 : decode cX6_takes 64 = .ok (.iconst 2, 1) := by decide +kernel
theorem dX6_takes_65 : decode cX6_takes 65 = .ok (.putfield 44, 3) := by decide +kernel
theorem dX6_takes_68 : decode cX6_takes 68 = .ok (.iconst 1, 1) := by decide +kernel
theorem dX6_takes_69 : decode cX6_takes 69 = .ok (.ireturn, 1) := by decide +kernel
theorem dX6_takes_70 : decode cX6_takes 70 = .ok (.iload_n 1, 1) := by decide +kernel
theorem dX6_takes_71 : decode cX6_takes 71 = .ok (.bipush 44, 2) := by decide +kernel
theorem dX6_takes_73 : decode cX6_takes 73 = .ok (.if_icmp .ne 16, 3) := by decide +kernel
theorem dX6_takes_76 : decode cX6_takes 76 = .ok (.aload_n 0, 1) := by decide +kernel
theorem dX6_takes_77 : decode cX6_takes 77 = .ok (.getfield 47, 3) := by decide +kernel
theorem dX6_takes_80 : decode cX6_takes 80 = .ok (.bipush 12, 2) := by decide +kernel
theorem dX6_takes_82 : decode cX6_takes 82 = .ok (.if_icmp .ge 7, 3) := by decide +kernel
theorem dX6_takes_85 : decode cX6_takes 85 = .ok (.iconst 1, 1) := by decide +kernel
theorem dX6_takes_86 : decode cX6_takes 86 = .ok (.goto 4, 3) := by decide +kernel
theorem dX6_takes_89 : decode cX6_takes 89 = .ok (.iconst 0, 1) := by decide +kernel
theorem dX6_takes_90 : decode cX6_takes 90 = .ok (.istore_n 2, 1) := by decide +kernel
theorem dX6_takes_91 : decode cX6_takes 91 = .ok (.aload_n 0, 1) := by decide +kernel
theorem dX6_takes_92 : decode cX6_takes 92 = .ok (.iload_n 2, 1) := by decide +kernel
theorem dX6_takes_93 : decode cX6_takes 93 = .ok (.ifCond .eq 7, 3) := by decide +kernel
theorem dX6_takes_96 : decode cX6_takes 96 = .ok (.iconst 0, 1) := by decide +kernel
theorem dX6_takes_97 : decode cX6_takes 97 = .ok (.goto 7, 3) := by decide +kernel
theorem dX6_takes_100 : decode cX6_takes 100 = .ok (.aload_n 0, 1) := by decide +kernel
theorem dX6_takes_101 : decode cX6_takes 101 = .ok (.getfield 44, 3) := by decide +kernel
theorem dX6_takes_104 : decode cX6_takes 104 = .ok (.putfield 44, 3) := by decide +kernel
theorem dX6_takes_107 : decode cX6_takes 107 = .ok (.iload_n 2, 1) := by decide +kernel
theorem dX6_takes_108 : decode cX6_takes 108 = .ok (.ireturn, 1) := by decide +kernel
theorem dX6_faultNow_0 : decode cX6_faultNow 0 = .ok (.aload_n 0, 1) := by decide +kernel
theorem dX6_faultNow_1 : decode cX6_faultNow 1 = .ok (.iconst 0, 1) := by decide +kernel
theorem dX6_faultNow_2 : decode cX6_faultNow 2 = .ok (.putfield 47, 3) := by decide +kernel
theorem dX6_faultNow_5 : decode cX6_faultNow 5 = .ok (.aload_n 0, 1) := by decide +kernel
theorem dX6_faultNow_6 : decode cX6_faultNow 6 = .ok (.iconst 0, 1) := by decide +kernel
theorem dX6_faultNow_7 : decode cX6_faultNow 7 = .ok (.putfield 44, 3) := by decide +kernel
theorem dX6_faultNow_10 : decode cX6_faultNow 10 = .ok (.iconst 0, 1) := by decide +kernel
theorem dX6_faultNow_11 : decode cX6_faultNow 11 = .ok (.istore_n 1, 1) := by decide +kernel
theorem dX6_faultNow_12 : decode cX6_faultNow 12 = .ok (.iload_n 1, 1) := by decide +kernel
theorem dX6_faultNow_13 : decode cX6_faultNow 13 = .ok (.aload_n 0, 1) := by decide +kernel
theorem dX6_faultNow_14 : decode cX6_faultNow 14 = .ok (.getfield 41, 3) := by decide +kernel
theorem dX6_faultNow_17 : decode cX6_faultNow 17 = .ok (.if_icmp .ge 22, 3) := by decide +kernel
theorem dX6_faultNow_20 : decode cX6_faultNow 20 = .ok (.aload_n 0, 1) := by decide +kernel
theorem dX6_faultNow_21 : decode cX6_faultNow 21 = .ok (.aload_n 0, 1) := by decide +kernel
theorem dX6_faultNow_22 : decode cX6_faultNow 22 = .ok (.getfield 22, 3) := by decide +kernel
theorem dX6_faultNow_25 : decode cX6_faultNow 25 = .ok (.iload_n 1, 1) := by decide +kernel
theorem dX6_faultNow_26 : decode cX6_faultNow 26 = .ok (.iaload, 1) := by decide +kernel
theorem dX6_faultNow_27 : decode cX6_faultNow 27 = .ok (.invokevirtual 50, 3) := by decide +kernel
theorem dX6_faultNow_30 : decode cX6_faultNow 30 = .ok (.ifCond .eq 9, 3) := by decide +kernel
theorem dX6_faultNow_33 : decode cX6_faultNow 33 = .ok (.iinc 1 1, 3) := by decide +kernel
theorem dX6_faultNow_36 : decode cX6_faultNow 36 = .ok (.goto (-24), 3) := by decide +kernel
theorem dX6_faultNow_39 : decode cX6_faultNow 39 = .ok (.iload_n 1, 1) := by decide +kernel
theorem dX6_faultNow_40 : decode cX6_faultNow 40 = .ok (.aload_n 0, 1) := by decide +kernel
theorem dX6_faultNow_41 : decode cX6_faultNow 41 = .ok (.getfield 41, 3) := by decide +kernel
theorem dX6_faultNow_44 : decode cX6_faultNow 44 = .ok (.if_icmp .lt 18, 3) := by decide +kernel
theorem dX6_faultNow_47 : decode cX6_faultNow 47 = .ok (.aload_n 0, 1) := by decide +kernel
theorem dX6_faultNow_48 : decode cX6_faultNow 48 = .ok (.getfield 44, 3) := by decide +kernel
theorem dX6_faultNow_51 : decode cX6_faultNow 51 = .ok (.ifCond .eq 11, 3) := by decide +kernel
theorem dX6_faultNow_54 : decode cX6_faultNow 54 = .ok (.aload_n 0, 1) := by decide +kernel
theorem dX6_faultNow_55 : decode cX6_faultNow 55 = .ok (.getfield 47, 3) := by decide +kernel
theorem dX6_faultNow_58 : decode cX6_faultNow 58 = .ok (.iconst 3, 1) := by decide +kernel
theorem dX6_faultNow_59 : decode cX6_faultNow 59 = .ok (.if_icmp .ge 7, 3) := by decide +kernel
theorem dX6_faultNow_62 : decode cX6_faultNow 62 = .ok (.iload_n 1, 1) := by decide +kernel
theorem dX6_faultNow_63 : decode cX6_faultNow 63 = .ok (.goto 4, 3) := by decide +kernel
theorem dX6_faultNow_66 : decode cX6_faultNow 66 = .ok (.iconst (-1), 1) := by decide +kernel
theorem dX6_faultNow_67 : decode cX6_faultNow 67 = .ok (.ireturn, 1) := by decide +kernel
theorem dX6_fault_0 : decode cX6_fault 0 = .ok (.aload_n 0, 1) := by decide +kernel
theorem dX6_fault_1 : decode cX6_fault 1 = .ok (.invokevirtual 54, 3) := by decide +kernel
theorem dX6_fault_4 : decode cX6_fault 4 = .ok (.ireturn, 1) := by decide +kernel
theorem dX6_peatInTrains_0 : decode cX6_peatInTrains 0 = .ok (.iconst 0, 1) := by decide +kernel
theorem dX6_peatInTrains_1 : decode cX6_peatInTrains 1 = .ok (.istore_n 1, 1) := by decide +kernel
theorem dX6_peatInTrains_2 : decode cX6_peatInTrains 2 = .ok (.iconst 0, 1) := by decide +kernel
theorem dX6_peatInTrains_3 : decode cX6_peatInTrains 3 = .ok (.istore_n 2, 1) := by decide +kernel
theorem dX6_peatInTrains_4 : decode cX6_peatInTrains 4 = .ok (.iload_n 2, 1) := by decide +kernel
theorem dX6_peatInTrains_5 : decode cX6_peatInTrains 5 = .ok (.aload_n 0, 1) := by decide +kernel
theorem dX6_peatInTrains_6 : decode cX6_peatInTrains 6 = .ok (.getfield 7, 3) := by decide +kernel
theorem dX6_peatInTrains_9 : decode cX6_peatInTrains 9 = .ok (.bipush 73, 2) := by decide +kernel
theorem dX6_peatInTrains_11 : decode cX6_peatInTrains 11 = .ok (.iaload, 1) := by decide +kernel
theorem dX6_peatInTrains_12 : decode cX6_peatInTrains 12 = .ok (.if_icmp .ge 18, 3) := by decide +kernel
theorem dX6_peatInTrains_15 : decode cX6_peatInTrains 15 = .ok (.iload_n 1, 1) := by decide +kernel
theorem dX6_peatInTrains_16 : decode cX6_peatInTrains 16 = .ok (.aload_n 0, 1) := by decide +kernel
theorem dX6_peatInTrains_17 : decode cX6_peatInTrains 17 = .ok (.iload_n 2, 1) := by decide +kernel
theorem dX6_peatInTrains_18 : decode cX6_peatInTrains 18 = .ok (.iconst 2, 1) := by decide +kernel
theorem dX6_peatInTrains_19 : decode cX6_peatInTrains 19 = .ok (.invokevirtual 58, 3) := by decide +kernel
theorem dX6_peatInTrains_22 : decode cX6_peatInTrains 22 = .ok (.iadd, 1) := by decide +kernel
theorem dX6_peatInTrains_23 : decode cX6_peatInTrains 23 = .ok (.istore_n 1, 1) := by decide +kernel
theorem dX6_peatInTrains_24 : decode cX6_peatInTrains 24 = .ok (.iinc 2 1, 3) := by decide +kernel
theorem dX6_peatInTrains_27 : decode cX6_peatInTrains 27 = .ok (.goto (-23), 3) := by decide +kernel
theorem dX6_peatInTrains_30 : decode cX6_peatInTrains 30 = .ok (.iload_n 1, 1) := by decide +kernel
theorem dX6_peatInTrains_31 : decode cX6_peatInTrains 31 = .ok (.ireturn, 1) := by decide +kernel
theorem dX6_layTrack_0 : decode cX6_layTrack 0 = .ok (.aload_n 0, 1) := by decide +kernel
theorem dX6_layTrack_1 : decode cX6_layTrack 1 = .ok (.invokevirtual 54, 3) := by decide +kernel
theorem dX6_layTrack_4 : decode cX6_layTrack 4 = .ok (.iconst (-1), 1) := by decide +kernel
theorem dX6_layTrack_5 : decode cX6_layTrack 5 = .ok (.if_icmp .eq 6, 3) := by decide +kernel
theorem dX6_layTrack_8 : decode cX6_layTrack 8 = .ok (.bipush (-3), 2) := by decide +kernel
theorem dX6_layTrack_10 : decode cX6_layTrack 10 = .ok (.ireturn, 1) := by decide +kernel
theorem dX6_layTrack_11 : decode cX6_layTrack 11 = .ok (.aload_n 0, 1) := by decide +kernel
theorem dX6_layTrack_12 : decode cX6_layTrack 12 = .ok (.invokevirtual 62, 3) := by decide +kernel
theorem dX6_layTrack_15 : decode cX6_layTrack 15 = .ok (.aload_n 0, 1) := by decide +kernel
theorem dX6_layTrack_16 : decode cX6_layTrack 16 = .ok (.getfield 7, 3) := by decide +kernel
theorem dX6_layTrack_19 : decode cX6_layTrack 19 = .ok (.bipush 81, 2) := by decide +kernel
theorem dX6_layTrack_21 : decode cX6_layTrack 21 = .ok (.dup2, 1) := by decide +kernel
theorem dX6_layTrack_22 : decode cX6_layTrack 22 = .ok (.iaload, 1) := by decide +kernel
theorem dX6_layTrack_23 : decode cX6_layTrack 23 = .ok (.aload_n 0, 1) := by decide +kernel
theorem dX6_layTrack_24 : decode cX6_layTrack 24 = .ok (.invokevirtual 65, 3) := by decide +kernel
theorem dX6_layTrack_27 : decode cX6_layTrack 27 = .ok (.iadd, 1) := by decide +kernel
theorem dX6_layTrack_28 : decode cX6_layTrack 28 = .ok (.iastore, 1) := by decide +kernel
theorem dX6_layTrack_29 : decode cX6_layTrack 29 = .ok (.aload_n 0, 1) := by decide +kernel
theorem dX6_layTrack_30 : decode cX6_layTrack 30 = .ok (.getfield 7, 3) := by decide +kernel
theorem dX6_layTrack_33 : decode cX6_layTrack 33 = .ok (.bipush 73, 2) := by decide +kernel
theorem dX6_layTrack_35 : decode cX6_layTrack 35 = .ok (.iconst 0, 1) := by decide +kernel
theorem dX6_layTrack_36 : decode cX6_layTrack 36 = .ok (.iastore, 1) := by decide +kernel
theorem dX6_layTrack_37 : decode cX6_layTrack 37 = .ok (.aload_n 0, 1) := by decide +kernel
theorem dX6_layTrack_38 : decode cX6_layTrack 38 = .ok (.getfield 7, 3) := by decide +kernel
theorem dX6_layTrack_41 : decode cX6_layTrack 41 = .ok (.bipush 72, 2) := by decide +kernel
theorem dX6_layTrack_43 : decode cX6_layTrack 43 = .ok (.iconst 0, 1) := by decide +kernel
theorem dX6_layTrack_44 : decode cX6_layTrack 44 = .ok (.iastore, 1) := by decide +kernel
theorem dX6_layTrack_45 : decode cX6_layTrack 45 = .ok (.iconst 0, 1) := by decide +kernel
theorem dX6_layTrack_46 : decode cX6_layTrack 46 = .ok (.istore_n 1, 1) := by decide +kernel
theorem dX6_layTrack_47 : decode cX6_layTrack 47 = .ok (.iload_n 1, 1) := by decide +kernel
theorem dX6_layTrack_48 : decode cX6_layTrack 48 = .ok (.aload_n 0, 1) := by decide +kernel
theorem dX6_layTrack_49 : decode cX6_layTrack 49 = .ok (.getfield 41, 3) := by decide +kernel
theorem dX6_layTrack_52 : decode cX6_layTrack 52 = .ok (.if_icmp .ge 106, 3) := by decide +kernel
theorem dX6_layTrack_55 : decode cX6_layTrack 55 = .ok (.aload_n 0, 1) := by decide +kernel
theorem dX6_layTrack_56 : decode cX6_layTrack 56 = .ok (.getfield 22, 3) := by decide +kernel
theorem dX6_layTrack_59 : decode cX6_layTrack 59 = .ok (.iload_n 1, 1) := by decide +kernel
theorem dX6_layTrack_60 : decode cX6_layTrack 60 = .ok (.iaload, 1) := by decide +kernel
theorem dX6_layTrack_61 : decode cX6_layTrack 61 = .ok (.bipush 48, 2) := by decide +kernel
theorem dX6_layTrack_63 : decode cX6_layTrack 63 = .ok (.bipush 57, 2) := by decide +kernel
theorem dX6_layTrack_65 : decode cX6_layTrack 65 = .ok (.invokestatic 29, 3) := by decide +kernel
theorem dX6_layTrack_68 : decode cX6_layTrack 68 = .ok (.ifCond .eq 52, 3) := by decide +kernel
theorem dX6_layTrack_71 : decode cX6_layTrack 71 = .ok (.aload_n 0, 1) := by decide +kernel
theorem dX6_layTrack_72 : decode cX6_layTrack 72 = .ok (.aload_n 0, 1) := by decide +kernel
theorem dX6_layTrack_73 : decode cX6_layTrack 73 = .ok (.getfield 7, 3) := by decide +kernel
theorem dX6_layTrack_76 : decode cX6_layTrack 76 = .ok (.bipush 72, 2) := by decide +kernel
theorem dX6_layTrack_78 : decode cX6_layTrack 78 = .ok (.iaload, 1) := by decide +kernel
theorem dX6_layTrack_79 : decode cX6_layTrack 79 = .ok (.aload_n 0, 1) := by decide +kernel
theorem dX6_layTrack_80 : decode cX6_layTrack 80 = .ok (.getfield 22, 3) := by decide +kernel
theorem dX6_layTrack_83 : decode cX6_layTrack 83 = .ok (.iload_n 1, 1) := by decide +kernel
theorem dX6_layTrack_84 : decode cX6_layTrack 84 = .ok (.iaload, 1) := by decide +kernel
theorem dX6_layTrack_85 : decode cX6_layTrack 85 = .ok (.bipush 48, 2) := by decide +kernel
theorem dX6_layTrack_87 : decode cX6_layTrack 87 = .ok (.isub, 1) := by decide +kernel
theorem dX6_layTrack_88 : decode cX6_layTrack 88 = .ok (.aload_n 0, 1) := by decide +kernel
theorem dX6_layTrack_89 : decode cX6_layTrack 89 = .ok (.getfield 7, 3) := by decide +kernel
theorem dX6_layTrack_92 : decode cX6_layTrack 92 = .ok (.bipush 72, 2) := by decide +kernel
theorem dX6_layTrack_94 : decode cX6_layTrack 94 = .ok (.iaload, 1) := by decide +kernel
theorem dX6_layTrack_95 : decode cX6_layTrack 95 = .ok (.ifCond .ne 7, 3) := by decide +kernel
theorem dX6_layTrack_98 : decode cX6_layTrack 98 = .ok (.iconst 1, 1) := by decide +kernel
theorem dX6_layTrack_99 : decode cX6_layTrack 99 = .ok (.goto 4, 3) := by decide +kernel
theorem dX6_layTrack_102 : decode cX6_layTrack 102 = .ok (.iconst 0, 1) := by decide +kernel
theorem dX6_layTrack_103 : decode cX6_layTrack 103 = .ok (.invokevirtual 25, 3) := by decide +kernel
theorem dX6_layTrack_106 : decode cX6_layTrack 106 = .ok (.aload_n 0, 1) := by decide +kernel
theorem dX6_layTrack_107 : decode cX6_layTrack 107 = .ok (.getfield 7, 3) := by decide +kernel
theorem dX6_layTrack_110 : decode cX6_layTrack 110 = .ok (.bipush 72, 2) := by decide +kernel
theorem dX6_layTrack_112 : decode cX6_layTrack 112 = .ok (.dup2, 1) := by decide +kernel
theorem dX6_layTrack_113 : decode cX6_layTrack 113 = .ok (.iaload, 1) := by decide +kernel
theorem dX6_layTrack_114 : decode cX6_layTrack 114 = .ok (.iconst 1, 1) := by decide +kernel
theorem dX6_layTrack_115 : decode cX6_layTrack 115 = .ok (.iadd, 1) := by decide +kernel
theorem dX6_layTrack_116 : decode cX6_layTrack 116 = .ok (.iastore, 1) := by decide +kernel
theorem dX6_layTrack_117 : decode cX6_layTrack 117 = .ok (.goto 35, 3) := by decide +kernel
theorem dX6_layTrack_120 : decode cX6_layTrack 120 = .ok (.aload_n 0, 1) := by decide +kernel
theorem dX6_layTrack_121 : decode cX6_layTrack 121 = .ok (.getfield 22, 3) := by decide +kernel
theorem dX6_layTrack_124 : decode cX6_layTrack 124 = .ok (.iload_n 1, 1) := by decide +kernel
theorem dX6_layTrack_125 : decode cX6_layTrack 125 = .ok (.iaload, 1) := by decide +kernel
theorem dX6_layTrack_126 : decode cX6_layTrack 126 = .ok (.bipush 112, 2) := by decide +kernel
theorem dX6_layTrack_128 : decode cX6_layTrack 128 = .ok (.if_icmp .ne 24, 3) := by decide +kernel
theorem dX6_layTrack_131 : decode cX6_layTrack 131 = .ok (.aload_n 0, 1) := by decide +kernel
theorem dX6_layTrack_132 : decode cX6_layTrack 132 = .ok (.getfield 7, 3) := by decide +kernel
theorem dX6_layTrack_135 : decode cX6_layTrack 135 = .ok (.iconst 0, 1) := by decide +kernel
theorem dX6_layTrack_136 : decode cX6_layTrack 136 = .ok (.iconst 3, 1) := by decide +kernel
theorem dX6_layTrack_137 : decode cX6_layTrack 137 = .ok (.aload_n 0, 1) := by decide +kernel
theorem dX6_layTrack_138 : decode cX6_layTrack 138 = .ok (.getfield 7, 3) := by decide +kernel
theorem dX6_layTrack_141 : decode cX6_layTrack 141 = .ok (.bipush 72, 2) := by decide +kernel
theorem dX6_layTrack_143 : decode cX6_layTrack 143 = .ok (.iaload, 1) := by decide +kernel
theorem dX6_layTrack_144 : decode cX6_layTrack 144 = .ok (.iconst 1, 1) := by decide +kernel
theorem dX6_layTrack_145 : decode cX6_layTrack 145 = .ok (.isub, 1) := by decide +kernel
theorem dX6_layTrack_146 : decode cX6_layTrack 146 = .ok (.imul, 1) := by decide +kernel
theorem dX6_layTrack_147 : decode cX6_layTrack 147 = .ok (.iadd, 1) := by decide +kernel
theorem dX6_layTrack_148 : decode cX6_layTrack 148 = .ok (.iconst 1, 1) := by decide +kernel
theorem dX6_layTrack_149 : decode cX6_layTrack 149 = .ok (.iadd, 1) := by decide +kernel
theorem dX6_layTrack_150 : decode cX6_layTrack 150 = .ok (.iconst 1, 1) := by decide +kernel
theorem dX6_layTrack_151 : decode cX6_layTrack 151 = .ok (.iastore, 1) := by decide +kernel
theorem dX6_layTrack_152 : decode cX6_layTrack 152 = .ok (.iinc 1 1, 3) := by decide +kernel
theorem dX6_layTrack_155 : decode cX6_layTrack 155 = .ok (.goto (-108), 3) := by decide +kernel
theorem dX6_layTrack_158 : decode cX6_layTrack 158 = .ok (.aload_n 0, 1) := by decide +kernel
theorem dX6_layTrack_159 : decode cX6_layTrack 159 = .ok (.getfield 7, 3) := by decide +kernel
theorem dX6_layTrack_162 : decode cX6_layTrack 162 = .ok (.iconst 0, 1) := by decide +kernel
theorem dX6_layTrack_163 : decode cX6_layTrack 163 = .ok (.iconst 3, 1) := by decide +kernel
theorem dX6_layTrack_164 : decode cX6_layTrack 164 = .ok (.aload_n 0, 1) := by decide +kernel
theorem dX6_layTrack_165 : decode cX6_layTrack 165 = .ok (.getfield 7, 3) := by decide +kernel
theorem dX6_layTrack_168 : decode cX6_layTrack 168 = .ok (.bipush 72, 2) := by decide +kernel
theorem dX6_layTrack_170 : decode cX6_layTrack 170 = .ok (.iaload, 1) := by decide +kernel
theorem dX6_layTrack_171 : decode cX6_layTrack 171 = .ok (.iconst 1, 1) := by decide +kernel
theorem dX6_layTrack_172 : decode cX6_layTrack 172 = .ok (.isub, 1) := by decide +kernel
theorem dX6_layTrack_173 : decode cX6_layTrack 173 = .ok (.imul, 1) := by decide +kernel
theorem dX6_layTrack_174 : decode cX6_layTrack 174 = .ok (.iadd, 1) := by decide +kernel
theorem dX6_layTrack_175 : decode cX6_layTrack 175 = .ok (.iconst 1, 1) := by decide +kernel
theorem dX6_layTrack_176 : decode cX6_layTrack 176 = .ok (.iadd, 1) := by decide +kernel
theorem dX6_layTrack_177 : decode cX6_layTrack 177 = .ok (.iconst 1, 1) := by decide +kernel
theorem dX6_layTrack_178 : decode cX6_layTrack 178 = .ok (.iastore, 1) := by decide +kernel
theorem dX6_layTrack_179 : decode cX6_layTrack 179 = .ok (.aload_n 0, 1) := by decide +kernel
theorem dX6_layTrack_180 : decode cX6_layTrack 180 = .ok (.iconst 0, 1) := by decide +kernel
theorem dX6_layTrack_181 : decode cX6_layTrack 181 = .ok (.putfield 41, 3) := by decide +kernel
theorem dX6_layTrack_184 : decode cX6_layTrack 184 = .ok (.aload_n 0, 1) := by decide +kernel
theorem dX6_layTrack_185 : decode cX6_layTrack 185 = .ok (.getfield 7, 3) := by decide +kernel
theorem dX6_layTrack_188 : decode cX6_layTrack 188 = .ok (.bipush 72, 2) := by decide +kernel
theorem dX6_layTrack_190 : decode cX6_layTrack 190 = .ok (.iaload, 1) := by decide +kernel
theorem dX6_layTrack_191 : decode cX6_layTrack 191 = .ok (.ireturn, 1) := by decide +kernel
theorem dX6_isValue_0 : decode cX6_isValue 0 = .ok (.iload_n 0, 1) := by decide +kernel
theorem dX6_isValue_1 : decode cX6_isValue 1 = .ok (.tableswitch 52 0 2 #[27, 37, 45], 27) := by decide +kernel
theorem dX6_isValue_28 : decode cX6_isValue 28 = .ok (.iload_n 1, 1) := by decide +kernel
theorem dX6_isValue_29 : decode cX6_isValue 29 = .ok (.bipush 10, 2) := by decide +kernel
theorem dX6_isValue_31 : decode cX6_isValue 31 = .ok (.sipush 900, 3) := by decide +kernel
theorem dX6_isValue_34 : decode cX6_isValue 34 = .ok (.invokestatic 29, 3) := by decide +kernel
theorem dX6_isValue_37 : decode cX6_isValue 37 = .ok (.ireturn, 1) := by decide +kernel
theorem dX6_isValue_38 : decode cX6_isValue 38 = .ok (.iload_n 1, 1) := by decide +kernel
theorem dX6_isValue_39 : decode cX6_isValue 39 = .ok (.iconst 1, 1) := by decide +kernel
theorem dX6_isValue_40 : decode cX6_isValue 40 = .ok (.bipush 50, 2) := by decide +kernel
theorem dX6_isValue_42 : decode cX6_isValue 42 = .ok (.invokestatic 29, 3) := by decide +kernel
theorem dX6_isValue_45 : decode cX6_isValue 45 = .ok (.ireturn, 1) := by decide +kernel
theorem dX6_isValue_46 : decode cX6_isValue 46 = .ok (.iload_n 1, 1) := by decide +kernel
theorem dX6_isValue_47 : decode cX6_isValue 47 = .ok (.iconst 0, 1) := by decide +kernel
theorem dX6_isValue_48 : decode cX6_isValue 48 = .ok (.iconst 2, 1) := by decide +kernel
theorem dX6_isValue_49 : decode cX6_isValue 49 = .ok (.invokestatic 29, 3) := by decide +kernel
theorem dX6_isValue_52 : decode cX6_isValue 52 = .ok (.ireturn, 1) := by decide +kernel
theorem dX6_isValue_53 : decode cX6_isValue 53 = .ok (.iconst 0, 1) := by decide +kernel
theorem dX6_isValue_54 : decode cX6_isValue 54 = .ok (.ireturn, 1) := by decide +kernel
theorem dX6_set_0 : decode cX6_set 0 = .ok (.iload_n 1, 1) := by decide +kernel
theorem dX6_set_1 : decode cX6_set 1 = .ok (.iload_n 2, 1) := by decide +kernel
theorem dX6_set_2 : decode cX6_set 2 = .ok (.invokestatic 68, 3) := by decide +kernel
theorem dX6_set_5 : decode cX6_set 5 = .ok (.ifCond .ne 6, 3) := by decide +kernel
theorem dX6_set_8 : decode cX6_set 8 = .ok (.bipush (-2), 2) := by decide +kernel
theorem dX6_set_10 : decode cX6_set 10 = .ok (.ireturn, 1) := by decide +kernel
theorem dX6_set_11 : decode cX6_set 11 = .ok (.aload_n 0, 1) := by decide +kernel
theorem dX6_set_12 : decode cX6_set 12 = .ok (.invokevirtual 62, 3) := by decide +kernel
theorem dX6_set_15 : decode cX6_set 15 = .ok (.aload_n 0, 1) := by decide +kernel
theorem dX6_set_16 : decode cX6_set 16 = .ok (.iload_n 1, 1) := by decide +kernel
theorem dX6_set_17 : decode cX6_set 17 = .ok (.invokevirtual 72, 3) := by decide +kernel
theorem dX6_set_20 : decode cX6_set 20 = .ok (.istore_n 3, 1) := by decide +kernel
theorem dX6_set_21 : decode cX6_set 21 = .ok (.aload_n 0, 1) := by decide +kernel
theorem dX6_set_22 : decode cX6_set 22 = .ok (.getfield 7, 3) := by decide +kernel
theorem dX6_set_25 : decode cX6_set 25 = .ok (.bipush 75, 2) := by decide +kernel
theorem dX6_set_27 : decode cX6_set 27 = .ok (.iload_n 1, 1) := by decide +kernel
theorem dX6_set_28 : decode cX6_set 28 = .ok (.iadd, 1) := by decide +kernel
theorem dX6_set_29 : decode cX6_set 29 = .ok (.iload_n 2, 1) := by decide +kernel
theorem dX6_set_30 : decode cX6_set 30 = .ok (.iastore, 1) := by decide +kernel
theorem dX6_set_31 : decode cX6_set 31 = .ok (.iload_n 3, 1) := by decide +kernel
theorem dX6_set_32 : decode cX6_set 32 = .ok (.ireturn, 1) := by decide +kernel
theorem dX6_dig_0 : decode cX6_dig 0 = .ok (.iload_n 1, 1) := by decide +kernel
theorem dX6_dig_1 : decode cX6_dig 1 = .ok (.iconst 1, 1) := by decide +kernel
theorem dX6_dig_2 : decode cX6_dig 2 = .ok (.sipush 1000, 3) := by decide +kernel
theorem dX6_dig_5 : decode cX6_dig 5 = .ok (.invokestatic 29, 3) := by decide +kernel
theorem dX6_dig_8 : decode cX6_dig 8 = .ok (.ifCond .ne 6, 3) := by decide +kernel
theorem dX6_dig_11 : decode cX6_dig 11 = .ok (.bipush (-2), 2) := by decide +kernel
theorem dX6_dig_13 : decode cX6_dig 13 = .ok (.ireturn, 1) := by decide +kernel
theorem dX6_dig_14 : decode cX6_dig 14 = .ok (.aload_n 0, 1) := by decide +kernel
theorem dX6_dig_15 : decode cX6_dig 15 = .ok (.iconst 4, 1) := by decide +kernel
theorem dX6_dig_16 : decode cX6_dig 16 = .ok (.invokevirtual 72, 3) := by decide +kernel
theorem dX6_dig_19 : decode cX6_dig 19 = .ok (.iload_n 1, 1) := by decide +kernel
theorem dX6_dig_20 : decode cX6_dig 20 = .ok (.iadd, 1) := by decide +kernel
theorem dX6_dig_21 : decode cX6_dig 21 = .ok (.sipush 5000, 3) := by decide +kernel
theorem dX6_dig_24 : decode cX6_dig 24 = .ok (.if_icmp .le 6, 3) := by decide +kernel
theorem dX6_dig_27 : decode cX6_dig 27 = .ok (.bipush (-4), 2) := by decide +kernel
theorem dX6_dig_29 : decode cX6_dig 29 = .ok (.ireturn, 1) := by decide +kernel
theorem dX6_dig_30 : decode cX6_dig 30 = .ok (.aload_n 0, 1) := by decide +kernel
theorem dX6_dig_31 : decode cX6_dig 31 = .ok (.invokevirtual 62, 3) := by decide +kernel
theorem dX6_dig_34 : decode cX6_dig 34 = .ok (.aload_n 0, 1) := by decide +kernel
theorem dX6_dig_35 : decode cX6_dig 35 = .ok (.getfield 7, 3) := by decide +kernel
theorem dX6_dig_38 : decode cX6_dig 38 = .ok (.bipush 78, 2) := by decide +kernel
theorem dX6_dig_40 : decode cX6_dig 40 = .ok (.dup2, 1) := by decide +kernel
theorem dX6_dig_41 : decode cX6_dig 41 = .ok (.iaload, 1) := by decide +kernel
theorem dX6_dig_42 : decode cX6_dig 42 = .ok (.iload_n 1, 1) := by decide +kernel
theorem dX6_dig_43 : decode cX6_dig 43 = .ok (.iadd, 1) := by decide +kernel
theorem dX6_dig_44 : decode cX6_dig 44 = .ok (.iastore, 1) := by decide +kernel
theorem dX6_dig_45 : decode cX6_dig 45 = .ok (.aload_n 0, 1) := by decide +kernel
theorem dX6_dig_46 : decode cX6_dig 46 = .ok (.getfield 7, 3) := by decide +kernel
theorem dX6_dig_49 : decode cX6_dig 49 = .ok (.bipush 79, 2) := by decide +kernel
theorem dX6_dig_51 : decode cX6_dig 51 = .ok (.dup2, 1) := by decide +kernel
theorem dX6_dig_52 : decode cX6_dig 52 = .ok (.iaload, 1) := by decide +kernel
theorem dX6_dig_53 : decode cX6_dig 53 = .ok (.iload_n 1, 1) := by decide +kernel
theorem dX6_dig_54 : decode cX6_dig 54 = .ok (.iadd, 1) := by decide +kernel
theorem dX6_dig_55 : decode cX6_dig 55 = .ok (.iastore, 1) := by decide +kernel
theorem dX6_dig_56 : decode cX6_dig 56 = .ok (.aload_n 0, 1) := by decide +kernel
theorem dX6_dig_57 : decode cX6_dig 57 = .ok (.iconst 4, 1) := by decide +kernel
theorem dX6_dig_58 : decode cX6_dig 58 = .ok (.invokevirtual 72, 3) := by decide +kernel
theorem dX6_dig_61 : decode cX6_dig 61 = .ok (.ireturn, 1) := by decide +kernel
theorem dX6_addTrain_0 : decode cX6_addTrain 0 = .ok (.iload_n 1, 1) := by decide +kernel
theorem dX6_addTrain_1 : decode cX6_addTrain 1 = .ok (.iconst 1, 1) := by decide +kernel
theorem dX6_addTrain_2 : decode cX6_addTrain 2 = .ok (.bipush 6, 2) := by decide +kernel
theorem dX6_addTrain_4 : decode cX6_addTrain 4 = .ok (.invokestatic 29, 3) := by decide +kernel
theorem dX6_addTrain_7 : decode cX6_addTrain 7 = .ok (.ifCond .eq 13, 3) := by decide +kernel
theorem dX6_addTrain_10 : decode cX6_addTrain 10 = .ok (.iload_n 2, 1) := by decide +kernel
theorem dX6_addTrain_11 : decode cX6_addTrain 11 = .ok (.iconst 1, 1) := by decide +kernel
theorem dX6_addTrain_12 : decode cX6_addTrain 12 = .ok (.bipush 20, 2) := by decide +kernel
theorem dX6_addTrain_14 : decode cX6_addTrain 14 = .ok (.invokestatic 29, 3) := by decide +kernel
theorem dX6_addTrain_17 : decode cX6_addTrain 17 = .ok (.ifCond .ne 6, 3) := by decide +kernel
theorem dX6_addTrain_20 : decode cX6_addTrain 20 = .ok (.bipush (-2), 2) := by decide +kernel
theorem dX6_addTrain_22 : decode cX6_addTrain 22 = .ok (.ireturn, 1) := by decide +kernel
theorem dX6_addTrain_23 : decode cX6_addTrain 23 = .ok (.aload_n 0, 1) := by decide +kernel
theorem dX6_addTrain_24 : decode cX6_addTrain 24 = .ok (.getfield 7, 3) := by decide +kernel
theorem dX6_addTrain_27 : decode cX6_addTrain 27 = .ok (.bipush 73, 2) := by decide +kernel
theorem dX6_addTrain_29 : decode cX6_addTrain 29 = .ok (.iaload, 1) := by decide +kernel
theorem dX6_addTrain_30 : decode cX6_addTrain 30 = .ok (.iconst 4, 1) := by decide +kernel
theorem dX6_addTrain_31 : decode cX6_addTrain 31 = .ok (.if_icmp .ne 6, 3) := by decide +kernel
theorem dX6_addTrain_34 : decode cX6_addTrain 34 = .ok (.bipush (-4), 2) := by decide +kernel
theorem dX6_addTrain_36 : decode cX6_addTrain 36 = .ok (.ireturn, 1) := by decide +kernel
theorem dX6_addTrain_37 : decode cX6_addTrain 37 = .ok (.aload_n 0, 1) := by decide +kernel
theorem dX6_addTrain_38 : decode cX6_addTrain 38 = .ok (.invokevirtual 62, 3) := by decide +kernel
theorem dX6_addTrain_41 : decode cX6_addTrain 41 = .ok (.aload_n 0, 1) := by decide +kernel
theorem dX6_addTrain_42 : decode cX6_addTrain 42 = .ok (.getfield 7, 3) := by decide +kernel
theorem dX6_addTrain_45 : decode cX6_addTrain 45 = .ok (.bipush 73, 2) := by decide +kernel
theorem dX6_addTrain_47 : decode cX6_addTrain 47 = .ok (.iaload, 1) := by decide +kernel
theorem dX6_addTrain_48 : decode cX6_addTrain 48 = .ok (.istore_n 3, 1) := by decide +kernel
theorem dX6_addTrain_49 : decode cX6_addTrain 49 = .ok (.iconst 0, 1) := by decide +kernel
theorem dX6_addTrain_50 : decode cX6_addTrain 50 = .ok (.istore 4, 2) := by decide +kernel
theorem dX6_addTrain_52 : decode cX6_addTrain 52 = .ok (.iload 4, 2) := by decide +kernel
theorem dX6_addTrain_54 : decode cX6_addTrain 54 = .ok (.bipush 9, 2) := by decide +kernel
theorem dX6_addTrain_56 : decode cX6_addTrain 56 = .ok (.if_icmp .ge 17, 3) := by decide +kernel
theorem dX6_addTrain_59 : decode cX6_addTrain 59 = .ok (.aload_n 0, 1) := by decide +kernel
theorem dX6_addTrain_60 : decode cX6_addTrain 60 = .ok (.iload_n 3, 1) := by decide +kernel
theorem dX6_addTrain_61 : decode cX6_addTrain 61 = .ok (.iload 4, 2) := by decide +kernel
theorem dX6_addTrain_63 : decode cX6_addTrain 63 = .ok (.iconst 0, 1) := by decide +kernel
theorem dX6_addTrain_64 : decode cX6_addTrain 64 = .ok (.invokevirtual 76, 3) := by decide +kernel
theorem dX6_addTrain_67 : decode cX6_addTrain 67 = .ok (.iinc 4 1, 3) := by decide +kernel
theorem dX6_addTrain_70 : decode cX6_addTrain 70 = .ok (.goto (-18), 3) := by decide +kernel
theorem dX6_addTrain_73 : decode cX6_addTrain 73 = .ok (.aload_n 0, 1) := by decide +kernel
theorem dX6_addTrain_74 : decode cX6_addTrain 74 = .ok (.iload_n 3, 1) := by decide +kernel
theorem dX6_addTrain_75 : decode cX6_addTrain 75 = .ok (.iconst 0, 1) := by decide +kernel
theorem dX6_addTrain_76 : decode cX6_addTrain 76 = .ok (.iload_n 1, 1) := by decide +kernel
theorem dX6_addTrain_77 : decode cX6_addTrain 77 = .ok (.invokevirtual 76, 3) := by decide +kernel
theorem dX6_addTrain_80 : decode cX6_addTrain 80 = .ok (.aload_n 0, 1) := by decide +kernel
theorem dX6_addTrain_81 : decode cX6_addTrain 81 = .ok (.iload_n 3, 1) := by decide +kernel
theorem dX6_addTrain_82 : decode cX6_addTrain 82 = .ok (.iconst 1, 1) := by decide +kernel
theorem dX6_addTrain_83 : decode cX6_addTrain 83 = .ok (.iload_n 2, 1) := by decide +kernel
theorem dX6_addTrain_84 : decode cX6_addTrain 84 = .ok (.invokevirtual 76, 3) := by decide +kernel
theorem dX6_addTrain_87 : decode cX6_addTrain 87 = .ok (.aload_n 0, 1) := by decide +kernel
theorem dX6_addTrain_88 : decode cX6_addTrain 88 = .ok (.getfield 7, 3) := by decide +kernel
theorem dX6_addTrain_91 : decode cX6_addTrain 91 = .ok (.bipush 73, 2) := by decide +kernel
theorem dX6_addTrain_93 : decode cX6_addTrain 93 = .ok (.dup2, 1) := by decide +kernel
theorem dX6_addTrain_94 : decode cX6_addTrain 94 = .ok (.iaload, 1) := by decide +kernel
theorem dX6_addTrain_95 : decode cX6_addTrain 95 = .ok (.iconst 1, 1) := by decide +kernel
theorem dX6_addTrain_96 : decode cX6_addTrain 96 = .ok (.iadd, 1) := by decide +kernel
theorem dX6_addTrain_97 : decode cX6_addTrain 97 = .ok (.iastore, 1) := by decide +kernel
theorem dX6_addTrain_98 : decode cX6_addTrain 98 = .ok (.iload_n 3, 1) := by decide +kernel
theorem dX6_addTrain_99 : decode cX6_addTrain 99 = .ok (.ireturn, 1) := by decide +kernel
theorem dX6_dropTrain_0 : decode cX6_dropTrain 0 = .ok (.aload_n 0, 1) := by decide +kernel
theorem dX6_dropTrain_1 : decode cX6_dropTrain 1 = .ok (.iload_n 1, 1) := by decide +kernel
theorem dX6_dropTrain_2 : decode cX6_dropTrain 2 = .ok (.invokevirtual 80, 3) := by decide +kernel
theorem dX6_dropTrain_5 : decode cX6_dropTrain 5 = .ok (.ifCond .ne 6, 3) := by decide +kernel
theorem dX6_dropTrain_8 : decode cX6_dropTrain 8 = .ok (.bipush (-2), 2) := by decide +kernel
theorem dX6_dropTrain_10 : decode cX6_dropTrain 10 = .ok (.ireturn, 1) := by decide +kernel
theorem dX6_dropTrain_11 : decode cX6_dropTrain 11 = .ok (.aload_n 0, 1) := by decide +kernel
theorem dX6_dropTrain_12 : decode cX6_dropTrain 12 = .ok (.invokevirtual 62, 3) := by decide +kernel
theorem dX6_dropTrain_15 : decode cX6_dropTrain 15 = .ok (.aload_n 0, 1) := by decide +kernel
theorem dX6_dropTrain_16 : decode cX6_dropTrain 16 = .ok (.iload_n 1, 1) := by decide +kernel
theorem dX6_dropTrain_17 : decode cX6_dropTrain 17 = .ok (.iconst 2, 1) := by decide +kernel
theorem dX6_dropTrain_18 : decode cX6_dropTrain 18 = .ok (.invokevirtual 58, 3) := by decide +kernel
theorem dX6_dropTrain_21 : decode cX6_dropTrain 21 = .ok (.istore_n 2, 1) := by decide +kernel
theorem dX6_dropTrain_22 : decode cX6_dropTrain 22 = .ok (.aload_n 0, 1) := by decide +kernel
theorem dX6_dropTrain_23 : decode cX6_dropTrain 23 = .ok (.getfield 7, 3) := by decide +kernel
theorem dX6_dropTrain_26 : decode cX6_dropTrain 26 = .ok (.bipush 81, 2) := by decide +kernel
theorem dX6_dropTrain_28 : decode cX6_dropTrain 28 = .ok (.dup2, 1) := by decide +kernel
theorem dX6_dropTrain_29 : decode cX6_dropTrain 29 = .ok (.iaload, 1) := by decide +kernel
theorem dX6_dropTrain_30 : decode cX6_dropTrain 30 = .ok (.iload_n 2, 1) := by decide +kernel
theorem dX6_dropTrain_31 : decode cX6_dropTrain 31 = .ok (.iadd, 1) := by decide +kernel
theorem dX6_dropTrain_32 : decode cX6_dropTrain 32 = .ok (.iastore, 1) := by decide +kernel
theorem dX6_dropTrain_33 : decode cX6_dropTrain 33 = .ok (.aload_n 0, 1) := by decide +kernel
theorem dX6_dropTrain_34 : decode cX6_dropTrain 34 = .ok (.getfield 7, 3) := by decide +kernel
theorem dX6_dropTrain_37 : decode cX6_dropTrain 37 = .ok (.bipush 73, 2) := by decide +kernel
theorem dX6_dropTrain_39 : decode cX6_dropTrain 39 = .ok (.dup2, 1) := by decide +kernel
theorem dX6_dropTrain_40 : decode cX6_dropTrain 40 = .ok (.iaload, 1) := by decide +kernel
theorem dX6_dropTrain_41 : decode cX6_dropTrain 41 = .ok (.iconst 1, 1) := by decide +kernel
theorem dX6_dropTrain_42 : decode cX6_dropTrain 42 = .ok (.isub, 1) := by decide +kernel
theorem dX6_dropTrain_43 : decode cX6_dropTrain 43 = .ok (.iastore, 1) := by decide +kernel
theorem dX6_dropTrain_44 : decode cX6_dropTrain 44 = .ok (.bipush 36, 2) := by decide +kernel
theorem dX6_dropTrain_46 : decode cX6_dropTrain 46 = .ok (.bipush 9, 2) := by decide +kernel
theorem dX6_dropTrain_48 : decode cX6_dropTrain 48 = .ok (.iload_n 1, 1) := by decide +kernel
theorem dX6_dropTrain_49 : decode cX6_dropTrain 49 = .ok (.imul, 1) := by decide +kernel
theorem dX6_dropTrain_50 : decode cX6_dropTrain 50 = .ok (.iadd, 1) := by decide +kernel
theorem dX6_dropTrain_51 : decode cX6_dropTrain 51 = .ok (.istore_n 3, 1) := by decide +kernel
theorem dX6_dropTrain_52 : decode cX6_dropTrain 52 = .ok (.iload_n 3, 1) := by decide +kernel
theorem dX6_dropTrain_53 : decode cX6_dropTrain 53 = .ok (.bipush 36, 2) := by decide +kernel
theorem dX6_dropTrain_55 : decode cX6_dropTrain 55 = .ok (.bipush 9, 2) := by decide +kernel
theorem dX6_dropTrain_57 : decode cX6_dropTrain 57 = .ok (.aload_n 0, 1) := by decide +kernel
theorem dX6_dropTrain_58 : decode cX6_dropTrain 58 = .ok (.getfield 7, 3) := by decide +kernel
theorem dX6_dropTrain_61 : decode cX6_dropTrain 61 = .ok (.bipush 73, 2) := by decide +kernel
theorem dX6_dropTrain_63 : decode cX6_dropTrain 63 = .ok (.iaload, 1) := by decide +kernel
theorem dX6_dropTrain_64 : decode cX6_dropTrain 64 = .ok (.imul, 1) := by decide +kernel
theorem dX6_dropTrain_65 : decode cX6_dropTrain 65 = .ok (.iadd, 1) := by decide +kernel
theorem dX6_dropTrain_66 : decode cX6_dropTrain 66 = .ok (.if_icmp .ge 24, 3) := by decide +kernel
theorem dX6_dropTrain_69 : decode cX6_dropTrain 69 = .ok (.aload_n 0, 1) := by decide +kernel
theorem dX6_dropTrain_70 : decode cX6_dropTrain 70 = .ok (.getfield 7, 3) := by decide +kernel
theorem dX6_dropTrain_73 : decode cX6_dropTrain 73 = .ok (.iload_n 3, 1) := by decide +kernel
theorem dX6_dropTrain_74 : decode cX6_dropTrain 74 = .ok (.aload_n 0, 1) := by decide +kernel
theorem dX6_dropTrain_75 : decode cX6_dropTrain 75 = .ok (.getfield 7, 3) := by decide +kernel
theorem dX6_dropTrain_78 : decode cX6_dropTrain 78 = .ok (.iload_n 3, 1) := by decide +kernel
theorem dX6_dropTrain_79 : decode cX6_dropTrain 79 = .ok (.bipush 9, 2) := by decide +kernel
theorem dX6_dropTrain_81 : decode cX6_dropTrain 81 = .ok (.iadd, 1) := by decide +kernel
theorem dX6_dropTrain_82 : decode cX6_dropTrain 82 = .ok (.iaload, 1) := by decide +kernel
theorem dX6_dropTrain_83 : decode cX6_dropTrain 83 = .ok (.iastore, 1) := by decide +kernel
theorem dX6_dropTrain_84 : decode cX6_dropTrain 84 = .ok (.iinc 3 1, 3) := by decide +kernel
theorem dX6_dropTrain_87 : decode cX6_dropTrain 87 = .ok (.goto (-35), 3) := by decide +kernel
theorem dX6_dropTrain_90 : decode cX6_dropTrain 90 = .ok (.iload_n 2, 1) := by decide +kernel
theorem dX6_dropTrain_91 : decode cX6_dropTrain 91 = .ok (.ireturn, 1) := by decide +kernel
theorem dX6_setLoad_0 : decode cX6_setLoad 0 = .ok (.aload_n 0, 1) := by decide +kernel
theorem dX6_setLoad_1 : decode cX6_setLoad 1 = .ok (.iload_n 1, 1) := by decide +kernel
theorem dX6_setLoad_2 : decode cX6_setLoad 2 = .ok (.invokevirtual 80, 3) := by decide +kernel
theorem dX6_setLoad_5 : decode cX6_setLoad 5 = .ok (.ifCond .eq 13, 3) := by decide +kernel
theorem dX6_setLoad_8 : decode cX6_setLoad 8 = .ok (.iload_n 2, 1) := by decide +kernel
theorem dX6_setLoad_9 : decode cX6_setLoad 9 = .ok (.iconst 1, 1) := by decide +kernel
theorem dX6_setLoad_10 : decode cX6_setLoad 10 = .ok (.bipush 20, 2) := by decide +kernel
theorem dX6_setLoad_12 : decode cX6_setLoad 12 = .ok (.invokestatic 29, 3) := by decide +kernel
theorem dX6_setLoad_15 : decode cX6_setLoad 15 = .ok (.ifCond .ne 6, 3) := by decide +kernel
theorem dX6_setLoad_18 : decode cX6_setLoad 18 = .ok (.bipush (-2), 2) := by decide +kernel
theorem dX6_setLoad_20 : decode cX6_setLoad 20 = .ok (.ireturn, 1) := by decide +kernel
theorem dX6_setLoad_21 : decode cX6_setLoad 21 = .ok (.aload_n 0, 1) := by decide +kernel
theorem dX6_setLoad_22 : decode cX6_setLoad 22 = .ok (.invokevirtual 62, 3) := by decide +kernel
theorem dX6_setLoad_25 : decode cX6_setLoad 25 = .ok (.aload_n 0, 1) := by decide +kernel
theorem dX6_setLoad_26 : decode cX6_setLoad 26 = .ok (.iload_n 1, 1) := by decide +kernel
theorem dX6_setLoad_27 : decode cX6_setLoad 27 = .ok (.iconst 1, 1) := by decide +kernel
theorem dX6_setLoad_28 : decode cX6_setLoad 28 = .ok (.invokevirtual 58, 3) := by decide +kernel
theorem dX6_setLoad_31 : decode cX6_setLoad 31 = .ok (.istore_n 3, 1) := by decide +kernel
theorem dX6_setLoad_32 : decode cX6_setLoad 32 = .ok (.aload_n 0, 1) := by decide +kernel
theorem dX6_setLoad_33 : decode cX6_setLoad 33 = .ok (.iload_n 1, 1) := by decide +kernel
theorem dX6_setLoad_34 : decode cX6_setLoad 34 = .ok (.iconst 1, 1) := by decide +kernel
theorem dX6_setLoad_35 : decode cX6_setLoad 35 = .ok (.iload_n 2, 1) := by decide +kernel
theorem dX6_setLoad_36 : decode cX6_setLoad 36 = .ok (.invokevirtual 76, 3) := by decide +kernel
theorem dX6_setLoad_39 : decode cX6_setLoad 39 = .ok (.iload_n 3, 1) := by decide +kernel
theorem dX6_setLoad_40 : decode cX6_setLoad 40 = .ok (.ireturn, 1) := by decide +kernel
theorem dX6_isEnd_0 : decode cX6_isEnd 0 = .ok (.iload_n 1, 1) := by decide +kernel
theorem dX6_isEnd_1 : decode cX6_isEnd 1 = .ok (.ifCond .eq 16, 3) := by decide +kernel
theorem dX6_isEnd_4 : decode cX6_isEnd 4 = .ok (.iload_n 1, 1) := by decide +kernel
theorem dX6_isEnd_5 : decode cX6_isEnd 5 = .ok (.aload_n 0, 1) := by decide +kernel
theorem dX6_isEnd_6 : decode cX6_isEnd 6 = .ok (.getfield 7, 3) := by decide +kernel
theorem dX6_isEnd_9 : decode cX6_isEnd 9 = .ok (.bipush 72, 2) := by decide +kernel
theorem dX6_isEnd_11 : decode cX6_isEnd 11 = .ok (.iaload, 1) := by decide +kernel
theorem dX6_isEnd_12 : decode cX6_isEnd 12 = .ok (.iconst 1, 1) := by decide +kernel
theorem dX6_isEnd_13 : decode cX6_isEnd 13 = .ok (.isub, 1) := by decide +kernel
theorem dX6_isEnd_14 : decode cX6_isEnd 14 = .ok (.if_icmp .ne 7, 3) := by decide +kernel
theorem dX6_isEnd_17 : decode cX6_isEnd 17 = .ok (.iconst 1, 1) := by decide +kernel
theorem dX6_isEnd_18 : decode cX6_isEnd 18 = .ok (.goto 4, 3) := by decide +kernel
theorem dX6_isEnd_21 : decode cX6_isEnd 21 = .ok (.iconst 0, 1) := by decide +kernel
theorem dX6_isEnd_22 : decode cX6_isEnd 22 = .ok (.ireturn, 1) := by decide +kernel
theorem dX6_isPassing_0 : decode cX6_isPassing 0 = .ok (.aload_n 0, 1) := by decide +kernel
theorem dX6_isPassing_1 : decode cX6_isPassing 1 = .ok (.iload_n 1, 1) := by decide +kernel
theorem dX6_isPassing_2 : decode cX6_isPassing 2 = .ok (.iconst 1, 1) := by decide +kernel
theorem dX6_isPassing_3 : decode cX6_isPassing 3 = .ok (.invokevirtual 83, 3) := by decide +kernel
theorem dX6_isPassing_6 : decode cX6_isPassing 6 = .ok (.iconst 1, 1) := by decide +kernel
theorem dX6_isPassing_7 : decode cX6_isPassing 7 = .ok (.if_icmp .ne 7, 3) := by decide +kernel
theorem dX6_isPassing_10 : decode cX6_isPassing 10 = .ok (.iconst 1, 1) := by decide +kernel
theorem dX6_isPassing_11 : decode cX6_isPassing 11 = .ok (.goto 4, 3) := by decide +kernel
theorem dX6_isPassing_14 : decode cX6_isPassing 14 = .ok (.iconst 0, 1) := by decide +kernel
theorem dX6_isPassing_15 : decode cX6_isPassing 15 = .ok (.ireturn, 1) := by decide +kernel
theorem dX6_room_0 : decode cX6_room 0 = .ok (.aload_n 0, 1) := by decide +kernel
theorem dX6_room_1 : decode cX6_room 1 = .ok (.iload_n 1, 1) := by decide +kernel
theorem dX6_room_2 : decode cX6_room 2 = .ok (.invokevirtual 86, 3) := by decide +kernel
theorem dX6_room_5 : decode cX6_room 5 = .ok (.ifCond .eq 7, 3) := by decide +kernel
theorem dX6_room_8 : decode cX6_room 8 = .ok (.iconst 4, 1) := by decide +kernel
theorem dX6_room_9 : decode cX6_room 9 = .ok (.goto 16, 3) := by decide +kernel
theorem dX6_room_12 : decode cX6_room 12 = .ok (.aload_n 0, 1) := by decide +kernel
theorem dX6_room_13 : decode cX6_room 13 = .ok (.iload_n 1, 1) := by decide +kernel
theorem dX6_room_14 : decode cX6_room 14 = .ok (.invokevirtual 89, 3) := by decide +kernel
theorem dX6_room_17 : decode cX6_room 17 = .ok (.ifCond .eq 7, 3) := by decide +kernel
theorem dX6_room_20 : decode cX6_room 20 = .ok (.iconst 2, 1) := by decide +kernel
theorem dX6_room_21 : decode cX6_room 21 = .ok (.goto 4, 3) := by decide +kernel
theorem dX6_room_24 : decode cX6_room 24 = .ok (.iconst 1, 1) := by decide +kernel
theorem dX6_room_25 : decode cX6_room 25 = .ok (.ireturn, 1) := by decide +kernel
theorem dX6_trainsIn_0 : decode cX6_trainsIn 0 = .ok (.iconst 0, 1) := by decide +kernel
theorem dX6_trainsIn_1 : decode cX6_trainsIn 1 = .ok (.istore_n 2, 1) := by decide +kernel
theorem dX6_trainsIn_2 : decode cX6_trainsIn 2 = .ok (.iconst 0, 1) := by decide +kernel
theorem dX6_trainsIn_3 : decode cX6_trainsIn 3 = .ok (.istore_n 3, 1) := by decide +kernel
theorem dX6_trainsIn_4 : decode cX6_trainsIn 4 = .ok (.iload_n 3, 1) := by decide +kernel
theorem dX6_trainsIn_5 : decode cX6_trainsIn 5 = .ok (.aload_n 0, 1) := by decide +kernel
theorem dX6_trainsIn_6 : decode cX6_trainsIn 6 = .ok (.getfield 7, 3) := by decide +kernel
theorem dX6_trainsIn_9 : decode cX6_trainsIn 9 = .ok (.bipush 73, 2) := by decide +kernel
theorem dX6_trainsIn_11 : decode cX6_trainsIn 11 = .ok (.iaload, 1) := by decide +kernel
theorem dX6_trainsIn_12 : decode cX6_trainsIn 12 = .ok (.if_icmp .ge 27, 3) := by decide +kernel
theorem dX6_trainsIn_15 : decode cX6_trainsIn 15 = .ok (.iload_n 2, 1) := by decide +kernel
theorem dX6_trainsIn_16 : decode cX6_trainsIn 16 = .ok (.aload_n 0, 1) := by decide +kernel
theorem dX6_trainsIn_17 : decode cX6_trainsIn 17 = .ok (.iload_n 3, 1) := by decide +kernel
theorem dX6_trainsIn_18 : decode cX6_trainsIn 18 = .ok (.iconst 3, 1) := by decide +kernel
theorem dX6_trainsIn_19 : decode cX6_trainsIn 19 = .ok (.invokevirtual 58, 3) := by decide +kernel
theorem dX6_trainsIn_22 : decode cX6_trainsIn 22 = .ok (.iload_n 1, 1) := by decide +kernel
theorem dX6_trainsIn_23 : decode cX6_trainsIn 23 = .ok (.if_icmp .ne 7, 3) := by decide +kernel
theorem dX6_trainsIn_26 : decode cX6_trainsIn 26 = .ok (.iconst 1, 1) := by decide +kernel
theorem dX6_trainsIn_27 : decode cX6_trainsIn 27 = .ok (.goto 4, 3) := by decide +kernel
theorem dX6_trainsIn_30 : decode cX6_trainsIn 30 = .ok (.iconst 0, 1) := by decide +kernel
theorem dX6_trainsIn_31 : decode cX6_trainsIn 31 = .ok (.iadd, 1) := by decide +kernel
theorem dX6_trainsIn_32 : decode cX6_trainsIn 32 = .ok (.istore_n 2, 1) := by decide +kernel
theorem dX6_trainsIn_33 : decode cX6_trainsIn 33 = .ok (.iinc 3 1, 3) := by decide +kernel
theorem dX6_trainsIn_36 : decode cX6_trainsIn 36 = .ok (.goto (-32), 3) := by decide +kernel
theorem dX6_trainsIn_39 : decode cX6_trainsIn 39 = .ok (.iload_n 2, 1) := by decide +kernel
theorem dX6_trainsIn_40 : decode cX6_trainsIn 40 = .ok (.ireturn, 1) := by decide +kernel
theorem dX6_weight_0 : decode cX6_weight 0 = .ok (.iconst 4, 1) := by decide +kernel
theorem dX6_weight_1 : decode cX6_weight 1 = .ok (.iconst 2, 1) := by decide +kernel
theorem dX6_weight_2 : decode cX6_weight 2 = .ok (.aload_n 0, 1) := by decide +kernel
theorem dX6_weight_3 : decode cX6_weight 3 = .ok (.iload_n 1, 1) := by decide +kernel
theorem dX6_weight_4 : decode cX6_weight 4 = .ok (.iconst 0, 1) := by decide +kernel
theorem dX6_weight_5 : decode cX6_weight 5 = .ok (.invokevirtual 58, 3) := by decide +kernel
theorem dX6_weight_8 : decode cX6_weight 8 = .ok (.imul, 1) := by decide +kernel
theorem dX6_weight_9 : decode cX6_weight 9 = .ok (.iadd, 1) := by decide +kernel
theorem dX6_weight_10 : decode cX6_weight 10 = .ok (.aload_n 0, 1) := by decide +kernel
theorem dX6_weight_11 : decode cX6_weight 11 = .ok (.iload_n 1, 1) := by decide +kernel
theorem dX6_weight_12 : decode cX6_weight 12 = .ok (.iconst 2, 1) := by decide +kernel
theorem dX6_weight_13 : decode cX6_weight 13 = .ok (.invokevirtual 58, 3) := by decide +kernel
theorem dX6_weight_16 : decode cX6_weight 16 = .ok (.iadd, 1) := by decide +kernel
theorem dX6_weight_17 : decode cX6_weight 17 = .ok (.ireturn, 1) := by decide +kernel
theorem dX6_weightIn_0 : decode cX6_weightIn 0 = .ok (.iconst 0, 1) := by decide +kernel
theorem dX6_weightIn_1 : decode cX6_weightIn 1 = .ok (.istore_n 2, 1) := by decide +kernel
theorem dX6_weightIn_2 : decode cX6_weightIn 2 = .ok (.iconst 0, 1) := by decide +kernel
theorem dX6_weightIn_3 : decode cX6_weightIn 3 = .ok (.istore_n 3, 1) := by decide +kernel
theorem dX6_weightIn_4 : decode cX6_weightIn 4 = .ok (.iload_n 3, 1) := by decide +kernel
theorem dX6_weightIn_5 : decode cX6_weightIn 5 = .ok (.aload_n 0, 1) := by decide +kernel
theorem dX6_weightIn_6 : decode cX6_weightIn 6 = .ok (.getfield 7, 3) := by decide +kernel
theorem dX6_weightIn_9 : decode cX6_weightIn 9 = .ok (.bipush 73, 2) := by decide +kernel
theorem dX6_weightIn_11 : decode cX6_weightIn 11 = .ok (.iaload, 1) := by decide +kernel
theorem dX6_weightIn_12 : decode cX6_weightIn 12 = .ok (.if_icmp .ge 31, 3) := by decide +kernel
theorem dX6_weightIn_15 : decode cX6_weightIn 15 = .ok (.iload_n 2, 1) := by decide +kernel
theorem dX6_weightIn_16 : decode cX6_weightIn 16 = .ok (.aload_n 0, 1) := by decide +kernel
theorem dX6_weightIn_17 : decode cX6_weightIn 17 = .ok (.iload_n 3, 1) := by decide +kernel
theorem dX6_weightIn_18 : decode cX6_weightIn 18 = .ok (.iconst 3, 1) := by decide +kernel
theorem dX6_weightIn_19 : decode cX6_weightIn 19 = .ok (.invokevirtual 58, 3) := by decide +kernel
theorem dX6_weightIn_22 : decode cX6_weightIn 22 = .ok (.iload_n 1, 1) := by decide +kernel
theorem dX6_weightIn_23 : decode cX6_weightIn 23 = .ok (.if_icmp .ne 11, 3) := by decide +kernel
theorem dX6_weightIn_26 : decode cX6_weightIn 26 = .ok (.aload_n 0, 1) := by decide +kernel
theorem dX6_weightIn_27 : decode cX6_weightIn 27 = .ok (.iload_n 3, 1) := by decide +kernel
theorem dX6_weightIn_28 : decode cX6_weightIn 28 = .ok (.invokevirtual 92, 3) := by decide +kernel
theorem dX6_weightIn_31 : decode cX6_weightIn 31 = .ok (.goto 4, 3) := by decide +kernel
theorem dX6_weightIn_34 : decode cX6_weightIn 34 = .ok (.iconst 0, 1) := by decide +kernel
theorem dX6_weightIn_35 : decode cX6_weightIn 35 = .ok (.iadd, 1) := by decide +kernel
theorem dX6_weightIn_36 : decode cX6_weightIn 36 = .ok (.istore_n 2, 1) := by decide +kernel
theorem dX6_weightIn_37 : decode cX6_weightIn 37 = .ok (.iinc 3 1, 3) := by decide +kernel
theorem dX6_weightIn_40 : decode cX6_weightIn 40 = .ok (.goto (-36), 3) := by decide +kernel
theorem dX6_weightIn_43 : decode cX6_weightIn 43 = .ok (.iload_n 2, 1) := by decide +kernel
theorem dX6_weightIn_44 : decode cX6_weightIn 44 = .ok (.ireturn, 1) := by decide +kernel
theorem dX6_between_0 : decode cX6_between 0 = .ok (.iload_n 1, 1) := by decide +kernel
theorem dX6_between_1 : decode cX6_between 1 = .ok (.iload_n 2, 1) := by decide +kernel
theorem dX6_between_2 : decode cX6_between 2 = .ok (.if_icmp .ge 7, 3) := by decide +kernel
theorem dX6_between_5 : decode cX6_between 5 = .ok (.iload_n 1, 1) := by decide +kernel
theorem dX6_between_6 : decode cX6_between 6 = .ok (.goto 4, 3) := by decide +kernel
theorem dX6_between_9 : decode cX6_between 9 = .ok (.iload_n 2, 1) := by decide +kernel
theorem dX6_between_10 : decode cX6_between 10 = .ok (.istore 4, 2) := by decide +kernel
theorem dX6_between_12 : decode cX6_between 12 = .ok (.iload_n 1, 1) := by decide +kernel
theorem dX6_between_13 : decode cX6_between 13 = .ok (.iload_n 2, 1) := by decide +kernel
theorem dX6_between_14 : decode cX6_between 14 = .ok (.if_icmp .ge 7, 3) := by decide +kernel
theorem dX6_between_17 : decode cX6_between 17 = .ok (.iload_n 2, 1) := by decide +kernel
theorem dX6_between_18 : decode cX6_between 18 = .ok (.goto 4, 3) := by decide +kernel
theorem dX6_between_21 : decode cX6_between 21 = .ok (.iload_n 1, 1) := by decide +kernel
theorem dX6_between_22 : decode cX6_between 22 = .ok (.istore 5, 2) := by decide +kernel
theorem dX6_between_24 : decode cX6_between 24 = .ok (.iconst 0, 1) := by decide +kernel
theorem dX6_between_25 : decode cX6_between 25 = .ok (.istore 6, 2) := by decide +kernel
theorem dX6_between_27 : decode cX6_between 27 = .ok (.iconst 0, 1) := by decide +kernel
theorem dX6_between_28 : decode cX6_between 28 = .ok (.istore 7, 2) := by decide +kernel
theorem dX6_between_30 : decode cX6_between 30 = .ok (.iload 7, 2) := by decide +kernel
theorem dX6_between_32 : decode cX6_between 32 = .ok (.aload_n 0, 1) := by decide +kernel
theorem dX6_between_33 : decode cX6_between 33 = .ok (.getfield 7, 3) := by decide +kernel
theorem dX6_between_36 : decode cX6_between 36 = .ok (.bipush 73, 2) := by decide +kernel
theorem dX6_between_38 : decode cX6_between 38 = .ok (.iaload, 1) := by decide +kernel
theorem dX6_between_39 : decode cX6_between 39 = .ok (.if_icmp .ge 54, 3) := by decide +kernel
theorem dX6_between_42 : decode cX6_between 42 = .ok (.iload 6, 2) := by decide +kernel
theorem dX6_between_44 : decode cX6_between 44 = .ok (.aload_n 0, 1) := by decide +kernel
theorem dX6_between_45 : decode cX6_between 45 = .ok (.iload 7, 2) := by decide +kernel
theorem dX6_between_47 : decode cX6_between 47 = .ok (.iconst 3, 1) := by decide +kernel
theorem dX6_between_48 : decode cX6_between 48 = .ok (.invokevirtual 58, 3) := by decide +kernel
theorem dX6_between_51 : decode cX6_between 51 = .ok (.iload 4, 2) := by decide +kernel
theorem dX6_between_53 : decode cX6_between 53 = .ok (.if_icmp .le 30, 3) := by decide +kernel
theorem dX6_between_56 : decode cX6_between 56 = .ok (.aload_n 0, 1) := by decide +kernel
theorem dX6_between_57 : decode cX6_between 57 = .ok (.iload 7, 2) := by decide +kernel
theorem dX6_between_59 : decode cX6_between 59 = .ok (.iconst 3, 1) := by decide +kernel
theorem dX6_between_60 : decode cX6_between 60 = .ok (.invokevirtual 58, 3) := by decide +kernel
theorem dX6_between_63 : decode cX6_between 63 = .ok (.iload 5, 2) := by decide +kernel
theorem dX6_between_65 : decode cX6_between 65 = .ok (.if_icmp .ge 18, 3) := by decide +kernel
theorem dX6_between_68 : decode cX6_between 68 = .ok (.aload_n 0, 1) := by decide +kernel
theorem dX6_between_69 : decode cX6_between 69 = .ok (.iload 7, 2) := by decide +kernel
theorem dX6_between_71 : decode cX6_between 71 = .ok (.iconst 4, 1) := by decide +kernel
theorem dX6_between_72 : decode cX6_between 72 = .ok (.invokevirtual 58, 3) := by decide +kernel
theorem dX6_between_75 : decode cX6_between 75 = .ok (.iload_n 3, 1) := by decide +kernel
theorem dX6_between_76 : decode cX6_between 76 = .ok (.if_icmp .ne 7, 3) := by decide +kernel
theorem dX6_between_79 : decode cX6_between 79 = .ok (.iconst 1, 1) := by decide +kernel
theorem dX6_between_80 : decode cX6_between 80 = .ok (.goto 4, 3) := by decide +kernel
theorem dX6_between_83 : decode cX6_between 83 = .ok (.iconst 0, 1) := by decide +kernel
theorem dX6_between_84 : decode cX6_between 84 = .ok (.iadd, 1) := by decide +kernel
theorem dX6_between_85 : decode cX6_between 85 = .ok (.istore 6, 2) := by decide +kernel
theorem dX6_between_87 : decode cX6_between 87 = .ok (.iinc 7 1, 3) := by decide +kernel
theorem dX6_between_90 : decode cX6_between 90 = .ok (.goto (-60), 3) := by decide +kernel
theorem dX6_between_93 : decode cX6_between 93 = .ok (.iload 6, 2) := by decide +kernel
theorem dX6_between_95 : decode cX6_between 95 = .ok (.ireturn, 1) := by decide +kernel
theorem dX6_wanted_0 : decode cX6_wanted 0 = .ok (.aload_n 0, 1) := by decide +kernel
theorem dX6_wanted_1 : decode cX6_wanted 1 = .ok (.iload_n 1, 1) := by decide +kernel
theorem dX6_wanted_2 : decode cX6_wanted 2 = .ok (.iconst 0, 1) := by decide +kernel
theorem dX6_wanted_3 : decode cX6_wanted 3 = .ok (.invokevirtual 58, 3) := by decide +kernel
theorem dX6_wanted_6 : decode cX6_wanted 6 = .ok (.aload_n 0, 1) := by decide +kernel
theorem dX6_wanted_7 : decode cX6_wanted 7 = .ok (.iload_n 1, 1) := by decide +kernel
theorem dX6_wanted_8 : decode cX6_wanted 8 = .ok (.iconst 1, 1) := by decide +kernel
theorem dX6_wanted_9 : decode cX6_wanted 9 = .ok (.invokevirtual 58, 3) := by decide +kernel
theorem dX6_wanted_12 : decode cX6_wanted 12 = .ok (.imul, 1) := by decide +kernel
theorem dX6_wanted_13 : decode cX6_wanted 13 = .ok (.ireturn, 1) := by decide +kernel
theorem dX6_reason_0 : decode cX6_reason 0 = .ok (.aload_n 0, 1) := by decide +kernel
theorem dX6_reason_1 : decode cX6_reason 1 = .ok (.iload_n 1, 1) := by decide +kernel
theorem dX6_reason_2 : decode cX6_reason 2 = .ok (.iconst 3, 1) := by decide +kernel
theorem dX6_reason_3 : decode cX6_reason 3 = .ok (.invokevirtual 58, 3) := by decide +kernel
theorem dX6_reason_6 : decode cX6_reason 6 = .ok (.istore_n 2, 1) := by decide +kernel
theorem dX6_reason_7 : decode cX6_reason 7 = .ok (.aload_n 0, 1) := by decide +kernel
theorem dX6_reason_8 : decode cX6_reason 8 = .ok (.iload_n 1, 1) := by decide +kernel
theorem dX6_reason_9 : decode cX6_reason 9 = .ok (.iconst 4, 1) := by decide +kernel
theorem dX6_reason_10 : decode cX6_reason 10 = .ok (.invokevirtual 58, 3) := by decide +kernel
theorem dX6_reason_13 : decode cX6_reason 13 = .ok (.istore_n 3, 1) := by decide +kernel
theorem dX6_reason_14 : decode cX6_reason 14 = .ok (.iload_n 3, 1) := by decide +kernel
theorem dX6_reason_15 : decode cX6_reason 15 = .ok (.iconst 1, 1) := by decide +kernel
theorem dX6_reason_16 : decode cX6_reason 16 = .ok (.if_icmp .ne 18, 3) := by decide +kernel
theorem dX6_reason_19 : decode cX6_reason 19 = .ok (.iload_n 2, 1) := by decide +kernel
theorem dX6_reason_20 : decode cX6_reason 20 = .ok (.aload_n 0, 1) := by decide +kernel
theorem dX6_reason_21 : decode cX6_reason 21 = .ok (.getfield 7, 3) := by decide +kernel
theorem dX6_reason_24 : decode cX6_reason 24 = .ok (.bipush 72, 2) := by decide +kernel
theorem dX6_reason_26 : decode cX6_reason 26 = .ok (.iaload, 1) := by decide +kernel
theorem dX6_reason_27 : decode cX6_reason 27 = .ok (.iconst 1, 1) := by decide +kernel
theorem dX6_reason_28 : decode cX6_reason 28 = .ok (.isub, 1) := by decide +kernel
theorem dX6_reason_29 : decode cX6_reason 29 = .ok (.if_icmp .ne 5, 3) := by decide +kernel
theorem dX6_reason_32 : decode cX6_reason 32 = .ok (.iconst 0, 1) := by decide +kernel
theorem dX6_reason_33 : decode cX6_reason 33 = .ok (.ireturn, 1) := by decide +kernel
theorem dX6_reason_34 : decode cX6_reason 34 = .ok (.iload_n 3, 1) := by decide +kernel
theorem dX6_reason_35 : decode cX6_reason 35 = .ok (.ifCond .ne 26, 3) := by decide +kernel
theorem dX6_reason_38 : decode cX6_reason 38 = .ok (.iload_n 2, 1) := by decide +kernel
theorem dX6_reason_39 : decode cX6_reason 39 = .ok (.ifCond .ne 22, 3) := by decide +kernel
theorem dX6_reason_42 : decode cX6_reason 42 = .ok (.aload_n 0, 1) := by decide +kernel
theorem dX6_reason_43 : decode cX6_reason 43 = .ok (.iconst 4, 1) := by decide +kernel
theorem dX6_reason_44 : decode cX6_reason 44 = .ok (.invokevirtual 72, 3) := by decide +kernel
theorem dX6_reason_47 : decode cX6_reason 47 = .ok (.aload_n 0, 1) := by decide +kernel
theorem dX6_reason_48 : decode cX6_reason 48 = .ok (.iload_n 1, 1) := by decide +kernel
theorem dX6_reason_49 : decode cX6_reason 49 = .ok (.invokevirtual 95, 3) := by decide +kernel
theorem dX6_reason_52 : decode cX6_reason 52 = .ok (.if_icmp .ge 7, 3) := by decide +kernel
theorem dX6_reason_55 : decode cX6_reason 55 = .ok (.iconst 1, 1) := by decide +kernel
theorem dX6_reason_56 : decode cX6_reason 56 = .ok (.goto 4, 3) := by decide +kernel
theorem dX6_reason_59 : decode cX6_reason 59 = .ok (.iconst 0, 1) := by decide +kernel
theorem dX6_reason_60 : decode cX6_reason 60 = .ok (.ireturn, 1) := by decide +kernel
theorem dX6_reason_61 : decode cX6_reason 61 = .ok (.iload_n 3, 1) := by decide +kernel
theorem dX6_reason_62 : decode cX6_reason 62 = .ok (.iconst 1, 1) := by decide +kernel
theorem dX6_reason_63 : decode cX6_reason 63 = .ok (.if_icmp .ne 7, 3) := by decide +kernel
theorem dX6_reason_66 : decode cX6_reason 66 = .ok (.iconst 1, 1) := by decide +kernel
theorem dX6_reason_67 : decode cX6_reason 67 = .ok (.goto 4, 3) := by decide +kernel
theorem dX6_reason_70 : decode cX6_reason 70 = .ok (.iconst (-1), 1) := by decide +kernel
theorem dX6_reason_71 : decode cX6_reason 71 = .ok (.istore 4, 2) := by decide +kernel
theorem dX6_reason_73 : decode cX6_reason 73 = .ok (.iload_n 2, 1) := by decide +kernel
theorem dX6_reason_74 : decode cX6_reason 74 = .ok (.iload 4, 2) := by decide +kernel
theorem dX6_reason_76 : decode cX6_reason 76 = .ok (.iadd, 1) := by decide +kernel
theorem dX6_reason_77 : decode cX6_reason 77 = .ok (.istore 5, 2) := by decide +kernel
theorem dX6_reason_79 : decode cX6_reason 79 = .ok (.aload_n 0, 1) := by decide +kernel
theorem dX6_reason_80 : decode cX6_reason 80 = .ok (.iload 5, 2) := by decide +kernel
theorem dX6_reason_82 : decode cX6_reason 82 = .ok (.iconst 2, 1) := by decide +kernel
theorem dX6_reason_83 : decode cX6_reason 83 = .ok (.invokevirtual 83, 3) := by decide +kernel
theorem dX6_reason_86 : decode cX6_reason 86 = .ok (.aload_n 0, 1) := by decide +kernel
theorem dX6_reason_87 : decode cX6_reason 87 = .ok (.iconst 0, 1) := by decide +kernel
theorem dX6_reason_88 : decode cX6_reason 88 = .ok (.invokevirtual 72, 3) := by decide +kernel
theorem dX6_reason_91 : decode cX6_reason 91 = .ok (.if_icmp .le 5, 3) := by decide +kernel
theorem dX6_reason_94 : decode cX6_reason 94 = .ok (.iconst 2, 1) := by decide +kernel
theorem dX6_reason_95 : decode cX6_reason 95 = .ok (.ireturn, 1) := by decide +kernel
theorem dX6_reason_96 : decode cX6_reason 96 = .ok (.aload_n 0, 1) := by decide +kernel
theorem dX6_reason_97 : decode cX6_reason 97 = .ok (.iload 5, 2) := by decide +kernel
theorem dX6_reason_99 : decode cX6_reason 99 = .ok (.invokevirtual 98, 3) := by decide +kernel
theorem dX6_reason_102 : decode cX6_reason 102 = .ok (.aload_n 0, 1) := by decide +kernel
theorem dX6_reason_103 : decode cX6_reason 103 = .ok (.iload 5, 2) := by decide +kernel
theorem dX6_reason_105 : decode cX6_reason 105 = .ok (.invokevirtual 101, 3) := by decide +kernel
theorem dX6_reason_108 : decode cX6_reason 108 = .ok (.if_icmp .lt 5, 3) := by decide +kernel
theorem dX6_reason_111 : decode cX6_reason 111 = .ok (.iconst 3, 1) := by decide +kernel
theorem dX6_reason_112 : decode cX6_reason 112 = .ok (.ireturn, 1) := by decide +kernel
theorem dX6_reason_113 : decode cX6_reason 113 = .ok (.aload_n 0, 1) := by decide +kernel
theorem dX6_reason_114 : decode cX6_reason 114 = .ok (.iload_n 2, 1) := by decide +kernel
theorem dX6_reason_115 : decode cX6_reason 115 = .ok (.invokevirtual 89, 3) := by decide +kernel
theorem dX6_reason_118 : decode cX6_reason 118 = .ok (.ifCond .eq 12, 3) := by decide +kernel
theorem dX6_reason_121 : decode cX6_reason 121 = .ok (.aload_n 0, 1) := by decide +kernel
theorem dX6_reason_122 : decode cX6_reason 122 = .ok (.iload 5, 2) := by decide +kernel
theorem dX6_reason_124 : decode cX6_reason 124 = .ok (.invokevirtual 89, 3) := by decide +kernel
theorem dX6_reason_127 : decode cX6_reason 127 = .ok (.ifCond .eq 5, 3) := by decide +kernel
theorem dX6_reason_130 : decode cX6_reason 130 = .ok (.iconst 0, 1) := by decide +kernel
theorem dX6_reason_131 : decode cX6_reason 131 = .ok (.ireturn, 1) := by decide +kernel
theorem dX6_reason_132 : decode cX6_reason 132 = .ok (.iload 5, 2) := by decide +kernel
theorem dX6_reason_134 : decode cX6_reason 134 = .ok (.istore 6, 2) := by decide +kernel
theorem dX6_reason_136 : decode cX6_reason 136 = .ok (.aload_n 0, 1) := by decide +kernel
theorem dX6_reason_137 : decode cX6_reason 137 = .ok (.iload 6, 2) := by decide +kernel
theorem dX6_reason_139 : decode cX6_reason 139 = .ok (.invokevirtual 89, 3) := by decide +kernel
theorem dX6_reason_142 : decode cX6_reason 142 = .ok (.ifCond .ne 13, 3) := by decide +kernel
theorem dX6_reason_145 : decode cX6_reason 145 = .ok (.iload 6, 2) := by decide +kernel
theorem dX6_reason_147 : decode cX6_reason 147 = .ok (.iload 4, 2) := by decide +kernel
theorem dX6_reason_149 : decode cX6_reason 149 = .ok (.iadd, 1) := by decide +kernel
theorem dX6_reason_150 : decode cX6_reason 150 = .ok (.istore 6, 2) := by decide +kernel
theorem dX6_reason_152 : decode cX6_reason 152 = .ok (.goto (-16), 3) := by decide +kernel
theorem dX6_reason_155 : decode cX6_reason 155 = .ok (.aload_n 0, 1) := by decide +kernel
theorem dX6_reason_156 : decode cX6_reason 156 = .ok (.iload_n 2, 1) := by decide +kernel
theorem dX6_reason_157 : decode cX6_reason 157 = .ok (.iload 6, 2) := by decide +kernel
theorem dX6_reason_159 : decode cX6_reason 159 = .ok (.iconst 1, 1) := by decide +kernel
theorem dX6_reason_160 : decode cX6_reason 160 = .ok (.iload_n 3, 1) := by decide +kernel
theorem dX6_reason_161 : decode cX6_reason 161 = .ok (.isub, 1) := by decide +kernel
theorem dX6_reason_162 : decode cX6_reason 162 = .ok (.invokevirtual 104, 3) := by decide +kernel
theorem dX6_reason_165 : decode cX6_reason 165 = .ok (.ifCond .le 5, 3) := by decide +kernel
theorem dX6_reason_168 : decode cX6_reason 168 = .ok (.iconst 4, 1) := by decide +kernel
theorem dX6_reason_169 : decode cX6_reason 169 = .ok (.ireturn, 1) := by decide +kernel
theorem dX6_reason_170 : decode cX6_reason 170 = .ok (.aload_n 0, 1) := by decide +kernel
theorem dX6_reason_171 : decode cX6_reason 171 = .ok (.iload 6, 2) := by decide +kernel
theorem dX6_reason_173 : decode cX6_reason 173 = .ok (.invokevirtual 86, 3) := by decide +kernel
theorem dX6_reason_176 : decode cX6_reason 176 = .ok (.ifCond .ne 31, 3) := by decide +kernel
theorem dX6_reason_179 : decode cX6_reason 179 = .ok (.aload_n 0, 1) := by decide +kernel
theorem dX6_reason_180 : decode cX6_reason 180 = .ok (.iload 6, 2) := by decide +kernel
theorem dX6_reason_182 : decode cX6_reason 182 = .ok (.invokevirtual 98, 3) := by decide +kernel
theorem dX6_reason_185 : decode cX6_reason 185 = .ok (.aload_n 0, 1) := by decide +kernel
theorem dX6_reason_186 : decode cX6_reason 186 = .ok (.iload_n 2, 1) := by decide +kernel
theorem dX6_reason_187 : decode cX6_reason 187 = .ok (.iload 6, 2) := by decide +kernel
theorem dX6_reason_189 : decode cX6_reason 189 = .ok (.iload_n 3, 1) := by decide +kernel
theorem dX6_reason_190 : decode cX6_reason 190 = .ok (.invokevirtual 104, 3) := by decide +kernel
theorem dX6_reason_193 : decode cX6_reason 193 = .ok (.iadd, 1) := by decide +kernel
theorem dX6_reason_194 : decode cX6_reason 194 = .ok (.aload_n 0, 1) := by decide +kernel
theorem dX6_reason_195 : decode cX6_reason 195 = .ok (.iload 6, 2) := by decide +kernel
theorem dX6_reason_197 : decode cX6_reason 197 = .ok (.invokevirtual 101, 3) := by decide +kernel
theorem dX6_reason_200 : decode cX6_reason 200 = .ok (.if_icmp .lt 7, 3) := by decide +kernel
theorem dX6_reason_203 : decode cX6_reason 203 = .ok (.iconst 1, 1) := by decide +kernel
theorem dX6_reason_204 : decode cX6_reason 204 = .ok (.goto 4, 3) := by decide +kernel
theorem dX6_reason_207 : decode cX6_reason 207 = .ok (.iconst 0, 1) := by decide +kernel
theorem dX6_reason_208 : decode cX6_reason 208 = .ok (.istore 7, 2) := by decide +kernel
theorem dX6_reason_210 : decode cX6_reason 210 = .ok (.iload 7, 2) := by decide +kernel
theorem dX6_reason_212 : decode cX6_reason 212 = .ok (.ifCond .eq 7, 3) := by decide +kernel
theorem dX6_reason_215 : decode cX6_reason 215 = .ok (.iconst 5, 1) := by decide +kernel
theorem dX6_reason_216 : decode cX6_reason 216 = .ok (.goto 4, 3) := by decide +kernel
theorem dX6_reason_219 : decode cX6_reason 219 = .ok (.iconst 0, 1) := by decide +kernel
theorem dX6_reason_220 : decode cX6_reason 220 = .ok (.ireturn, 1) := by decide +kernel
theorem dX6_turn_0 : decode cX6_turn 0 = .ok (.aload_n 0, 1) := by decide +kernel
theorem dX6_turn_1 : decode cX6_turn 1 = .ok (.iload_n 1, 1) := by decide +kernel
theorem dX6_turn_2 : decode cX6_turn 2 = .ok (.iconst 5, 1) := by decide +kernel
theorem dX6_turn_3 : decode cX6_turn 3 = .ok (.invokevirtual 58, 3) := by decide +kernel
theorem dX6_turn_6 : decode cX6_turn 6 = .ok (.istore_n 2, 1) := by decide +kernel
theorem dX6_turn_7 : decode cX6_turn 7 = .ok (.iload_n 2, 1) := by decide +kernel
theorem dX6_turn_8 : decode cX6_turn 8 = .ok (.ifCond .le 7, 3) := by decide +kernel
theorem dX6_turn_11 : decode cX6_turn 11 = .ok (.iconst 0, 1) := by decide +kernel
theorem dX6_turn_12 : decode cX6_turn 12 = .ok (.goto 8, 3) := by decide +kernel
theorem dX6_turn_15 : decode cX6_turn 15 = .ok (.aload_n 0, 1) := by decide +kernel
theorem dX6_turn_16 : decode cX6_turn 16 = .ok (.iload_n 1, 1) := by decide +kernel
theorem dX6_turn_17 : decode cX6_turn 17 = .ok (.invokevirtual 108, 3) := by decide +kernel
theorem dX6_turn_20 : decode cX6_turn 20 = .ok (.istore_n 3, 1) := by decide +kernel
theorem dX6_turn_21 : decode cX6_turn 21 = .ok (.aload_n 0, 1) := by decide +kernel
theorem dX6_turn_22 : decode cX6_turn 22 = .ok (.iload_n 1, 1) := by decide +kernel
theorem dX6_turn_23 : decode cX6_turn 23 = .ok (.bipush 6, 2) := by decide +kernel
theorem dX6_turn_25 : decode cX6_turn 25 = .ok (.iload_n 3, 1) := by decide +kernel
theorem dX6_turn_26 : decode cX6_turn 26 = .ok (.invokevirtual 76, 3) := by decide +kernel
theorem dX6_turn_29 : decode cX6_turn 29 = .ok (.aload_n 0, 1) := by decide +kernel
theorem dX6_turn_30 : decode cX6_turn 30 = .ok (.iload_n 1, 1) := by decide +kernel
theorem dX6_turn_31 : decode cX6_turn 31 = .ok (.bipush 7, 2) := by decide +kernel
theorem dX6_turn_33 : decode cX6_turn 33 = .ok (.aload_n 0, 1) := by decide +kernel
theorem dX6_turn_34 : decode cX6_turn 34 = .ok (.iload_n 1, 1) := by decide +kernel
theorem dX6_turn_35 : decode cX6_turn 35 = .ok (.bipush 7, 2) := by decide +kernel
theorem dX6_turn_37 : decode cX6_turn 37 = .ok (.invokevirtual 58, 3) := by decide +kernel
theorem dX6_turn_40 : decode cX6_turn 40 = .ok (.iload_n 3, 1) := by decide +kernel
theorem dX6_turn_41 : decode cX6_turn 41 = .ok (.ifCond .le 7, 3) := by decide +kernel
theorem dX6_turn_44 : decode cX6_turn 44 = .ok (.iconst 1, 1) := by decide +kernel
theorem dX6_turn_45 : decode cX6_turn 45 = .ok (.goto 4, 3) := by decide +kernel
theorem dX6_turn_48 : decode cX6_turn 48 = .ok (.iconst 0, 1) := by decide +kernel
theorem dX6_turn_49 : decode cX6_turn 49 = .ok (.iadd, 1) := by decide +kernel
theorem dX6_turn_50 : decode cX6_turn 50 = .ok (.invokevirtual 76, 3) := by decide +kernel
theorem dX6_turn_53 : decode cX6_turn 53 = .ok (.iload_n 2, 1) := by decide +kernel
theorem dX6_turn_54 : decode cX6_turn 54 = .ok (.ifCond .le 15, 3) := by decide +kernel
theorem dX6_turn_57 : decode cX6_turn 57 = .ok (.aload_n 0, 1) := by decide +kernel
theorem dX6_turn_58 : decode cX6_turn 58 = .ok (.iload_n 1, 1) := by decide +kernel
theorem dX6_turn_59 : decode cX6_turn 59 = .ok (.iconst 5, 1) := by decide +kernel
theorem dX6_turn_60 : decode cX6_turn 60 = .ok (.iload_n 2, 1) := by decide +kernel
theorem dX6_turn_61 : decode cX6_turn 61 = .ok (.iconst 1, 1) := by decide +kernel
theorem dX6_turn_62 : decode cX6_turn 62 = .ok (.isub, 1) := by decide +kernel
theorem dX6_turn_63 : decode cX6_turn 63 = .ok (.invokevirtual 76, 3) := by decide +kernel
theorem dX6_turn_66 : decode cX6_turn 66 = .ok (.goto 12, 3) := by decide +kernel
theorem dX6_turn_69 : decode cX6_turn 69 = .ok (.iload_n 3, 1) := by decide +kernel
theorem dX6_turn_70 : decode cX6_turn 70 = .ok (.ifCond .ne 8, 3) := by decide +kernel
theorem dX6_turn_73 : decode cX6_turn 73 = .ok (.aload_n 0, 1) := by decide +kernel
theorem dX6_turn_74 : decode cX6_turn 74 = .ok (.iload_n 1, 1) := by decide +kernel
theorem dX6_turn_75 : decode cX6_turn 75 = .ok (.invokevirtual 111, 3) := by decide +kernel
theorem dX6_turn_78 : decode cX6_turn 78 = .ok (.return_, 1) := by decide +kernel
theorem dX6_go_0 : decode cX6_go 0 = .ok (.aload_n 0, 1) := by decide +kernel
theorem dX6_go_1 : decode cX6_go 1 = .ok (.iload_n 1, 1) := by decide +kernel
theorem dX6_go_2 : decode cX6_go 2 = .ok (.iconst 3, 1) := by decide +kernel
theorem dX6_go_3 : decode cX6_go 3 = .ok (.invokevirtual 58, 3) := by decide +kernel
theorem dX6_go_6 : decode cX6_go 6 = .ok (.istore_n 2, 1) := by decide +kernel
theorem dX6_go_7 : decode cX6_go 7 = .ok (.aload_n 0, 1) := by decide +kernel
theorem dX6_go_8 : decode cX6_go 8 = .ok (.iload_n 1, 1) := by decide +kernel
theorem dX6_go_9 : decode cX6_go 9 = .ok (.iconst 4, 1) := by decide +kernel
theorem dX6_go_10 : decode cX6_go 10 = .ok (.invokevirtual 58, 3) := by decide +kernel
theorem dX6_go_13 : decode cX6_go 13 = .ok (.iconst 1, 1) := by decide +kernel
theorem dX6_go_14 : decode cX6_go 14 = .ok (.if_icmp .ne 7, 3) := by decide +kernel
theorem dX6_go_17 : decode cX6_go 17 = .ok (.iconst 1, 1) := by decide +kernel
theorem dX6_go_18 : decode cX6_go 18 = .ok (.goto 4, 3) := by decide +kernel
theorem dX6_go_21 : decode cX6_go 21 = .ok (.iconst 0, 1) := by decide +kernel
theorem dX6_go_22 : decode cX6_go 22 = .ok (.istore_n 3, 1) := by decide +kernel
theorem dX6_go_23 : decode cX6_go 23 = .ok (.iload_n 3, 1) := by decide +kernel
theorem dX6_go_24 : decode cX6_go 24 = .ok (.ifCond .eq 77, 3) := by decide +kernel
theorem dX6_go_27 : decode cX6_go 27 = .ok (.iload_n 2, 1) := by decide +kernel
theorem dX6_go_28 : decode cX6_go 28 = .ok (.aload_n 0, 1) := by decide +kernel
theorem dX6_go_29 : decode cX6_go 29 = .ok (.getfield 7, 3) := by decide +kernel
theorem dX6_go_32 : decode cX6_go 32 = .ok (.bipush 72, 2) := by decide +kernel
theorem dX6_go_34 : decode cX6_go 34 = .ok (.iaload, 1) := by decide +kernel
theorem dX6_go_35 : decode cX6_go 35 = .ok (.iconst 1, 1) := by decide +kernel
theorem dX6_go_36 : decode cX6_go 36 = .ok (.isub, 1) := by decide +kernel
theorem dX6_go_37 : decode cX6_go 37 = .ok (.if_icmp .ne 64, 3) := by decide +kernel
theorem dX6_go_40 : decode cX6_go 40 = .ok (.aload_n 0, 1) := by decide +kernel
theorem dX6_go_41 : decode cX6_go 41 = .ok (.getfield 7, 3) := by decide +kernel
theorem dX6_go_44 : decode cX6_go 44 = .ok (.bipush 80, 2) := by decide +kernel
theorem dX6_go_46 : decode cX6_go 46 = .ok (.dup2, 1) := by decide +kernel
theorem dX6_go_47 : decode cX6_go 47 = .ok (.iaload, 1) := by decide +kernel
theorem dX6_go_48 : decode cX6_go 48 = .ok (.aload_n 0, 1) := by decide +kernel
theorem dX6_go_49 : decode cX6_go 49 = .ok (.iload_n 1, 1) := by decide +kernel
theorem dX6_go_50 : decode cX6_go 50 = .ok (.iconst 2, 1) := by decide +kernel
theorem dX6_go_51 : decode cX6_go 51 = .ok (.invokevirtual 58, 3) := by decide +kernel
theorem dX6_go_54 : decode cX6_go 54 = .ok (.iadd, 1) := by decide +kernel
theorem dX6_go_55 : decode cX6_go 55 = .ok (.iastore, 1) := by decide +kernel
theorem dX6_go_56 : decode cX6_go 56 = .ok (.aload_n 0, 1) := by decide +kernel
theorem dX6_go_57 : decode cX6_go 57 = .ok (.iload_n 1, 1) := by decide +kernel
theorem dX6_go_58 : decode cX6_go 58 = .ok (.iconst 2, 1) := by decide +kernel
theorem dX6_go_59 : decode cX6_go 59 = .ok (.iconst 0, 1) := by decide +kernel
theorem dX6_go_60 : decode cX6_go 60 = .ok (.invokevirtual 76, 3) := by decide +kernel
theorem dX6_go_63 : decode cX6_go 63 = .ok (.aload_n 0, 1) := by decide +kernel
theorem dX6_go_64 : decode cX6_go 64 = .ok (.iload_n 1, 1) := by decide +kernel
theorem dX6_go_65 : decode cX6_go 65 = .ok (.iconst 4, 1) := by decide +kernel
theorem dX6_go_66 : decode cX6_go 66 = .ok (.iconst 0, 1) := by decide +kernel
theorem dX6_go_67 : decode cX6_go 67 = .ok (.invokevirtual 76, 3) := by decide +kernel
theorem dX6_go_70 : decode cX6_go 70 = .ok (.aload_n 0, 1) := by decide +kernel
theorem dX6_go_71 : decode cX6_go 71 = .ok (.iload_n 1, 1) := by decide +kernel
theorem dX6_go_72 : decode cX6_go 72 = .ok (.iconst 5, 1) := by decide +kernel
theorem dX6_go_73 : decode cX6_go 73 = .ok (.aload_n 0, 1) := by decide +kernel
theorem dX6_go_74 : decode cX6_go 74 = .ok (.iload_n 1, 1) := by decide +kernel
theorem dX6_go_75 : decode cX6_go 75 = .ok (.iconst 0, 1) := by decide +kernel
theorem dX6_go_76 : decode cX6_go 76 = .ok (.invokevirtual 58, 3) := by decide +kernel
theorem dX6_go_79 : decode cX6_go 79 = .ok (.invokevirtual 76, 3) := by decide +kernel
theorem dX6_go_82 : decode cX6_go 82 = .ok (.aload_n 0, 1) := by decide +kernel
theorem dX6_go_83 : decode cX6_go 83 = .ok (.iload_n 1, 1) := by decide +kernel
theorem dX6_go_84 : decode cX6_go 84 = .ok (.bipush 8, 2) := by decide +kernel
theorem dX6_go_86 : decode cX6_go 86 = .ok (.aload_n 0, 1) := by decide +kernel
theorem dX6_go_87 : decode cX6_go 87 = .ok (.iload_n 1, 1) := by decide +kernel
theorem dX6_go_88 : decode cX6_go 88 = .ok (.bipush 8, 2) := by decide +kernel
theorem dX6_go_90 : decode cX6_go 90 = .ok (.invokevirtual 58, 3) := by decide +kernel
theorem dX6_go_93 : decode cX6_go 93 = .ok (.iconst 1, 1) := by decide +kernel
theorem dX6_go_94 : decode cX6_go 94 = .ok (.iadd, 1) := by decide +kernel
theorem dX6_go_95 : decode cX6_go 95 = .ok (.invokevirtual 76, 3) := by decide +kernel
theorem dX6_go_98 : decode cX6_go 98 = .ok (.goto 100, 3) := by decide +kernel
theorem dX6_go_101 : decode cX6_go 101 = .ok (.iload_n 3, 1) := by decide +kernel
theorem dX6_go_102 : decode cX6_go 102 = .ok (.ifCond .ne 55, 3) := by decide +kernel
theorem dX6_go_105 : decode cX6_go 105 = .ok (.iload_n 2, 1) := by decide +kernel
theorem dX6_go_106 : decode cX6_go 106 = .ok (.ifCond .ne 51, 3) := by decide +kernel
theorem dX6_go_109 : decode cX6_go 109 = .ok (.aload_n 0, 1) := by decide +kernel
theorem dX6_go_110 : decode cX6_go 110 = .ok (.getfield 7, 3) := by decide +kernel
theorem dX6_go_113 : decode cX6_go 113 = .ok (.bipush 79, 2) := by decide +kernel
theorem dX6_go_115 : decode cX6_go 115 = .ok (.dup2, 1) := by decide +kernel
theorem dX6_go_116 : decode cX6_go 116 = .ok (.iaload, 1) := by decide +kernel
theorem dX6_go_117 : decode cX6_go 117 = .ok (.aload_n 0, 1) := by decide +kernel
theorem dX6_go_118 : decode cX6_go 118 = .ok (.iload_n 1, 1) := by decide +kernel
theorem dX6_go_119 : decode cX6_go 119 = .ok (.invokevirtual 95, 3) := by decide +kernel
theorem dX6_go_122 : decode cX6_go 122 = .ok (.isub, 1) := by decide +kernel
theorem dX6_go_123 : decode cX6_go 123 = .ok (.iastore, 1) := by decide +kernel
theorem dX6_go_124 : decode cX6_go 124 = .ok (.aload_n 0, 1) := by decide +kernel
theorem dX6_go_125 : decode cX6_go 125 = .ok (.iload_n 1, 1) := by decide +kernel
theorem dX6_go_126 : decode cX6_go 126 = .ok (.iconst 2, 1) := by decide +kernel
theorem dX6_go_127 : decode cX6_go 127 = .ok (.aload_n 0, 1) := by decide +kernel
theorem dX6_go_128 : decode cX6_go 128 = .ok (.iload_n 1, 1) := by decide +kernel
theorem dX6_go_129 : decode cX6_go 129 = .ok (.invokevirtual 95, 3) := by decide +kernel
theorem dX6_go_132 : decode cX6_go 132 = .ok (.invokevirtual 76, 3) := by decide +kernel
theorem dX6_go_135 : decode cX6_go 135 = .ok (.aload_n 0, 1) := by decide +kernel
theorem dX6_go_136 : decode cX6_go 136 = .ok (.iload_n 1, 1) := by decide +kernel
theorem dX6_go_137 : decode cX6_go 137 = .ok (.iconst 4, 1) := by decide +kernel
theorem dX6_go_138 : decode cX6_go 138 = .ok (.iconst 1, 1) := by decide +kernel
theorem dX6_go_139 : decode cX6_go 139 = .ok (.invokevirtual 76, 3) := by decide +kernel
theorem dX6_go_142 : decode cX6_go 142 = .ok (.aload_n 0, 1) := by decide +kernel
theorem dX6_go_143 : decode cX6_go 143 = .ok (.iload_n 1, 1) := by decide +kernel
theorem dX6_go_144 : decode cX6_go 144 = .ok (.iconst 5, 1) := by decide +kernel
theorem dX6_go_145 : decode cX6_go 145 = .ok (.aload_n 0, 1) := by decide +kernel
theorem dX6_go_146 : decode cX6_go 146 = .ok (.iload_n 1, 1) := by decide +kernel
theorem dX6_go_147 : decode cX6_go 147 = .ok (.iconst 0, 1) := by decide +kernel
theorem dX6_go_148 : decode cX6_go 148 = .ok (.invokevirtual 58, 3) := by decide +kernel
theorem dX6_go_151 : decode cX6_go 151 = .ok (.invokevirtual 76, 3) := by decide +kernel
theorem dX6_go_154 : decode cX6_go 154 = .ok (.goto 44, 3) := by decide +kernel
theorem dX6_go_157 : decode cX6_go 157 = .ok (.iload_n 3, 1) := by decide +kernel
theorem dX6_go_158 : decode cX6_go 158 = .ok (.ifCond .eq 9, 3) := by decide +kernel
theorem dX6_go_161 : decode cX6_go 161 = .ok (.iload_n 2, 1) := by decide +kernel
theorem dX6_go_162 : decode cX6_go 162 = .ok (.iconst 1, 1) := by decide +kernel
theorem dX6_go_163 : decode cX6_go 163 = .ok (.iadd, 1) := by decide +kernel
theorem dX6_go_164 : decode cX6_go 164 = .ok (.goto 6, 3) := by decide +kernel
theorem dX6_go_167 : decode cX6_go 167 = .ok (.iload_n 2, 1) := by decide +kernel
theorem dX6_go_168 : decode cX6_go 168 = .ok (.iconst 1, 1) := by decide +kernel
theorem dX6_go_169 : decode cX6_go 169 = .ok (.isub, 1) := by decide +kernel
theorem dX6_go_170 : decode cX6_go 170 = .ok (.istore 4, 2) := by decide +kernel
theorem dX6_go_172 : decode cX6_go 172 = .ok (.aload_n 0, 1) := by decide +kernel
theorem dX6_go_173 : decode cX6_go 173 = .ok (.iload_n 1, 1) := by decide +kernel
theorem dX6_go_174 : decode cX6_go 174 = .ok (.iconst 3, 1) := by decide +kernel
theorem dX6_go_175 : decode cX6_go 175 = .ok (.iload 4, 2) := by decide +kernel
theorem dX6_go_177 : decode cX6_go 177 = .ok (.invokevirtual 76, 3) := by decide +kernel
theorem dX6_go_180 : decode cX6_go 180 = .ok (.aload_n 0, 1) := by decide +kernel
theorem dX6_go_181 : decode cX6_go 181 = .ok (.iload_n 1, 1) := by decide +kernel
theorem dX6_go_182 : decode cX6_go 182 = .ok (.iconst 5, 1) := by decide +kernel
theorem dX6_go_183 : decode cX6_go 183 = .ok (.iconst 1, 1) := by decide +kernel
theorem dX6_go_184 : decode cX6_go 184 = .ok (.aload_n 0, 1) := by decide +kernel
theorem dX6_go_185 : decode cX6_go 185 = .ok (.iload 4, 2) := by decide +kernel
theorem dX6_go_187 : decode cX6_go 187 = .ok (.iconst 2, 1) := by decide +kernel
theorem dX6_go_188 : decode cX6_go 188 = .ok (.invokevirtual 83, 3) := by decide +kernel
theorem dX6_go_191 : decode cX6_go 191 = .ok (.bipush 100, 2) := by decide +kernel
theorem dX6_go_193 : decode cX6_go 193 = .ok (.idiv, 1) := by decide +kernel
theorem dX6_go_194 : decode cX6_go 194 = .ok (.iadd, 1) := by decide +kernel
theorem dX6_go_195 : decode cX6_go 195 = .ok (.invokevirtual 76, 3) := by decide +kernel
theorem dX6_go_198 : decode cX6_go 198 = .ok (.return_, 1) := by decide +kernel
theorem dX6_sink_0 : decode cX6_sink 0 = .ok (.iconst 0, 1) := by decide +kernel
theorem dX6_sink_1 : decode cX6_sink 1 = .ok (.istore_n 1, 1) := by decide +kernel
theorem dX6_sink_2 : decode cX6_sink 2 = .ok (.iload_n 1, 1) := by decide +kernel
theorem dX6_sink_3 : decode cX6_sink 3 = .ok (.aload_n 0, 1) := by decide +kernel
theorem dX6_sink_4 : decode cX6_sink 4 = .ok (.getfield 7, 3) := by decide +kernel
theorem dX6_sink_7 : decode cX6_sink 7 = .ok (.bipush 72, 2) := by decide +kernel
theorem dX6_sink_9 : decode cX6_sink 9 = .ok (.iaload, 1) := by decide +kernel
theorem dX6_sink_10 : decode cX6_sink 10 = .ok (.if_icmp .ge 91, 3) := by decide +kernel
theorem dX6_sink_13 : decode cX6_sink 13 = .ok (.aload_n 0, 1) := by decide +kernel
theorem dX6_sink_14 : decode cX6_sink 14 = .ok (.iload_n 1, 1) := by decide +kernel
theorem dX6_sink_15 : decode cX6_sink 15 = .ok (.iconst 2, 1) := by decide +kernel
theorem dX6_sink_16 : decode cX6_sink 16 = .ok (.invokevirtual 83, 3) := by decide +kernel
theorem dX6_sink_19 : decode cX6_sink 19 = .ok (.istore_n 2, 1) := by decide +kernel
theorem dX6_sink_20 : decode cX6_sink 20 = .ok (.aload_n 0, 1) := by decide +kernel
theorem dX6_sink_21 : decode cX6_sink 21 = .ok (.iload_n 1, 1) := by decide +kernel
theorem dX6_sink_22 : decode cX6_sink 22 = .ok (.invokevirtual 98, 3) := by decide +kernel
theorem dX6_sink_25 : decode cX6_sink 25 = .ok (.ifCond .ne 12, 3) := by decide +kernel
theorem dX6_sink_28 : decode cX6_sink 28 = .ok (.aload_n 0, 1) := by decide +kernel
theorem dX6_sink_29 : decode cX6_sink 29 = .ok (.iconst 1, 1) := by decide +kernel
theorem dX6_sink_30 : decode cX6_sink 30 = .ok (.invokevirtual 72, 3) := by decide +kernel
theorem dX6_sink_33 : decode cX6_sink 33 = .ok (.ineg, 1) := by decide +kernel
theorem dX6_sink_34 : decode cX6_sink 34 = .ok (.goto 18, 3) := by decide +kernel
theorem dX6_sink_37 : decode cX6_sink 37 = .ok (.aload_n 0, 1) := by decide +kernel
theorem dX6_sink_38 : decode cX6_sink 38 = .ok (.iload_n 1, 1) := by decide +kernel
theorem dX6_sink_39 : decode cX6_sink 39 = .ok (.invokevirtual 115, 3) := by decide +kernel
theorem dX6_sink_42 : decode cX6_sink 42 = .ok (.aload_n 0, 1) := by decide +kernel
theorem dX6_sink_43 : decode cX6_sink 43 = .ok (.iload_n 1, 1) := by decide +kernel
theorem dX6_sink_44 : decode cX6_sink 44 = .ok (.iconst 0, 1) := by decide +kernel
theorem dX6_sink_45 : decode cX6_sink 45 = .ok (.invokevirtual 83, 3) := by decide +kernel
theorem dX6_sink_48 : decode cX6_sink 48 = .ok (.imul, 1) := by decide +kernel
theorem dX6_sink_49 : decode cX6_sink 49 = .ok (.bipush 10, 2) := by decide +kernel
theorem dX6_sink_51 : decode cX6_sink 51 = .ok (.idiv, 1) := by decide +kernel
theorem dX6_sink_52 : decode cX6_sink 52 = .ok (.istore_n 3, 1) := by decide +kernel
theorem dX6_sink_53 : decode cX6_sink 53 = .ok (.iload_n 2, 1) := by decide +kernel
theorem dX6_sink_54 : decode cX6_sink 54 = .ok (.iload_n 3, 1) := by decide +kernel
theorem dX6_sink_55 : decode cX6_sink 55 = .ok (.iadd, 1) := by decide +kernel
theorem dX6_sink_56 : decode cX6_sink 56 = .ok (.istore 4, 2) := by decide +kernel
theorem dX6_sink_58 : decode cX6_sink 58 = .ok (.aload_n 0, 1) := by decide +kernel
theorem dX6_sink_59 : decode cX6_sink 59 = .ok (.getfield 7, 3) := by decide +kernel
theorem dX6_sink_62 : decode cX6_sink 62 = .ok (.iconst 0, 1) := by decide +kernel
theorem dX6_sink_63 : decode cX6_sink 63 = .ok (.iconst 3, 1) := by decide +kernel
theorem dX6_sink_64 : decode cX6_sink 64 = .ok (.iload_n 1, 1) := by decide +kernel
theorem dX6_sink_65 : decode cX6_sink 65 = .ok (.imul, 1) := by decide +kernel
theorem dX6_sink_66 : decode cX6_sink 66 = .ok (.iadd, 1) := by decide +kernel
theorem dX6_sink_67 : decode cX6_sink 67 = .ok (.iconst 2, 1) := by decide +kernel
theorem dX6_sink_68 : decode cX6_sink 68 = .ok (.iadd, 1) := by decide +kernel
theorem dX6_sink_69 : decode cX6_sink 69 = .ok (.iload 4, 2) := by decide +kernel
theorem dX6_sink_71 : decode cX6_sink 71 = .ok (.ifCond .ge 7, 3) := by decide +kernel
theorem dX6_sink_74 : decode cX6_sink 74 = .ok (.iconst 0, 1) := by decide +kernel
theorem dX6_sink_75 : decode cX6_sink 75 = .ok (.goto 19, 3) := by decide +kernel
theorem dX6_sink_78 : decode cX6_sink 78 = .ok (.iload 4, 2) := by decide +kernel
theorem dX6_sink_80 : decode cX6_sink 80 = .ok (.sipush 999, 3) := by decide +kernel
theorem dX6_sink_83 : decode cX6_sink 83 = .ok (.if_icmp .le 9, 3) := by decide +kernel
theorem dX6_sink_86 : decode cX6_sink 86 = .ok (.sipush 999, 3) := by decide +kernel
theorem dX6_sink_89 : decode cX6_sink 89 = .ok (.goto 5, 3) := by decide +kernel
theorem dX6_sink_92 : decode cX6_sink 92 = .ok (.iload 4, 2) := by decide +kernel
theorem dX6_sink_94 : decode cX6_sink 94 = .ok (.iastore, 1) := by decide +kernel
theorem dX6_sink_95 : decode cX6_sink 95 = .ok (.iinc 1 1, 3) := by decide +kernel
theorem dX6_sink_98 : decode cX6_sink 98 = .ok (.goto (-96), 3) := by decide +kernel
theorem dX6_sink_101 : decode cX6_sink 101 = .ok (.return_, 1) := by decide +kernel
theorem dX6_tick_0 : decode cX6_tick 0 = .ok (.iconst 0, 1) := by decide +kernel
theorem dX6_tick_1 : decode cX6_tick 1 = .ok (.istore_n 1, 1) := by decide +kernel
theorem dX6_tick_2 : decode cX6_tick 2 = .ok (.iconst 0, 1) := by decide +kernel
theorem dX6_tick_3 : decode cX6_tick 3 = .ok (.istore_n 2, 1) := by decide +kernel
theorem dX6_tick_4 : decode cX6_tick 4 = .ok (.iload_n 2, 1) := by decide +kernel
theorem dX6_tick_5 : decode cX6_tick 5 = .ok (.aload_n 0, 1) := by decide +kernel
theorem dX6_tick_6 : decode cX6_tick 6 = .ok (.getfield 7, 3) := by decide +kernel
theorem dX6_tick_9 : decode cX6_tick 9 = .ok (.bipush 73, 2) := by decide +kernel
theorem dX6_tick_11 : decode cX6_tick 11 = .ok (.iaload, 1) := by decide +kernel
theorem dX6_tick_12 : decode cX6_tick 12 = .ok (.if_icmp .ge 20, 3) := by decide +kernel
theorem dX6_tick_15 : decode cX6_tick 15 = .ok (.iload_n 1, 1) := by decide +kernel
theorem dX6_tick_16 : decode cX6_tick 16 = .ok (.aload_n 0, 1) := by decide +kernel
theorem dX6_tick_17 : decode cX6_tick 17 = .ok (.iload_n 2, 1) := by decide +kernel
theorem dX6_tick_18 : decode cX6_tick 18 = .ok (.iconst 4, 1) := by decide +kernel
theorem dX6_tick_19 : decode cX6_tick 19 = .ok (.invokevirtual 58, 3) := by decide +kernel
theorem dX6_tick_22 : decode cX6_tick 22 = .ok (.iload_n 2, 1) := by decide +kernel
theorem dX6_tick_23 : decode cX6_tick 23 = .ok (.ishl, 1) := by decide +kernel
theorem dX6_tick_24 : decode cX6_tick 24 = .ok (.ior, 1) := by decide +kernel
theorem dX6_tick_25 : decode cX6_tick 25 = .ok (.istore_n 1, 1) := by decide +kernel
theorem dX6_tick_26 : decode cX6_tick 26 = .ok (.iinc 2 1, 3) := by decide +kernel
theorem dX6_tick_29 : decode cX6_tick 29 = .ok (.goto (-25), 3) := by decide +kernel
theorem dX6_tick_32 : decode cX6_tick 32 = .ok (.aload_n 0, 1) := by decide +kernel
theorem dX6_tick_33 : decode cX6_tick 33 = .ok (.iconst 2, 1) := by decide +kernel
theorem dX6_tick_34 : decode cX6_tick 34 = .ok (.invokevirtual 72, 3) := by decide +kernel
theorem dX6_tick_37 : decode cX6_tick 37 = .ok (.istore_n 2, 1) := by decide +kernel
theorem dX6_tick_38 : decode cX6_tick 38 = .ok (.iconst 0, 1) := by decide +kernel
theorem dX6_tick_39 : decode cX6_tick 39 = .ok (.istore_n 3, 1) := by decide +kernel
theorem dX6_tick_40 : decode cX6_tick 40 = .ok (.iload_n 3, 1) := by decide +kernel
theorem dX6_tick_41 : decode cX6_tick 41 = .ok (.iconst 2, 1) := by decide +kernel
theorem dX6_tick_42 : decode cX6_tick 42 = .ok (.if_icmp .ge 76, 3) := by decide +kernel
theorem dX6_tick_45 : decode cX6_tick 45 = .ok (.iconst 0, 1) := by decide +kernel
theorem dX6_tick_46 : decode cX6_tick 46 = .ok (.istore 4, 2) := by decide +kernel
theorem dX6_tick_48 : decode cX6_tick 48 = .ok (.iload 4, 2) := by decide +kernel
theorem dX6_tick_50 : decode cX6_tick 50 = .ok (.aload_n 0, 1) := by decide +kernel
theorem dX6_tick_51 : decode cX6_tick 51 = .ok (.getfield 7, 3) := by decide +kernel
theorem dX6_tick_54 : decode cX6_tick 54 = .ok (.bipush 73, 2) := by decide +kernel
theorem dX6_tick_56 : decode cX6_tick 56 = .ok (.iaload, 1) := by decide +kernel
theorem dX6_tick_57 : decode cX6_tick 57 = .ok (.if_icmp .ge 55, 3) := by decide +kernel
theorem dX6_tick_60 : decode cX6_tick 60 = .ok (.iload_n 2, 1) := by decide +kernel
theorem dX6_tick_61 : decode cX6_tick 61 = .ok (.iconst 2, 1) := by decide +kernel
theorem dX6_tick_62 : decode cX6_tick 62 = .ok (.if_icmp .ne 7, 3) := by decide +kernel
theorem dX6_tick_65 : decode cX6_tick 65 = .ok (.iconst 1, 1) := by decide +kernel
theorem dX6_tick_66 : decode cX6_tick 66 = .ok (.goto 24, 3) := by decide +kernel
theorem dX6_tick_69 : decode cX6_tick 69 = .ok (.iload_n 2, 1) := by decide +kernel
theorem dX6_tick_70 : decode cX6_tick 70 = .ok (.ifCond .ne 12, 3) := by decide +kernel
theorem dX6_tick_73 : decode cX6_tick 73 = .ok (.iload_n 1, 1) := by decide +kernel
theorem dX6_tick_74 : decode cX6_tick 74 = .ok (.iload 4, 2) := by decide +kernel
theorem dX6_tick_76 : decode cX6_tick 76 = .ok (.ishr, 1) := by decide +kernel
theorem dX6_tick_77 : decode cX6_tick 77 = .ok (.iconst 1, 1) := by decide +kernel
theorem dX6_tick_78 : decode cX6_tick 78 = .ok (.iand, 1) := by decide +kernel
theorem dX6_tick_79 : decode cX6_tick 79 = .ok (.goto 11, 3) := by decide +kernel
theorem dX6_tick_82 : decode cX6_tick 82 = .ok (.iconst 1, 1) := by decide +kernel
theorem dX6_tick_83 : decode cX6_tick 83 = .ok (.iload_n 1, 1) := by decide +kernel
theorem dX6_tick_84 : decode cX6_tick 84 = .ok (.iload 4, 2) := by decide +kernel
theorem dX6_tick_86 : decode cX6_tick 86 = .ok (.ishr, 1) := by decide +kernel
theorem dX6_tick_87 : decode cX6_tick 87 = .ok (.iconst 1, 1) := by decide +kernel
theorem dX6_tick_88 : decode cX6_tick 88 = .ok (.iand, 1) := by decide +kernel
theorem dX6_tick_89 : decode cX6_tick 89 = .ok (.isub, 1) := by decide +kernel
theorem dX6_tick_90 : decode cX6_tick 90 = .ok (.istore 5, 2) := by decide +kernel
theorem dX6_tick_92 : decode cX6_tick 92 = .ok (.iload 5, 2) := by decide +kernel
theorem dX6_tick_94 : decode cX6_tick 94 = .ok (.iconst 1, 1) := by decide +kernel
theorem dX6_tick_95 : decode cX6_tick 95 = .ok (.iload_n 3, 1) := by decide +kernel
theorem dX6_tick_96 : decode cX6_tick 96 = .ok (.isub, 1) := by decide +kernel
theorem dX6_tick_97 : decode cX6_tick 97 = .ok (.if_icmp .ne 9, 3) := by decide +kernel
theorem dX6_tick_100 : decode cX6_tick 100 = .ok (.aload_n 0, 1) := by decide +kernel
theorem dX6_tick_101 : decode cX6_tick 101 = .ok (.iload 4, 2) := by decide +kernel
theorem dX6_tick_103 : decode cX6_tick 103 = .ok (.invokevirtual 118, 3) := by decide +kernel
theorem dX6_tick_106 : decode cX6_tick 106 = .ok (.iinc 4 1, 3) := by decide +kernel
theorem dX6_tick_109 : decode cX6_tick 109 = .ok (.goto (-61), 3) := by decide +kernel
theorem dX6_tick_112 : decode cX6_tick 112 = .ok (.iinc 3 1, 3) := by decide +kernel
theorem dX6_tick_115 : decode cX6_tick 115 = .ok (.goto (-75), 3) := by decide +kernel
theorem dX6_tick_118 : decode cX6_tick 118 = .ok (.aload_n 0, 1) := by decide +kernel
theorem dX6_tick_119 : decode cX6_tick 119 = .ok (.invokevirtual 121, 3) := by decide +kernel
theorem dX6_tick_122 : decode cX6_tick 122 = .ok (.aload_n 0, 1) := by decide +kernel
theorem dX6_tick_123 : decode cX6_tick 123 = .ok (.getfield 7, 3) := by decide +kernel
theorem dX6_tick_126 : decode cX6_tick 126 = .ok (.bipush 74, 2) := by decide +kernel
theorem dX6_tick_128 : decode cX6_tick 128 = .ok (.dup2, 1) := by decide +kernel
theorem dX6_tick_129 : decode cX6_tick 129 = .ok (.iaload, 1) := by decide +kernel
theorem dX6_tick_130 : decode cX6_tick 130 = .ok (.iconst 1, 1) := by decide +kernel
theorem dX6_tick_131 : decode cX6_tick 131 = .ok (.iadd, 1) := by decide +kernel
theorem dX6_tick_132 : decode cX6_tick 132 = .ok (.iastore, 1) := by decide +kernel
theorem dX6_tick_133 : decode cX6_tick 133 = .ok (.return_, 1) := by decide +kernel
theorem dX6_run_0 : decode cX6_run 0 = .ok (.iload_n 1, 1) := by decide +kernel
theorem dX6_run_1 : decode cX6_run 1 = .ok (.iconst 1, 1) := by decide +kernel
theorem dX6_run_2 : decode cX6_run 2 = .ok (.sipush 200, 3) := by decide +kernel
theorem dX6_run_5 : decode cX6_run 5 = .ok (.invokestatic 29, 3) := by decide +kernel
theorem dX6_run_8 : decode cX6_run 8 = .ok (.ifCond .ne 6, 3) := by decide +kernel
theorem dX6_run_11 : decode cX6_run 11 = .ok (.bipush (-2), 2) := by decide +kernel
theorem dX6_run_13 : decode cX6_run 13 = .ok (.ireturn, 1) := by decide +kernel
theorem dX6_run_14 : decode cX6_run 14 = .ok (.aload_n 0, 1) := by decide +kernel
theorem dX6_run_15 : decode cX6_run 15 = .ok (.invokevirtual 62, 3) := by decide +kernel
theorem dX6_run_18 : decode cX6_run 18 = .ok (.aload_n 0, 1) := by decide +kernel
theorem dX6_run_19 : decode cX6_run 19 = .ok (.iconst 5, 1) := by decide +kernel
theorem dX6_run_20 : decode cX6_run 20 = .ok (.invokevirtual 72, 3) := by decide +kernel
theorem dX6_run_23 : decode cX6_run 23 = .ok (.istore_n 2, 1) := by decide +kernel
theorem dX6_run_24 : decode cX6_run 24 = .ok (.iconst 0, 1) := by decide +kernel
theorem dX6_run_25 : decode cX6_run 25 = .ok (.istore_n 3, 1) := by decide +kernel
theorem dX6_run_26 : decode cX6_run 26 = .ok (.iload_n 3, 1) := by decide +kernel
theorem dX6_run_27 : decode cX6_run 27 = .ok (.iload_n 1, 1) := by decide +kernel
theorem dX6_run_28 : decode cX6_run 28 = .ok (.if_icmp .ge 13, 3) := by decide +kernel
theorem dX6_run_31 : decode cX6_run 31 = .ok (.aload_n 0, 1) := by decide +kernel
theorem dX6_run_32 : decode cX6_run 32 = .ok (.invokevirtual 124, 3) := by decide +kernel
theorem dX6_run_35 : decode cX6_run 35 = .ok (.iinc 3 1, 3) := by decide +kernel
theorem dX6_run_38 : decode cX6_run 38 = .ok (.goto (-12), 3) := by decide +kernel
theorem dX6_run_41 : decode cX6_run 41 = .ok (.aload_n 0, 1) := by decide +kernel
theorem dX6_run_42 : decode cX6_run 42 = .ok (.iconst 5, 1) := by decide +kernel
theorem dX6_run_43 : decode cX6_run 43 = .ok (.invokevirtual 72, 3) := by decide +kernel
theorem dX6_run_46 : decode cX6_run 46 = .ok (.iload_n 2, 1) := by decide +kernel
theorem dX6_run_47 : decode cX6_run 47 = .ok (.isub, 1) := by decide +kernel
theorem dX6_run_48 : decode cX6_run 48 = .ok (.ireturn, 1) := by decide +kernel
theorem dX6_undo_0 : decode cX6_undo 0 = .ok (.aload_n 0, 1) := by decide +kernel
theorem dX6_undo_1 : decode cX6_undo 1 = .ok (.getfield 33, 3) := by decide +kernel
theorem dX6_undo_4 : decode cX6_undo 4 = .ok (.ifCond .ne 6, 3) := by decide +kernel
theorem dX6_undo_7 : decode cX6_undo 7 = .ok (.bipush (-3), 2) := by decide +kernel
theorem dX6_undo_9 : decode cX6_undo 9 = .ok (.ireturn, 1) := by decide +kernel
theorem dX6_undo_10 : decode cX6_undo 10 = .ok (.aload_n 0, 1) := by decide +kernel
theorem dX6_undo_11 : decode cX6_undo 11 = .ok (.dup, 1) := by decide +kernel
theorem dX6_undo_12 : decode cX6_undo 12 = .ok (.getfield 33, 3) := by decide +kernel
theorem dX6_undo_15 : decode cX6_undo 15 = .ok (.iconst 1, 1) := by decide +kernel
theorem dX6_undo_16 : decode cX6_undo 16 = .ok (.isub, 1) := by decide +kernel
theorem dX6_undo_17 : decode cX6_undo 17 = .ok (.putfield 33, 3) := by decide +kernel
theorem dX6_undo_20 : decode cX6_undo 20 = .ok (.aload_n 0, 1) := by decide +kernel
theorem dX6_undo_21 : decode cX6_undo 21 = .ok (.aload_n 0, 1) := by decide +kernel
theorem dX6_undo_22 : decode cX6_undo 22 = .ok (.getfield 16, 3) := by decide +kernel
theorem dX6_undo_25 : decode cX6_undo 25 = .ok (.bipush 82, 2) := by decide +kernel
theorem dX6_undo_27 : decode cX6_undo 27 = .ok (.aload_n 0, 1) := by decide +kernel
theorem dX6_undo_28 : decode cX6_undo 28 = .ok (.getfield 33, 3) := by decide +kernel
theorem dX6_undo_31 : decode cX6_undo 31 = .ok (.imul, 1) := by decide +kernel
theorem dX6_undo_32 : decode cX6_undo 32 = .ok (.aload_n 0, 1) := by decide +kernel
theorem dX6_undo_33 : decode cX6_undo 33 = .ok (.getfield 7, 3) := by decide +kernel
theorem dX6_undo_36 : decode cX6_undo 36 = .ok (.iconst 0, 1) := by decide +kernel
theorem dX6_undo_37 : decode cX6_undo 37 = .ok (.invokevirtual 37, 3) := by decide +kernel
theorem dX6_undo_40 : decode cX6_undo 40 = .ok (.aload_n 0, 1) := by decide +kernel
theorem dX6_undo_41 : decode cX6_undo 41 = .ok (.getfield 33, 3) := by decide +kernel
theorem dX6_undo_44 : decode cX6_undo 44 = .ok (.ireturn, 1) := by decide +kernel
theorem dX6_keep_0 : decode cX6_keep 0 = .ok (.iload_n 1, 1) := by decide +kernel
theorem dX6_keep_1 : decode cX6_keep 1 = .ok (.iconst 0, 1) := by decide +kernel
theorem dX6_keep_2 : decode cX6_keep 2 = .ok (.iconst 1, 1) := by decide +kernel
theorem dX6_keep_3 : decode cX6_keep 3 = .ok (.invokestatic 29, 3) := by decide +kernel
theorem dX6_keep_6 : decode cX6_keep 6 = .ok (.ifCond .ne 6, 3) := by decide +kernel
theorem dX6_keep_9 : decode cX6_keep 9 = .ok (.bipush (-2), 2) := by decide +kernel
theorem dX6_keep_11 : decode cX6_keep 11 = .ok (.ireturn, 1) := by decide +kernel
theorem dX6_keep_12 : decode cX6_keep 12 = .ok (.aload_n 0, 1) := by decide +kernel
theorem dX6_keep_13 : decode cX6_keep 13 = .ok (.aload_n 0, 1) := by decide +kernel
theorem dX6_keep_14 : decode cX6_keep 14 = .ok (.getfield 7, 3) := by decide +kernel
theorem dX6_keep_17 : decode cX6_keep 17 = .ok (.iconst 0, 1) := by decide +kernel
theorem dX6_keep_18 : decode cX6_keep 18 = .ok (.aload_n 0, 1) := by decide +kernel
theorem dX6_keep_19 : decode cX6_keep 19 = .ok (.getfield 19, 3) := by decide +kernel
theorem dX6_keep_22 : decode cX6_keep 22 = .ok (.bipush 82, 2) := by decide +kernel
theorem dX6_keep_24 : decode cX6_keep 24 = .ok (.iload_n 1, 1) := by decide +kernel
theorem dX6_keep_25 : decode cX6_keep 25 = .ok (.imul, 1) := by decide +kernel
theorem dX6_keep_26 : decode cX6_keep 26 = .ok (.invokevirtual 37, 3) := by decide +kernel
theorem dX6_keep_29 : decode cX6_keep 29 = .ok (.aload_n 0, 1) := by decide +kernel
theorem dX6_keep_30 : decode cX6_keep 30 = .ok (.dup, 1) := by decide +kernel
theorem dX6_keep_31 : decode cX6_keep 31 = .ok (.getfield 127, 3) := by decide +kernel
theorem dX6_keep_34 : decode cX6_keep 34 = .ok (.iconst 1, 1) := by decide +kernel
theorem dX6_keep_35 : decode cX6_keep 35 = .ok (.iload_n 1, 1) := by decide +kernel
theorem dX6_keep_36 : decode cX6_keep 36 = .ok (.ishl, 1) := by decide +kernel
theorem dX6_keep_37 : decode cX6_keep 37 = .ok (.ior, 1) := by decide +kernel
theorem dX6_keep_38 : decode cX6_keep 38 = .ok (.putfield 127, 3) := by decide +kernel
theorem dX6_keep_41 : decode cX6_keep 41 = .ok (.aload_n 0, 1) := by decide +kernel
theorem dX6_keep_42 : decode cX6_keep 42 = .ok (.getfield 7, 3) := by decide +kernel
theorem dX6_keep_45 : decode cX6_keep 45 = .ok (.bipush 74, 2) := by decide +kernel
theorem dX6_keep_47 : decode cX6_keep 47 = .ok (.iaload, 1) := by decide +kernel
theorem dX6_keep_48 : decode cX6_keep 48 = .ok (.ireturn, 1) := by decide +kernel
theorem dX6_back_0 : decode cX6_back 0 = .ok (.iload_n 1, 1) := by decide +kernel
theorem dX6_back_1 : decode cX6_back 1 = .ok (.iconst 0, 1) := by decide +kernel
theorem dX6_back_2 : decode cX6_back 2 = .ok (.iconst 1, 1) := by decide +kernel
theorem dX6_back_3 : decode cX6_back 3 = .ok (.invokestatic 29, 3) := by decide +kernel
theorem dX6_back_6 : decode cX6_back 6 = .ok (.ifCond .ne 6, 3) := by decide +kernel
theorem dX6_back_9 : decode cX6_back 9 = .ok (.bipush (-2), 2) := by decide +kernel
theorem dX6_back_11 : decode cX6_back 11 = .ok (.ireturn, 1) := by decide +kernel
theorem dX6_back_12 : decode cX6_back 12 = .ok (.aload_n 0, 1) := by decide +kernel
theorem dX6_back_13 : decode cX6_back 13 = .ok (.getfield 127, 3) := by decide +kernel
theorem dX6_back_16 : decode cX6_back 16 = .ok (.iload_n 1, 1) := by decide +kernel
theorem dX6_back_17 : decode cX6_back 17 = .ok (.ishr, 1) := by decide +kernel
theorem dX6_back_18 : decode cX6_back 18 = .ok (.iconst 1, 1) := by decide +kernel
theorem dX6_back_19 : decode cX6_back 19 = .ok (.iand, 1) := by decide +kernel
theorem dX6_back_20 : decode cX6_back 20 = .ok (.ifCond .ne 6, 3) := by decide +kernel
theorem dX6_back_23 : decode cX6_back 23 = .ok (.bipush (-3), 2) := by decide +kernel
theorem dX6_back_25 : decode cX6_back 25 = .ok (.ireturn, 1) := by decide +kernel
theorem dX6_back_26 : decode cX6_back 26 = .ok (.aload_n 0, 1) := by decide +kernel
theorem dX6_back_27 : decode cX6_back 27 = .ok (.invokevirtual 62, 3) := by decide +kernel
theorem dX6_back_30 : decode cX6_back 30 = .ok (.aload_n 0, 1) := by decide +kernel
theorem dX6_back_31 : decode cX6_back 31 = .ok (.aload_n 0, 1) := by decide +kernel
theorem dX6_back_32 : decode cX6_back 32 = .ok (.getfield 19, 3) := by decide +kernel
theorem dX6_back_35 : decode cX6_back 35 = .ok (.bipush 82, 2) := by decide +kernel
theorem dX6_back_37 : decode cX6_back 37 = .ok (.iload_n 1, 1) := by decide +kernel
theorem dX6_back_38 : decode cX6_back 38 = .ok (.imul, 1) := by decide +kernel
theorem dX6_back_39 : decode cX6_back 39 = .ok (.aload_n 0, 1) := by decide +kernel
theorem dX6_back_40 : decode cX6_back 40 = .ok (.getfield 7, 3) := by decide +kernel
theorem dX6_back_43 : decode cX6_back 43 = .ok (.iconst 0, 1) := by decide +kernel
theorem dX6_back_44 : decode cX6_back 44 = .ok (.invokevirtual 37, 3) := by decide +kernel
theorem dX6_back_47 : decode cX6_back 47 = .ok (.aload_n 0, 1) := by decide +kernel
theorem dX6_back_48 : decode cX6_back 48 = .ok (.getfield 7, 3) := by decide +kernel
theorem dX6_back_51 : decode cX6_back 51 = .ok (.bipush 74, 2) := by decide +kernel
theorem dX6_back_53 : decode cX6_back 53 = .ok (.iaload, 1) := by decide +kernel
theorem dX6_back_54 : decode cX6_back 54 = .ok (.ireturn, 1) := by decide +kernel
theorem dX6_resting_0 : decode cX6_resting 0 = .ok (.aload_n 0, 1) := by decide +kernel
theorem dX6_resting_1 : decode cX6_resting 1 = .ok (.iload_n 1, 1) := by decide +kernel
theorem dX6_resting_2 : decode cX6_resting 2 = .ok (.iconst 2, 1) := by decide +kernel
theorem dX6_resting_3 : decode cX6_resting 3 = .ok (.invokevirtual 83, 3) := by decide +kernel
theorem dX6_resting_6 : decode cX6_resting 6 = .ok (.aload_n 0, 1) := by decide +kernel
theorem dX6_resting_7 : decode cX6_resting 7 = .ok (.iconst 0, 1) := by decide +kernel
theorem dX6_resting_8 : decode cX6_resting 8 = .ok (.invokevirtual 72, 3) := by decide +kernel
theorem dX6_resting_11 : decode cX6_resting 11 = .ok (.isub, 1) := by decide +kernel
theorem dX6_resting_12 : decode cX6_resting 12 = .ok (.istore_n 2, 1) := by decide +kernel
theorem dX6_resting_13 : decode cX6_resting 13 = .ok (.iload_n 2, 1) := by decide +kernel
theorem dX6_resting_14 : decode cX6_resting 14 = .ok (.ifCond .gt 7, 3) := by decide +kernel
theorem dX6_resting_17 : decode cX6_resting 17 = .ok (.iconst 0, 1) := by decide +kernel
theorem dX6_resting_18 : decode cX6_resting 18 = .ok (.goto 18, 3) := by decide +kernel
theorem dX6_resting_21 : decode cX6_resting 21 = .ok (.iload_n 2, 1) := by decide +kernel
theorem dX6_resting_22 : decode cX6_resting 22 = .ok (.aload_n 0, 1) := by decide +kernel
theorem dX6_resting_23 : decode cX6_resting 23 = .ok (.iconst 1, 1) := by decide +kernel
theorem dX6_resting_24 : decode cX6_resting 24 = .ok (.invokevirtual 72, 3) := by decide +kernel
theorem dX6_resting_27 : decode cX6_resting 27 = .ok (.iadd, 1) := by decide +kernel
theorem dX6_resting_28 : decode cX6_resting 28 = .ok (.iconst 1, 1) := by decide +kernel
theorem dX6_resting_29 : decode cX6_resting 29 = .ok (.isub, 1) := by decide +kernel
theorem dX6_resting_30 : decode cX6_resting 30 = .ok (.aload_n 0, 1) := by decide +kernel
theorem dX6_resting_31 : decode cX6_resting 31 = .ok (.iconst 1, 1) := by decide +kernel
theorem dX6_resting_32 : decode cX6_resting 32 = .ok (.invokevirtual 72, 3) := by decide +kernel
theorem dX6_resting_35 : decode cX6_resting 35 = .ok (.idiv, 1) := by decide +kernel
theorem dX6_resting_36 : decode cX6_resting 36 = .ok (.ireturn, 1) := by decide +kernel
theorem dX6_segmentNow_0 : decode cX6_segmentNow 0 = .ok (.iload_n 2, 1) := by decide +kernel
theorem dX6_segmentNow_1 : decode cX6_segmentNow 1 = .ok (.tableswitch 70 0 5 #[39, 39, 39, 46, 52, 58], 39) := by decide +kernel
theorem dX6_segmentNow_40 : decode cX6_segmentNow 40 = .ok (.aload_n 0, 1) := by decide +kernel
theorem dX6_segmentNow_41 : decode cX6_segmentNow 41 = .ok (.iload_n 1, 1) := by decide +kernel
theorem dX6_segmentNow_42 : decode cX6_segmentNow 42 = .ok (.iload_n 2, 1) := by decide +kernel
theorem dX6_segmentNow_43 : decode cX6_segmentNow 43 = .ok (.invokevirtual 83, 3) := by decide +kernel
theorem dX6_segmentNow_46 : decode cX6_segmentNow 46 = .ok (.ireturn, 1) := by decide +kernel
theorem dX6_segmentNow_47 : decode cX6_segmentNow 47 = .ok (.aload_n 0, 1) := by decide +kernel
theorem dX6_segmentNow_48 : decode cX6_segmentNow 48 = .ok (.iload_n 1, 1) := by decide +kernel
theorem dX6_segmentNow_49 : decode cX6_segmentNow 49 = .ok (.invokevirtual 98, 3) := by decide +kernel
theorem dX6_segmentNow_52 : decode cX6_segmentNow 52 = .ok (.ireturn, 1) := by decide +kernel
theorem dX6_segmentNow_53 : decode cX6_segmentNow 53 = .ok (.aload_n 0, 1) := by decide +kernel
theorem dX6_segmentNow_54 : decode cX6_segmentNow 54 = .ok (.iload_n 1, 1) := by decide +kernel
theorem dX6_segmentNow_55 : decode cX6_segmentNow 55 = .ok (.invokevirtual 115, 3) := by decide +kernel
theorem dX6_segmentNow_58 : decode cX6_segmentNow 58 = .ok (.ireturn, 1) := by decide +kernel
theorem dX6_segmentNow_59 : decode cX6_segmentNow 59 = .ok (.aload_n 0, 1) := by decide +kernel
theorem dX6_segmentNow_60 : decode cX6_segmentNow 60 = .ok (.iload_n 1, 1) := by decide +kernel
theorem dX6_segmentNow_61 : decode cX6_segmentNow 61 = .ok (.invokevirtual 101, 3) := by decide +kernel
theorem dX6_segmentNow_64 : decode cX6_segmentNow 64 = .ok (.aload_n 0, 1) := by decide +kernel
theorem dX6_segmentNow_65 : decode cX6_segmentNow 65 = .ok (.iload_n 1, 1) := by decide +kernel
theorem dX6_segmentNow_66 : decode cX6_segmentNow 66 = .ok (.invokevirtual 98, 3) := by decide +kernel
theorem dX6_segmentNow_69 : decode cX6_segmentNow 69 = .ok (.isub, 1) := by decide +kernel
theorem dX6_segmentNow_70 : decode cX6_segmentNow 70 = .ok (.ireturn, 1) := by decide +kernel
theorem dX6_segmentNow_71 : decode cX6_segmentNow 71 = .ok (.aload_n 0, 1) := by decide +kernel
theorem dX6_segmentNow_72 : decode cX6_segmentNow 72 = .ok (.iload_n 1, 1) := by decide +kernel
theorem dX6_segmentNow_73 : decode cX6_segmentNow 73 = .ok (.invokevirtual 130, 3) := by decide +kernel
theorem dX6_segmentNow_76 : decode cX6_segmentNow 76 = .ok (.ireturn, 1) := by decide +kernel
theorem dX6_segment_0 : decode cX6_segment 0 = .ok (.aload_n 0, 1) := by decide +kernel
theorem dX6_segment_1 : decode cX6_segment 1 = .ok (.iload_n 1, 1) := by decide +kernel
theorem dX6_segment_2 : decode cX6_segment 2 = .ok (.invokevirtual 133, 3) := by decide +kernel
theorem dX6_segment_5 : decode cX6_segment 5 = .ok (.ifCond .eq 22, 3) := by decide +kernel
theorem dX6_segment_8 : decode cX6_segment 8 = .ok (.iload_n 2, 1) := by decide +kernel
theorem dX6_segment_9 : decode cX6_segment 9 = .ok (.iconst 0, 1) := by decide +kernel
theorem dX6_segment_10 : decode cX6_segment 10 = .ok (.bipush 6, 2) := by decide +kernel
theorem dX6_segment_12 : decode cX6_segment 12 = .ok (.invokestatic 29, 3) := by decide +kernel
theorem dX6_segment_15 : decode cX6_segment 15 = .ok (.ifCond .eq 12, 3) := by decide +kernel
theorem dX6_segment_18 : decode cX6_segment 18 = .ok (.aload_n 0, 1) := by decide +kernel
theorem dX6_segment_19 : decode cX6_segment 19 = .ok (.iload_n 1, 1) := by decide +kernel
theorem dX6_segment_20 : decode cX6_segment 20 = .ok (.iload_n 2, 1) := by decide +kernel
theorem dX6_segment_21 : decode cX6_segment 21 = .ok (.invokevirtual 136, 3) := by decide +kernel
theorem dX6_segment_24 : decode cX6_segment 24 = .ok (.goto 5, 3) := by decide +kernel
theorem dX6_segment_27 : decode cX6_segment 27 = .ok (.bipush (-2), 2) := by decide +kernel
theorem dX6_segment_29 : decode cX6_segment 29 = .ok (.ireturn, 1) := by decide +kernel
theorem dX6_trainNow_0 : decode cX6_trainNow 0 = .ok (.iload_n 2, 1) := by decide +kernel
theorem dX6_trainNow_1 : decode cX6_trainNow 1 = .ok (.bipush 9, 2) := by decide +kernel
theorem dX6_trainNow_3 : decode cX6_trainNow 3 = .ok (.if_icmp .ne 11, 3) := by decide +kernel
theorem dX6_trainNow_6 : decode cX6_trainNow 6 = .ok (.aload_n 0, 1) := by decide +kernel
theorem dX6_trainNow_7 : decode cX6_trainNow 7 = .ok (.iload_n 1, 1) := by decide +kernel
theorem dX6_trainNow_8 : decode cX6_trainNow 8 = .ok (.invokevirtual 92, 3) := by decide +kernel
theorem dX6_trainNow_11 : decode cX6_trainNow 11 = .ok (.goto 9, 3) := by decide +kernel
theorem dX6_trainNow_14 : decode cX6_trainNow 14 = .ok (.aload_n 0, 1) := by decide +kernel
theorem dX6_trainNow_15 : decode cX6_trainNow 15 = .ok (.iload_n 1, 1) := by decide +kernel
theorem dX6_trainNow_16 : decode cX6_trainNow 16 = .ok (.iload_n 2, 1) := by decide +kernel
theorem dX6_trainNow_17 : decode cX6_trainNow 17 = .ok (.invokevirtual 58, 3) := by decide +kernel
theorem dX6_trainNow_20 : decode cX6_trainNow 20 = .ok (.ireturn, 1) := by decide +kernel
theorem dX6_train_0 : decode cX6_train 0 = .ok (.aload_n 0, 1) := by decide +kernel
theorem dX6_train_1 : decode cX6_train 1 = .ok (.iload_n 1, 1) := by decide +kernel
theorem dX6_train_2 : decode cX6_train 2 = .ok (.invokevirtual 80, 3) := by decide +kernel
theorem dX6_train_5 : decode cX6_train 5 = .ok (.ifCond .eq 22, 3) := by decide +kernel
theorem dX6_train_8 : decode cX6_train 8 = .ok (.iload_n 2, 1) := by decide +kernel
theorem dX6_train_9 : decode cX6_train 9 = .ok (.iconst 0, 1) := by decide +kernel
theorem dX6_train_10 : decode cX6_train 10 = .ok (.bipush 9, 2) := by decide +kernel
theorem dX6_train_12 : decode cX6_train 12 = .ok (.invokestatic 29, 3) := by decide +kernel
theorem dX6_train_15 : decode cX6_train 15 = .ok (.ifCond .eq 12, 3) := by decide +kernel
theorem dX6_train_18 : decode cX6_train 18 = .ok (.aload_n 0, 1) := by decide +kernel
theorem dX6_train_19 : decode cX6_train 19 = .ok (.iload_n 1, 1) := by decide +kernel
theorem dX6_train_20 : decode cX6_train 20 = .ok (.iload_n 2, 1) := by decide +kernel
theorem dX6_train_21 : decode cX6_train 21 = .ok (.invokevirtual 139, 3) := by decide +kernel
theorem dX6_train_24 : decode cX6_train 24 = .ok (.goto 5, 3) := by decide +kernel
theorem dX6_train_27 : decode cX6_train 27 = .ok (.bipush (-2), 2) := by decide +kernel
theorem dX6_train_29 : decode cX6_train 29 = .ok (.ireturn, 1) := by decide +kernel
theorem dX6_why_0 : decode cX6_why 0 = .ok (.aload_n 0, 1) := by decide +kernel
theorem dX6_why_1 : decode cX6_why 1 = .ok (.iload_n 1, 1) := by decide +kernel
theorem dX6_why_2 : decode cX6_why 2 = .ok (.invokevirtual 80, 3) := by decide +kernel
theorem dX6_why_5 : decode cX6_why 5 = .ok (.ifCond .eq 11, 3) := by decide +kernel
theorem dX6_why_8 : decode cX6_why 8 = .ok (.aload_n 0, 1) := by decide +kernel
theorem dX6_why_9 : decode cX6_why 9 = .ok (.iload_n 1, 1) := by decide +kernel
theorem dX6_why_10 : decode cX6_why 10 = .ok (.invokevirtual 108, 3) := by decide +kernel
theorem dX6_why_13 : decode cX6_why 13 = .ok (.goto 5, 3) := by decide +kernel
theorem dX6_why_16 : decode cX6_why 16 = .ok (.bipush (-2), 2) := by decide +kernel
theorem dX6_why_18 : decode cX6_why 18 = .ok (.ireturn, 1) := by decide +kernel
theorem dX6_accountNow_0 : decode cX6_accountNow 0 = .ok (.iload_n 1, 1) := by decide +kernel
theorem dX6_accountNow_1 : decode cX6_accountNow 1 = .ok (.tableswitch 54 0 3 #[31, 37, 43, 48], 31) := by decide +kernel
theorem dX6_accountNow_32 : decode cX6_accountNow 32 = .ok (.aload_n 0, 1) := by decide +kernel
theorem dX6_accountNow_33 : decode cX6_accountNow 33 = .ok (.iconst 3, 1) := by decide +kernel
theorem dX6_accountNow_34 : decode cX6_accountNow 34 = .ok (.invokevirtual 72, 3) := by decide +kernel
theorem dX6_accountNow_37 : decode cX6_accountNow 37 = .ok (.ireturn, 1) := by decide +kernel
theorem dX6_accountNow_38 : decode cX6_accountNow 38 = .ok (.aload_n 0, 1) := by decide +kernel
theorem dX6_accountNow_39 : decode cX6_accountNow 39 = .ok (.iconst 4, 1) := by decide +kernel
theorem dX6_accountNow_40 : decode cX6_accountNow 40 = .ok (.invokevirtual 72, 3) := by decide +kernel
theorem dX6_accountNow_43 : decode cX6_accountNow 43 = .ok (.ireturn, 1) := by decide +kernel
theorem dX6_accountNow_44 : decode cX6_accountNow 44 = .ok (.aload_n 0, 1) := by decide +kernel
theorem dX6_accountNow_45 : decode cX6_accountNow 45 = .ok (.invokevirtual 65, 3) := by decide +kernel
theorem dX6_accountNow_48 : decode cX6_accountNow 48 = .ok (.ireturn, 1) := by decide +kernel
theorem dX6_accountNow_49 : decode cX6_accountNow 49 = .ok (.aload_n 0, 1) := by decide +kernel
theorem dX6_accountNow_50 : decode cX6_accountNow 50 = .ok (.iconst 5, 1) := by decide +kernel
theorem dX6_accountNow_51 : decode cX6_accountNow 51 = .ok (.invokevirtual 72, 3) := by decide +kernel
theorem dX6_accountNow_54 : decode cX6_accountNow 54 = .ok (.ireturn, 1) := by decide +kernel
theorem dX6_accountNow_55 : decode cX6_accountNow 55 = .ok (.aload_n 0, 1) := by decide +kernel
theorem dX6_accountNow_56 : decode cX6_accountNow 56 = .ok (.bipush 6, 2) := by decide +kernel
theorem dX6_accountNow_58 : decode cX6_accountNow 58 = .ok (.invokevirtual 72, 3) := by decide +kernel
theorem dX6_accountNow_61 : decode cX6_accountNow 61 = .ok (.ireturn, 1) := by decide +kernel
theorem dX6_account_0 : decode cX6_account 0 = .ok (.iload_n 1, 1) := by decide +kernel
theorem dX6_account_1 : decode cX6_account 1 = .ok (.iconst 0, 1) := by decide +kernel
theorem dX6_account_2 : decode cX6_account 2 = .ok (.iconst 4, 1) := by decide +kernel
theorem dX6_account_3 : decode cX6_account 3 = .ok (.invokestatic 29, 3) := by decide +kernel
theorem dX6_account_6 : decode cX6_account 6 = .ok (.ifCond .eq 11, 3) := by decide +kernel
theorem dX6_account_9 : decode cX6_account 9 = .ok (.aload_n 0, 1) := by decide +kernel
theorem dX6_account_10 : decode cX6_account 10 = .ok (.iload_n 1, 1) := by decide +kernel
theorem dX6_account_11 : decode cX6_account 11 = .ok (.invokevirtual 142, 3) := by decide +kernel
theorem dX6_account_14 : decode cX6_account 14 = .ok (.goto 5, 3) := by decide +kernel
theorem dX6_account_17 : decode cX6_account 17 = .ok (.bipush (-2), 2) := by decide +kernel
theorem dX6_account_19 : decode cX6_account 19 = .ok (.ireturn, 1) := by decide +kernel
theorem dX6_deepest_0 : decode cX6_deepest 0 = .ok (.iconst 0, 1) := by decide +kernel
theorem dX6_deepest_1 : decode cX6_deepest 1 = .ok (.istore_n 1, 1) := by decide +kernel
theorem dX6_deepest_2 : decode cX6_deepest 2 = .ok (.iconst 0, 1) := by decide +kernel
theorem dX6_deepest_3 : decode cX6_deepest 3 = .ok (.istore_n 2, 1) := by decide +kernel
theorem dX6_deepest_4 : decode cX6_deepest 4 = .ok (.iload_n 2, 1) := by decide +kernel
theorem dX6_deepest_5 : decode cX6_deepest 5 = .ok (.aload_n 0, 1) := by decide +kernel
theorem dX6_deepest_6 : decode cX6_deepest 6 = .ok (.getfield 7, 3) := by decide +kernel
theorem dX6_deepest_9 : decode cX6_deepest 9 = .ok (.bipush 72, 2) := by decide +kernel
theorem dX6_deepest_11 : decode cX6_deepest 11 = .ok (.iaload, 1) := by decide +kernel
theorem dX6_deepest_12 : decode cX6_deepest 12 = .ok (.if_icmp .ge 30, 3) := by decide +kernel
theorem dX6_deepest_15 : decode cX6_deepest 15 = .ok (.aload_n 0, 1) := by decide +kernel
theorem dX6_deepest_16 : decode cX6_deepest 16 = .ok (.iload_n 2, 1) := by decide +kernel
theorem dX6_deepest_17 : decode cX6_deepest 17 = .ok (.iconst 2, 1) := by decide +kernel
theorem dX6_deepest_18 : decode cX6_deepest 18 = .ok (.invokevirtual 83, 3) := by decide +kernel
theorem dX6_deepest_21 : decode cX6_deepest 21 = .ok (.iload_n 1, 1) := by decide +kernel
theorem dX6_deepest_22 : decode cX6_deepest 22 = .ok (.if_icmp .le 12, 3) := by decide +kernel
theorem dX6_deepest_25 : decode cX6_deepest 25 = .ok (.aload_n 0, 1) := by decide +kernel
theorem dX6_deepest_26 : decode cX6_deepest 26 = .ok (.iload_n 2, 1) := by decide +kernel
theorem dX6_deepest_27 : decode cX6_deepest 27 = .ok (.iconst 2, 1) := by decide +kernel
theorem dX6_deepest_28 : decode cX6_deepest 28 = .ok (.invokevirtual 83, 3) := by decide +kernel
theorem dX6_deepest_31 : decode cX6_deepest 31 = .ok (.goto 4, 3) := by decide +kernel
theorem dX6_deepest_34 : decode cX6_deepest 34 = .ok (.iload_n 1, 1) := by decide +kernel
theorem dX6_deepest_35 : decode cX6_deepest 35 = .ok (.istore_n 1, 1) := by decide +kernel
theorem dX6_deepest_36 : decode cX6_deepest 36 = .ok (.iinc 2 1, 3) := by decide +kernel
theorem dX6_deepest_39 : decode cX6_deepest 39 = .ok (.goto (-35), 3) := by decide +kernel
theorem dX6_deepest_42 : decode cX6_deepest 42 = .ok (.iload_n 1, 1) := by decide +kernel
theorem dX6_deepest_43 : decode cX6_deepest 43 = .ok (.ireturn, 1) := by decide +kernel
theorem dX6_allWaits_0 : decode cX6_allWaits 0 = .ok (.iconst 0, 1) := by decide +kernel
theorem dX6_allWaits_1 : decode cX6_allWaits 1 = .ok (.istore_n 1, 1) := by decide +kernel
theorem dX6_allWaits_2 : decode cX6_allWaits 2 = .ok (.iconst 0, 1) := by decide +kernel
theorem dX6_allWaits_3 : decode cX6_allWaits 3 = .ok (.istore_n 2, 1) := by decide +kernel
theorem dX6_allWaits_4 : decode cX6_allWaits 4 = .ok (.iload_n 2, 1) := by decide +kernel
theorem dX6_allWaits_5 : decode cX6_allWaits 5 = .ok (.aload_n 0, 1) := by decide +kernel
theorem dX6_allWaits_6 : decode cX6_allWaits 6 = .ok (.getfield 7, 3) := by decide +kernel
theorem dX6_allWaits_9 : decode cX6_allWaits 9 = .ok (.bipush 73, 2) := by decide +kernel
theorem dX6_allWaits_11 : decode cX6_allWaits 11 = .ok (.iaload, 1) := by decide +kernel
theorem dX6_allWaits_12 : decode cX6_allWaits 12 = .ok (.if_icmp .ge 19, 3) := by decide +kernel
theorem dX6_allWaits_15 : decode cX6_allWaits 15 = .ok (.iload_n 1, 1) := by decide +kernel
theorem dX6_allWaits_16 : decode cX6_allWaits 16 = .ok (.aload_n 0, 1) := by decide +kernel
theorem dX6_allWaits_17 : decode cX6_allWaits 17 = .ok (.iload_n 2, 1) := by decide +kernel
theorem dX6_allWaits_18 : decode cX6_allWaits 18 = .ok (.bipush 7, 2) := by decide +kernel
theorem dX6_allWaits_20 : decode cX6_allWaits 20 = .ok (.invokevirtual 58, 3) := by decide +kernel
theorem dX6_allWaits_23 : decode cX6_allWaits 23 = .ok (.iadd, 1) := by decide +kernel
theorem dX6_allWaits_24 : decode cX6_allWaits 24 = .ok (.istore_n 1, 1) := by decide +kernel
theorem dX6_allWaits_25 : decode cX6_allWaits 25 = .ok (.iinc 2 1, 3) := by decide +kernel
theorem dX6_allWaits_28 : decode cX6_allWaits 28 = .ok (.goto (-24), 3) := by decide +kernel
theorem dX6_allWaits_31 : decode cX6_allWaits 31 = .ok (.iload_n 1, 1) := by decide +kernel
theorem dX6_allWaits_32 : decode cX6_allWaits 32 = .ok (.ireturn, 1) := by decide +kernel
theorem dX6_tooDeep_0 : decode cX6_tooDeep 0 = .ok (.iconst 0, 1) := by decide +kernel
theorem dX6_tooDeep_1 : decode cX6_tooDeep 1 = .ok (.istore_n 1, 1) := by decide +kernel
theorem dX6_tooDeep_2 : decode cX6_tooDeep 2 = .ok (.iconst 0, 1) := by decide +kernel
theorem dX6_tooDeep_3 : decode cX6_tooDeep 3 = .ok (.istore_n 2, 1) := by decide +kernel
theorem dX6_tooDeep_4 : decode cX6_tooDeep 4 = .ok (.iload_n 2, 1) := by decide +kernel
theorem dX6_tooDeep_5 : decode cX6_tooDeep 5 = .ok (.aload_n 0, 1) := by decide +kernel
theorem dX6_tooDeep_6 : decode cX6_tooDeep 6 = .ok (.getfield 7, 3) := by decide +kernel
theorem dX6_tooDeep_9 : decode cX6_tooDeep 9 = .ok (.bipush 72, 2) := by decide +kernel
theorem dX6_tooDeep_11 : decode cX6_tooDeep 11 = .ok (.iaload, 1) := by decide +kernel
theorem dX6_tooDeep_12 : decode cX6_tooDeep 12 = .ok (.if_icmp .ge 33, 3) := by decide +kernel
theorem dX6_tooDeep_15 : decode cX6_tooDeep 15 = .ok (.iload_n 1, 1) := by decide +kernel
theorem dX6_tooDeep_16 : decode cX6_tooDeep 16 = .ok (.aload_n 0, 1) := by decide +kernel
theorem dX6_tooDeep_17 : decode cX6_tooDeep 17 = .ok (.iload_n 2, 1) := by decide +kernel
theorem dX6_tooDeep_18 : decode cX6_tooDeep 18 = .ok (.iconst 2, 1) := by decide +kernel
theorem dX6_tooDeep_19 : decode cX6_tooDeep 19 = .ok (.invokevirtual 83, 3) := by decide +kernel
theorem dX6_tooDeep_22 : decode cX6_tooDeep 22 = .ok (.aload_n 0, 1) := by decide +kernel
theorem dX6_tooDeep_23 : decode cX6_tooDeep 23 = .ok (.iconst 0, 1) := by decide +kernel
theorem dX6_tooDeep_24 : decode cX6_tooDeep 24 = .ok (.invokevirtual 72, 3) := by decide +kernel
theorem dX6_tooDeep_27 : decode cX6_tooDeep 27 = .ok (.if_icmp .le 9, 3) := by decide +kernel
theorem dX6_tooDeep_30 : decode cX6_tooDeep 30 = .ok (.iconst 1, 1) := by decide +kernel
theorem dX6_tooDeep_31 : decode cX6_tooDeep 31 = .ok (.iload_n 2, 1) := by decide +kernel
theorem dX6_tooDeep_32 : decode cX6_tooDeep 32 = .ok (.ishl, 1) := by decide +kernel
theorem dX6_tooDeep_33 : decode cX6_tooDeep 33 = .ok (.goto 4, 3) := by decide +kernel
theorem dX6_tooDeep_36 : decode cX6_tooDeep 36 = .ok (.iconst 0, 1) := by decide +kernel
theorem dX6_tooDeep_37 : decode cX6_tooDeep 37 = .ok (.ior, 1) := by decide +kernel
theorem dX6_tooDeep_38 : decode cX6_tooDeep 38 = .ok (.istore_n 1, 1) := by decide +kernel
theorem dX6_tooDeep_39 : decode cX6_tooDeep 39 = .ok (.iinc 2 1, 3) := by decide +kernel
theorem dX6_tooDeep_42 : decode cX6_tooDeep 42 = .ok (.goto (-38), 3) := by decide +kernel
theorem dX6_tooDeep_45 : decode cX6_tooDeep 45 = .ok (.iload_n 1, 1) := by decide +kernel
theorem dX6_tooDeep_46 : decode cX6_tooDeep 46 = .ok (.ireturn, 1) := by decide +kernel
theorem dX6_counted_0 : decode cX6_counted 0 = .ok (.iload_n 1, 1) := by decide +kernel
theorem dX6_counted_1 : decode cX6_counted 1 = .ok (.tableswitch 87 0 6 #[43, 51, 59, 67, 72, 77, 82], 43) := by decide +kernel
theorem dX6_counted_44 : decode cX6_counted 44 = .ok (.aload_n 0, 1) := by decide +kernel
theorem dX6_counted_45 : decode cX6_counted 45 = .ok (.getfield 7, 3) := by decide +kernel
theorem dX6_counted_48 : decode cX6_counted 48 = .ok (.bipush 72, 2) := by decide +kernel
theorem dX6_counted_50 : decode cX6_counted 50 = .ok (.iaload, 1) := by decide +kernel
theorem dX6_counted_51 : decode cX6_counted 51 = .ok (.ireturn, 1) := by decide +kernel
theorem dX6_counted_52 : decode cX6_counted 52 = .ok (.aload_n 0, 1) := by decide +kernel
theorem dX6_counted_53 : decode cX6_counted 53 = .ok (.getfield 7, 3) := by decide +kernel
theorem dX6_counted_56 : decode cX6_counted 56 = .ok (.bipush 73, 2) := by decide +kernel
theorem dX6_counted_58 : decode cX6_counted 58 = .ok (.iaload, 1) := by decide +kernel
theorem dX6_counted_59 : decode cX6_counted 59 = .ok (.ireturn, 1) := by decide +kernel
theorem dX6_counted_60 : decode cX6_counted 60 = .ok (.aload_n 0, 1) := by decide +kernel
theorem dX6_counted_61 : decode cX6_counted 61 = .ok (.getfield 7, 3) := by decide +kernel
theorem dX6_counted_64 : decode cX6_counted 64 = .ok (.bipush 74, 2) := by decide +kernel
theorem dX6_counted_66 : decode cX6_counted 66 = .ok (.iaload, 1) := by decide +kernel
theorem dX6_counted_67 : decode cX6_counted 67 = .ok (.ireturn, 1) := by decide +kernel
theorem dX6_counted_68 : decode cX6_counted 68 = .ok (.aload_n 0, 1) := by decide +kernel
theorem dX6_counted_69 : decode cX6_counted 69 = .ok (.invokevirtual 145, 3) := by decide +kernel
theorem dX6_counted_72 : decode cX6_counted 72 = .ok (.ireturn, 1) := by decide +kernel
theorem dX6_counted_73 : decode cX6_counted 73 = .ok (.aload_n 0, 1) := by decide +kernel
theorem dX6_counted_74 : decode cX6_counted 74 = .ok (.invokevirtual 148, 3) := by decide +kernel
theorem dX6_counted_77 : decode cX6_counted 77 = .ok (.ireturn, 1) := by decide +kernel
theorem dX6_counted_78 : decode cX6_counted 78 = .ok (.aload_n 0, 1) := by decide +kernel
theorem dX6_counted_79 : decode cX6_counted 79 = .ok (.getfield 33, 3) := by decide +kernel
theorem dX6_counted_82 : decode cX6_counted 82 = .ok (.ireturn, 1) := by decide +kernel
theorem dX6_counted_83 : decode cX6_counted 83 = .ok (.aload_n 0, 1) := by decide +kernel
theorem dX6_counted_84 : decode cX6_counted 84 = .ok (.getfield 127, 3) := by decide +kernel
theorem dX6_counted_87 : decode cX6_counted 87 = .ok (.ireturn, 1) := by decide +kernel
theorem dX6_counted_88 : decode cX6_counted 88 = .ok (.aload_n 0, 1) := by decide +kernel
theorem dX6_counted_89 : decode cX6_counted 89 = .ok (.invokevirtual 151, 3) := by decide +kernel
theorem dX6_counted_92 : decode cX6_counted 92 = .ok (.ireturn, 1) := by decide +kernel
theorem dX6_count_0 : decode cX6_count 0 = .ok (.iload_n 1, 1) := by decide +kernel
theorem dX6_count_1 : decode cX6_count 1 = .ok (.iconst 0, 1) := by decide +kernel
theorem dX6_count_2 : decode cX6_count 2 = .ok (.bipush 7, 2) := by decide +kernel
theorem dX6_count_4 : decode cX6_count 4 = .ok (.invokestatic 29, 3) := by decide +kernel
theorem dX6_count_7 : decode cX6_count 7 = .ok (.ifCond .eq 11, 3) := by decide +kernel
theorem dX6_count_10 : decode cX6_count 10 = .ok (.aload_n 0, 1) := by decide +kernel
theorem dX6_count_11 : decode cX6_count 11 = .ok (.iload_n 1, 1) := by decide +kernel
theorem dX6_count_12 : decode cX6_count 12 = .ok (.invokevirtual 154, 3) := by decide +kernel
theorem dX6_count_15 : decode cX6_count 15 = .ok (.goto 5, 3) := by decide +kernel
theorem dX6_count_18 : decode cX6_count 18 = .ok (.bipush (-2), 2) := by decide +kernel
theorem dX6_count_20 : decode cX6_count 20 = .ok (.ireturn, 1) := by decide +kernel
theorem dX6_setting_0 : decode cX6_setting 0 = .ok (.iload_n 1, 1) := by decide +kernel
theorem dX6_setting_1 : decode cX6_setting 1 = .ok (.iconst 0, 1) := by decide +kernel
theorem dX6_setting_2 : decode cX6_setting 2 = .ok (.iconst 2, 1) := by decide +kernel
theorem dX6_setting_3 : decode cX6_setting 3 = .ok (.invokestatic 29, 3) := by decide +kernel
theorem dX6_setting_6 : decode cX6_setting 6 = .ok (.ifCond .eq 11, 3) := by decide +kernel
theorem dX6_setting_9 : decode cX6_setting 9 = .ok (.aload_n 0, 1) := by decide +kernel
theorem dX6_setting_10 : decode cX6_setting 10 = .ok (.iload_n 1, 1) := by decide +kernel
theorem dX6_setting_11 : decode cX6_setting 11 = .ok (.invokevirtual 72, 3) := by decide +kernel
theorem dX6_setting_14 : decode cX6_setting 14 = .ok (.goto 5, 3) := by decide +kernel
theorem dX6_setting_17 : decode cX6_setting 17 = .ok (.bipush (-2), 2) := by decide +kernel
theorem dX6_setting_19 : decode cX6_setting 19 = .ok (.ireturn, 1) := by decide +kernel
theorem dX6_ahead_0 : decode cX6_ahead 0 = .ok (.aload_n 0, 1) := by decide +kernel
theorem dX6_ahead_1 : decode cX6_ahead 1 = .ok (.aload_n 0, 1) := by decide +kernel
theorem dX6_ahead_2 : decode cX6_ahead 2 = .ok (.getfield 7, 3) := by decide +kernel
theorem dX6_ahead_5 : decode cX6_ahead 5 = .ok (.iconst 0, 1) := by decide +kernel
theorem dX6_ahead_6 : decode cX6_ahead 6 = .ok (.aload_n 0, 1) := by decide +kernel
theorem dX6_ahead_7 : decode cX6_ahead 7 = .ok (.getfield 13, 3) := by decide +kernel
theorem dX6_ahead_10 : decode cX6_ahead 10 = .ok (.iconst 0, 1) := by decide +kernel
theorem dX6_ahead_11 : decode cX6_ahead 11 = .ok (.invokevirtual 37, 3) := by decide +kernel
theorem dX6_ahead_14 : decode cX6_ahead 14 = .ok (.aload_n 0, 1) := by decide +kernel
theorem dX6_ahead_15 : decode cX6_ahead 15 = .ok (.iconst 5, 1) := by decide +kernel
theorem dX6_ahead_16 : decode cX6_ahead 16 = .ok (.invokevirtual 72, 3) := by decide +kernel
theorem dX6_ahead_19 : decode cX6_ahead 19 = .ok (.istore_n 3, 1) := by decide +kernel
theorem dX6_ahead_20 : decode cX6_ahead 20 = .ok (.aload_n 0, 1) := by decide +kernel
theorem dX6_ahead_21 : decode cX6_ahead 21 = .ok (.invokevirtual 148, 3) := by decide +kernel
theorem dX6_ahead_24 : decode cX6_ahead 24 = .ok (.istore 4, 2) := by decide +kernel
theorem dX6_ahead_26 : decode cX6_ahead 26 = .ok (.iconst 0, 1) := by decide +kernel
theorem dX6_ahead_27 : decode cX6_ahead 27 = .ok (.istore 5, 2) := by decide +kernel
theorem dX6_ahead_29 : decode cX6_ahead 29 = .ok (.iconst 0, 1) := by decide +kernel
theorem dX6_ahead_30 : decode cX6_ahead 30 = .ok (.istore 6, 2) := by decide +kernel
theorem dX6_ahead_32 : decode cX6_ahead 32 = .ok (.iload 6, 2) := by decide +kernel
theorem dX6_ahead_34 : decode cX6_ahead 34 = .ok (.iload_n 1, 1) := by decide +kernel
theorem dX6_ahead_35 : decode cX6_ahead 35 = .ok (.if_icmp .ge 33, 3) := by decide +kernel
theorem dX6_ahead_38 : decode cX6_ahead 38 = .ok (.aload_n 0, 1) := by decide +kernel
theorem dX6_ahead_39 : decode cX6_ahead 39 = .ok (.invokevirtual 124, 3) := by decide +kernel
theorem dX6_ahead_42 : decode cX6_ahead 42 = .ok (.aload_n 0, 1) := by decide +kernel
theorem dX6_ahead_43 : decode cX6_ahead 43 = .ok (.invokevirtual 145, 3) := by decide +kernel
theorem dX6_ahead_46 : decode cX6_ahead 46 = .ok (.iload 5, 2) := by decide +kernel
theorem dX6_ahead_48 : decode cX6_ahead 48 = .ok (.if_icmp .le 10, 3) := by decide +kernel
theorem dX6_ahead_51 : decode cX6_ahead 51 = .ok (.aload_n 0, 1) := by decide +kernel
theorem dX6_ahead_52 : decode cX6_ahead 52 = .ok (.invokevirtual 145, 3) := by decide +kernel
theorem dX6_ahead_55 : decode cX6_ahead 55 = .ok (.goto 5, 3) := by decide +kernel
theorem dX6_ahead_58 : decode cX6_ahead 58 = .ok (.iload 5, 2) := by decide +kernel
theorem dX6_ahead_60 : decode cX6_ahead 60 = .ok (.istore 5, 2) := by decide +kernel
theorem dX6_ahead_62 : decode cX6_ahead 62 = .ok (.iinc 6 1, 3) := by decide +kernel
theorem dX6_ahead_65 : decode cX6_ahead 65 = .ok (.goto (-33), 3) := by decide +kernel
theorem dX6_ahead_68 : decode cX6_ahead 68 = .ok (.iload_n 2, 1) := by decide +kernel
theorem dX6_ahead_69 : decode cX6_ahead 69 = .ok (.ifCond .ne 13, 3) := by decide +kernel
theorem dX6_ahead_72 : decode cX6_ahead 72 = .ok (.aload_n 0, 1) := by decide +kernel
theorem dX6_ahead_73 : decode cX6_ahead 73 = .ok (.iconst 5, 1) := by decide +kernel
theorem dX6_ahead_74 : decode cX6_ahead 74 = .ok (.invokevirtual 72, 3) := by decide +kernel
theorem dX6_ahead_77 : decode cX6_ahead 77 = .ok (.iload_n 3, 1) := by decide +kernel
theorem dX6_ahead_78 : decode cX6_ahead 78 = .ok (.isub, 1) := by decide +kernel
theorem dX6_ahead_79 : decode cX6_ahead 79 = .ok (.goto 32, 3) := by decide +kernel
theorem dX6_ahead_82 : decode cX6_ahead 82 = .ok (.iload_n 2, 1) := by decide +kernel
theorem dX6_ahead_83 : decode cX6_ahead 83 = .ok (.iconst 1, 1) := by decide +kernel
theorem dX6_ahead_84 : decode cX6_ahead 84 = .ok (.if_icmp .ne 10, 3) := by decide +kernel
theorem dX6_ahead_87 : decode cX6_ahead 87 = .ok (.aload_n 0, 1) := by decide +kernel
theorem dX6_ahead_88 : decode cX6_ahead 88 = .ok (.invokevirtual 145, 3) := by decide +kernel
theorem dX6_ahead_91 : decode cX6_ahead 91 = .ok (.goto 20, 3) := by decide +kernel
theorem dX6_ahead_94 : decode cX6_ahead 94 = .ok (.iload_n 2, 1) := by decide +kernel
theorem dX6_ahead_95 : decode cX6_ahead 95 = .ok (.iconst 2, 1) := by decide +kernel
theorem dX6_ahead_96 : decode cX6_ahead 96 = .ok (.if_icmp .ne 13, 3) := by decide +kernel
theorem dX6_ahead_99 : decode cX6_ahead 99 = .ok (.aload_n 0, 1) := by decide +kernel
theorem dX6_ahead_100 : decode cX6_ahead 100 = .ok (.invokevirtual 148, 3) := by decide +kernel
theorem dX6_ahead_103 : decode cX6_ahead 103 = .ok (.iload 4, 2) := by decide +kernel
theorem dX6_ahead_105 : decode cX6_ahead 105 = .ok (.isub, 1) := by decide +kernel
theorem dX6_ahead_106 : decode cX6_ahead 106 = .ok (.goto 5, 3) := by decide +kernel
theorem dX6_ahead_109 : decode cX6_ahead 109 = .ok (.iload 5, 2) := by decide +kernel
theorem dX6_ahead_111 : decode cX6_ahead 111 = .ok (.istore 6, 2) := by decide +kernel
theorem dX6_ahead_113 : decode cX6_ahead 113 = .ok (.aload_n 0, 1) := by decide +kernel
theorem dX6_ahead_114 : decode cX6_ahead 114 = .ok (.aload_n 0, 1) := by decide +kernel
theorem dX6_ahead_115 : decode cX6_ahead 115 = .ok (.getfield 13, 3) := by decide +kernel
theorem dX6_ahead_118 : decode cX6_ahead 118 = .ok (.iconst 0, 1) := by decide +kernel
theorem dX6_ahead_119 : decode cX6_ahead 119 = .ok (.aload_n 0, 1) := by decide +kernel
theorem dX6_ahead_120 : decode cX6_ahead 120 = .ok (.getfield 7, 3) := by decide +kernel
theorem dX6_ahead_123 : decode cX6_ahead 123 = .ok (.iconst 0, 1) := by decide +kernel
theorem dX6_ahead_124 : decode cX6_ahead 124 = .ok (.invokevirtual 37, 3) := by decide +kernel
theorem dX6_ahead_127 : decode cX6_ahead 127 = .ok (.iload 6, 2) := by decide +kernel
theorem dX6_ahead_129 : decode cX6_ahead 129 = .ok (.ireturn, 1) := by decide +kernel
theorem dX6_ifRun_0 : decode cX6_ifRun 0 = .ok (.iload_n 1, 1) := by decide +kernel
theorem dX6_ifRun_1 : decode cX6_ifRun 1 = .ok (.iconst 1, 1) := by decide +kernel
theorem dX6_ifRun_2 : decode cX6_ifRun 2 = .ok (.sipush 200, 3) := by decide +kernel
theorem dX6_ifRun_5 : decode cX6_ifRun 5 = .ok (.invokestatic 29, 3) := by decide +kernel
theorem dX6_ifRun_8 : decode cX6_ifRun 8 = .ok (.ifCond .eq 21, 3) := by decide +kernel
theorem dX6_ifRun_11 : decode cX6_ifRun 11 = .ok (.iload_n 2, 1) := by decide +kernel
theorem dX6_ifRun_12 : decode cX6_ifRun 12 = .ok (.iconst 0, 1) := by decide +kernel
theorem dX6_ifRun_13 : decode cX6_ifRun 13 = .ok (.iconst 3, 1) := by decide +kernel
theorem dX6_ifRun_14 : decode cX6_ifRun 14 = .ok (.invokestatic 29, 3) := by decide +kernel
theorem dX6_ifRun_17 : decode cX6_ifRun 17 = .ok (.ifCond .eq 12, 3) := by decide +kernel
theorem dX6_ifRun_20 : decode cX6_ifRun 20 = .ok (.aload_n 0, 1) := by decide +kernel
theorem dX6_ifRun_21 : decode cX6_ifRun 21 = .ok (.iload_n 1, 1) := by decide +kernel
theorem dX6_ifRun_22 : decode cX6_ifRun 22 = .ok (.iload_n 2, 1) := by decide +kernel
theorem dX6_ifRun_23 : decode cX6_ifRun 23 = .ok (.invokevirtual 157, 3) := by decide +kernel
theorem dX6_ifRun_26 : decode cX6_ifRun 26 = .ok (.goto 5, 3) := by decide +kernel
theorem dX6_ifRun_29 : decode cX6_ifRun 29 = .ok (.bipush (-2), 2) := by decide +kernel
theorem dX6_ifRun_31 : decode cX6_ifRun 31 = .ok (.ireturn, 1) := by decide +kernel
theorem dX6_ticksUntil_0 : decode cX6_ticksUntil 0 = .ok (.aload_n 0, 1) := by decide +kernel
theorem dX6_ticksUntil_1 : decode cX6_ticksUntil 1 = .ok (.aload_n 0, 1) := by decide +kernel
theorem dX6_ticksUntil_2 : decode cX6_ticksUntil 2 = .ok (.getfield 7, 3) := by decide +kernel
theorem dX6_ticksUntil_5 : decode cX6_ticksUntil 5 = .ok (.iconst 0, 1) := by decide +kernel
theorem dX6_ticksUntil_6 : decode cX6_ticksUntil 6 = .ok (.aload_n 0, 1) := by decide +kernel
theorem dX6_ticksUntil_7 : decode cX6_ticksUntil 7 = .ok (.getfield 13, 3) := by decide +kernel
theorem dX6_ticksUntil_10 : decode cX6_ticksUntil 10 = .ok (.iconst 0, 1) := by decide +kernel
theorem dX6_ticksUntil_11 : decode cX6_ticksUntil 11 = .ok (.invokevirtual 37, 3) := by decide +kernel
theorem dX6_ticksUntil_14 : decode cX6_ticksUntil 14 = .ok (.aload_n 0, 1) := by decide +kernel
theorem dX6_ticksUntil_15 : decode cX6_ticksUntil 15 = .ok (.iconst 5, 1) := by decide +kernel
theorem dX6_ticksUntil_16 : decode cX6_ticksUntil 16 = .ok (.invokevirtual 72, 3) := by decide +kernel
theorem dX6_ticksUntil_19 : decode cX6_ticksUntil 19 = .ok (.iload_n 1, 1) := by decide +kernel
theorem dX6_ticksUntil_20 : decode cX6_ticksUntil 20 = .ok (.iadd, 1) := by decide +kernel
theorem dX6_ticksUntil_21 : decode cX6_ticksUntil 21 = .ok (.istore_n 2, 1) := by decide +kernel
theorem dX6_ticksUntil_22 : decode cX6_ticksUntil 22 = .ok (.iconst 0, 1) := by decide +kernel
theorem dX6_ticksUntil_23 : decode cX6_ticksUntil 23 = .ok (.istore_n 3, 1) := by decide +kernel
theorem dX6_ticksUntil_24 : decode cX6_ticksUntil 24 = .ok (.iload_n 3, 1) := by decide +kernel
theorem dX6_ticksUntil_25 : decode cX6_ticksUntil 25 = .ok (.sipush 500, 3) := by decide +kernel
theorem dX6_ticksUntil_28 : decode cX6_ticksUntil 28 = .ok (.if_icmp .ge 22, 3) := by decide +kernel
theorem dX6_ticksUntil_31 : decode cX6_ticksUntil 31 = .ok (.aload_n 0, 1) := by decide +kernel
theorem dX6_ticksUntil_32 : decode cX6_ticksUntil 32 = .ok (.iconst 5, 1) := by decide +kernel
theorem dX6_ticksUntil_33 : decode cX6_ticksUntil 33 = .ok (.invokevirtual 72, 3) := by decide +kernel
theorem dX6_ticksUntil_36 : decode cX6_ticksUntil 36 = .ok (.iload_n 2, 1) := by decide +kernel
theorem dX6_ticksUntil_37 : decode cX6_ticksUntil 37 = .ok (.if_icmp .ge 13, 3) := by decide +kernel
theorem dX6_ticksUntil_40 : decode cX6_ticksUntil 40 = .ok (.aload_n 0, 1) := by decide +kernel
theorem dX6_ticksUntil_41 : decode cX6_ticksUntil 41 = .ok (.invokevirtual 124, 3) := by decide +kernel
theorem dX6_ticksUntil_44 : decode cX6_ticksUntil 44 = .ok (.iinc 3 1, 3) := by decide +kernel
theorem dX6_ticksUntil_47 : decode cX6_ticksUntil 47 = .ok (.goto (-23), 3) := by decide +kernel
theorem dX6_ticksUntil_50 : decode cX6_ticksUntil 50 = .ok (.aload_n 0, 1) := by decide +kernel
theorem dX6_ticksUntil_51 : decode cX6_ticksUntil 51 = .ok (.iconst 5, 1) := by decide +kernel
theorem dX6_ticksUntil_52 : decode cX6_ticksUntil 52 = .ok (.invokevirtual 72, 3) := by decide +kernel
theorem dX6_ticksUntil_55 : decode cX6_ticksUntil 55 = .ok (.iload_n 2, 1) := by decide +kernel
theorem dX6_ticksUntil_56 : decode cX6_ticksUntil 56 = .ok (.if_icmp .ge 7, 3) := by decide +kernel
theorem dX6_ticksUntil_59 : decode cX6_ticksUntil 59 = .ok (.iconst (-1), 1) := by decide +kernel
theorem dX6_ticksUntil_60 : decode cX6_ticksUntil 60 = .ok (.goto 4, 3) := by decide +kernel
theorem dX6_ticksUntil_63 : decode cX6_ticksUntil 63 = .ok (.iload_n 3, 1) := by decide +kernel
theorem dX6_ticksUntil_64 : decode cX6_ticksUntil 64 = .ok (.istore 4, 2) := by decide +kernel
theorem dX6_ticksUntil_66 : decode cX6_ticksUntil 66 = .ok (.aload_n 0, 1) := by decide +kernel
theorem dX6_ticksUntil_67 : decode cX6_ticksUntil 67 = .ok (.aload_n 0, 1) := by decide +kernel
theorem dX6_ticksUntil_68 : decode cX6_ticksUntil 68 = .ok (.getfield 13, 3) := by decide +kernel
theorem dX6_ticksUntil_71 : decode cX6_ticksUntil 71 = .ok (.iconst 0, 1) := by decide +kernel
theorem dX6_ticksUntil_72 : decode cX6_ticksUntil 72 = .ok (.aload_n 0, 1) := by decide +kernel
theorem dX6_ticksUntil_73 : decode cX6_ticksUntil 73 = .ok (.getfield 7, 3) := by decide +kernel
theorem dX6_ticksUntil_76 : decode cX6_ticksUntil 76 = .ok (.iconst 0, 1) := by decide +kernel
theorem dX6_ticksUntil_77 : decode cX6_ticksUntil 77 = .ok (.invokevirtual 37, 3) := by decide +kernel
theorem dX6_ticksUntil_80 : decode cX6_ticksUntil 80 = .ok (.iload 4, 2) := by decide +kernel
theorem dX6_ticksUntil_82 : decode cX6_ticksUntil 82 = .ok (.ireturn, 1) := by decide +kernel
theorem dX6_ticksFor_0 : decode cX6_ticksFor 0 = .ok (.iload_n 1, 1) := by decide +kernel
theorem dX6_ticksFor_1 : decode cX6_ticksFor 1 = .ok (.iconst 1, 1) := by decide +kernel
theorem dX6_ticksFor_2 : decode cX6_ticksFor 2 = .ok (.sipush 1000, 3) := by decide +kernel
theorem dX6_ticksFor_5 : decode cX6_ticksFor 5 = .ok (.invokestatic 29, 3) := by decide +kernel
theorem dX6_ticksFor_8 : decode cX6_ticksFor 8 = .ok (.ifCond .eq 11, 3) := by decide +kernel
theorem dX6_ticksFor_11 : decode cX6_ticksFor 11 = .ok (.aload_n 0, 1) := by decide +kernel
theorem dX6_ticksFor_12 : decode cX6_ticksFor 12 = .ok (.iload_n 1, 1) := by decide +kernel
theorem dX6_ticksFor_13 : decode cX6_ticksFor 13 = .ok (.invokevirtual 160, 3) := by decide +kernel
theorem dX6_ticksFor_16 : decode cX6_ticksFor 16 = .ok (.goto 5, 3) := by decide +kernel
theorem dX6_ticksFor_19 : decode cX6_ticksFor 19 = .ok (.bipush (-2), 2) := by decide +kernel
theorem dX6_ticksFor_21 : decode cX6_ticksFor 21 = .ok (.ireturn, 1) := by decide +kernel
theorem dX6_best_0 : decode cX6_best 0 = .ok (.aload_n 0, 1) := by decide +kernel
theorem dX6_best_1 : decode cX6_best 1 = .ok (.getfield 7, 3) := by decide +kernel
theorem dX6_best_4 : decode cX6_best 4 = .ok (.iload_n 1, 1) := by decide +kernel
theorem dX6_best_5 : decode cX6_best 5 = .ok (.iaload, 1) := by decide +kernel
theorem dX6_best_6 : decode cX6_best 6 = .ok (.istore 5, 2) := by decide +kernel
theorem dX6_best_8 : decode cX6_best 8 = .ok (.iload_n 2, 1) := by decide +kernel
theorem dX6_best_9 : decode cX6_best 9 = .ok (.istore 6, 2) := by decide +kernel
theorem dX6_best_11 : decode cX6_best 11 = .ok (.iconst (-1), 1) := by decide +kernel
theorem dX6_best_12 : decode cX6_best 12 = .ok (.istore 7, 2) := by decide +kernel
theorem dX6_best_14 : decode cX6_best 14 = .ok (.iload_n 2, 1) := by decide +kernel
theorem dX6_best_15 : decode cX6_best 15 = .ok (.istore 8, 2) := by decide +kernel
theorem dX6_best_17 : decode cX6_best 17 = .ok (.iload 8, 2) := by decide +kernel
theorem dX6_best_19 : decode cX6_best 19 = .ok (.iload_n 3, 1) := by decide +kernel
theorem dX6_best_20 : decode cX6_best 20 = .ok (.if_icmp .gt 58, 3) := by decide +kernel
theorem dX6_best_23 : decode cX6_best 23 = .ok (.aload_n 0, 1) := by decide +kernel
theorem dX6_best_24 : decode cX6_best 24 = .ok (.getfield 7, 3) := by decide +kernel
theorem dX6_best_27 : decode cX6_best 27 = .ok (.iload_n 1, 1) := by decide +kernel
theorem dX6_best_28 : decode cX6_best 28 = .ok (.iload 8, 2) := by decide +kernel
theorem dX6_best_30 : decode cX6_best 30 = .ok (.iastore, 1) := by decide +kernel
theorem dX6_best_31 : decode cX6_best 31 = .ok (.aload_n 0, 1) := by decide +kernel
theorem dX6_best_32 : decode cX6_best 32 = .ok (.iload 4, 2) := by decide +kernel
theorem dX6_best_34 : decode cX6_best 34 = .ok (.iconst 0, 1) := by decide +kernel
theorem dX6_best_35 : decode cX6_best 35 = .ok (.invokevirtual 157, 3) := by decide +kernel
theorem dX6_best_38 : decode cX6_best 38 = .ok (.istore 9, 2) := by decide +kernel
theorem dX6_best_40 : decode cX6_best 40 = .ok (.iload 9, 2) := by decide +kernel
theorem dX6_best_42 : decode cX6_best 42 = .ok (.iload 7, 2) := by decide +kernel
theorem dX6_best_44 : decode cX6_best 44 = .ok (.if_icmp .le 8, 3) := by decide +kernel
theorem dX6_best_47 : decode cX6_best 47 = .ok (.iload 8, 2) := by decide +kernel
theorem dX6_best_49 : decode cX6_best 49 = .ok (.goto 5, 3) := by decide +kernel
theorem dX6_best_52 : decode cX6_best 52 = .ok (.iload 6, 2) := by decide +kernel
theorem dX6_best_54 : decode cX6_best 54 = .ok (.istore 6, 2) := by decide +kernel
theorem dX6_best_56 : decode cX6_best 56 = .ok (.iload 9, 2) := by decide +kernel
theorem dX6_best_58 : decode cX6_best 58 = .ok (.iload 7, 2) := by decide +kernel
theorem dX6_best_60 : decode cX6_best 60 = .ok (.if_icmp .le 8, 3) := by decide +kernel
theorem dX6_best_63 : decode cX6_best 63 = .ok (.iload 9, 2) := by decide +kernel
theorem dX6_best_65 : decode cX6_best 65 = .ok (.goto 5, 3) := by decide +kernel
theorem dX6_best_68 : decode cX6_best 68 = .ok (.iload 7, 2) := by decide +kernel
theorem dX6_best_70 : decode cX6_best 70 = .ok (.istore 7, 2) := by decide +kernel
theorem dX6_best_72 : decode cX6_best 72 = .ok (.iinc 8 1, 3) := by decide +kernel
theorem dX6_best_75 : decode cX6_best 75 = .ok (.goto (-58), 3) := by decide +kernel
theorem dX6_best_78 : decode cX6_best 78 = .ok (.aload_n 0, 1) := by decide +kernel
theorem dX6_best_79 : decode cX6_best 79 = .ok (.getfield 7, 3) := by decide +kernel
theorem dX6_best_82 : decode cX6_best 82 = .ok (.iload_n 1, 1) := by decide +kernel
theorem dX6_best_83 : decode cX6_best 83 = .ok (.iload 5, 2) := by decide +kernel
theorem dX6_best_85 : decode cX6_best 85 = .ok (.iastore, 1) := by decide +kernel
theorem dX6_best_86 : decode cX6_best 86 = .ok (.iload 6, 2) := by decide +kernel
theorem dX6_best_88 : decode cX6_best 88 = .ok (.ireturn, 1) := by decide +kernel
theorem dX6_bestRule_0 : decode cX6_bestRule 0 = .ok (.iload_n 1, 1) := by decide +kernel
theorem dX6_bestRule_1 : decode cX6_bestRule 1 = .ok (.iconst 1, 1) := by decide +kernel
theorem dX6_bestRule_2 : decode cX6_bestRule 2 = .ok (.sipush 200, 3) := by decide +kernel
theorem dX6_bestRule_5 : decode cX6_bestRule 5 = .ok (.invokestatic 29, 3) := by decide +kernel
theorem dX6_bestRule_8 : decode cX6_bestRule 8 = .ok (.ifCond .eq 15, 3) := by decide +kernel
theorem dX6_bestRule_11 : decode cX6_bestRule 11 = .ok (.aload_n 0, 1) := by decide +kernel
theorem dX6_bestRule_12 : decode cX6_bestRule 12 = .ok (.bipush 77, 2) := by decide +kernel
theorem dX6_bestRule_14 : decode cX6_bestRule 14 = .ok (.iconst 0, 1) := by decide +kernel
theorem dX6_bestRule_15 : decode cX6_bestRule 15 = .ok (.iconst 2, 1) := by decide +kernel
theorem dX6_bestRule_16 : decode cX6_bestRule 16 = .ok (.iload_n 1, 1) := by decide +kernel
theorem dX6_bestRule_17 : decode cX6_bestRule 17 = .ok (.invokevirtual 163, 3) := by decide +kernel
theorem dX6_bestRule_20 : decode cX6_bestRule 20 = .ok (.goto 5, 3) := by decide +kernel
theorem dX6_bestRule_23 : decode cX6_bestRule 23 = .ok (.bipush (-2), 2) := by decide +kernel
theorem dX6_bestRule_25 : decode cX6_bestRule 25 = .ok (.ireturn, 1) := by decide +kernel
theorem dX6_bestLoad_0 : decode cX6_bestLoad 0 = .ok (.aload_n 0, 1) := by decide +kernel
theorem dX6_bestLoad_1 : decode cX6_bestLoad 1 = .ok (.iload_n 1, 1) := by decide +kernel
theorem dX6_bestLoad_2 : decode cX6_bestLoad 2 = .ok (.invokevirtual 80, 3) := by decide +kernel
theorem dX6_bestLoad_5 : decode cX6_bestLoad 5 = .ok (.ifCond .eq 34, 3) := by decide +kernel
theorem dX6_bestLoad_8 : decode cX6_bestLoad 8 = .ok (.iload_n 2, 1) := by decide +kernel
theorem dX6_bestLoad_9 : decode cX6_bestLoad 9 = .ok (.iconst 1, 1) := by decide +kernel
theorem dX6_bestLoad_10 : decode cX6_bestLoad 10 = .ok (.sipush 200, 3) := by decide +kernel
theorem dX6_bestLoad_13 : decode cX6_bestLoad 13 = .ok (.invokestatic 29, 3) := by decide +kernel
theorem dX6_bestLoad_16 : decode cX6_bestLoad 16 = .ok (.ifCond .eq 23, 3) := by decide +kernel
theorem dX6_bestLoad_19 : decode cX6_bestLoad 19 = .ok (.aload_n 0, 1) := by decide +kernel
theorem dX6_bestLoad_20 : decode cX6_bestLoad 20 = .ok (.bipush 36, 2) := by decide +kernel
theorem dX6_bestLoad_22 : decode cX6_bestLoad 22 = .ok (.bipush 9, 2) := by decide +kernel
theorem dX6_bestLoad_24 : decode cX6_bestLoad 24 = .ok (.iload_n 1, 1) := by decide +kernel
theorem dX6_bestLoad_25 : decode cX6_bestLoad 25 = .ok (.imul, 1) := by decide +kernel
theorem dX6_bestLoad_26 : decode cX6_bestLoad 26 = .ok (.iadd, 1) := by decide +kernel
theorem dX6_bestLoad_27 : decode cX6_bestLoad 27 = .ok (.iconst 1, 1) := by decide +kernel
theorem dX6_bestLoad_28 : decode cX6_bestLoad 28 = .ok (.iadd, 1) := by decide +kernel
theorem dX6_bestLoad_29 : decode cX6_bestLoad 29 = .ok (.iconst 1, 1) := by decide +kernel
theorem dX6_bestLoad_30 : decode cX6_bestLoad 30 = .ok (.bipush 20, 2) := by decide +kernel
theorem dX6_bestLoad_32 : decode cX6_bestLoad 32 = .ok (.iload_n 2, 1) := by decide +kernel
theorem dX6_bestLoad_33 : decode cX6_bestLoad 33 = .ok (.invokevirtual 163, 3) := by decide +kernel
theorem dX6_bestLoad_36 : decode cX6_bestLoad 36 = .ok (.goto 5, 3) := by decide +kernel
theorem dX6_bestLoad_39 : decode cX6_bestLoad 39 = .ok (.bipush (-2), 2) := by decide +kernel
theorem dX6_bestLoad_41 : decode cX6_bestLoad 41 = .ok (.ireturn, 1) := by decide +kernel
theorem dX6_meanSinking_0 : decode cX6_meanSinking 0 = .ok (.iconst 0, 1) := by decide +kernel
theorem dX6_meanSinking_1 : decode cX6_meanSinking 1 = .ok (.istore_n 1, 1) := by decide +kernel
theorem dX6_meanSinking_2 : decode cX6_meanSinking 2 = .ok (.iconst 0, 1) := by decide +kernel
theorem dX6_meanSinking_3 : decode cX6_meanSinking 3 = .ok (.istore_n 2, 1) := by decide +kernel
theorem dX6_meanSinking_4 : decode cX6_meanSinking 4 = .ok (.iload_n 2, 1) := by decide +kernel
theorem dX6_meanSinking_5 : decode cX6_meanSinking 5 = .ok (.aload_n 0, 1) := by decide +kernel
theorem dX6_meanSinking_6 : decode cX6_meanSinking 6 = .ok (.getfield 7, 3) := by decide +kernel
theorem dX6_meanSinking_9 : decode cX6_meanSinking 9 = .ok (.bipush 72, 2) := by decide +kernel
theorem dX6_meanSinking_11 : decode cX6_meanSinking 11 = .ok (.iaload, 1) := by decide +kernel
theorem dX6_meanSinking_12 : decode cX6_meanSinking 12 = .ok (.if_icmp .ge 18, 3) := by decide +kernel
theorem dX6_meanSinking_15 : decode cX6_meanSinking 15 = .ok (.iload_n 1, 1) := by decide +kernel
theorem dX6_meanSinking_16 : decode cX6_meanSinking 16 = .ok (.aload_n 0, 1) := by decide +kernel
theorem dX6_meanSinking_17 : decode cX6_meanSinking 17 = .ok (.iload_n 2, 1) := by decide +kernel
theorem dX6_meanSinking_18 : decode cX6_meanSinking 18 = .ok (.iconst 2, 1) := by decide +kernel
theorem dX6_meanSinking_19 : decode cX6_meanSinking 19 = .ok (.invokevirtual 83, 3) := by decide +kernel
theorem dX6_meanSinking_22 : decode cX6_meanSinking 22 = .ok (.iadd, 1) := by decide +kernel
theorem dX6_meanSinking_23 : decode cX6_meanSinking 23 = .ok (.istore_n 1, 1) := by decide +kernel
theorem dX6_meanSinking_24 : decode cX6_meanSinking 24 = .ok (.iinc 2 1, 3) := by decide +kernel
theorem dX6_meanSinking_27 : decode cX6_meanSinking 27 = .ok (.goto (-23), 3) := by decide +kernel
theorem dX6_meanSinking_30 : decode cX6_meanSinking 30 = .ok (.iload_n 1, 1) := by decide +kernel
theorem dX6_meanSinking_31 : decode cX6_meanSinking 31 = .ok (.i2d, 1) := by decide +kernel
theorem dX6_meanSinking_32 : decode cX6_meanSinking 32 = .ok (.aload_n 0, 1) := by decide +kernel
theorem dX6_meanSinking_33 : decode cX6_meanSinking 33 = .ok (.getfield 7, 3) := by decide +kernel
theorem dX6_meanSinking_36 : decode cX6_meanSinking 36 = .ok (.bipush 72, 2) := by decide +kernel
theorem dX6_meanSinking_38 : decode cX6_meanSinking 38 = .ok (.iaload, 1) := by decide +kernel
theorem dX6_meanSinking_39 : decode cX6_meanSinking 39 = .ok (.i2d, 1) := by decide +kernel
theorem dX6_meanSinking_40 : decode cX6_meanSinking 40 = .ok (.ddiv, 1) := by decide +kernel
theorem dX6_meanSinking_41 : decode cX6_meanSinking 41 = .ok (.dreturn, 1) := by decide +kernel
theorem dX6_mix_0 : decode cX6_mix 0 = .ok (.aload_n 0, 1) := by decide +kernel
theorem dX6_mix_1 : decode cX6_mix 1 = .ok (.ldc2_w 167, 3) := by decide +kernel
theorem dX6_mix_4 : decode cX6_mix 4 = .ok (.aload_n 0, 1) := by decide +kernel
theorem dX6_mix_5 : decode cX6_mix 5 = .ok (.getfield 169, 3) := by decide +kernel
theorem dX6_mix_8 : decode cX6_mix 8 = .ok (.lmul, 1) := by decide +kernel
theorem dX6_mix_9 : decode cX6_mix 9 = .ok (.lload_n 1, 1) := by decide +kernel
theorem dX6_mix_10 : decode cX6_mix 10 = .ok (.ladd, 1) := by decide +kernel
theorem dX6_mix_11 : decode cX6_mix 11 = .ok (.putfield 169, 3) := by decide +kernel
theorem dX6_mix_14 : decode cX6_mix 14 = .ok (.return_, 1) := by decide +kernel
theorem dX6_digest_0 : decode cX6_digest 0 = .ok (.aload_n 0, 1) := by decide +kernel
theorem dX6_digest_1 : decode cX6_digest 1 = .ok (.ldc2_w 173, 3) := by decide +kernel
theorem dX6_digest_4 : decode cX6_digest 4 = .ok (.putfield 169, 3) := by decide +kernel
theorem dX6_digest_7 : decode cX6_digest 7 = .ok (.iconst 0, 1) := by decide +kernel
theorem dX6_digest_8 : decode cX6_digest 8 = .ok (.istore_n 1, 1) := by decide +kernel
theorem dX6_digest_9 : decode cX6_digest 9 = .ok (.iload_n 1, 1) := by decide +kernel
theorem dX6_digest_10 : decode cX6_digest 10 = .ok (.bipush 8, 2) := by decide +kernel
theorem dX6_digest_12 : decode cX6_digest 12 = .ok (.if_icmp .ge 19, 3) := by decide +kernel
theorem dX6_digest_15 : decode cX6_digest 15 = .ok (.aload_n 0, 1) := by decide +kernel
theorem dX6_digest_16 : decode cX6_digest 16 = .ok (.aload_n 0, 1) := by decide +kernel
theorem dX6_digest_17 : decode cX6_digest 17 = .ok (.iload_n 1, 1) := by decide +kernel
theorem dX6_digest_18 : decode cX6_digest 18 = .ok (.invokevirtual 154, 3) := by decide +kernel
theorem dX6_digest_21 : decode cX6_digest 21 = .ok (.i2l, 1) := by decide +kernel
theorem dX6_digest_22 : decode cX6_digest 22 = .ok (.invokevirtual 175, 3) := by decide +kernel
theorem dX6_digest_25 : decode cX6_digest 25 = .ok (.iinc 1 1, 3) := by decide +kernel
theorem dX6_digest_28 : decode cX6_digest 28 = .ok (.goto (-19), 3) := by decide +kernel
theorem dX6_digest_31 : decode cX6_digest 31 = .ok (.iconst 0, 1) := by decide +kernel
theorem dX6_digest_32 : decode cX6_digest 32 = .ok (.istore_n 1, 1) := by decide +kernel
theorem dX6_digest_33 : decode cX6_digest 33 = .ok (.iload_n 1, 1) := by decide +kernel
theorem dX6_digest_34 : decode cX6_digest 34 = .ok (.iconst 3, 1) := by decide +kernel
theorem dX6_digest_35 : decode cX6_digest 35 = .ok (.if_icmp .ge 19, 3) := by decide +kernel
theorem dX6_digest_38 : decode cX6_digest 38 = .ok (.aload_n 0, 1) := by decide +kernel
theorem dX6_digest_39 : decode cX6_digest 39 = .ok (.aload_n 0, 1) := by decide +kernel
theorem dX6_digest_40 : decode cX6_digest 40 = .ok (.iload_n 1, 1) := by decide +kernel
theorem dX6_digest_41 : decode cX6_digest 41 = .ok (.invokevirtual 72, 3) := by decide +kernel
theorem dX6_digest_44 : decode cX6_digest 44 = .ok (.i2l, 1) := by decide +kernel
theorem dX6_digest_45 : decode cX6_digest 45 = .ok (.invokevirtual 175, 3) := by decide +kernel
theorem dX6_digest_48 : decode cX6_digest 48 = .ok (.iinc 1 1, 3) := by decide +kernel
theorem dX6_digest_51 : decode cX6_digest 51 = .ok (.goto (-18), 3) := by decide +kernel
theorem dX6_digest_54 : decode cX6_digest 54 = .ok (.iconst 0, 1) := by decide +kernel
theorem dX6_digest_55 : decode cX6_digest 55 = .ok (.istore_n 1, 1) := by decide +kernel
theorem dX6_digest_56 : decode cX6_digest 56 = .ok (.iload_n 1, 1) := by decide +kernel
theorem dX6_digest_57 : decode cX6_digest 57 = .ok (.iconst 5, 1) := by decide +kernel
theorem dX6_digest_58 : decode cX6_digest 58 = .ok (.if_icmp .ge 19, 3) := by decide +kernel
theorem dX6_digest_61 : decode cX6_digest 61 = .ok (.aload_n 0, 1) := by decide +kernel
theorem dX6_digest_62 : decode cX6_digest 62 = .ok (.aload_n 0, 1) := by decide +kernel
theorem dX6_digest_63 : decode cX6_digest 63 = .ok (.iload_n 1, 1) := by decide +kernel
theorem dX6_digest_64 : decode cX6_digest 64 = .ok (.invokevirtual 142, 3) := by decide +kernel
theorem dX6_digest_67 : decode cX6_digest 67 = .ok (.i2l, 1) := by decide +kernel
theorem dX6_digest_68 : decode cX6_digest 68 = .ok (.invokevirtual 175, 3) := by decide +kernel
theorem dX6_digest_71 : decode cX6_digest 71 = .ok (.iinc 1 1, 3) := by decide +kernel
theorem dX6_digest_74 : decode cX6_digest 74 = .ok (.goto (-18), 3) := by decide +kernel
theorem dX6_digest_77 : decode cX6_digest 77 = .ok (.iconst 0, 1) := by decide +kernel
theorem dX6_digest_78 : decode cX6_digest 78 = .ok (.istore_n 1, 1) := by decide +kernel
theorem dX6_digest_79 : decode cX6_digest 79 = .ok (.iload_n 1, 1) := by decide +kernel
theorem dX6_digest_80 : decode cX6_digest 80 = .ok (.bipush 7, 2) := by decide +kernel
theorem dX6_digest_82 : decode cX6_digest 82 = .ok (.aload_n 0, 1) := by decide +kernel
theorem dX6_digest_83 : decode cX6_digest 83 = .ok (.getfield 7, 3) := by decide +kernel
theorem dX6_digest_86 : decode cX6_digest 86 = .ok (.bipush 72, 2) := by decide +kernel
theorem dX6_digest_88 : decode cX6_digest 88 = .ok (.iaload, 1) := by decide +kernel
theorem dX6_digest_89 : decode cX6_digest 89 = .ok (.imul, 1) := by decide +kernel
theorem dX6_digest_90 : decode cX6_digest 90 = .ok (.if_icmp .ge 26, 3) := by decide +kernel
theorem dX6_digest_93 : decode cX6_digest 93 = .ok (.aload_n 0, 1) := by decide +kernel
theorem dX6_digest_94 : decode cX6_digest 94 = .ok (.aload_n 0, 1) := by decide +kernel
theorem dX6_digest_95 : decode cX6_digest 95 = .ok (.iload_n 1, 1) := by decide +kernel
theorem dX6_digest_96 : decode cX6_digest 96 = .ok (.bipush 7, 2) := by decide +kernel
theorem dX6_digest_98 : decode cX6_digest 98 = .ok (.idiv, 1) := by decide +kernel
theorem dX6_digest_99 : decode cX6_digest 99 = .ok (.iload_n 1, 1) := by decide +kernel
theorem dX6_digest_100 : decode cX6_digest 100 = .ok (.bipush 7, 2) := by decide +kernel
theorem dX6_digest_102 : decode cX6_digest 102 = .ok (.irem, 1) := by decide +kernel
theorem dX6_digest_103 : decode cX6_digest 103 = .ok (.invokevirtual 136, 3) := by decide +kernel
theorem dX6_digest_106 : decode cX6_digest 106 = .ok (.i2l, 1) := by decide +kernel
theorem dX6_digest_107 : decode cX6_digest 107 = .ok (.invokevirtual 175, 3) := by decide +kernel
theorem dX6_digest_110 : decode cX6_digest 110 = .ok (.iinc 1 1, 3) := by decide +kernel
theorem dX6_digest_113 : decode cX6_digest 113 = .ok (.goto (-34), 3) := by decide +kernel
theorem dX6_digest_116 : decode cX6_digest 116 = .ok (.iconst 0, 1) := by decide +kernel
theorem dX6_digest_117 : decode cX6_digest 117 = .ok (.istore_n 1, 1) := by decide +kernel
theorem dX6_digest_118 : decode cX6_digest 118 = .ok (.iload_n 1, 1) := by decide +kernel
theorem dX6_digest_119 : decode cX6_digest 119 = .ok (.aload_n 0, 1) := by decide +kernel
theorem dX6_digest_120 : decode cX6_digest 120 = .ok (.getfield 7, 3) := by decide +kernel
theorem dX6_digest_123 : decode cX6_digest 123 = .ok (.bipush 73, 2) := by decide +kernel
theorem dX6_digest_125 : decode cX6_digest 125 = .ok (.iaload, 1) := by decide +kernel
theorem dX6_digest_126 : decode cX6_digest 126 = .ok (.if_icmp .ge 44, 3) := by decide +kernel
theorem dX6_digest_129 : decode cX6_digest 129 = .ok (.iconst 0, 1) := by decide +kernel
theorem dX6_digest_130 : decode cX6_digest 130 = .ok (.istore_n 2, 1) := by decide +kernel
theorem dX6_digest_131 : decode cX6_digest 131 = .ok (.iload_n 2, 1) := by decide +kernel
theorem dX6_digest_132 : decode cX6_digest 132 = .ok (.bipush 10, 2) := by decide +kernel
theorem dX6_digest_134 : decode cX6_digest 134 = .ok (.if_icmp .ge 20, 3) := by decide +kernel
theorem dX6_digest_137 : decode cX6_digest 137 = .ok (.aload_n 0, 1) := by decide +kernel
theorem dX6_digest_138 : decode cX6_digest 138 = .ok (.aload_n 0, 1) := by decide +kernel
theorem dX6_digest_139 : decode cX6_digest 139 = .ok (.iload_n 1, 1) := by decide +kernel
theorem dX6_digest_140 : decode cX6_digest 140 = .ok (.iload_n 2, 1) := by decide +kernel
theorem dX6_digest_141 : decode cX6_digest 141 = .ok (.invokevirtual 139, 3) := by decide +kernel
theorem dX6_digest_144 : decode cX6_digest 144 = .ok (.i2l, 1) := by decide +kernel
theorem dX6_digest_145 : decode cX6_digest 145 = .ok (.invokevirtual 175, 3) := by decide +kernel
theorem dX6_digest_148 : decode cX6_digest 148 = .ok (.iinc 2 1, 3) := by decide +kernel
theorem dX6_digest_151 : decode cX6_digest 151 = .ok (.goto (-20), 3) := by decide +kernel
theorem dX6_digest_154 : decode cX6_digest 154 = .ok (.aload_n 0, 1) := by decide +kernel
theorem dX6_digest_155 : decode cX6_digest 155 = .ok (.aload_n 0, 1) := by decide +kernel
theorem dX6_digest_156 : decode cX6_digest 156 = .ok (.iload_n 1, 1) := by decide +kernel
theorem dX6_digest_157 : decode cX6_digest 157 = .ok (.invokevirtual 108, 3) := by decide +kernel
theorem dX6_digest_160 : decode cX6_digest 160 = .ok (.i2l, 1) := by decide +kernel
theorem dX6_digest_161 : decode cX6_digest 161 = .ok (.invokevirtual 175, 3) := by decide +kernel
theorem dX6_digest_164 : decode cX6_digest 164 = .ok (.iinc 1 1, 3) := by decide +kernel
theorem dX6_digest_167 : decode cX6_digest 167 = .ok (.goto (-49), 3) := by decide +kernel
theorem dX6_digest_170 : decode cX6_digest 170 = .ok (.iconst 0, 1) := by decide +kernel
theorem dX6_digest_171 : decode cX6_digest 171 = .ok (.istore_n 1, 1) := by decide +kernel
theorem dX6_digest_172 : decode cX6_digest 172 = .ok (.iload_n 1, 1) := by decide +kernel
theorem dX6_digest_173 : decode cX6_digest 173 = .ok (.iconst 4, 1) := by decide +kernel
theorem dX6_digest_174 : decode cX6_digest 174 = .ok (.if_icmp .ge 21, 3) := by decide +kernel
theorem dX6_digest_177 : decode cX6_digest 177 = .ok (.aload_n 0, 1) := by decide +kernel
theorem dX6_digest_178 : decode cX6_digest 178 = .ok (.aload_n 0, 1) := by decide +kernel
theorem dX6_digest_179 : decode cX6_digest 179 = .ok (.bipush 50, 2) := by decide +kernel
theorem dX6_digest_181 : decode cX6_digest 181 = .ok (.iload_n 1, 1) := by decide +kernel
theorem dX6_digest_182 : decode cX6_digest 182 = .ok (.invokevirtual 157, 3) := by decide +kernel
theorem dX6_digest_185 : decode cX6_digest 185 = .ok (.i2l, 1) := by decide +kernel
theorem dX6_digest_186 : decode cX6_digest 186 = .ok (.invokevirtual 175, 3) := by decide +kernel
theorem dX6_digest_189 : decode cX6_digest 189 = .ok (.iinc 1 1, 3) := by decide +kernel
theorem dX6_digest_192 : decode cX6_digest 192 = .ok (.goto (-20), 3) := by decide +kernel
theorem dX6_digest_195 : decode cX6_digest 195 = .ok (.aload_n 0, 1) := by decide +kernel
theorem dX6_digest_196 : decode cX6_digest 196 = .ok (.aload_n 0, 1) := by decide +kernel
theorem dX6_digest_197 : decode cX6_digest 197 = .ok (.invokevirtual 179, 3) := by decide +kernel
theorem dX6_digest_200 : decode cX6_digest 200 = .ok (.invokestatic 183, 3) := by decide +kernel
theorem dX6_digest_203 : decode cX6_digest 203 = .ok (.invokevirtual 175, 3) := by decide +kernel
theorem dX6_digest_206 : decode cX6_digest 206 = .ok (.aload_n 0, 1) := by decide +kernel
theorem dX6_digest_207 : decode cX6_digest 207 = .ok (.aload_n 0, 1) := by decide +kernel
theorem dX6_digest_208 : decode cX6_digest 208 = .ok (.getfield 41, 3) := by decide +kernel
theorem dX6_digest_211 : decode cX6_digest 211 = .ok (.i2l, 1) := by decide +kernel
theorem dX6_digest_212 : decode cX6_digest 212 = .ok (.invokevirtual 175, 3) := by decide +kernel
theorem dX6_digest_215 : decode cX6_digest 215 = .ok (.iconst 0, 1) := by decide +kernel
theorem dX6_digest_216 : decode cX6_digest 216 = .ok (.istore_n 1, 1) := by decide +kernel
theorem dX6_digest_217 : decode cX6_digest 217 = .ok (.iload_n 1, 1) := by decide +kernel
theorem dX6_digest_218 : decode cX6_digest 218 = .ok (.aload_n 0, 1) := by decide +kernel
theorem dX6_digest_219 : decode cX6_digest 219 = .ok (.getfield 41, 3) := by decide +kernel
theorem dX6_digest_222 : decode cX6_digest 222 = .ok (.if_icmp .ge 20, 3) := by decide +kernel
theorem dX6_digest_225 : decode cX6_digest 225 = .ok (.aload_n 0, 1) := by decide +kernel
theorem dX6_digest_226 : decode cX6_digest 226 = .ok (.aload_n 0, 1) := by decide +kernel
theorem dX6_digest_227 : decode cX6_digest 227 = .ok (.getfield 22, 3) := by decide +kernel
theorem dX6_digest_230 : decode cX6_digest 230 = .ok (.iload_n 1, 1) := by decide +kernel
theorem dX6_digest_231 : decode cX6_digest 231 = .ok (.iaload, 1) := by decide +kernel
theorem dX6_digest_232 : decode cX6_digest 232 = .ok (.i2l, 1) := by decide +kernel
theorem dX6_digest_233 : decode cX6_digest 233 = .ok (.invokevirtual 175, 3) := by decide +kernel
theorem dX6_digest_236 : decode cX6_digest 236 = .ok (.iinc 1 1, 3) := by decide +kernel
theorem dX6_digest_239 : decode cX6_digest 239 = .ok (.goto (-22), 3) := by decide +kernel
theorem dX6_digest_242 : decode cX6_digest 242 = .ok (.aload_n 0, 1) := by decide +kernel
theorem dX6_digest_243 : decode cX6_digest 243 = .ok (.getfield 169, 3) := by decide +kernel
theorem dX6_digest_246 : decode cX6_digest 246 = .ok (.lreturn, 1) := by decide +kernel
theorem dJxe99ae_isNaN_b9ae7_0 : decode cJxe99ae_isNaN_b9ae7 0 = .ok (.dload_n 0, 1) := by decide +kernel
theorem dJxe99ae_isNaN_b9ae7_1 : decode cJxe99ae_isNaN_b9ae7 1 = .ok (.dload_n 0, 1) := by decide +kernel
theorem dJxe99ae_isNaN_b9ae7_2 : decode cJxe99ae_isNaN_b9ae7 2 = .ok (.dcmp .l, 1) := by decide +kernel
theorem dJxe99ae_isNaN_b9ae7_3 : decode cJxe99ae_isNaN_b9ae7 3 = .ok (.ifCond .eq 7, 3) := by decide +kernel
theorem dJxe99ae_isNaN_b9ae7_6 : decode cJxe99ae_isNaN_b9ae7 6 = .ok (.iconst 1, 1) := by decide +kernel
theorem dJxe99ae_isNaN_b9ae7_7 : decode cJxe99ae_isNaN_b9ae7 7 = .ok (.goto 4, 3) := by decide +kernel
theorem dJxe99ae_isNaN_b9ae7_10 : decode cJxe99ae_isNaN_b9ae7 10 = .ok (.iconst 0, 1) := by decide +kernel
theorem dJxe99ae_isNaN_b9ae7_11 : decode cJxe99ae_isNaN_b9ae7 11 = .ok (.ireturn, 1) := by decide +kernel
theorem dJxe99ae_doubleToLongBits_ccdee_0 : decode cJxe99ae_doubleToLongBits_ccdee 0 = .ok (.dload_n 0, 1) := by decide +kernel
theorem dJxe99ae_doubleToLongBits_ccdee_1 : decode cJxe99ae_doubleToLongBits_ccdee 1 = .ok (.invokestatic 122, 3) := by decide +kernel
theorem dJxe99ae_doubleToLongBits_ccdee_4 : decode cJxe99ae_doubleToLongBits_ccdee 4 = .ok (.ifCond .ne 8, 3) := by decide +kernel
theorem dJxe99ae_doubleToLongBits_ccdee_7 : decode cJxe99ae_doubleToLongBits_ccdee 7 = .ok (.dload_n 0, 1) := by decide +kernel
theorem dJxe99ae_doubleToLongBits_ccdee_8 : decode cJxe99ae_doubleToLongBits_ccdee 8 = .ok (.invokestatic 134, 3) := by decide +kernel
theorem dJxe99ae_doubleToLongBits_ccdee_11 : decode cJxe99ae_doubleToLongBits_ccdee 11 = .ok (.lreturn, 1) := by decide +kernel
theorem dJxe99ae_doubleToLongBits_ccdee_12 : decode cJxe99ae_doubleToLongBits_ccdee 12 = .ok (.ldc2_w 137, 3) := by decide +kernel
theorem dJxe99ae_doubleToLongBits_ccdee_15 : decode cJxe99ae_doubleToLongBits_ccdee 15 = .ok (.lreturn, 1) := by decide +kernel
theorem dJ9_max_7cf53_0 : decode cJ9_max_7cf53 0 = .ok (.iload_n 0, 1) := by decide +kernel
theorem dJ9_max_7cf53_1 : decode cJ9_max_7cf53 1 = .ok (.iload_n 1, 1) := by decide +kernel
theorem dJ9_max_7cf53_2 : decode cJ9_max_7cf53 2 = .ok (.if_icmp .lt 7, 3) := by decide +kernel
theorem dJ9_max_7cf53_5 : decode cJ9_max_7cf53 5 = .ok (.iload_n 0, 1) := by decide +kernel
theorem dJ9_max_7cf53_6 : decode cJ9_max_7cf53 6 = .ok (.goto 4, 3) := by decide +kernel
theorem dJ9_max_7cf53_9 : decode cJ9_max_7cf53 9 = .ok (.iload_n 1, 1) := by decide +kernel
theorem dJ9_max_7cf53_10 : decode cJ9_max_7cf53 10 = .ok (.ireturn, 1) := by decide +kernel
theorem dJ9_min_7cf53_0 : decode cJ9_min_7cf53 0 = .ok (.iload_n 0, 1) := by decide +kernel
theorem dJ9_min_7cf53_1 : decode cJ9_min_7cf53 1 = .ok (.iload_n 1, 1) := by decide +kernel
theorem dJ9_min_7cf53_2 : decode cJ9_min_7cf53 2 = .ok (.if_icmp .gt 7, 3) := by decide +kernel
theorem dJ9_min_7cf53_5 : decode cJ9_min_7cf53 5 = .ok (.iload_n 0, 1) := by decide +kernel
theorem dJ9_min_7cf53_6 : decode cJ9_min_7cf53 6 = .ok (.goto 4, 3) := by decide +kernel
theorem dJ9_min_7cf53_9 : decode cJ9_min_7cf53 9 = .ok (.iload_n 1, 1) := by decide +kernel
theorem dJ9_min_7cf53_10 : decode cJ9_min_7cf53 10 = .ok (.ireturn, 1) := by decide +kernel
theorem dJ0_length_8abf5_0 : decode cJ0_length_8abf5 0 = .ok (.aload_n 0, 1) := by decide +kernel
theorem dJ0_length_8abf5_1 : decode cJ0_length_8abf5 1 = .ok (.getfield 9, 3) := by decide +kernel
theorem dJ0_length_8abf5_4 : decode cJ0_length_8abf5 4 = .ok (.arraylength, 1) := by decide +kernel
theorem dJ0_length_8abf5_5 : decode cJ0_length_8abf5 5 = .ok (.aload_n 0, 1) := by decide +kernel
theorem dJ0_length_8abf5_6 : decode cJ0_length_8abf5 6 = .ok (.invokevirtual 335, 3) := by decide +kernel
theorem dJ0_length_8abf5_9 : decode cJ0_length_8abf5 9 = .ok (.ishr, 1) := by decide +kernel
theorem dJ0_length_8abf5_10 : decode cJ0_length_8abf5 10 = .ok (.ireturn, 1) := by decide +kernel
theorem dJ0_charAt_5068e_0 : decode cJ0_charAt_5068e 0 = .ok (.aload_n 0, 1) := by decide +kernel
theorem dJ0_charAt_5068e_1 : decode cJ0_charAt_5068e 1 = .ok (.invokevirtual 492, 3) := by decide +kernel
theorem dJ0_charAt_5068e_4 : decode cJ0_charAt_5068e 4 = .ok (.ifCond .eq 12, 3) := by decide +kernel
theorem dJ0_charAt_5068e_7 : decode cJ0_charAt_5068e 7 = .ok (.aload_n 0, 1) := by decide +kernel
theorem dJ0_charAt_5068e_8 : decode cJ0_charAt_5068e 8 = .ok (.getfield 9, 3) := by decide +kernel
theorem dJ0_charAt_5068e_11 : decode cJ0_charAt_5068e 11 = .ok (.iload_n 1, 1) := by decide +kernel
theorem dJ0_charAt_5068e_12 : decode cJ0_charAt_5068e 12 = .ok (.invokestatic 495, 3) := by decide +kernel
theorem dJ0_charAt_5068e_15 : decode cJ0_charAt_5068e 15 = .ok (.ireturn, 1) := by decide +kernel
theorem dJ0_charAt_5068e_16 : decode cJ0_charAt_5068e 16 = .ok (.aload_n 0, 1) := by decide +kernel
theorem dJ0_charAt_5068e_17 : decode cJ0_charAt_5068e 17 = .ok (.getfield 9, 3) := by decide +kernel
theorem dJ0_charAt_5068e_20 : decode cJ0_charAt_5068e 20 = .ok (.iload_n 1, 1) := by decide +kernel
theorem dJ0_charAt_5068e_21 : decode cJ0_charAt_5068e 21 = .ok (.invokestatic 498, 3) := by decide +kernel
theorem dJ0_charAt_5068e_24 : decode cJ0_charAt_5068e 24 = .ok (.ireturn, 1) := by decide +kernel
theorem dJ0_coder_7d493_0 : decode cJ0_coder_7d493 0 = .ok (.getstatic 38, 3) := by decide +kernel
theorem dJ0_coder_7d493_3 : decode cJ0_coder_7d493 3 = .ok (.ifCond .eq 10, 3) := by decide +kernel
theorem dJ0_coder_7d493_6 : decode cJ0_coder_7d493 6 = .ok (.aload_n 0, 1) := by decide +kernel
theorem dJ0_coder_7d493_7 : decode cJ0_coder_7d493 7 = .ok (.getfield 15, 3) := by decide +kernel
theorem dJ0_coder_7d493_10 : decode cJ0_coder_7d493 10 = .ok (.goto 4, 3) := by decide +kernel
theorem dJ0_coder_7d493_13 : decode cJ0_coder_7d493 13 = .ok (.iconst 1, 1) := by decide +kernel
theorem dJ0_coder_7d493_14 : decode cJ0_coder_7d493 14 = .ok (.ireturn, 1) := by decide +kernel
theorem dJ0_isLatin1_aae02_0 : decode cJ0_isLatin1_aae02 0 = .ok (.getstatic 38, 3) := by decide +kernel
theorem dJ0_isLatin1_aae02_3 : decode cJ0_isLatin1_aae02 3 = .ok (.ifCond .eq 14, 3) := by decide +kernel
theorem dJ0_isLatin1_aae02_6 : decode cJ0_isLatin1_aae02 6 = .ok (.aload_n 0, 1) := by decide +kernel
theorem dJ0_isLatin1_aae02_7 : decode cJ0_isLatin1_aae02 7 = .ok (.getfield 15, 3) := by decide +kernel
theorem dJ0_isLatin1_aae02_10 : decode cJ0_isLatin1_aae02 10 = .ok (.ifCond .ne 7, 3) := by decide +kernel
theorem dJ0_isLatin1_aae02_13 : decode cJ0_isLatin1_aae02 13 = .ok (.iconst 1, 1) := by decide +kernel
theorem dJ0_isLatin1_aae02_14 : decode cJ0_isLatin1_aae02 14 = .ok (.goto 4, 3) := by decide +kernel
theorem dJ0_isLatin1_aae02_17 : decode cJ0_isLatin1_aae02 17 = .ok (.iconst 0, 1) := by decide +kernel
theorem dJ0_isLatin1_aae02_18 : decode cJ0_isLatin1_aae02 18 = .ok (.ireturn, 1) := by decide +kernel
theorem dJ0_checkIndex_df160_0 : decode cJ0_checkIndex_df160 0 = .ok (.iload_n 0, 1) := by decide +kernel
theorem dJ0_checkIndex_df160_1 : decode cJ0_checkIndex_df160 1 = .ok (.iload_n 1, 1) := by decide +kernel
theorem dJ0_checkIndex_df160_2 : decode cJ0_checkIndex_df160 2 = .ok (.getstatic 1053, 3) := by decide +kernel
theorem dJ0_checkIndex_df160_5 : decode cJ0_checkIndex_df160 5 = .ok (.invokestatic 1059, 3) := by decide +kernel
theorem dJ0_checkIndex_df160_8 : decode cJ0_checkIndex_df160 8 = .ok (.pop, 1) := by decide +kernel
theorem dJ0_checkIndex_df160_9 : decode cJ0_checkIndex_df160 9 = .ok (.return_, 1) := by decide +kernel
theorem dJ1_charAt_3b067_0 : decode cJ1_charAt_3b067 0 = .ok (.iload_n 1, 1) := by decide +kernel
theorem dJ1_charAt_3b067_1 : decode cJ1_charAt_3b067 1 = .ok (.aload_n 0, 1) := by decide +kernel
theorem dJ1_charAt_3b067_2 : decode cJ1_charAt_3b067 2 = .ok (.arraylength, 1) := by decide +kernel
theorem dJ1_charAt_3b067_3 : decode cJ1_charAt_3b067 3 = .ok (.invokestatic 9, 3) := by decide +kernel
theorem dJ1_charAt_3b067_6 : decode cJ1_charAt_3b067 6 = .ok (.aload_n 0, 1) := by decide +kernel
theorem dJ1_charAt_3b067_7 : decode cJ1_charAt_3b067 7 = .ok (.iload_n 1, 1) := by decide +kernel
theorem dJ1_charAt_3b067_8 : decode cJ1_charAt_3b067 8 = .ok (.baload, 1) := by decide +kernel
theorem dJ1_charAt_3b067_9 : decode cJ1_charAt_3b067 9 = .ok (.sipush 255, 3) := by decide +kernel
theorem dJ1_charAt_3b067_12 : decode cJ1_charAt_3b067 12 = .ok (.iand, 1) := by decide +kernel
theorem dJ1_charAt_3b067_13 : decode cJ1_charAt_3b067 13 = .ok (.i2c, 1) := by decide +kernel
theorem dJ1_charAt_3b067_14 : decode cJ1_charAt_3b067 14 = .ok (.ireturn, 1) := by decide +kernel
theorem dJ2_getChar_3b067_0 : decode cJ2_getChar_3b067 0 = .ok (.getstatic 44, 3) := by decide +kernel
theorem dJ2_getChar_3b067_3 : decode cJ2_getChar_3b067 3 = .ok (.ifCond .ne 25, 3) := by decide +kernel
theorem dJ2_getChar_3b067_6 : decode cJ2_getChar_3b067 6 = .ok (.iload_n 1, 1) := by decide +kernel
theorem dJ2_getChar_3b067_7 : decode cJ2_getChar_3b067 7 = .ok (.ifCond .lt 11, 3) := by decide +kernel
theorem dJ2_getChar_3b067_10 : decode cJ2_getChar_3b067 10 = .ok (.iload_n 1, 1) := by decide +kernel
theorem dJ2_getChar_3b067_11 : decode cJ2_getChar_3b067 11 = .ok (.aload_n 0, 1) := by decide +kernel
theorem dJ2_getChar_3b067_12 : decode cJ2_getChar_3b067 12 = .ok (.invokestatic 48, 3) := by decide +kernel
theorem dJ2_getChar_3b067_15 : decode cJ2_getChar_3b067 15 = .ok (.if_icmp .lt 13, 3) := by decide +kernel
theorem dJ2_getChar_3b067_18 : decode cJ2_getChar_3b067 18 = .ok (.new 52, 3) := by decide +kernel
theorem dJ2_getChar_3b067_21 : decode cJ2_getChar_3b067 21 = .ok (.dup, 1) := by decide +kernel
theorem dJ2_getChar_3b067_22 : decode cJ2_getChar_3b067 22 = .ok (.ldc 54, 2) := by decide +kernel
theorem dJ2_getChar_3b067_24 : decode cJ2_getChar_3b067 24 = .ok (.invokespecial 56, 3) := by decide +kernel
theorem dJ2_getChar_3b067_27 : decode cJ2_getChar_3b067 27 = .ok (.athrow, 1) := by decide +kernel
theorem dJ2_getChar_3b067_28 : decode cJ2_getChar_3b067 28 = .ok (.iload_n 1, 1) := by decide +kernel
theorem dJ2_getChar_3b067_29 : decode cJ2_getChar_3b067 29 = .ok (.iconst 1, 1) := by decide +kernel
theorem dJ2_getChar_3b067_30 : decode cJ2_getChar_3b067 30 = .ok (.ishl, 1) := by decide +kernel
theorem dJ2_getChar_3b067_31 : decode cJ2_getChar_3b067 31 = .ok (.istore_n 1, 1) := by decide +kernel
theorem dJ2_getChar_3b067_32 : decode cJ2_getChar_3b067 32 = .ok (.aload_n 0, 1) := by decide +kernel
theorem dJ2_getChar_3b067_33 : decode cJ2_getChar_3b067 33 = .ok (.iload_n 1, 1) := by decide +kernel
theorem dJ2_getChar_3b067_34 : decode cJ2_getChar_3b067 34 = .ok (.iinc 1 1, 3) := by decide +kernel
theorem dJ2_getChar_3b067_37 : decode cJ2_getChar_3b067 37 = .ok (.baload, 1) := by decide +kernel
theorem dJ2_getChar_3b067_38 : decode cJ2_getChar_3b067 38 = .ok (.sipush 255, 3) := by decide +kernel
theorem dJ2_getChar_3b067_41 : decode cJ2_getChar_3b067 41 = .ok (.iand, 1) := by decide +kernel
theorem dJ2_getChar_3b067_42 : decode cJ2_getChar_3b067 42 = .ok (.getstatic 59, 3) := by decide +kernel
theorem dJ2_getChar_3b067_45 : decode cJ2_getChar_3b067 45 = .ok (.ishl, 1) := by decide +kernel
theorem dJ2_getChar_3b067_46 : decode cJ2_getChar_3b067 46 = .ok (.aload_n 0, 1) := by decide +kernel
theorem dJ2_getChar_3b067_47 : decode cJ2_getChar_3b067 47 = .ok (.iload_n 1, 1) := by decide +kernel
theorem dJ2_getChar_3b067_48 : decode cJ2_getChar_3b067 48 = .ok (.baload, 1) := by decide +kernel
theorem dJ2_getChar_3b067_49 : decode cJ2_getChar_3b067 49 = .ok (.sipush 255, 3) := by decide +kernel
theorem dJ2_getChar_3b067_52 : decode cJ2_getChar_3b067 52 = .ok (.iand, 1) := by decide +kernel
theorem dJ2_getChar_3b067_53 : decode cJ2_getChar_3b067 53 = .ok (.getstatic 63, 3) := by decide +kernel
theorem dJ2_getChar_3b067_56 : decode cJ2_getChar_3b067 56 = .ok (.ishl, 1) := by decide +kernel
theorem dJ2_getChar_3b067_57 : decode cJ2_getChar_3b067 57 = .ok (.ior, 1) := by decide +kernel
theorem dJ2_getChar_3b067_58 : decode cJ2_getChar_3b067 58 = .ok (.i2c, 1) := by decide +kernel
theorem dJ2_getChar_3b067_59 : decode cJ2_getChar_3b067 59 = .ok (.ireturn, 1) := by decide +kernel
theorem dJ2_length_9d52b_0 : decode cJ2_length_9d52b 0 = .ok (.aload_n 0, 1) := by decide +kernel
theorem dJ2_length_9d52b_1 : decode cJ2_length_9d52b 1 = .ok (.arraylength, 1) := by decide +kernel
theorem dJ2_length_9d52b_2 : decode cJ2_length_9d52b 2 = .ok (.iconst 1, 1) := by decide +kernel
theorem dJ2_length_9d52b_3 : decode cJ2_length_9d52b 3 = .ok (.ishr, 1) := by decide +kernel
theorem dJ2_length_9d52b_4 : decode cJ2_length_9d52b 4 = .ok (.ireturn, 1) := by decide +kernel
theorem dJ2_charAt_3b067_0 : decode cJ2_charAt_3b067 0 = .ok (.iload_n 1, 1) := by decide +kernel
theorem dJ2_charAt_3b067_1 : decode cJ2_charAt_3b067 1 = .ok (.aload_n 0, 1) := by decide +kernel
theorem dJ2_charAt_3b067_2 : decode cJ2_charAt_3b067 2 = .ok (.invokestatic 67, 3) := by decide +kernel
theorem dJ2_charAt_3b067_5 : decode cJ2_charAt_3b067 5 = .ok (.aload_n 0, 1) := by decide +kernel
theorem dJ2_charAt_3b067_6 : decode cJ2_charAt_3b067 6 = .ok (.iload_n 1, 1) := by decide +kernel
theorem dJ2_charAt_3b067_7 : decode cJ2_charAt_3b067 7 = .ok (.invokestatic 71, 3) := by decide +kernel
theorem dJ2_charAt_3b067_10 : decode cJ2_charAt_3b067 10 = .ok (.ireturn, 1) := by decide +kernel
theorem dJ2_checkIndex_2214a_0 : decode cJ2_checkIndex_2214a 0 = .ok (.iload_n 0, 1) := by decide +kernel
theorem dJ2_checkIndex_2214a_1 : decode cJ2_checkIndex_2214a 1 = .ok (.aload_n 1, 1) := by decide +kernel
theorem dJ2_checkIndex_2214a_2 : decode cJ2_checkIndex_2214a 2 = .ok (.invokestatic 48, 3) := by decide +kernel
theorem dJ2_checkIndex_2214a_5 : decode cJ2_checkIndex_2214a 5 = .ok (.invokestatic 414, 3) := by decide +kernel
theorem dJ2_checkIndex_2214a_8 : decode cJ2_checkIndex_2214a 8 = .ok (.return_, 1) := by decide +kernel
theorem dJ3_checkIndex_8e157_0 : decode cJ3_checkIndex_8e157 0 = .ok (.iload_n 0, 1) := by decide +kernel
theorem dJ3_checkIndex_8e157_1 : decode cJ3_checkIndex_8e157 1 = .ok (.ifCond .lt 8, 3) := by decide +kernel
theorem dJ3_checkIndex_8e157_4 : decode cJ3_checkIndex_8e157 4 = .ok (.iload_n 0, 1) := by decide +kernel
theorem dJ3_checkIndex_8e157_5 : decode cJ3_checkIndex_8e157 5 = .ok (.iload_n 1, 1) := by decide +kernel
theorem dJ3_checkIndex_8e157_6 : decode cJ3_checkIndex_8e157 6 = .ok (.if_icmp .lt 10, 3) := by decide +kernel
theorem dJ3_checkIndex_8e157_9 : decode cJ3_checkIndex_8e157 9 = .ok (.aload_n 2, 1) := by decide +kernel
theorem dJ3_checkIndex_8e157_10 : decode cJ3_checkIndex_8e157 10 = .ok (.iload_n 0, 1) := by decide +kernel
theorem dJ3_checkIndex_8e157_11 : decode cJ3_checkIndex_8e157 11 = .ok (.iload_n 1, 1) := by decide +kernel
theorem dJ3_checkIndex_8e157_12 : decode cJ3_checkIndex_8e157 12 = .ok (.invokestatic 95, 3) := by decide +kernel
theorem dJ3_checkIndex_8e157_15 : decode cJ3_checkIndex_8e157 15 = .ok (.athrow, 1) := by decide +kernel
theorem dJ3_checkIndex_8e157_16 : decode cJ3_checkIndex_8e157 16 = .ok (.iload_n 0, 1) := by decide +kernel
theorem dJ3_checkIndex_8e157_17 : decode cJ3_checkIndex_8e157 17 = .ok (.ireturn, 1) := by decide +kernel
theorem dL_law_0 : decode cL_law 0 = .ok (.new 7, 3) := by decide +kernel
theorem dL_law_3 : decode cL_law 3 = .ok (.dup, 1) := by decide +kernel
theorem dL_law_4 : decode cL_law 4 = .ok (.invokespecial 9, 3) := by decide +kernel
theorem dL_law_7 : decode cL_law 7 = .ok (.astore_n 1, 1) := by decide +kernel
theorem dL_law_8 : decode cL_law 8 = .ok (.new 10, 3) := by decide +kernel
theorem dL_law_11 : decode cL_law 11 = .ok (.dup, 1) := by decide +kernel
theorem dL_law_12 : decode cL_law 12 = .ok (.invokespecial 12, 3) := by decide +kernel
theorem dL_law_15 : decode cL_law 15 = .ok (.astore_n 2, 1) := by decide +kernel
theorem dL_law_16 : decode cL_law 16 = .ok (.iconst 0, 1) := by decide +kernel
theorem dL_law_17 : decode cL_law 17 = .ok (.istore_n 3, 1) := by decide +kernel
theorem dL_law_18 : decode cL_law 18 = .ok (.iload_n 3, 1) := by decide +kernel
theorem dL_law_19 : decode cL_law 19 = .ok (.aload_n 0, 1) := by decide +kernel
theorem dL_law_20 : decode cL_law 20 = .ok (.arraylength, 1) := by decide +kernel
theorem dL_law_21 : decode cL_law 21 = .ok (.iconst 3, 1) := by decide +kernel
theorem dL_law_22 : decode cL_law 22 = .ok (.isub, 1) := by decide +kernel
theorem dL_law_23 : decode cL_law 23 = .ok (.if_icmp .gt 745, 3) := by decide +kernel
theorem dL_law_26 : decode cL_law 26 = .ok (.aload_n 0, 1) := by decide +kernel
theorem dL_law_27 : decode cL_law 27 = .ok (.iload_n 3, 1) := by decide +kernel
theorem dL_law_28 : decode cL_law 28 = .ok (.iaload, 1) := by decide +kernel
theorem dL_law_29 : decode cL_law 29 = .ok (.bipush 31, 2) := by decide +kernel
theorem dL_law_31 : decode cL_law 31 = .ok (.iand, 1) := by decide +kernel
theorem dL_law_32 : decode cL_law 32 = .ok (.tableswitch 730 0 24 #[116, 139, 152, 165, 178, 211, 234, 267, 290, 323, 346, 359, 382, 405, 438, 471, 494, 517, 540, 563, 596, 619, 642, 675, 716], 116) := by decide +kernel
theorem dL_law_148 : decode cL_law 148 = .ok (.aload_n 1, 1) := by decide +kernel
theorem dL_law_149 : decode cL_law 149 = .ok (.aload_n 0, 1) := by decide +kernel
theorem dL_law_150 : decode cL_law 150 = .ok (.iload_n 3, 1) := by decide +kernel
theorem dL_law_151 : decode cL_law 151 = .ok (.iconst 1, 1) := by decide +kernel
theorem dL_law_152 : decode cL_law 152 = .ok (.iadd, 1) := by decide +kernel
theorem dL_law_153 : decode cL_law 153 = .ok (.iaload, 1) := by decide +kernel
theorem dL_law_154 : decode cL_law 154 = .ok (.invokevirtual 13, 3) := by decide +kernel
theorem dL_law_157 : decode cL_law 157 = .ok (.aload_n 2, 1) := by decide +kernel
theorem dL_law_158 : decode cL_law 158 = .ok (.aload_n 0, 1) := by decide +kernel
theorem dL_law_159 : decode cL_law 159 = .ok (.iload_n 3, 1) := by decide +kernel
theorem dL_law_160 : decode cL_law 160 = .ok (.iconst 1, 1) := by decide +kernel
theorem dL_law_161 : decode cL_law 161 = .ok (.iadd, 1) := by decide +kernel
theorem dL_law_162 : decode cL_law 162 = .ok (.iaload, 1) := by decide +kernel
theorem dL_law_163 : decode cL_law 163 = .ok (.invokevirtual 17, 3) := by decide +kernel
theorem dL_law_166 : decode cL_law 166 = .ok (.if_icmp .eq 596, 3) := by decide +kernel
theorem dL_law_169 : decode cL_law 169 = .ok (.iconst 0, 1) := by decide +kernel
theorem dL_law_170 : decode cL_law 170 = .ok (.ireturn, 1) := by decide +kernel
theorem dL_law_171 : decode cL_law 171 = .ok (.aload_n 1, 1) := by decide +kernel
theorem dL_law_172 : decode cL_law 172 = .ok (.invokevirtual 18, 3) := by decide +kernel
theorem dL_law_175 : decode cL_law 175 = .ok (.aload_n 2, 1) := by decide +kernel
theorem dL_law_176 : decode cL_law 176 = .ok (.invokevirtual 22, 3) := by decide +kernel
theorem dL_law_179 : decode cL_law 179 = .ok (.if_icmp .eq 583, 3) := by decide +kernel
theorem dL_law_182 : decode cL_law 182 = .ok (.iconst 0, 1) := by decide +kernel
theorem dL_law_183 : decode cL_law 183 = .ok (.ireturn, 1) := by decide +kernel
theorem dL_law_184 : decode cL_law 184 = .ok (.aload_n 1, 1) := by decide +kernel
theorem dL_law_185 : decode cL_law 185 = .ok (.invokevirtual 23, 3) := by decide +kernel
theorem dL_law_188 : decode cL_law 188 = .ok (.aload_n 2, 1) := by decide +kernel
theorem dL_law_189 : decode cL_law 189 = .ok (.invokevirtual 26, 3) := by decide +kernel
theorem dL_law_192 : decode cL_law 192 = .ok (.if_icmp .eq 570, 3) := by decide +kernel
theorem dL_law_195 : decode cL_law 195 = .ok (.iconst 0, 1) := by decide +kernel
theorem dL_law_196 : decode cL_law 196 = .ok (.ireturn, 1) := by decide +kernel
theorem dL_law_197 : decode cL_law 197 = .ok (.aload_n 1, 1) := by decide +kernel
theorem dL_law_198 : decode cL_law 198 = .ok (.invokevirtual 27, 3) := by decide +kernel
theorem dL_law_201 : decode cL_law 201 = .ok (.aload_n 2, 1) := by decide +kernel
theorem dL_law_202 : decode cL_law 202 = .ok (.invokevirtual 30, 3) := by decide +kernel
theorem dL_law_205 : decode cL_law 205 = .ok (.if_icmp .eq 557, 3) := by decide +kernel
theorem dL_law_208 : decode cL_law 208 = .ok (.iconst 0, 1) := by decide +kernel
theorem dL_law_209 : decode cL_law 209 = .ok (.ireturn, 1) := by decide +kernel
theorem dL_law_210 : decode cL_law 210 = .ok (.aload_n 1, 1) := by decide +kernel
theorem dL_law_211 : decode cL_law 211 = .ok (.aload_n 0, 1) := by decide +kernel
theorem dL_law_212 : decode cL_law 212 = .ok (.iload_n 3, 1) := by decide +kernel
theorem dL_law_213 : decode cL_law 213 = .ok (.iconst 1, 1) := by decide +kernel
theorem dL_law_214 : decode cL_law 214 = .ok (.iadd, 1) := by decide +kernel
theorem dL_law_215 : decode cL_law 215 = .ok (.iaload, 1) := by decide +kernel
theorem dL_law_216 : decode cL_law 216 = .ok (.aload_n 0, 1) := by decide +kernel
theorem dL_law_217 : decode cL_law 217 = .ok (.iload_n 3, 1) := by decide +kernel
theorem dL_law_218 : decode cL_law 218 = .ok (.iconst 2, 1) := by decide +kernel
theorem dL_law_219 : decode cL_law 219 = .ok (.iadd, 1) := by decide +kernel
theorem dL_law_220 : decode cL_law 220 = .ok (.iaload, 1) := by decide +kernel
theorem dL_law_221 : decode cL_law 221 = .ok (.invokevirtual 31, 3) := by decide +kernel
theorem dL_law_224 : decode cL_law 224 = .ok (.aload_n 2, 1) := by decide +kernel
theorem dL_law_225 : decode cL_law 225 = .ok (.aload_n 0, 1) := by decide +kernel
theorem dL_law_226 : decode cL_law 226 = .ok (.iload_n 3, 1) := by decide +kernel
theorem dL_law_227 : decode cL_law 227 = .ok (.iconst 1, 1) := by decide +kernel
theorem dL_law_228 : decode cL_law 228 = .ok (.iadd, 1) := by decide +kernel
theorem dL_law_229 : decode cL_law 229 = .ok (.iaload, 1) := by decide +kernel
theorem dL_law_230 : decode cL_law 230 = .ok (.aload_n 0, 1) := by decide +kernel
theorem dL_law_231 : decode cL_law 231 = .ok (.iload_n 3, 1) := by decide +kernel
theorem dL_law_232 : decode cL_law 232 = .ok (.iconst 2, 1) := by decide +kernel
theorem dL_law_233 : decode cL_law 233 = .ok (.iadd, 1) := by decide +kernel
theorem dL_law_234 : decode cL_law 234 = .ok (.iaload, 1) := by decide +kernel
theorem dL_law_235 : decode cL_law 235 = .ok (.invokevirtual 35, 3) := by decide +kernel
theorem dL_law_238 : decode cL_law 238 = .ok (.if_icmp .eq 524, 3) := by decide +kernel
theorem dL_law_241 : decode cL_law 241 = .ok (.iconst 0, 1) := by decide +kernel
theorem dL_law_242 : decode cL_law 242 = .ok (.ireturn, 1) := by decide +kernel
theorem dL_law_243 : decode cL_law 243 = .ok (.aload_n 1, 1) := by decide +kernel
theorem dL_law_244 : decode cL_law 244 = .ok (.aload_n 0, 1) := by decide +kernel
theorem dL_law_245 : decode cL_law 245 = .ok (.iload_n 3, 1) := by decide +kernel
theorem dL_law_246 : decode cL_law 246 = .ok (.iconst 1, 1) := by decide +kernel
theorem dL_law_247 : decode cL_law 247 = .ok (.iadd, 1) := by decide +kernel
theorem dL_law_248 : decode cL_law 248 = .ok (.iaload, 1) := by decide +kernel
theorem dL_law_249 : decode cL_law 249 = .ok (.invokevirtual 36, 3) := by decide +kernel
theorem dL_law_252 : decode cL_law 252 = .ok (.aload_n 2, 1) := by decide +kernel
theorem dL_law_253 : decode cL_law 253 = .ok (.aload_n 0, 1) := by decide +kernel
theorem dL_law_254 : decode cL_law 254 = .ok (.iload_n 3, 1) := by decide +kernel
theorem dL_law_255 : decode cL_law 255 = .ok (.iconst 1, 1) := by decide +kernel
theorem dL_law_256 : decode cL_law 256 = .ok (.iadd, 1) := by decide +kernel
theorem dL_law_257 : decode cL_law 257 = .ok (.iaload, 1) := by decide +kernel
theorem dL_law_258 : decode cL_law 258 = .ok (.invokevirtual 39, 3) := by decide +kernel
theorem dL_law_261 : decode cL_law 261 = .ok (.if_icmp .eq 501, 3) := by decide +kernel
theorem dL_law_264 : decode cL_law 264 = .ok (.iconst 0, 1) := by decide +kernel
theorem dL_law_265 : decode cL_law 265 = .ok (.ireturn, 1) := by decide +kernel
theorem dL_law_266 : decode cL_law 266 = .ok (.aload_n 1, 1) := by decide +kernel
theorem dL_law_267 : decode cL_law 267 = .ok (.aload_n 0, 1) := by decide +kernel
theorem dL_law_268 : decode cL_law 268 = .ok (.iload_n 3, 1) := by decide +kernel
theorem dL_law_269 : decode cL_law 269 = .ok (.iconst 1, 1) := by decide +kernel
theorem dL_law_270 : decode cL_law 270 = .ok (.iadd, 1) := by decide +kernel
theorem dL_law_271 : decode cL_law 271 = .ok (.iaload, 1) := by decide +kernel
theorem dL_law_272 : decode cL_law 272 = .ok (.aload_n 0, 1) := by decide +kernel
theorem dL_law_273 : decode cL_law 273 = .ok (.iload_n 3, 1) := by decide +kernel
theorem dL_law_274 : decode cL_law 274 = .ok (.iconst 2, 1) := by decide +kernel
theorem dL_law_275 : decode cL_law 275 = .ok (.iadd, 1) := by decide +kernel
theorem dL_law_276 : decode cL_law 276 = .ok (.iaload, 1) := by decide +kernel
theorem dL_law_277 : decode cL_law 277 = .ok (.invokevirtual 40, 3) := by decide +kernel
theorem dL_law_280 : decode cL_law 280 = .ok (.aload_n 2, 1) := by decide +kernel
theorem dL_law_281 : decode cL_law 281 = .ok (.aload_n 0, 1) := by decide +kernel
theorem dL_law_282 : decode cL_law 282 = .ok (.iload_n 3, 1) := by decide +kernel
theorem dL_law_283 : decode cL_law 283 = .ok (.iconst 1, 1) := by decide +kernel
theorem dL_law_284 : decode cL_law 284 = .ok (.iadd, 1) := by decide +kernel
theorem dL_law_285 : decode cL_law 285 = .ok (.iaload, 1) := by decide +kernel
theorem dL_law_286 : decode cL_law 286 = .ok (.aload_n 0, 1) := by decide +kernel
theorem dL_law_287 : decode cL_law 287 = .ok (.iload_n 3, 1) := by decide +kernel
theorem dL_law_288 : decode cL_law 288 = .ok (.iconst 2, 1) := by decide +kernel
theorem dL_law_289 : decode cL_law 289 = .ok (.iadd, 1) := by decide +kernel
theorem dL_law_290 : decode cL_law 290 = .ok (.iaload, 1) := by decide +kernel
theorem dL_law_291 : decode cL_law 291 = .ok (.invokevirtual 43, 3) := by decide +kernel
theorem dL_law_294 : decode cL_law 294 = .ok (.if_icmp .eq 468, 3) := by decide +kernel
theorem dL_law_297 : decode cL_law 297 = .ok (.iconst 0, 1) := by decide +kernel
theorem dL_law_298 : decode cL_law 298 = .ok (.ireturn, 1) := by decide +kernel
theorem dL_law_299 : decode cL_law 299 = .ok (.aload_n 1, 1) := by decide +kernel
theorem dL_law_300 : decode cL_law 300 = .ok (.aload_n 0, 1) := by decide +kernel
theorem dL_law_301 : decode cL_law 301 = .ok (.iload_n 3, 1) := by decide +kernel
theorem dL_law_302 : decode cL_law 302 = .ok (.iconst 1, 1) := by decide +kernel
theorem dL_law_303 : decode cL_law 303 = .ok (.iadd, 1) := by decide +kernel
theorem dL_law_304 : decode cL_law 304 = .ok (.iaload, 1) := by decide +kernel
theorem dL_law_305 : decode cL_law 305 = .ok (.invokevirtual 44, 3) := by decide +kernel
theorem dL_law_308 : decode cL_law 308 = .ok (.aload_n 2, 1) := by decide +kernel
theorem dL_law_309 : decode cL_law 309 = .ok (.aload_n 0, 1) := by decide +kernel
theorem dL_law_310 : decode cL_law 310 = .ok (.iload_n 3, 1) := by decide +kernel
theorem dL_law_311 : decode cL_law 311 = .ok (.iconst 1, 1) := by decide +kernel
theorem dL_law_312 : decode cL_law 312 = .ok (.iadd, 1) := by decide +kernel
theorem dL_law_313 : decode cL_law 313 = .ok (.iaload, 1) := by decide +kernel
theorem dL_law_314 : decode cL_law 314 = .ok (.invokevirtual 47, 3) := by decide +kernel
theorem dL_law_317 : decode cL_law 317 = .ok (.if_icmp .eq 445, 3) := by decide +kernel
theorem dL_law_320 : decode cL_law 320 = .ok (.iconst 0, 1) := by decide +kernel
theorem dL_law_321 : decode cL_law 321 = .ok (.ireturn, 1) := by decide +kernel
theorem dL_law_322 : decode cL_law 322 = .ok (.aload_n 1, 1) := by decide +kernel
theorem dL_law_323 : decode cL_law 323 = .ok (.aload_n 0, 1) := by decide +kernel
theorem dL_law_324 : decode cL_law 324 = .ok (.iload_n 3, 1) := by decide +kernel
theorem dL_law_325 : decode cL_law 325 = .ok (.iconst 1, 1) := by decide +kernel
theorem dL_law_326 : decode cL_law 326 = .ok (.iadd, 1) := by decide +kernel
theorem dL_law_327 : decode cL_law 327 = .ok (.iaload, 1) := by decide +kernel
theorem dL_law_328 : decode cL_law 328 = .ok (.aload_n 0, 1) := by decide +kernel
theorem dL_law_329 : decode cL_law 329 = .ok (.iload_n 3, 1) := by decide +kernel
theorem dL_law_330 : decode cL_law 330 = .ok (.iconst 2, 1) := by decide +kernel
theorem dL_law_331 : decode cL_law 331 = .ok (.iadd, 1) := by decide +kernel
theorem dL_law_332 : decode cL_law 332 = .ok (.iaload, 1) := by decide +kernel
theorem dL_law_333 : decode cL_law 333 = .ok (.invokevirtual 48, 3) := by decide +kernel
theorem dL_law_336 : decode cL_law 336 = .ok (.aload_n 2, 1) := by decide +kernel
theorem dL_law_337 : decode cL_law 337 = .ok (.aload_n 0, 1) := by decide +kernel
theorem dL_law_338 : decode cL_law 338 = .ok (.iload_n 3, 1) := by decide +kernel
theorem dL_law_339 : decode cL_law 339 = .ok (.iconst 1, 1) := by decide +kernel
theorem dL_law_340 : decode cL_law 340 = .ok (.iadd, 1) := by decide +kernel
theorem dL_law_341 : decode cL_law 341 = .ok (.iaload, 1) := by decide +kernel
theorem dL_law_342 : decode cL_law 342 = .ok (.aload_n 0, 1) := by decide +kernel
theorem dL_law_343 : decode cL_law 343 = .ok (.iload_n 3, 1) := by decide +kernel
theorem dL_law_344 : decode cL_law 344 = .ok (.iconst 2, 1) := by decide +kernel
theorem dL_law_345 : decode cL_law 345 = .ok (.iadd, 1) := by decide +kernel
theorem dL_law_346 : decode cL_law 346 = .ok (.iaload, 1) := by decide +kernel
theorem dL_law_347 : decode cL_law 347 = .ok (.invokevirtual 51, 3) := by decide +kernel
theorem dL_law_350 : decode cL_law 350 = .ok (.if_icmp .eq 412, 3) := by decide +kernel
theorem dL_law_353 : decode cL_law 353 = .ok (.iconst 0, 1) := by decide +kernel
theorem dL_law_354 : decode cL_law 354 = .ok (.ireturn, 1) := by decide +kernel
theorem dL_law_355 : decode cL_law 355 = .ok (.aload_n 1, 1) := by decide +kernel
theorem dL_law_356 : decode cL_law 356 = .ok (.aload_n 0, 1) := by decide +kernel
theorem dL_law_357 : decode cL_law 357 = .ok (.iload_n 3, 1) := by decide +kernel
theorem dL_law_358 : decode cL_law 358 = .ok (.iconst 1, 1) := by decide +kernel
theorem dL_law_359 : decode cL_law 359 = .ok (.iadd, 1) := by decide +kernel
theorem dL_law_360 : decode cL_law 360 = .ok (.iaload, 1) := by decide +kernel
theorem dL_law_361 : decode cL_law 361 = .ok (.invokevirtual 52, 3) := by decide +kernel
theorem dL_law_364 : decode cL_law 364 = .ok (.aload_n 2, 1) := by decide +kernel
theorem dL_law_365 : decode cL_law 365 = .ok (.aload_n 0, 1) := by decide +kernel
theorem dL_law_366 : decode cL_law 366 = .ok (.iload_n 3, 1) := by decide +kernel
theorem dL_law_367 : decode cL_law 367 = .ok (.iconst 1, 1) := by decide +kernel
theorem dL_law_368 : decode cL_law 368 = .ok (.iadd, 1) := by decide +kernel
theorem dL_law_369 : decode cL_law 369 = .ok (.iaload, 1) := by decide +kernel
theorem dL_law_370 : decode cL_law 370 = .ok (.invokevirtual 55, 3) := by decide +kernel
theorem dL_law_373 : decode cL_law 373 = .ok (.if_icmp .eq 389, 3) := by decide +kernel
theorem dL_law_376 : decode cL_law 376 = .ok (.iconst 0, 1) := by decide +kernel
theorem dL_law_377 : decode cL_law 377 = .ok (.ireturn, 1) := by decide +kernel
theorem dL_law_378 : decode cL_law 378 = .ok (.aload_n 1, 1) := by decide +kernel
theorem dL_law_379 : decode cL_law 379 = .ok (.invokevirtual 56, 3) := by decide +kernel
theorem dL_law_382 : decode cL_law 382 = .ok (.aload_n 2, 1) := by decide +kernel
theorem dL_law_383 : decode cL_law 383 = .ok (.invokevirtual 59, 3) := by decide +kernel
theorem dL_law_386 : decode cL_law 386 = .ok (.if_icmp .eq 376, 3) := by decide +kernel
theorem dL_law_389 : decode cL_law 389 = .ok (.iconst 0, 1) := by decide +kernel
theorem dL_law_390 : decode cL_law 390 = .ok (.ireturn, 1) := by decide +kernel
theorem dL_law_391 : decode cL_law 391 = .ok (.aload_n 1, 1) := by decide +kernel
theorem dL_law_392 : decode cL_law 392 = .ok (.aload_n 0, 1) := by decide +kernel
theorem dL_law_393 : decode cL_law 393 = .ok (.iload_n 3, 1) := by decide +kernel
theorem dL_law_394 : decode cL_law 394 = .ok (.iconst 1, 1) := by decide +kernel
theorem dL_law_395 : decode cL_law 395 = .ok (.iadd, 1) := by decide +kernel
theorem dL_law_396 : decode cL_law 396 = .ok (.iaload, 1) := by decide +kernel
theorem dL_law_397 : decode cL_law 397 = .ok (.invokevirtual 60, 3) := by decide +kernel
theorem dL_law_400 : decode cL_law 400 = .ok (.aload_n 2, 1) := by decide +kernel
theorem dL_law_401 : decode cL_law 401 = .ok (.aload_n 0, 1) := by decide +kernel
theorem dL_law_402 : decode cL_law 402 = .ok (.iload_n 3, 1) := by decide +kernel
theorem dL_law_403 : decode cL_law 403 = .ok (.iconst 1, 1) := by decide +kernel
theorem dL_law_404 : decode cL_law 404 = .ok (.iadd, 1) := by decide +kernel
theorem dL_law_405 : decode cL_law 405 = .ok (.iaload, 1) := by decide +kernel
theorem dL_law_406 : decode cL_law 406 = .ok (.invokevirtual 63, 3) := by decide +kernel
theorem dL_law_409 : decode cL_law 409 = .ok (.if_icmp .eq 353, 3) := by decide +kernel
theorem dL_law_412 : decode cL_law 412 = .ok (.iconst 0, 1) := by decide +kernel
theorem dL_law_413 : decode cL_law 413 = .ok (.ireturn, 1) := by decide +kernel
theorem dL_law_414 : decode cL_law 414 = .ok (.aload_n 1, 1) := by decide +kernel
theorem dL_law_415 : decode cL_law 415 = .ok (.aload_n 0, 1) := by decide +kernel
theorem dL_law_416 : decode cL_law 416 = .ok (.iload_n 3, 1) := by decide +kernel
theorem dL_law_417 : decode cL_law 417 = .ok (.iconst 1, 1) := by decide +kernel
theorem dL_law_418 : decode cL_law 418 = .ok (.iadd, 1) := by decide +kernel
theorem dL_law_419 : decode cL_law 419 = .ok (.iaload, 1) := by decide +kernel
theorem dL_law_420 : decode cL_law 420 = .ok (.invokevirtual 64, 3) := by decide +kernel
theorem dL_law_423 : decode cL_law 423 = .ok (.aload_n 2, 1) := by decide +kernel
theorem dL_law_424 : decode cL_law 424 = .ok (.aload_n 0, 1) := by decide +kernel
theorem dL_law_425 : decode cL_law 425 = .ok (.iload_n 3, 1) := by decide +kernel
theorem dL_law_426 : decode cL_law 426 = .ok (.iconst 1, 1) := by decide +kernel
theorem dL_law_427 : decode cL_law 427 = .ok (.iadd, 1) := by decide +kernel
theorem dL_law_428 : decode cL_law 428 = .ok (.iaload, 1) := by decide +kernel
theorem dL_law_429 : decode cL_law 429 = .ok (.invokevirtual 67, 3) := by decide +kernel
theorem dL_law_432 : decode cL_law 432 = .ok (.if_icmp .eq 330, 3) := by decide +kernel
theorem dL_law_435 : decode cL_law 435 = .ok (.iconst 0, 1) := by decide +kernel
theorem dL_law_436 : decode cL_law 436 = .ok (.ireturn, 1) := by decide +kernel
theorem dL_law_437 : decode cL_law 437 = .ok (.aload_n 1, 1) := by decide +kernel
theorem dL_law_438 : decode cL_law 438 = .ok (.aload_n 0, 1) := by decide +kernel
theorem dL_law_439 : decode cL_law 439 = .ok (.iload_n 3, 1) := by decide +kernel
theorem dL_law_440 : decode cL_law 440 = .ok (.iconst 1, 1) := by decide +kernel
theorem dL_law_441 : decode cL_law 441 = .ok (.iadd, 1) := by decide +kernel
theorem dL_law_442 : decode cL_law 442 = .ok (.iaload, 1) := by decide +kernel
theorem dL_law_443 : decode cL_law 443 = .ok (.aload_n 0, 1) := by decide +kernel
theorem dL_law_444 : decode cL_law 444 = .ok (.iload_n 3, 1) := by decide +kernel
theorem dL_law_445 : decode cL_law 445 = .ok (.iconst 2, 1) := by decide +kernel
theorem dL_law_446 : decode cL_law 446 = .ok (.iadd, 1) := by decide +kernel
theorem dL_law_447 : decode cL_law 447 = .ok (.iaload, 1) := by decide +kernel
theorem dL_law_448 : decode cL_law 448 = .ok (.invokevirtual 68, 3) := by decide +kernel
theorem dL_law_451 : decode cL_law 451 = .ok (.aload_n 2, 1) := by decide +kernel
theorem dL_law_452 : decode cL_law 452 = .ok (.aload_n 0, 1) := by decide +kernel
theorem dL_law_453 : decode cL_law 453 = .ok (.iload_n 3, 1) := by decide +kernel
theorem dL_law_454 : decode cL_law 454 = .ok (.iconst 1, 1) := by decide +kernel
theorem dL_law_455 : decode cL_law 455 = .ok (.iadd, 1) := by decide +kernel
theorem dL_law_456 : decode cL_law 456 = .ok (.iaload, 1) := by decide +kernel
theorem dL_law_457 : decode cL_law 457 = .ok (.aload_n 0, 1) := by decide +kernel
theorem dL_law_458 : decode cL_law 458 = .ok (.iload_n 3, 1) := by decide +kernel
theorem dL_law_459 : decode cL_law 459 = .ok (.iconst 2, 1) := by decide +kernel
theorem dL_law_460 : decode cL_law 460 = .ok (.iadd, 1) := by decide +kernel
theorem dL_law_461 : decode cL_law 461 = .ok (.iaload, 1) := by decide +kernel
theorem dL_law_462 : decode cL_law 462 = .ok (.invokevirtual 71, 3) := by decide +kernel
theorem dL_law_465 : decode cL_law 465 = .ok (.if_icmp .eq 297, 3) := by decide +kernel
theorem dL_law_468 : decode cL_law 468 = .ok (.iconst 0, 1) := by decide +kernel
theorem dL_law_469 : decode cL_law 469 = .ok (.ireturn, 1) := by decide +kernel
theorem dL_law_470 : decode cL_law 470 = .ok (.aload_n 1, 1) := by decide +kernel
theorem dL_law_471 : decode cL_law 471 = .ok (.aload_n 0, 1) := by decide +kernel
theorem dL_law_472 : decode cL_law 472 = .ok (.iload_n 3, 1) := by decide +kernel
theorem dL_law_473 : decode cL_law 473 = .ok (.iconst 1, 1) := by decide +kernel
theorem dL_law_474 : decode cL_law 474 = .ok (.iadd, 1) := by decide +kernel
theorem dL_law_475 : decode cL_law 475 = .ok (.iaload, 1) := by decide +kernel
theorem dL_law_476 : decode cL_law 476 = .ok (.aload_n 0, 1) := by decide +kernel
theorem dL_law_477 : decode cL_law 477 = .ok (.iload_n 3, 1) := by decide +kernel
theorem dL_law_478 : decode cL_law 478 = .ok (.iconst 2, 1) := by decide +kernel
theorem dL_law_479 : decode cL_law 479 = .ok (.iadd, 1) := by decide +kernel
theorem dL_law_480 : decode cL_law 480 = .ok (.iaload, 1) := by decide +kernel
theorem dL_law_481 : decode cL_law 481 = .ok (.invokevirtual 72, 3) := by decide +kernel
theorem dL_law_484 : decode cL_law 484 = .ok (.aload_n 2, 1) := by decide +kernel
theorem dL_law_485 : decode cL_law 485 = .ok (.aload_n 0, 1) := by decide +kernel
theorem dL_law_486 : decode cL_law 486 = .ok (.iload_n 3, 1) := by decide +kernel
theorem dL_law_487 : decode cL_law 487 = .ok (.iconst 1, 1) := by decide +kernel
theorem dL_law_488 : decode cL_law 488 = .ok (.iadd, 1) := by decide +kernel
theorem dL_law_489 : decode cL_law 489 = .ok (.iaload, 1) := by decide +kernel
theorem dL_law_490 : decode cL_law 490 = .ok (.aload_n 0, 1) := by decide +kernel
theorem dL_law_491 : decode cL_law 491 = .ok (.iload_n 3, 1) := by decide +kernel
theorem dL_law_492 : decode cL_law 492 = .ok (.iconst 2, 1) := by decide +kernel
theorem dL_law_493 : decode cL_law 493 = .ok (.iadd, 1) := by decide +kernel
theorem dL_law_494 : decode cL_law 494 = .ok (.iaload, 1) := by decide +kernel
theorem dL_law_495 : decode cL_law 495 = .ok (.invokevirtual 75, 3) := by decide +kernel
theorem dL_law_498 : decode cL_law 498 = .ok (.if_icmp .eq 264, 3) := by decide +kernel
theorem dL_law_501 : decode cL_law 501 = .ok (.iconst 0, 1) := by decide +kernel
theorem dL_law_502 : decode cL_law 502 = .ok (.ireturn, 1) := by decide +kernel
theorem dL_law_503 : decode cL_law 503 = .ok (.aload_n 1, 1) := by decide +kernel
theorem dL_law_504 : decode cL_law 504 = .ok (.aload_n 0, 1) := by decide +kernel
theorem dL_law_505 : decode cL_law 505 = .ok (.iload_n 3, 1) := by decide +kernel
theorem dL_law_506 : decode cL_law 506 = .ok (.iconst 1, 1) := by decide +kernel
theorem dL_law_507 : decode cL_law 507 = .ok (.iadd, 1) := by decide +kernel
theorem dL_law_508 : decode cL_law 508 = .ok (.iaload, 1) := by decide +kernel
theorem dL_law_509 : decode cL_law 509 = .ok (.invokevirtual 76, 3) := by decide +kernel
theorem dL_law_512 : decode cL_law 512 = .ok (.aload_n 2, 1) := by decide +kernel
theorem dL_law_513 : decode cL_law 513 = .ok (.aload_n 0, 1) := by decide +kernel
theorem dL_law_514 : decode cL_law 514 = .ok (.iload_n 3, 1) := by decide +kernel
theorem dL_law_515 : decode cL_law 515 = .ok (.iconst 1, 1) := by decide +kernel
theorem dL_law_516 : decode cL_law 516 = .ok (.iadd, 1) := by decide +kernel
theorem dL_law_517 : decode cL_law 517 = .ok (.iaload, 1) := by decide +kernel
theorem dL_law_518 : decode cL_law 518 = .ok (.invokevirtual 79, 3) := by decide +kernel
theorem dL_law_521 : decode cL_law 521 = .ok (.if_icmp .eq 241, 3) := by decide +kernel
theorem dL_law_524 : decode cL_law 524 = .ok (.iconst 0, 1) := by decide +kernel
theorem dL_law_525 : decode cL_law 525 = .ok (.ireturn, 1) := by decide +kernel
theorem dL_law_526 : decode cL_law 526 = .ok (.aload_n 1, 1) := by decide +kernel
theorem dL_law_527 : decode cL_law 527 = .ok (.aload_n 0, 1) := by decide +kernel
theorem dL_law_528 : decode cL_law 528 = .ok (.iload_n 3, 1) := by decide +kernel
theorem dL_law_529 : decode cL_law 529 = .ok (.iconst 1, 1) := by decide +kernel
theorem dL_law_530 : decode cL_law 530 = .ok (.iadd, 1) := by decide +kernel
theorem dL_law_531 : decode cL_law 531 = .ok (.iaload, 1) := by decide +kernel
theorem dL_law_532 : decode cL_law 532 = .ok (.invokevirtual 80, 3) := by decide +kernel
theorem dL_law_535 : decode cL_law 535 = .ok (.aload_n 2, 1) := by decide +kernel
theorem dL_law_536 : decode cL_law 536 = .ok (.aload_n 0, 1) := by decide +kernel
theorem dL_law_537 : decode cL_law 537 = .ok (.iload_n 3, 1) := by decide +kernel
theorem dL_law_538 : decode cL_law 538 = .ok (.iconst 1, 1) := by decide +kernel
theorem dL_law_539 : decode cL_law 539 = .ok (.iadd, 1) := by decide +kernel
theorem dL_law_540 : decode cL_law 540 = .ok (.iaload, 1) := by decide +kernel
theorem dL_law_541 : decode cL_law 541 = .ok (.invokevirtual 83, 3) := by decide +kernel
theorem dL_law_544 : decode cL_law 544 = .ok (.if_icmp .eq 218, 3) := by decide +kernel
theorem dL_law_547 : decode cL_law 547 = .ok (.iconst 0, 1) := by decide +kernel
theorem dL_law_548 : decode cL_law 548 = .ok (.ireturn, 1) := by decide +kernel
theorem dL_law_549 : decode cL_law 549 = .ok (.aload_n 1, 1) := by decide +kernel
theorem dL_law_550 : decode cL_law 550 = .ok (.aload_n 0, 1) := by decide +kernel
theorem dL_law_551 : decode cL_law 551 = .ok (.iload_n 3, 1) := by decide +kernel
theorem dL_law_552 : decode cL_law 552 = .ok (.iconst 1, 1) := by decide +kernel
theorem dL_law_553 : decode cL_law 553 = .ok (.iadd, 1) := by decide +kernel
theorem dL_law_554 : decode cL_law 554 = .ok (.iaload, 1) := by decide +kernel
theorem dL_law_555 : decode cL_law 555 = .ok (.invokevirtual 84, 3) := by decide +kernel
theorem dL_law_558 : decode cL_law 558 = .ok (.aload_n 2, 1) := by decide +kernel
theorem dL_law_559 : decode cL_law 559 = .ok (.aload_n 0, 1) := by decide +kernel
theorem dL_law_560 : decode cL_law 560 = .ok (.iload_n 3, 1) := by decide +kernel
theorem dL_law_561 : decode cL_law 561 = .ok (.iconst 1, 1) := by decide +kernel
theorem dL_law_562 : decode cL_law 562 = .ok (.iadd, 1) := by decide +kernel
theorem dL_law_563 : decode cL_law 563 = .ok (.iaload, 1) := by decide +kernel
theorem dL_law_564 : decode cL_law 564 = .ok (.invokevirtual 87, 3) := by decide +kernel
theorem dL_law_567 : decode cL_law 567 = .ok (.if_icmp .eq 195, 3) := by decide +kernel
theorem dL_law_570 : decode cL_law 570 = .ok (.iconst 0, 1) := by decide +kernel
theorem dL_law_571 : decode cL_law 571 = .ok (.ireturn, 1) := by decide +kernel
theorem dL_law_572 : decode cL_law 572 = .ok (.aload_n 1, 1) := by decide +kernel
theorem dL_law_573 : decode cL_law 573 = .ok (.aload_n 0, 1) := by decide +kernel
theorem dL_law_574 : decode cL_law 574 = .ok (.iload_n 3, 1) := by decide +kernel
theorem dL_law_575 : decode cL_law 575 = .ok (.iconst 1, 1) := by decide +kernel
theorem dL_law_576 : decode cL_law 576 = .ok (.iadd, 1) := by decide +kernel
theorem dL_law_577 : decode cL_law 577 = .ok (.iaload, 1) := by decide +kernel
theorem dL_law_578 : decode cL_law 578 = .ok (.invokevirtual 88, 3) := by decide +kernel
theorem dL_law_581 : decode cL_law 581 = .ok (.aload_n 2, 1) := by decide +kernel
theorem dL_law_582 : decode cL_law 582 = .ok (.aload_n 0, 1) := by decide +kernel
theorem dL_law_583 : decode cL_law 583 = .ok (.iload_n 3, 1) := by decide +kernel
theorem dL_law_584 : decode cL_law 584 = .ok (.iconst 1, 1) := by decide +kernel
theorem dL_law_585 : decode cL_law 585 = .ok (.iadd, 1) := by decide +kernel
theorem dL_law_586 : decode cL_law 586 = .ok (.iaload, 1) := by decide +kernel
theorem dL_law_587 : decode cL_law 587 = .ok (.invokevirtual 91, 3) := by decide +kernel
theorem dL_law_590 : decode cL_law 590 = .ok (.if_icmp .eq 172, 3) := by decide +kernel
theorem dL_law_593 : decode cL_law 593 = .ok (.iconst 0, 1) := by decide +kernel
theorem dL_law_594 : decode cL_law 594 = .ok (.ireturn, 1) := by decide +kernel
theorem dL_law_595 : decode cL_law 595 = .ok (.aload_n 1, 1) := by decide +kernel
theorem dL_law_596 : decode cL_law 596 = .ok (.aload_n 0, 1) := by decide +kernel
theorem dL_law_597 : decode cL_law 597 = .ok (.iload_n 3, 1) := by decide +kernel
theorem dL_law_598 : decode cL_law 598 = .ok (.iconst 1, 1) := by decide +kernel
theorem dL_law_599 : decode cL_law 599 = .ok (.iadd, 1) := by decide +kernel
theorem dL_law_600 : decode cL_law 600 = .ok (.iaload, 1) := by decide +kernel
theorem dL_law_601 : decode cL_law 601 = .ok (.aload_n 0, 1) := by decide +kernel
theorem dL_law_602 : decode cL_law 602 = .ok (.iload_n 3, 1) := by decide +kernel
theorem dL_law_603 : decode cL_law 603 = .ok (.iconst 2, 1) := by decide +kernel
theorem dL_law_604 : decode cL_law 604 = .ok (.iadd, 1) := by decide +kernel
theorem dL_law_605 : decode cL_law 605 = .ok (.iaload, 1) := by decide +kernel
theorem dL_law_606 : decode cL_law 606 = .ok (.invokevirtual 92, 3) := by decide +kernel
theorem dL_law_609 : decode cL_law 609 = .ok (.aload_n 2, 1) := by decide +kernel
theorem dL_law_610 : decode cL_law 610 = .ok (.aload_n 0, 1) := by decide +kernel
theorem dL_law_611 : decode cL_law 611 = .ok (.iload_n 3, 1) := by decide +kernel
theorem dL_law_612 : decode cL_law 612 = .ok (.iconst 1, 1) := by decide +kernel
theorem dL_law_613 : decode cL_law 613 = .ok (.iadd, 1) := by decide +kernel
theorem dL_law_614 : decode cL_law 614 = .ok (.iaload, 1) := by decide +kernel
theorem dL_law_615 : decode cL_law 615 = .ok (.aload_n 0, 1) := by decide +kernel
theorem dL_law_616 : decode cL_law 616 = .ok (.iload_n 3, 1) := by decide +kernel
theorem dL_law_617 : decode cL_law 617 = .ok (.iconst 2, 1) := by decide +kernel
theorem dL_law_618 : decode cL_law 618 = .ok (.iadd, 1) := by decide +kernel
theorem dL_law_619 : decode cL_law 619 = .ok (.iaload, 1) := by decide +kernel
theorem dL_law_620 : decode cL_law 620 = .ok (.invokevirtual 95, 3) := by decide +kernel
theorem dL_law_623 : decode cL_law 623 = .ok (.if_icmp .eq 139, 3) := by decide +kernel
theorem dL_law_626 : decode cL_law 626 = .ok (.iconst 0, 1) := by decide +kernel
theorem dL_law_627 : decode cL_law 627 = .ok (.ireturn, 1) := by decide +kernel
theorem dL_law_628 : decode cL_law 628 = .ok (.aload_n 1, 1) := by decide +kernel
theorem dL_law_629 : decode cL_law 629 = .ok (.aload_n 0, 1) := by decide +kernel
theorem dL_law_630 : decode cL_law 630 = .ok (.iload_n 3, 1) := by decide +kernel
theorem dL_law_631 : decode cL_law 631 = .ok (.iconst 1, 1) := by decide +kernel
theorem dL_law_632 : decode cL_law 632 = .ok (.iadd, 1) := by decide +kernel
theorem dL_law_633 : decode cL_law 633 = .ok (.iaload, 1) := by decide +kernel
theorem dL_law_634 : decode cL_law 634 = .ok (.invokevirtual 96, 3) := by decide +kernel
theorem dL_law_637 : decode cL_law 637 = .ok (.aload_n 2, 1) := by decide +kernel
theorem dL_law_638 : decode cL_law 638 = .ok (.aload_n 0, 1) := by decide +kernel
theorem dL_law_639 : decode cL_law 639 = .ok (.iload_n 3, 1) := by decide +kernel
theorem dL_law_640 : decode cL_law 640 = .ok (.iconst 1, 1) := by decide +kernel
theorem dL_law_641 : decode cL_law 641 = .ok (.iadd, 1) := by decide +kernel
theorem dL_law_642 : decode cL_law 642 = .ok (.iaload, 1) := by decide +kernel
theorem dL_law_643 : decode cL_law 643 = .ok (.invokevirtual 99, 3) := by decide +kernel
theorem dL_law_646 : decode cL_law 646 = .ok (.if_icmp .eq 116, 3) := by decide +kernel
theorem dL_law_649 : decode cL_law 649 = .ok (.iconst 0, 1) := by decide +kernel
theorem dL_law_650 : decode cL_law 650 = .ok (.ireturn, 1) := by decide +kernel
theorem dL_law_651 : decode cL_law 651 = .ok (.aload_n 1, 1) := by decide +kernel
theorem dL_law_652 : decode cL_law 652 = .ok (.aload_n 0, 1) := by decide +kernel
theorem dL_law_653 : decode cL_law 653 = .ok (.iload_n 3, 1) := by decide +kernel
theorem dL_law_654 : decode cL_law 654 = .ok (.iconst 1, 1) := by decide +kernel
theorem dL_law_655 : decode cL_law 655 = .ok (.iadd, 1) := by decide +kernel
theorem dL_law_656 : decode cL_law 656 = .ok (.iaload, 1) := by decide +kernel
theorem dL_law_657 : decode cL_law 657 = .ok (.invokevirtual 100, 3) := by decide +kernel
theorem dL_law_660 : decode cL_law 660 = .ok (.aload_n 2, 1) := by decide +kernel
theorem dL_law_661 : decode cL_law 661 = .ok (.aload_n 0, 1) := by decide +kernel
theorem dL_law_662 : decode cL_law 662 = .ok (.iload_n 3, 1) := by decide +kernel
theorem dL_law_663 : decode cL_law 663 = .ok (.iconst 1, 1) := by decide +kernel
theorem dL_law_664 : decode cL_law 664 = .ok (.iadd, 1) := by decide +kernel
theorem dL_law_665 : decode cL_law 665 = .ok (.iaload, 1) := by decide +kernel
theorem dL_law_666 : decode cL_law 666 = .ok (.invokevirtual 103, 3) := by decide +kernel
theorem dL_law_669 : decode cL_law 669 = .ok (.if_icmp .eq 93, 3) := by decide +kernel
theorem dL_law_672 : decode cL_law 672 = .ok (.iconst 0, 1) := by decide +kernel
theorem dL_law_673 : decode cL_law 673 = .ok (.ireturn, 1) := by decide +kernel
theorem dL_law_674 : decode cL_law 674 = .ok (.aload_n 1, 1) := by decide +kernel
theorem dL_law_675 : decode cL_law 675 = .ok (.aload_n 0, 1) := by decide +kernel
theorem dL_law_676 : decode cL_law 676 = .ok (.iload_n 3, 1) := by decide +kernel
theorem dL_law_677 : decode cL_law 677 = .ok (.iconst 1, 1) := by decide +kernel
theorem dL_law_678 : decode cL_law 678 = .ok (.iadd, 1) := by decide +kernel
theorem dL_law_679 : decode cL_law 679 = .ok (.iaload, 1) := by decide +kernel
theorem dL_law_680 : decode cL_law 680 = .ok (.aload_n 0, 1) := by decide +kernel
theorem dL_law_681 : decode cL_law 681 = .ok (.iload_n 3, 1) := by decide +kernel
theorem dL_law_682 : decode cL_law 682 = .ok (.iconst 2, 1) := by decide +kernel
theorem dL_law_683 : decode cL_law 683 = .ok (.iadd, 1) := by decide +kernel
theorem dL_law_684 : decode cL_law 684 = .ok (.iaload, 1) := by decide +kernel
theorem dL_law_685 : decode cL_law 685 = .ok (.invokevirtual 104, 3) := by decide +kernel
theorem dL_law_688 : decode cL_law 688 = .ok (.aload_n 2, 1) := by decide +kernel
theorem dL_law_689 : decode cL_law 689 = .ok (.aload_n 0, 1) := by decide +kernel
theorem dL_law_690 : decode cL_law 690 = .ok (.iload_n 3, 1) := by decide +kernel
theorem dL_law_691 : decode cL_law 691 = .ok (.iconst 1, 1) := by decide +kernel
theorem dL_law_692 : decode cL_law 692 = .ok (.iadd, 1) := by decide +kernel
theorem dL_law_693 : decode cL_law 693 = .ok (.iaload, 1) := by decide +kernel
theorem dL_law_694 : decode cL_law 694 = .ok (.aload_n 0, 1) := by decide +kernel
theorem dL_law_695 : decode cL_law 695 = .ok (.iload_n 3, 1) := by decide +kernel
theorem dL_law_696 : decode cL_law 696 = .ok (.iconst 2, 1) := by decide +kernel
theorem dL_law_697 : decode cL_law 697 = .ok (.iadd, 1) := by decide +kernel
theorem dL_law_698 : decode cL_law 698 = .ok (.iaload, 1) := by decide +kernel
theorem dL_law_699 : decode cL_law 699 = .ok (.invokevirtual 107, 3) := by decide +kernel
theorem dL_law_702 : decode cL_law 702 = .ok (.if_icmp .eq 60, 3) := by decide +kernel
theorem dL_law_705 : decode cL_law 705 = .ok (.iconst 0, 1) := by decide +kernel
theorem dL_law_706 : decode cL_law 706 = .ok (.ireturn, 1) := by decide +kernel
theorem dL_law_707 : decode cL_law 707 = .ok (.aload_n 1, 1) := by decide +kernel
theorem dL_law_708 : decode cL_law 708 = .ok (.invokevirtual 108, 3) := by decide +kernel
theorem dL_law_711 : decode cL_law 711 = .ok (.dstore 4, 2) := by decide +kernel
theorem dL_law_713 : decode cL_law 713 = .ok (.aload_n 2, 1) := by decide +kernel
theorem dL_law_714 : decode cL_law 714 = .ok (.invokevirtual 112, 3) := by decide +kernel
theorem dL_law_717 : decode cL_law 717 = .ok (.dstore 6, 2) := by decide +kernel
theorem dL_law_719 : decode cL_law 719 = .ok (.dload 4, 2) := by decide +kernel
theorem dL_law_721 : decode cL_law 721 = .ok (.dload 6, 2) := by decide +kernel
theorem dL_law_723 : decode cL_law 723 = .ok (.dcmp .l, 1) := by decide +kernel
theorem dL_law_724 : decode cL_law 724 = .ok (.ifCond .eq 21, 3) := by decide +kernel
theorem dL_law_727 : decode cL_law 727 = .ok (.dload 4, 2) := by decide +kernel
theorem dL_law_729 : decode cL_law 729 = .ok (.dload 4, 2) := by decide +kernel
theorem dL_law_731 : decode cL_law 731 = .ok (.dcmp .l, 1) := by decide +kernel
theorem dL_law_732 : decode cL_law 732 = .ok (.ifCond .eq 11, 3) := by decide +kernel
theorem dL_law_735 : decode cL_law 735 = .ok (.dload 6, 2) := by decide +kernel
theorem dL_law_737 : decode cL_law 737 = .ok (.dload 6, 2) := by decide +kernel
theorem dL_law_739 : decode cL_law 739 = .ok (.dcmp .l, 1) := by decide +kernel
theorem dL_law_740 : decode cL_law 740 = .ok (.ifCond .ne 5, 3) := by decide +kernel
theorem dL_law_743 : decode cL_law 743 = .ok (.iconst 0, 1) := by decide +kernel
theorem dL_law_744 : decode cL_law 744 = .ok (.ireturn, 1) := by decide +kernel
theorem dL_law_745 : decode cL_law 745 = .ok (.goto 17, 3) := by decide +kernel
theorem dL_law_748 : decode cL_law 748 = .ok (.aload_n 1, 1) := by decide +kernel
theorem dL_law_749 : decode cL_law 749 = .ok (.invokevirtual 113, 3) := by decide +kernel
theorem dL_law_752 : decode cL_law 752 = .ok (.aload_n 2, 1) := by decide +kernel
theorem dL_law_753 : decode cL_law 753 = .ok (.invokevirtual 117, 3) := by decide +kernel
theorem dL_law_756 : decode cL_law 756 = .ok (.lcmp, 1) := by decide +kernel
theorem dL_law_757 : decode cL_law 757 = .ok (.ifCond .eq 5, 3) := by decide +kernel
theorem dL_law_760 : decode cL_law 760 = .ok (.iconst 0, 1) := by decide +kernel
theorem dL_law_761 : decode cL_law 761 = .ok (.ireturn, 1) := by decide +kernel
theorem dL_law_762 : decode cL_law 762 = .ok (.iinc 3 3, 3) := by decide +kernel
theorem dL_law_765 : decode cL_law 765 = .ok (.goto (-747), 3) := by decide +kernel
theorem dL_law_768 : decode cL_law 768 = .ok (.iconst 1, 1) := by decide +kernel
theorem dL_law_769 : decode cL_law 769 = .ok (.ireturn, 1) := by decide +kernel
