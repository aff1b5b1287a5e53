theorem dX0_init_0 : decode cX0_init 0 = .ok (.aload_n 0, 1) := by decide +kernel
theorem dX0_init_1 : decode cX0_init 1 = .ok (.invokespecial 3, 3) := by decide +kernel
theorem dX0_init_4 : decode cX0_init 4 = .ok (.aload_n 0, 1) := by decide +kernel
theorem dX0_init_5 : decode cX0_init 5 = .ok (.bipush 8, 2) := by decide +kernel
theorem dX0_init_7 : decode cX0_init 7 = .ok (.anewarray 9, 3) := by decide +kernel
theorem dX0_init_10 : decode cX0_init 10 = .ok (.putfield 11, 3) := by decide +kernel
theorem dX0_init_13 : decode cX0_init 13 = .ok (.iconst 0, 1) := by decide +kernel
theorem dX0_init_14 : decode cX0_init 14 = .ok (.istore_n 1, 1) := by decide +kernel
theorem dX0_init_15 : decode cX0_init 15 = .ok (.iload_n 1, 1) := by decide +kernel
theorem dX0_init_16 : decode cX0_init 16 = .ok (.aload_n 0, 1) := by decide +kernel
theorem dX0_init_17 : decode cX0_init 17 = .ok (.getfield 11, 3) := by decide +kernel
theorem dX0_init_20 : decode cX0_init 20 = .ok (.arraylength, 1) := by decide +kernel
theorem dX0_init_21 : decode cX0_init 21 = .ok (.if_icmp .ge 22, 3) := by decide +kernel
theorem dX0_init_24 : decode cX0_init 24 = .ok (.aload_n 0, 1) := by decide +kernel
theorem dX0_init_25 : decode cX0_init 25 = .ok (.getfield 11, 3) := by decide +kernel
theorem dX0_init_28 : decode cX0_init 28 = .ok (.iload_n 1, 1) := by decide +kernel
theorem dX0_init_29 : decode cX0_init 29 = .ok (.new 9, 3) := by decide +kernel
theorem dX0_init_32 : decode cX0_init 32 = .ok (.dup, 1) := by decide +kernel
theorem dX0_init_33 : decode cX0_init 33 = .ok (.invokespecial 17, 3) := by decide +kernel
theorem dX0_init_36 : decode cX0_init 36 = .ok (.aastore, 1) := by decide +kernel
theorem dX0_init_37 : decode cX0_init 37 = .ok (.iinc 1 1, 3) := by decide +kernel
theorem dX0_init_40 : decode cX0_init 40 = .ok (.goto (-25), 3) := by decide +kernel
theorem dX0_init_43 : decode cX0_init 43 = .ok (.return_, 1) := by decide +kernel
theorem dX0_size_0 : decode cX0_size 0 = .ok (.aload_n 0, 1) := by decide +kernel
theorem dX0_size_1 : decode cX0_size 1 = .ok (.getfield 18, 3) := by decide +kernel
theorem dX0_size_4 : decode cX0_size 4 = .ok (.ireturn, 1) := by decide +kernel
theorem dX0_remember_0 : decode cX0_remember 0 = .ok (.aload_n 0, 1) := by decide +kernel
theorem dX0_remember_1 : decode cX0_remember 1 = .ok (.getfield 18, 3) := by decide +kernel
theorem dX0_remember_4 : decode cX0_remember 4 = .ok (.aload_n 0, 1) := by decide +kernel
theorem dX0_remember_5 : decode cX0_remember 5 = .ok (.getfield 11, 3) := by decide +kernel
theorem dX0_remember_8 : decode cX0_remember 8 = .ok (.arraylength, 1) := by decide +kernel
theorem dX0_remember_9 : decode cX0_remember 9 = .ok (.if_icmp .lt 7, 3) := by decide +kernel
theorem dX0_remember_12 : decode cX0_remember 12 = .ok (.aload_n 0, 1) := by decide +kernel
theorem dX0_remember_13 : decode cX0_remember 13 = .ok (.invokevirtual 22, 3) := by decide +kernel
theorem dX0_remember_16 : decode cX0_remember 16 = .ok (.aload_n 0, 1) := by decide +kernel
theorem dX0_remember_17 : decode cX0_remember 17 = .ok (.getfield 18, 3) := by decide +kernel
theorem dX0_remember_20 : decode cX0_remember 20 = .ok (.ifCond .lt 38, 3) := by decide +kernel
theorem dX0_remember_23 : decode cX0_remember 23 = .ok (.aload_n 0, 1) := by decide +kernel
theorem dX0_remember_24 : decode cX0_remember 24 = .ok (.getfield 18, 3) := by decide +kernel
theorem dX0_remember_27 : decode cX0_remember 27 = .ok (.aload_n 0, 1) := by decide +kernel
theorem dX0_remember_28 : decode cX0_remember 28 = .ok (.getfield 11, 3) := by decide +kernel
theorem dX0_remember_31 : decode cX0_remember 31 = .ok (.arraylength, 1) := by decide +kernel
theorem dX0_remember_32 : decode cX0_remember 32 = .ok (.if_icmp .ge 26, 3) := by decide +kernel
theorem dX0_remember_35 : decode cX0_remember 35 = .ok (.aload_n 0, 1) := by decide +kernel
theorem dX0_remember_36 : decode cX0_remember 36 = .ok (.getfield 11, 3) := by decide +kernel
theorem dX0_remember_39 : decode cX0_remember 39 = .ok (.aload_n 0, 1) := by decide +kernel
theorem dX0_remember_40 : decode cX0_remember 40 = .ok (.getfield 18, 3) := by decide +kernel
theorem dX0_remember_43 : decode cX0_remember 43 = .ok (.aaload, 1) := by decide +kernel
theorem dX0_remember_44 : decode cX0_remember 44 = .ok (.aload_n 1, 1) := by decide +kernel
theorem dX0_remember_45 : decode cX0_remember 45 = .ok (.invokevirtual 25, 3) := by decide +kernel
theorem dX0_remember_48 : decode cX0_remember 48 = .ok (.aload_n 0, 1) := by decide +kernel
theorem dX0_remember_49 : decode cX0_remember 49 = .ok (.dup, 1) := by decide +kernel
theorem dX0_remember_50 : decode cX0_remember 50 = .ok (.getfield 18, 3) := by decide +kernel
theorem dX0_remember_53 : decode cX0_remember 53 = .ok (.iconst 1, 1) := by decide +kernel
theorem dX0_remember_54 : decode cX0_remember 54 = .ok (.iadd, 1) := by decide +kernel
theorem dX0_remember_55 : decode cX0_remember 55 = .ok (.putfield 18, 3) := by decide +kernel
theorem dX0_remember_58 : decode cX0_remember 58 = .ok (.return_, 1) := by decide +kernel
theorem dX0_restore_0 : decode cX0_restore 0 = .ok (.aload_n 0, 1) := by decide +kernel
theorem dX0_restore_1 : decode cX0_restore 1 = .ok (.getfield 18, 3) := by decide +kernel
theorem dX0_restore_4 : decode cX0_restore 4 = .ok (.ifCond .le 38, 3) := by decide +kernel
theorem dX0_restore_7 : decode cX0_restore 7 = .ok (.aload_n 0, 1) := by decide +kernel
theorem dX0_restore_8 : decode cX0_restore 8 = .ok (.getfield 18, 3) := by decide +kernel
theorem dX0_restore_11 : decode cX0_restore 11 = .ok (.aload_n 0, 1) := by decide +kernel
theorem dX0_restore_12 : decode cX0_restore 12 = .ok (.getfield 11, 3) := by decide +kernel
theorem dX0_restore_15 : decode cX0_restore 15 = .ok (.arraylength, 1) := by decide +kernel
theorem dX0_restore_16 : decode cX0_restore 16 = .ok (.if_icmp .gt 26, 3) := by decide +kernel
theorem dX0_restore_19 : decode cX0_restore 19 = .ok (.aload_n 0, 1) := by decide +kernel
theorem dX0_restore_20 : decode cX0_restore 20 = .ok (.dup, 1) := by decide +kernel
theorem dX0_restore_21 : decode cX0_restore 21 = .ok (.getfield 18, 3) := by decide +kernel
theorem dX0_restore_24 : decode cX0_restore 24 = .ok (.iconst 1, 1) := by decide +kernel
theorem dX0_restore_25 : decode cX0_restore 25 = .ok (.isub, 1) := by decide +kernel
theorem dX0_restore_26 : decode cX0_restore 26 = .ok (.putfield 18, 3) := by decide +kernel
theorem dX0_restore_29 : decode cX0_restore 29 = .ok (.aload_n 1, 1) := by decide +kernel
theorem dX0_restore_30 : decode cX0_restore 30 = .ok (.aload_n 0, 1) := by decide +kernel
theorem dX0_restore_31 : decode cX0_restore 31 = .ok (.getfield 11, 3) := by decide +kernel
theorem dX0_restore_34 : decode cX0_restore 34 = .ok (.aload_n 0, 1) := by decide +kernel
theorem dX0_restore_35 : decode cX0_restore 35 = .ok (.getfield 18, 3) := by decide +kernel
theorem dX0_restore_38 : decode cX0_restore 38 = .ok (.aaload, 1) := by decide +kernel
theorem dX0_restore_39 : decode cX0_restore 39 = .ok (.invokevirtual 25, 3) := by decide +kernel
theorem dX0_restore_42 : decode cX0_restore 42 = .ok (.return_, 1) := by decide +kernel
theorem dX0_dropOldest_0 : decode cX0_dropOldest 0 = .ok (.aload_n 0, 1) := by decide +kernel
theorem dX0_dropOldest_1 : decode cX0_dropOldest 1 = .ok (.getfield 11, 3) := by decide +kernel
theorem dX0_dropOldest_4 : decode cX0_dropOldest 4 = .ok (.iconst 0, 1) := by decide +kernel
theorem dX0_dropOldest_5 : decode cX0_dropOldest 5 = .ok (.aaload, 1) := by decide +kernel
theorem dX0_dropOldest_6 : decode cX0_dropOldest 6 = .ok (.astore_n 1, 1) := by decide +kernel
theorem dX0_dropOldest_7 : decode cX0_dropOldest 7 = .ok (.iconst 1, 1) := by decide +kernel
theorem dX0_dropOldest_8 : decode cX0_dropOldest 8 = .ok (.istore_n 2, 1) := by decide +kernel
theorem dX0_dropOldest_9 : decode cX0_dropOldest 9 = .ok (.iload_n 2, 1) := by decide +kernel
theorem dX0_dropOldest_10 : decode cX0_dropOldest 10 = .ok (.aload_n 0, 1) := by decide +kernel
theorem dX0_dropOldest_11 : decode cX0_dropOldest 11 = .ok (.getfield 11, 3) := by decide +kernel
theorem dX0_dropOldest_14 : decode cX0_dropOldest 14 = .ok (.arraylength, 1) := by decide +kernel
theorem dX0_dropOldest_15 : decode cX0_dropOldest 15 = .ok (.if_icmp .ge 23, 3) := by decide +kernel
theorem dX0_dropOldest_18 : decode cX0_dropOldest 18 = .ok (.aload_n 0, 1) := by decide +kernel
theorem dX0_dropOldest_19 : decode cX0_dropOldest 19 = .ok (.getfield 11, 3) := by decide +kernel
theorem dX0_dropOldest_22 : decode cX0_dropOldest 22 = .ok (.iload_n 2, 1) := by decide +kernel
theorem dX0_dropOldest_23 : decode cX0_dropOldest 23 = .ok (.iconst 1, 1) := by decide +kernel
theorem dX0_dropOldest_24 : decode cX0_dropOldest 24 = .ok (.isub, 1) := by decide +kernel
theorem dX0_dropOldest_25 : decode cX0_dropOldest 25 = .ok (.aload_n 0, 1) := by decide +kernel
theorem dX0_dropOldest_26 : decode cX0_dropOldest 26 = .ok (.getfield 11, 3) := by decide +kernel
theorem dX0_dropOldest_29 : decode cX0_dropOldest 29 = .ok (.iload_n 2, 1) := by decide +kernel
theorem dX0_dropOldest_30 : decode cX0_dropOldest 30 = .ok (.aaload, 1) := by decide +kernel
theorem dX0_dropOldest_31 : decode cX0_dropOldest 31 = .ok (.aastore, 1) := by decide +kernel
theorem dX0_dropOldest_32 : decode cX0_dropOldest 32 = .ok (.iinc 2 1, 3) := by decide +kernel
theorem dX0_dropOldest_35 : decode cX0_dropOldest 35 = .ok (.goto (-26), 3) := by decide +kernel
theorem dX0_dropOldest_38 : decode cX0_dropOldest 38 = .ok (.aload_n 0, 1) := by decide +kernel
theorem dX0_dropOldest_39 : decode cX0_dropOldest 39 = .ok (.getfield 11, 3) := by decide +kernel
theorem dX0_dropOldest_42 : decode cX0_dropOldest 42 = .ok (.aload_n 0, 1) := by decide +kernel
theorem dX0_dropOldest_43 : decode cX0_dropOldest 43 = .ok (.getfield 11, 3) := by decide +kernel
theorem dX0_dropOldest_46 : decode cX0_dropOldest 46 = .ok (.arraylength, 1) := by decide +kernel
theorem dX0_dropOldest_47 : decode cX0_dropOldest 47 = .ok (.iconst 1, 1) := by decide +kernel
theorem dX0_dropOldest_48 : decode cX0_dropOldest 48 = .ok (.isub, 1) := by decide +kernel
theorem dX0_dropOldest_49 : decode cX0_dropOldest 49 = .ok (.aload_n 1, 1) := by decide +kernel
theorem dX0_dropOldest_50 : decode cX0_dropOldest 50 = .ok (.aastore, 1) := by decide +kernel
theorem dX0_dropOldest_51 : decode cX0_dropOldest 51 = .ok (.aload_n 0, 1) := by decide +kernel
theorem dX0_dropOldest_52 : decode cX0_dropOldest 52 = .ok (.aload_n 0, 1) := by decide +kernel
theorem dX0_dropOldest_53 : decode cX0_dropOldest 53 = .ok (.getfield 11, 3) := by decide +kernel
theorem dX0_dropOldest_56 : decode cX0_dropOldest 56 = .ok (.arraylength, 1) := by decide +kernel
theorem dX0_dropOldest_57 : decode cX0_dropOldest 57 = .ok (.iconst 1, 1) := by decide +kernel
theorem dX0_dropOldest_58 : decode cX0_dropOldest 58 = .ok (.isub, 1) := by decide +kernel
theorem dX0_dropOldest_59 : decode cX0_dropOldest 59 = .ok (.putfield 18, 3) := by decide +kernel
theorem dX0_dropOldest_62 : decode cX0_dropOldest 62 = .ok (.return_, 1) := by decide +kernel
theorem dX1_init_0 : decode cX1_init 0 = .ok (.aload_n 0, 1) := by decide +kernel
theorem dX1_init_1 : decode cX1_init 1 = .ok (.invokespecial 3, 3) := by decide +kernel
theorem dX1_init_4 : decode cX1_init 4 = .ok (.aload_n 0, 1) := by decide +kernel
theorem dX1_init_5 : decode cX1_init 5 = .ok (.bipush 40, 2) := by decide +kernel
theorem dX1_init_7 : decode cX1_init 7 = .ok (.newarray .char, 2) := by decide +kernel
theorem dX1_init_9 : decode cX1_init 9 = .ok (.putfield 9, 3) := by decide +kernel
theorem dX1_init_12 : decode cX1_init 12 = .ok (.return_, 1) := by decide +kernel
theorem dX1_length_0 : decode cX1_length 0 = .ok (.aload_n 0, 1) := by decide +kernel
theorem dX1_length_1 : decode cX1_length 1 = .ok (.getfield 15, 3) := by decide +kernel
theorem dX1_length_4 : decode cX1_length 4 = .ok (.ireturn, 1) := by decide +kernel
theorem dX1_isFull_0 : decode cX1_isFull 0 = .ok (.aload_n 0, 1) := by decide +kernel
theorem dX1_isFull_1 : decode cX1_isFull 1 = .ok (.getfield 15, 3) := by decide +kernel
theorem dX1_isFull_4 : decode cX1_isFull 4 = .ok (.aload_n 0, 1) := by decide +kernel
theorem dX1_isFull_5 : decode cX1_isFull 5 = .ok (.getfield 9, 3) := by decide +kernel
theorem dX1_isFull_8 : decode cX1_isFull 8 = .ok (.arraylength, 1) := by decide +kernel
theorem dX1_isFull_9 : decode cX1_isFull 9 = .ok (.if_icmp .lt 7, 3) := by decide +kernel
theorem dX1_isFull_12 : decode cX1_isFull 12 = .ok (.iconst 1, 1) := by decide +kernel
theorem dX1_isFull_13 : decode cX1_isFull 13 = .ok (.goto 4, 3) := by decide +kernel
theorem dX1_isFull_16 : decode cX1_isFull 16 = .ok (.iconst 0, 1) := by decide +kernel
theorem dX1_isFull_17 : decode cX1_isFull 17 = .ok (.ireturn, 1) := by decide +kernel
theorem dX1_codeAt_0 : decode cX1_codeAt 0 = .ok (.iload_n 1, 1) := by decide +kernel
theorem dX1_codeAt_1 : decode cX1_codeAt 1 = .ok (.ifCond .lt 21, 3) := by decide +kernel
theorem dX1_codeAt_4 : decode cX1_codeAt 4 = .ok (.iload_n 1, 1) := by decide +kernel
theorem dX1_codeAt_5 : decode cX1_codeAt 5 = .ok (.aload_n 0, 1) := by decide +kernel
theorem dX1_codeAt_6 : decode cX1_codeAt 6 = .ok (.getfield 9, 3) := by decide +kernel
theorem dX1_codeAt_9 : decode cX1_codeAt 9 = .ok (.arraylength, 1) := by decide +kernel
theorem dX1_codeAt_10 : decode cX1_codeAt 10 = .ok (.if_icmp .ge 12, 3) := by decide +kernel
theorem dX1_codeAt_13 : decode cX1_codeAt 13 = .ok (.aload_n 0, 1) := by decide +kernel
theorem dX1_codeAt_14 : decode cX1_codeAt 14 = .ok (.getfield 9, 3) := by decide +kernel
theorem dX1_codeAt_17 : decode cX1_codeAt 17 = .ok (.iload_n 1, 1) := by decide +kernel
theorem dX1_codeAt_18 : decode cX1_codeAt 18 = .ok (.caload, 1) := by decide +kernel
theorem dX1_codeAt_19 : decode cX1_codeAt 19 = .ok (.goto 4, 3) := by decide +kernel
theorem dX1_codeAt_22 : decode cX1_codeAt 22 = .ok (.iconst 0, 1) := by decide +kernel
theorem dX1_codeAt_23 : decode cX1_codeAt 23 = .ok (.ireturn, 1) := by decide +kernel
theorem dX1_append_0 : decode cX1_append 0 = .ok (.aload_n 0, 1) := by decide +kernel
theorem dX1_append_1 : decode cX1_append 1 = .ok (.getfield 15, 3) := by decide +kernel
theorem dX1_append_4 : decode cX1_append 4 = .ok (.ifCond .lt 35, 3) := by decide +kernel
theorem dX1_append_7 : decode cX1_append 7 = .ok (.aload_n 0, 1) := by decide +kernel
theorem dX1_append_8 : decode cX1_append 8 = .ok (.getfield 15, 3) := by decide +kernel
theorem dX1_append_11 : decode cX1_append 11 = .ok (.aload_n 0, 1) := by decide +kernel
theorem dX1_append_12 : decode cX1_append 12 = .ok (.getfield 9, 3) := by decide +kernel
theorem dX1_append_15 : decode cX1_append 15 = .ok (.arraylength, 1) := by decide +kernel
theorem dX1_append_16 : decode cX1_append 16 = .ok (.if_icmp .ge 23, 3) := by decide +kernel
theorem dX1_append_19 : decode cX1_append 19 = .ok (.aload_n 0, 1) := by decide +kernel
theorem dX1_append_20 : decode cX1_append 20 = .ok (.getfield 9, 3) := by decide +kernel
theorem dX1_append_23 : decode cX1_append 23 = .ok (.aload_n 0, 1) := by decide +kernel
theorem dX1_append_24 : decode cX1_append 24 = .ok (.getfield 15, 3) := by decide +kernel
theorem dX1_append_27 : decode cX1_append 27 = .ok (.iload_n 1, 1) := by decide +kernel
theorem dX1_append_28 : decode cX1_append 28 = .ok (.castore, 1) := by decide +kernel
theorem dX1_append_29 : decode cX1_append 29 = .ok (.aload_n 0, 1) := by decide +kernel
theorem dX1_append_30 : decode cX1_append 30 = .ok (.dup, 1) := by decide +kernel
theorem dX1_append_31 : decode cX1_append 31 = .ok (.getfield 15, 3) := by decide +kernel
theorem dX1_append_34 : decode cX1_append 34 = .ok (.iconst 1, 1) := by decide +kernel
theorem dX1_append_35 : decode cX1_append 35 = .ok (.iadd, 1) := by decide +kernel
theorem dX1_append_36 : decode cX1_append 36 = .ok (.putfield 15, 3) := by decide +kernel
theorem dX1_append_39 : decode cX1_append 39 = .ok (.return_, 1) := by decide +kernel
theorem dX1_wipe_0 : decode cX1_wipe 0 = .ok (.aload_n 0, 1) := by decide +kernel
theorem dX1_wipe_1 : decode cX1_wipe 1 = .ok (.iconst 0, 1) := by decide +kernel
theorem dX1_wipe_2 : decode cX1_wipe 2 = .ok (.putfield 15, 3) := by decide +kernel
theorem dX1_wipe_5 : decode cX1_wipe 5 = .ok (.return_, 1) := by decide +kernel
theorem dX1_firstFault_0 : decode cX1_firstFault 0 = .ok (.iconst 0, 1) := by decide +kernel
theorem dX1_firstFault_1 : decode cX1_firstFault 1 = .ok (.istore_n 1, 1) := by decide +kernel
theorem dX1_firstFault_2 : decode cX1_firstFault 2 = .ok (.iconst 0, 1) := by decide +kernel
theorem dX1_firstFault_3 : decode cX1_firstFault 3 = .ok (.istore_n 2, 1) := by decide +kernel
theorem dX1_firstFault_4 : decode cX1_firstFault 4 = .ok (.iconst 0, 1) := by decide +kernel
theorem dX1_firstFault_5 : decode cX1_firstFault 5 = .ok (.istore_n 3, 1) := by decide +kernel
theorem dX1_firstFault_6 : decode cX1_firstFault 6 = .ok (.iload_n 3, 1) := by decide +kernel
theorem dX1_firstFault_7 : decode cX1_firstFault 7 = .ok (.aload_n 0, 1) := by decide +kernel
theorem dX1_firstFault_8 : decode cX1_firstFault 8 = .ok (.getfield 15, 3) := by decide +kernel
theorem dX1_firstFault_11 : decode cX1_firstFault 11 = .ok (.if_icmp .ge 75, 3) := by decide +kernel
theorem dX1_firstFault_14 : decode cX1_firstFault 14 = .ok (.aload_n 0, 1) := by decide +kernel
theorem dX1_firstFault_15 : decode cX1_firstFault 15 = .ok (.iload_n 3, 1) := by decide +kernel
theorem dX1_firstFault_16 : decode cX1_firstFault 16 = .ok (.invokevirtual 19, 3) := by decide +kernel
theorem dX1_firstFault_19 : decode cX1_firstFault 19 = .ok (.istore 4, 2) := by decide +kernel
theorem dX1_firstFault_21 : decode cX1_firstFault 21 = .ok (.iload_n 1, 1) := by decide +kernel
theorem dX1_firstFault_22 : decode cX1_firstFault 22 = .ok (.ifCond .ne 21, 3) := by decide +kernel
theorem dX1_firstFault_25 : decode cX1_firstFault 25 = .ok (.iload 4, 2) := by decide +kernel
theorem dX1_firstFault_27 : decode cX1_firstFault 27 = .ok (.invokestatic 23, 3) := by decide +kernel
theorem dX1_firstFault_30 : decode cX1_firstFault 30 = .ok (.ifCond .ne 5, 3) := by decide +kernel
theorem dX1_firstFault_33 : decode cX1_firstFault 33 = .ok (.iload_n 3, 1) := by decide +kernel
theorem dX1_firstFault_34 : decode cX1_firstFault 34 = .ok (.ireturn, 1) := by decide +kernel
theorem dX1_firstFault_35 : decode cX1_firstFault 35 = .ok (.iinc 2 1, 3) := by decide +kernel
theorem dX1_firstFault_38 : decode cX1_firstFault 38 = .ok (.iconst 1, 1) := by decide +kernel
theorem dX1_firstFault_39 : decode cX1_firstFault 39 = .ok (.istore_n 1, 1) := by decide +kernel
theorem dX1_firstFault_40 : decode cX1_firstFault 40 = .ok (.goto 40, 3) := by decide +kernel
theorem dX1_firstFault_43 : decode cX1_firstFault 43 = .ok (.iload 4, 2) := by decide +kernel
theorem dX1_firstFault_45 : decode cX1_firstFault 45 = .ok (.bipush 44, 2) := by decide +kernel
theorem dX1_firstFault_47 : decode cX1_firstFault 47 = .ok (.if_icmp .ne 14, 3) := by decide +kernel
theorem dX1_firstFault_50 : decode cX1_firstFault 50 = .ok (.iload_n 2, 1) := by decide +kernel
theorem dX1_firstFault_51 : decode cX1_firstFault 51 = .ok (.bipush 12, 2) := by decide +kernel
theorem dX1_firstFault_53 : decode cX1_firstFault 53 = .ok (.if_icmp .ge 8, 3) := by decide +kernel
theorem dX1_firstFault_56 : decode cX1_firstFault 56 = .ok (.iconst 0, 1) := by decide +kernel
theorem dX1_firstFault_57 : decode cX1_firstFault 57 = .ok (.istore_n 1, 1) := by decide +kernel
theorem dX1_firstFault_58 : decode cX1_firstFault 58 = .ok (.goto 22, 3) := by decide +kernel
theorem dX1_firstFault_61 : decode cX1_firstFault 61 = .ok (.iload 4, 2) := by decide +kernel
theorem dX1_firstFault_63 : decode cX1_firstFault 63 = .ok (.bipush 112, 2) := by decide +kernel
theorem dX1_firstFault_65 : decode cX1_firstFault 65 = .ok (.if_icmp .ne 13, 3) := by decide +kernel
theorem dX1_firstFault_68 : decode cX1_firstFault 68 = .ok (.iload_n 1, 1) := by decide +kernel
theorem dX1_firstFault_69 : decode cX1_firstFault 69 = .ok (.iconst 1, 1) := by decide +kernel
theorem dX1_firstFault_70 : decode cX1_firstFault 70 = .ok (.if_icmp .ne 8, 3) := by decide +kernel
theorem dX1_firstFault_73 : decode cX1_firstFault 73 = .ok (.iconst 2, 1) := by decide +kernel
theorem dX1_firstFault_74 : decode cX1_firstFault 74 = .ok (.istore_n 1, 1) := by decide +kernel
theorem dX1_firstFault_75 : decode cX1_firstFault 75 = .ok (.goto 5, 3) := by decide +kernel
theorem dX1_firstFault_78 : decode cX1_firstFault 78 = .ok (.iload_n 3, 1) := by decide +kernel
theorem dX1_firstFault_79 : decode cX1_firstFault 79 = .ok (.ireturn, 1) := by decide +kernel
theorem dX1_firstFault_80 : decode cX1_firstFault 80 = .ok (.iinc 3 1, 3) := by decide +kernel
theorem dX1_firstFault_83 : decode cX1_firstFault 83 = .ok (.goto (-77), 3) := by decide +kernel
theorem dX1_firstFault_86 : decode cX1_firstFault 86 = .ok (.iload_n 1, 1) := by decide +kernel
theorem dX1_firstFault_87 : decode cX1_firstFault 87 = .ok (.ifCond .eq 8, 3) := by decide +kernel
theorem dX1_firstFault_90 : decode cX1_firstFault 90 = .ok (.iload_n 2, 1) := by decide +kernel
theorem dX1_firstFault_91 : decode cX1_firstFault 91 = .ok (.iconst 3, 1) := by decide +kernel
theorem dX1_firstFault_92 : decode cX1_firstFault 92 = .ok (.if_icmp .ge 10, 3) := by decide +kernel
theorem dX1_firstFault_95 : decode cX1_firstFault 95 = .ok (.aload_n 0, 1) := by decide +kernel
theorem dX1_firstFault_96 : decode cX1_firstFault 96 = .ok (.getfield 15, 3) := by decide +kernel
theorem dX1_firstFault_99 : decode cX1_firstFault 99 = .ok (.goto 4, 3) := by decide +kernel
theorem dX1_firstFault_102 : decode cX1_firstFault 102 = .ok (.iconst (-1), 1) := by decide +kernel
theorem dX1_firstFault_103 : decode cX1_firstFault 103 = .ok (.ireturn, 1) := by decide +kernel
theorem dX1_layOnto_0 : decode cX1_layOnto 0 = .ok (.aload_n 1, 1) := by decide +kernel
theorem dX1_layOnto_1 : decode cX1_layOnto 1 = .ok (.invokevirtual 27, 3) := by decide +kernel
theorem dX1_layOnto_4 : decode cX1_layOnto 4 = .ok (.iconst 0, 1) := by decide +kernel
theorem dX1_layOnto_5 : decode cX1_layOnto 5 = .ok (.istore_n 2, 1) := by decide +kernel
theorem dX1_layOnto_6 : decode cX1_layOnto 6 = .ok (.iload_n 2, 1) := by decide +kernel
theorem dX1_layOnto_7 : decode cX1_layOnto 7 = .ok (.aload_n 0, 1) := by decide +kernel
theorem dX1_layOnto_8 : decode cX1_layOnto 8 = .ok (.getfield 15, 3) := by decide +kernel
theorem dX1_layOnto_11 : decode cX1_layOnto 11 = .ok (.if_icmp .ge 43, 3) := by decide +kernel
theorem dX1_layOnto_14 : decode cX1_layOnto 14 = .ok (.aload_n 0, 1) := by decide +kernel
theorem dX1_layOnto_15 : decode cX1_layOnto 15 = .ok (.iload_n 2, 1) := by decide +kernel
theorem dX1_layOnto_16 : decode cX1_layOnto 16 = .ok (.invokevirtual 19, 3) := by decide +kernel
theorem dX1_layOnto_19 : decode cX1_layOnto 19 = .ok (.istore_n 3, 1) := by decide +kernel
theorem dX1_layOnto_20 : decode cX1_layOnto 20 = .ok (.iload_n 3, 1) := by decide +kernel
theorem dX1_layOnto_21 : decode cX1_layOnto 21 = .ok (.invokestatic 23, 3) := by decide +kernel
theorem dX1_layOnto_24 : decode cX1_layOnto 24 = .ok (.ifCond .eq 14, 3) := by decide +kernel
theorem dX1_layOnto_27 : decode cX1_layOnto 27 = .ok (.aload_n 1, 1) := by decide +kernel
theorem dX1_layOnto_28 : decode cX1_layOnto 28 = .ok (.iload_n 3, 1) := by decide +kernel
theorem dX1_layOnto_29 : decode cX1_layOnto 29 = .ok (.bipush 48, 2) := by decide +kernel
theorem dX1_layOnto_31 : decode cX1_layOnto 31 = .ok (.isub, 1) := by decide +kernel
theorem dX1_layOnto_32 : decode cX1_layOnto 32 = .ok (.invokevirtual 32, 3) := by decide +kernel
theorem dX1_layOnto_35 : decode cX1_layOnto 35 = .ok (.goto 13, 3) := by decide +kernel
theorem dX1_layOnto_38 : decode cX1_layOnto 38 = .ok (.iload_n 3, 1) := by decide +kernel
theorem dX1_layOnto_39 : decode cX1_layOnto 39 = .ok (.bipush 112, 2) := by decide +kernel
theorem dX1_layOnto_41 : decode cX1_layOnto 41 = .ok (.if_icmp .ne 7, 3) := by decide +kernel
theorem dX1_layOnto_44 : decode cX1_layOnto 44 = .ok (.aload_n 1, 1) := by decide +kernel
theorem dX1_layOnto_45 : decode cX1_layOnto 45 = .ok (.invokevirtual 36, 3) := by decide +kernel
theorem dX1_layOnto_48 : decode cX1_layOnto 48 = .ok (.iinc 2 1, 3) := by decide +kernel
theorem dX1_layOnto_51 : decode cX1_layOnto 51 = .ok (.goto (-45), 3) := by decide +kernel
theorem dX1_layOnto_54 : decode cX1_layOnto 54 = .ok (.aload_n 1, 1) := by decide +kernel
theorem dX1_layOnto_55 : decode cX1_layOnto 55 = .ok (.invokevirtual 39, 3) := by decide +kernel
theorem dX1_layOnto_58 : decode cX1_layOnto 58 = .ok (.return_, 1) := by decide +kernel
theorem dX1_isDigit_0 : decode cX1_isDigit 0 = .ok (.iload_n 0, 1) := by decide +kernel
theorem dX1_isDigit_1 : decode cX1_isDigit 1 = .ok (.bipush 48, 2) := by decide +kernel
theorem dX1_isDigit_3 : decode cX1_isDigit 3 = .ok (.if_icmp .lt 13, 3) := by decide +kernel
theorem dX1_isDigit_6 : decode cX1_isDigit 6 = .ok (.iload_n 0, 1) := by decide +kernel
theorem dX1_isDigit_7 : decode cX1_isDigit 7 = .ok (.bipush 57, 2) := by decide +kernel
theorem dX1_isDigit_9 : decode cX1_isDigit 9 = .ok (.if_icmp .gt 7, 3) := by decide +kernel
theorem dX1_isDigit_12 : decode cX1_isDigit 12 = .ok (.iconst 1, 1) := by decide +kernel
theorem dX1_isDigit_13 : decode cX1_isDigit 13 = .ok (.goto 4, 3) := by decide +kernel
theorem dX1_isDigit_16 : decode cX1_isDigit 16 = .ok (.iconst 0, 1) := by decide +kernel
theorem dX1_isDigit_17 : decode cX1_isDigit 17 = .ok (.ireturn, 1) := by decide +kernel
theorem dX2_init_0 : decode cX2_init 0 = .ok (.aload_n 0, 1) := by decide +kernel
theorem dX2_init_1 : decode cX2_init 1 = .ok (.invokespecial 3, 3) := by decide +kernel
theorem dX2_init_4 : decode cX2_init 4 = .ok (.return_, 1) := by decide +kernel
theorem dX2_layDown_0 : decode cX2_layDown 0 = .ok (.aload_n 0, 1) := by decide +kernel
theorem dX2_layDown_1 : decode cX2_layDown 1 = .ok (.iload_n 1, 1) := by decide +kernel
theorem dX2_layDown_2 : decode cX2_layDown 2 = .ok (.putfield 9, 3) := by decide +kernel
theorem dX2_layDown_5 : decode cX2_layDown 5 = .ok (.aload_n 0, 1) := by decide +kernel
theorem dX2_layDown_6 : decode cX2_layDown 6 = .ok (.iconst 1, 1) := by decide +kernel
theorem dX2_layDown_7 : decode cX2_layDown 7 = .ok (.putfield 15, 3) := by decide +kernel
theorem dX2_layDown_10 : decode cX2_layDown 10 = .ok (.aload_n 0, 1) := by decide +kernel
theorem dX2_layDown_11 : decode cX2_layDown 11 = .ok (.iconst 0, 1) := by decide +kernel
theorem dX2_layDown_12 : decode cX2_layDown 12 = .ok (.putfield 18, 3) := by decide +kernel
theorem dX2_layDown_15 : decode cX2_layDown 15 = .ok (.return_, 1) := by decide +kernel
theorem dX2_copyFrom_0 : decode cX2_copyFrom 0 = .ok (.aload_n 0, 1) := by decide +kernel
theorem dX2_copyFrom_1 : decode cX2_copyFrom 1 = .ok (.aload_n 1, 1) := by decide +kernel
theorem dX2_copyFrom_2 : decode cX2_copyFrom 2 = .ok (.getfield 9, 3) := by decide +kernel
theorem dX2_copyFrom_5 : decode cX2_copyFrom 5 = .ok (.putfield 9, 3) := by decide +kernel
theorem dX2_copyFrom_8 : decode cX2_copyFrom 8 = .ok (.aload_n 0, 1) := by decide +kernel
theorem dX2_copyFrom_9 : decode cX2_copyFrom 9 = .ok (.aload_n 1, 1) := by decide +kernel
theorem dX2_copyFrom_10 : decode cX2_copyFrom 10 = .ok (.getfield 15, 3) := by decide +kernel
theorem dX2_copyFrom_13 : decode cX2_copyFrom 13 = .ok (.putfield 15, 3) := by decide +kernel
theorem dX2_copyFrom_16 : decode cX2_copyFrom 16 = .ok (.aload_n 0, 1) := by decide +kernel
theorem dX2_copyFrom_17 : decode cX2_copyFrom 17 = .ok (.aload_n 1, 1) := by decide +kernel
theorem dX2_copyFrom_18 : decode cX2_copyFrom 18 = .ok (.getfield 18, 3) := by decide +kernel
theorem dX2_copyFrom_21 : decode cX2_copyFrom 21 = .ok (.putfield 18, 3) := by decide +kernel
theorem dX2_copyFrom_24 : decode cX2_copyFrom 24 = .ok (.aload_n 0, 1) := by decide +kernel
theorem dX2_copyFrom_25 : decode cX2_copyFrom 25 = .ok (.aload_n 1, 1) := by decide +kernel
theorem dX2_copyFrom_26 : decode cX2_copyFrom 26 = .ok (.getfield 21, 3) := by decide +kernel
theorem dX2_copyFrom_29 : decode cX2_copyFrom 29 = .ok (.putfield 21, 3) := by decide +kernel
theorem dX2_copyFrom_32 : decode cX2_copyFrom 32 = .ok (.aload_n 0, 1) := by decide +kernel
theorem dX2_copyFrom_33 : decode cX2_copyFrom 33 = .ok (.aload_n 1, 1) := by decide +kernel
theorem dX2_copyFrom_34 : decode cX2_copyFrom 34 = .ok (.getfield 24, 3) := by decide +kernel
theorem dX2_copyFrom_37 : decode cX2_copyFrom 37 = .ok (.putfield 24, 3) := by decide +kernel
theorem dX2_copyFrom_40 : decode cX2_copyFrom 40 = .ok (.return_, 1) := by decide +kernel
theorem dX2_isPassingPlace_0 : decode cX2_isPassingPlace 0 = .ok (.aload_n 0, 1) := by decide +kernel
theorem dX2_isPassingPlace_1 : decode cX2_isPassingPlace 1 = .ok (.getfield 15, 3) := by decide +kernel
theorem dX2_isPassingPlace_4 : decode cX2_isPassingPlace 4 = .ok (.iconst 2, 1) := by decide +kernel
theorem dX2_isPassingPlace_5 : decode cX2_isPassingPlace 5 = .ok (.if_icmp .lt 7, 3) := by decide +kernel
theorem dX2_isPassingPlace_8 : decode cX2_isPassingPlace 8 = .ok (.iconst 1, 1) := by decide +kernel
theorem dX2_isPassingPlace_9 : decode cX2_isPassingPlace 9 = .ok (.goto 4, 3) := by decide +kernel
theorem dX2_isPassingPlace_12 : decode cX2_isPassingPlace 12 = .ok (.iconst 0, 1) := by decide +kernel
theorem dX2_isPassingPlace_13 : decode cX2_isPassingPlace 13 = .ok (.ireturn, 1) := by decide +kernel
theorem dX2_ticksToRise_0 : decode cX2_ticksToRise 0 = .ok (.aload_n 0, 1) := by decide +kernel
theorem dX2_ticksToRise_1 : decode cX2_ticksToRise 1 = .ok (.getfield 18, 3) := by decide +kernel
theorem dX2_ticksToRise_4 : decode cX2_ticksToRise 4 = .ok (.iload_n 1, 1) := by decide +kernel
theorem dX2_ticksToRise_5 : decode cX2_ticksToRise 5 = .ok (.if_icmp .le 8, 3) := by decide +kernel
theorem dX2_ticksToRise_8 : decode cX2_ticksToRise 8 = .ok (.iload_n 2, 1) := by decide +kernel
theorem dX2_ticksToRise_9 : decode cX2_ticksToRise 9 = .ok (.iconst 1, 1) := by decide +kernel
theorem dX2_ticksToRise_10 : decode cX2_ticksToRise 10 = .ok (.if_icmp .ge 5, 3) := by decide +kernel
theorem dX2_ticksToRise_13 : decode cX2_ticksToRise 13 = .ok (.iconst 0, 1) := by decide +kernel
theorem dX2_ticksToRise_14 : decode cX2_ticksToRise 14 = .ok (.ireturn, 1) := by decide +kernel
theorem dX2_ticksToRise_15 : decode cX2_ticksToRise 15 = .ok (.aload_n 0, 1) := by decide +kernel
theorem dX2_ticksToRise_16 : decode cX2_ticksToRise 16 = .ok (.getfield 18, 3) := by decide +kernel
theorem dX2_ticksToRise_19 : decode cX2_ticksToRise 19 = .ok (.iload_n 1, 1) := by decide +kernel
theorem dX2_ticksToRise_20 : decode cX2_ticksToRise 20 = .ok (.isub, 1) := by decide +kernel
theorem dX2_ticksToRise_21 : decode cX2_ticksToRise 21 = .ok (.iload_n 2, 1) := by decide +kernel
theorem dX2_ticksToRise_22 : decode cX2_ticksToRise 22 = .ok (.iadd, 1) := by decide +kernel
theorem dX2_ticksToRise_23 : decode cX2_ticksToRise 23 = .ok (.iconst 1, 1) := by decide +kernel
theorem dX2_ticksToRise_24 : decode cX2_ticksToRise 24 = .ok (.isub, 1) := by decide +kernel
theorem dX2_ticksToRise_25 : decode cX2_ticksToRise 25 = .ok (.iload_n 2, 1) := by decide +kernel
theorem dX2_ticksToRise_26 : decode cX2_ticksToRise 26 = .ok (.idiv, 1) := by decide +kernel
theorem dX2_ticksToRise_27 : decode cX2_ticksToRise 27 = .ok (.ireturn, 1) := by decide +kernel
theorem dX2_settle_0 : decode cX2_settle 0 = .ok (.aload_n 0, 1) := by decide +kernel
theorem dX2_settle_1 : decode cX2_settle 1 = .ok (.getfield 27, 3) := by decide +kernel
theorem dX2_settle_4 : decode cX2_settle 4 = .ok (.ifCond .ne 20, 3) := by decide +kernel
theorem dX2_settle_7 : decode cX2_settle 7 = .ok (.aload_n 0, 1) := by decide +kernel
theorem dX2_settle_8 : decode cX2_settle 8 = .ok (.aload_n 0, 1) := by decide +kernel
theorem dX2_settle_9 : decode cX2_settle 9 = .ok (.getfield 18, 3) := by decide +kernel
theorem dX2_settle_12 : decode cX2_settle 12 = .ok (.iload_n 1, 1) := by decide +kernel
theorem dX2_settle_13 : decode cX2_settle 13 = .ok (.isub, 1) := by decide +kernel
theorem dX2_settle_14 : decode cX2_settle 14 = .ok (.iconst 0, 1) := by decide +kernel
theorem dX2_settle_15 : decode cX2_settle 15 = .ok (.invokestatic 30, 3) := by decide +kernel
theorem dX2_settle_18 : decode cX2_settle 18 = .ok (.putfield 18, 3) := by decide +kernel
theorem dX2_settle_21 : decode cX2_settle 21 = .ok (.goto 30, 3) := by decide +kernel
theorem dX2_settle_24 : decode cX2_settle 24 = .ok (.aload_n 0, 1) := by decide +kernel
theorem dX2_settle_25 : decode cX2_settle 25 = .ok (.aload_n 0, 1) := by decide +kernel
theorem dX2_settle_26 : decode cX2_settle 26 = .ok (.getfield 18, 3) := by decide +kernel
theorem dX2_settle_29 : decode cX2_settle 29 = .ok (.aload_n 0, 1) := by decide +kernel
theorem dX2_settle_30 : decode cX2_settle 30 = .ok (.getfield 27, 3) := by decide +kernel
theorem dX2_settle_33 : decode cX2_settle 33 = .ok (.aload_n 0, 1) := by decide +kernel
theorem dX2_settle_34 : decode cX2_settle 34 = .ok (.getfield 9, 3) := by decide +kernel
theorem dX2_settle_37 : decode cX2_settle 37 = .ok (.imul, 1) := by decide +kernel
theorem dX2_settle_38 : decode cX2_settle 38 = .ok (.bipush 10, 2) := by decide +kernel
theorem dX2_settle_40 : decode cX2_settle 40 = .ok (.idiv, 1) := by decide +kernel
theorem dX2_settle_41 : decode cX2_settle 41 = .ok (.iadd, 1) := by decide +kernel
theorem dX2_settle_42 : decode cX2_settle 42 = .ok (.sipush 999, 3) := by decide +kernel
theorem dX2_settle_45 : decode cX2_settle 45 = .ok (.invokestatic 36, 3) := by decide +kernel
theorem dX2_settle_48 : decode cX2_settle 48 = .ok (.putfield 18, 3) := by decide +kernel
theorem dX2_settle_51 : decode cX2_settle 51 = .ok (.aload_n 0, 1) := by decide +kernel
theorem dX2_settle_52 : decode cX2_settle 52 = .ok (.iconst 0, 1) := by decide +kernel
theorem dX2_settle_53 : decode cX2_settle 53 = .ok (.putfield 27, 3) := by decide +kernel
theorem dX2_settle_56 : decode cX2_settle 56 = .ok (.return_, 1) := by decide +kernel
theorem dX3_init_0 : decode cX3_init 0 = .ok (.aload_n 0, 1) := by decide +kernel
theorem dX3_init_1 : decode cX3_init 1 = .ok (.invokespecial 3, 3) := by decide +kernel
theorem dX3_init_4 : decode cX3_init 4 = .ok (.aload_n 0, 1) := by decide +kernel
theorem dX3_init_5 : decode cX3_init 5 = .ok (.bipush 12, 2) := by decide +kernel
theorem dX3_init_7 : decode cX3_init 7 = .ok (.anewarray 9, 3) := by decide +kernel
theorem dX3_init_10 : decode cX3_init 10 = .ok (.putfield 11, 3) := by decide +kernel
theorem dX3_init_13 : decode cX3_init 13 = .ok (.iconst 0, 1) := by decide +kernel
theorem dX3_init_14 : decode cX3_init 14 = .ok (.istore_n 1, 1) := by decide +kernel
theorem dX3_init_15 : decode cX3_init 15 = .ok (.iload_n 1, 1) := by decide +kernel
theorem dX3_init_16 : decode cX3_init 16 = .ok (.aload_n 0, 1) := by decide +kernel
theorem dX3_init_17 : decode cX3_init 17 = .ok (.getfield 11, 3) := by decide +kernel
theorem dX3_init_20 : decode cX3_init 20 = .ok (.arraylength, 1) := by decide +kernel
theorem dX3_init_21 : decode cX3_init 21 = .ok (.if_icmp .ge 22, 3) := by decide +kernel
theorem dX3_init_24 : decode cX3_init 24 = .ok (.aload_n 0, 1) := by decide +kernel
theorem dX3_init_25 : decode cX3_init 25 = .ok (.getfield 11, 3) := by decide +kernel
theorem dX3_init_28 : decode cX3_init 28 = .ok (.iload_n 1, 1) := by decide +kernel
theorem dX3_init_29 : decode cX3_init 29 = .ok (.new 9, 3) := by decide +kernel
theorem dX3_init_32 : decode cX3_init 32 = .ok (.dup, 1) := by decide +kernel
theorem dX3_init_33 : decode cX3_init 33 = .ok (.invokespecial 17, 3) := by decide +kernel
theorem dX3_init_36 : decode cX3_init 36 = .ok (.aastore, 1) := by decide +kernel
theorem dX3_init_37 : decode cX3_init 37 = .ok (.iinc 1 1, 3) := by decide +kernel
theorem dX3_init_40 : decode cX3_init 40 = .ok (.goto (-25), 3) := by decide +kernel
theorem dX3_init_43 : decode cX3_init 43 = .ok (.aload_n 0, 1) := by decide +kernel
theorem dX3_init_44 : decode cX3_init 44 = .ok (.iconst 4, 1) := by decide +kernel
theorem dX3_init_45 : decode cX3_init 45 = .ok (.anewarray 18, 3) := by decide +kernel
theorem dX3_init_48 : decode cX3_init 48 = .ok (.putfield 20, 3) := by decide +kernel
theorem dX3_init_51 : decode cX3_init 51 = .ok (.iconst 0, 1) := by decide +kernel
theorem dX3_init_52 : decode cX3_init 52 = .ok (.istore_n 1, 1) := by decide +kernel
theorem dX3_init_53 : decode cX3_init 53 = .ok (.iload_n 1, 1) := by decide +kernel
theorem dX3_init_54 : decode cX3_init 54 = .ok (.aload_n 0, 1) := by decide +kernel
theorem dX3_init_55 : decode cX3_init 55 = .ok (.getfield 20, 3) := by decide +kernel
theorem dX3_init_58 : decode cX3_init 58 = .ok (.arraylength, 1) := by decide +kernel
theorem dX3_init_59 : decode cX3_init 59 = .ok (.if_icmp .ge 22, 3) := by decide +kernel
theorem dX3_init_62 : decode cX3_init 62 = .ok (.aload_n 0, 1) := by decide +kernel
theorem dX3_init_63 : decode cX3_init 63 = .ok (.getfield 20, 3) := by decide +kernel
theorem dX3_init_66 : decode cX3_init 66 = .ok (.iload_n 1, 1) := by decide +kernel
theorem dX3_init_67 : decode cX3_init 67 = .ok (.new 18, 3) := by decide +kernel
theorem dX3_init_70 : decode cX3_init 70 = .ok (.dup, 1) := by decide +kernel
theorem dX3_init_71 : decode cX3_init 71 = .ok (.invokespecial 24, 3) := by decide +kernel
theorem dX3_init_74 : decode cX3_init 74 = .ok (.aastore, 1) := by decide +kernel
theorem dX3_init_75 : decode cX3_init 75 = .ok (.iinc 1 1, 3) := by decide +kernel
theorem dX3_init_78 : decode cX3_init 78 = .ok (.goto (-25), 3) := by decide +kernel
theorem dX3_init_81 : decode cX3_init 81 = .ok (.aload_n 0, 1) := by decide +kernel
theorem dX3_init_82 : decode cX3_init 82 = .ok (.iconst 3, 1) := by decide +kernel
theorem dX3_init_83 : decode cX3_init 83 = .ok (.newarray .int, 2) := by decide +kernel
theorem dX3_init_85 : decode cX3_init 85 = .ok (.putfield 25, 3) := by decide +kernel
theorem dX3_init_88 : decode cX3_init 88 = .ok (.iconst 0, 1) := by decide +kernel
theorem dX3_init_89 : decode cX3_init 89 = .ok (.istore_n 1, 1) := by decide +kernel
theorem dX3_init_90 : decode cX3_init 90 = .ok (.iload_n 1, 1) := by decide +kernel
theorem dX3_init_91 : decode cX3_init 91 = .ok (.aload_n 0, 1) := by decide +kernel
theorem dX3_init_92 : decode cX3_init 92 = .ok (.getfield 25, 3) := by decide +kernel
theorem dX3_init_95 : decode cX3_init 95 = .ok (.arraylength, 1) := by decide +kernel
theorem dX3_init_96 : decode cX3_init 96 = .ok (.if_icmp .ge 28, 3) := by decide +kernel
theorem dX3_init_99 : decode cX3_init 99 = .ok (.iload_n 1, 1) := by decide +kernel
theorem dX3_init_100 : decode cX3_init 100 = .ok (.getstatic 29, 3) := by decide +kernel
theorem dX3_init_103 : decode cX3_init 103 = .ok (.arraylength, 1) := by decide +kernel
theorem dX3_init_104 : decode cX3_init 104 = .ok (.if_icmp .ge 20, 3) := by decide +kernel
theorem dX3_init_107 : decode cX3_init 107 = .ok (.aload_n 0, 1) := by decide +kernel
theorem dX3_init_108 : decode cX3_init 108 = .ok (.getfield 25, 3) := by decide +kernel
theorem dX3_init_111 : decode cX3_init 111 = .ok (.iload_n 1, 1) := by decide +kernel
theorem dX3_init_112 : decode cX3_init 112 = .ok (.getstatic 29, 3) := by decide +kernel
theorem dX3_init_115 : decode cX3_init 115 = .ok (.iload_n 1, 1) := by decide +kernel
theorem dX3_init_116 : decode cX3_init 116 = .ok (.iaload, 1) := by decide +kernel
theorem dX3_init_117 : decode cX3_init 117 = .ok (.iastore, 1) := by decide +kernel
theorem dX3_init_118 : decode cX3_init 118 = .ok (.iinc 1 1, 3) := by decide +kernel
theorem dX3_init_121 : decode cX3_init 121 = .ok (.goto (-31), 3) := by decide +kernel
theorem dX3_init_124 : decode cX3_init 124 = .ok (.return_, 1) := by decide +kernel
theorem dX3_copyFrom_0 : decode cX3_copyFrom 0 = .ok (.aload_n 0, 1) := by decide +kernel
theorem dX3_copyFrom_1 : decode cX3_copyFrom 1 = .ok (.aload_n 1, 1) := by decide +kernel
theorem dX3_copyFrom_2 : decode cX3_copyFrom 2 = .ok (.getfield 32, 3) := by decide +kernel
theorem dX3_copyFrom_5 : decode cX3_copyFrom 5 = .ok (.putfield 32, 3) := by decide +kernel
theorem dX3_copyFrom_8 : decode cX3_copyFrom 8 = .ok (.iconst 0, 1) := by decide +kernel
theorem dX3_copyFrom_9 : decode cX3_copyFrom 9 = .ok (.istore_n 2, 1) := by decide +kernel
theorem dX3_copyFrom_10 : decode cX3_copyFrom 10 = .ok (.iload_n 2, 1) := by decide +kernel
theorem dX3_copyFrom_11 : decode cX3_copyFrom 11 = .ok (.aload_n 0, 1) := by decide +kernel
theorem dX3_copyFrom_12 : decode cX3_copyFrom 12 = .ok (.getfield 11, 3) := by decide +kernel
theorem dX3_copyFrom_15 : decode cX3_copyFrom 15 = .ok (.arraylength, 1) := by decide +kernel
theorem dX3_copyFrom_16 : decode cX3_copyFrom 16 = .ok (.if_icmp .ge 33, 3) := by decide +kernel
theorem dX3_copyFrom_19 : decode cX3_copyFrom 19 = .ok (.iload_n 2, 1) := by decide +kernel
theorem dX3_copyFrom_20 : decode cX3_copyFrom 20 = .ok (.aload_n 1, 1) := by decide +kernel
theorem dX3_copyFrom_21 : decode cX3_copyFrom 21 = .ok (.getfield 11, 3) := by decide +kernel
theorem dX3_copyFrom_24 : decode cX3_copyFrom 24 = .ok (.arraylength, 1) := by decide +kernel
theorem dX3_copyFrom_25 : decode cX3_copyFrom 25 = .ok (.if_icmp .ge 24, 3) := by decide +kernel
theorem dX3_copyFrom_28 : decode cX3_copyFrom 28 = .ok (.aload_n 0, 1) := by decide +kernel
theorem dX3_copyFrom_29 : decode cX3_copyFrom 29 = .ok (.getfield 11, 3) := by decide +kernel
theorem dX3_copyFrom_32 : decode cX3_copyFrom 32 = .ok (.iload_n 2, 1) := by decide +kernel
theorem dX3_copyFrom_33 : decode cX3_copyFrom 33 = .ok (.aaload, 1) := by decide +kernel
theorem dX3_copyFrom_34 : decode cX3_copyFrom 34 = .ok (.aload_n 1, 1) := by decide +kernel
theorem dX3_copyFrom_35 : decode cX3_copyFrom 35 = .ok (.getfield 11, 3) := by decide +kernel
theorem dX3_copyFrom_38 : decode cX3_copyFrom 38 = .ok (.iload_n 2, 1) := by decide +kernel
theorem dX3_copyFrom_39 : decode cX3_copyFrom 39 = .ok (.aaload, 1) := by decide +kernel
theorem dX3_copyFrom_40 : decode cX3_copyFrom 40 = .ok (.invokevirtual 36, 3) := by decide +kernel
theorem dX3_copyFrom_43 : decode cX3_copyFrom 43 = .ok (.iinc 2 1, 3) := by decide +kernel
theorem dX3_copyFrom_46 : decode cX3_copyFrom 46 = .ok (.goto (-36), 3) := by decide +kernel
theorem dX3_copyFrom_49 : decode cX3_copyFrom 49 = .ok (.aload_n 0, 1) := by decide +kernel
theorem dX3_copyFrom_50 : decode cX3_copyFrom 50 = .ok (.aload_n 1, 1) := by decide +kernel
theorem dX3_copyFrom_51 : decode cX3_copyFrom 51 = .ok (.getfield 40, 3) := by decide +kernel
theorem dX3_copyFrom_54 : decode cX3_copyFrom 54 = .ok (.putfield 40, 3) := by decide +kernel
theorem dX3_copyFrom_57 : decode cX3_copyFrom 57 = .ok (.iconst 0, 1) := by decide +kernel
theorem dX3_copyFrom_58 : decode cX3_copyFrom 58 = .ok (.istore_n 2, 1) := by decide +kernel
theorem dX3_copyFrom_59 : decode cX3_copyFrom 59 = .ok (.iload_n 2, 1) := by decide +kernel
theorem dX3_copyFrom_60 : decode cX3_copyFrom 60 = .ok (.aload_n 0, 1) := by decide +kernel
theorem dX3_copyFrom_61 : decode cX3_copyFrom 61 = .ok (.getfield 20, 3) := by decide +kernel
theorem dX3_copyFrom_64 : decode cX3_copyFrom 64 = .ok (.arraylength, 1) := by decide +kernel
theorem dX3_copyFrom_65 : decode cX3_copyFrom 65 = .ok (.if_icmp .ge 33, 3) := by decide +kernel
theorem dX3_copyFrom_68 : decode cX3_copyFrom 68 = .ok (.iload_n 2, 1) := by decide +kernel
theorem dX3_copyFrom_69 : decode cX3_copyFrom 69 = .ok (.aload_n 1, 1) := by decide +kernel
theorem dX3_copyFrom_70 : decode cX3_copyFrom 70 = .ok (.getfield 20, 3) := by decide +kernel
theorem dX3_copyFrom_73 : decode cX3_copyFrom 73 = .ok (.arraylength, 1) := by decide +kernel
theorem dX3_copyFrom_74 : decode cX3_copyFrom 74 = .ok (.if_icmp .ge 24, 3) := by decide +kernel
theorem dX3_copyFrom_77 : decode cX3_copyFrom 77 = .ok (.aload_n 0, 1) := by decide +kernel
theorem dX3_copyFrom_78 : decode cX3_copyFrom 78 = .ok (.getfield 20, 3) := by decide +kernel
theorem dX3_copyFrom_81 : decode cX3_copyFrom 81 = .ok (.iload_n 2, 1) := by decide +kernel
theorem dX3_copyFrom_82 : decode cX3_copyFrom 82 = .ok (.aaload, 1) := by decide +kernel
theorem dX3_copyFrom_83 : decode cX3_copyFrom 83 = .ok (.aload_n 1, 1) := by decide +kernel
theorem dX3_copyFrom_84 : decode cX3_copyFrom 84 = .ok (.getfield 20, 3) := by decide +kernel
theorem dX3_copyFrom_87 : decode cX3_copyFrom 87 = .ok (.iload_n 2, 1) := by decide +kernel
theorem dX3_copyFrom_88 : decode cX3_copyFrom 88 = .ok (.aaload, 1) := by decide +kernel
theorem dX3_copyFrom_89 : decode cX3_copyFrom 89 = .ok (.invokevirtual 43, 3) := by decide +kernel
theorem dX3_copyFrom_92 : decode cX3_copyFrom 92 = .ok (.iinc 2 1, 3) := by decide +kernel
theorem dX3_copyFrom_95 : decode cX3_copyFrom 95 = .ok (.goto (-36), 3) := by decide +kernel
theorem dX3_copyFrom_98 : decode cX3_copyFrom 98 = .ok (.iconst 0, 1) := by decide +kernel
theorem dX3_copyFrom_99 : decode cX3_copyFrom 99 = .ok (.istore_n 2, 1) := by decide +kernel
theorem dX3_copyFrom_100 : decode cX3_copyFrom 100 = .ok (.iload_n 2, 1) := by decide +kernel
theorem dX3_copyFrom_101 : decode cX3_copyFrom 101 = .ok (.aload_n 0, 1) := by decide +kernel
theorem dX3_copyFrom_102 : decode cX3_copyFrom 102 = .ok (.getfield 25, 3) := by decide +kernel
theorem dX3_copyFrom_105 : decode cX3_copyFrom 105 = .ok (.arraylength, 1) := by decide +kernel
theorem dX3_copyFrom_106 : decode cX3_copyFrom 106 = .ok (.if_icmp .ge 30, 3) := by decide +kernel
theorem dX3_copyFrom_109 : decode cX3_copyFrom 109 = .ok (.iload_n 2, 1) := by decide +kernel
theorem dX3_copyFrom_110 : decode cX3_copyFrom 110 = .ok (.aload_n 1, 1) := by decide +kernel
theorem dX3_copyFrom_111 : decode cX3_copyFrom 111 = .ok (.getfield 25, 3) := by decide +kernel
theorem dX3_copyFrom_114 : decode cX3_copyFrom 114 = .ok (.arraylength, 1) := by decide +kernel
theorem dX3_copyFrom_115 : decode cX3_copyFrom 115 = .ok (.if_icmp .ge 21, 3) := by decide +kernel
theorem dX3_copyFrom_118 : decode cX3_copyFrom 118 = .ok (.aload_n 0, 1) := by decide +kernel
theorem dX3_copyFrom_119 : decode cX3_copyFrom 119 = .ok (.getfield 25, 3) := by decide +kernel
theorem dX3_copyFrom_122 : decode cX3_copyFrom 122 = .ok (.iload_n 2, 1) := by decide +kernel
theorem dX3_copyFrom_123 : decode cX3_copyFrom 123 = .ok (.aload_n 1, 1) := by decide +kernel
theorem dX3_copyFrom_124 : decode cX3_copyFrom 124 = .ok (.getfield 25, 3) := by decide +kernel
theorem dX3_copyFrom_127 : decode cX3_copyFrom 127 = .ok (.iload_n 2, 1) := by decide +kernel
theorem dX3_copyFrom_128 : decode cX3_copyFrom 128 = .ok (.iaload, 1) := by decide +kernel
theorem dX3_copyFrom_129 : decode cX3_copyFrom 129 = .ok (.iastore, 1) := by decide +kernel
theorem dX3_copyFrom_130 : decode cX3_copyFrom 130 = .ok (.iinc 2 1, 3) := by decide +kernel
theorem dX3_copyFrom_133 : decode cX3_copyFrom 133 = .ok (.goto (-33), 3) := by decide +kernel
theorem dX3_copyFrom_136 : decode cX3_copyFrom 136 = .ok (.aload_n 0, 1) := by decide +kernel
theorem dX3_copyFrom_137 : decode cX3_copyFrom 137 = .ok (.aload_n 1, 1) := by decide +kernel
theorem dX3_copyFrom_138 : decode cX3_copyFrom 138 = .ok (.getfield 46, 3) := by decide +kernel
theorem dX3_copyFrom_141 : decode cX3_copyFrom 141 = .ok (.putfield 46, 3) := by decide +kernel
theorem dX3_copyFrom_144 : decode cX3_copyFrom 144 = .ok (.aload_n 0, 1) := by decide +kernel
theorem dX3_copyFrom_145 : decode cX3_copyFrom 145 = .ok (.aload_n 1, 1) := by decide +kernel
theorem dX3_copyFrom_146 : decode cX3_copyFrom 146 = .ok (.getfield 49, 3) := by decide +kernel
theorem dX3_copyFrom_149 : decode cX3_copyFrom 149 = .ok (.putfield 49, 3) := by decide +kernel
theorem dX3_copyFrom_152 : decode cX3_copyFrom 152 = .ok (.aload_n 0, 1) := by decide +kernel
theorem dX3_copyFrom_153 : decode cX3_copyFrom 153 = .ok (.aload_n 1, 1) := by decide +kernel
theorem dX3_copyFrom_154 : decode cX3_copyFrom 154 = .ok (.getfield 52, 3) := by decide +kernel
theorem dX3_copyFrom_157 : decode cX3_copyFrom 157 = .ok (.putfield 52, 3) := by decide +kernel
theorem dX3_copyFrom_160 : decode cX3_copyFrom 160 = .ok (.aload_n 0, 1) := by decide +kernel
theorem dX3_copyFrom_161 : decode cX3_copyFrom 161 = .ok (.aload_n 1, 1) := by decide +kernel
theorem dX3_copyFrom_162 : decode cX3_copyFrom 162 = .ok (.getfield 55, 3) := by decide +kernel
theorem dX3_copyFrom_165 : decode cX3_copyFrom 165 = .ok (.putfield 55, 3) := by decide +kernel
theorem dX3_copyFrom_168 : decode cX3_copyFrom 168 = .ok (.aload_n 0, 1) := by decide +kernel
theorem dX3_copyFrom_169 : decode cX3_copyFrom 169 = .ok (.aload_n 1, 1) := by decide +kernel
theorem dX3_copyFrom_170 : decode cX3_copyFrom 170 = .ok (.getfield 58, 3) := by decide +kernel
theorem dX3_copyFrom_173 : decode cX3_copyFrom 173 = .ok (.putfield 58, 3) := by decide +kernel
theorem dX3_copyFrom_176 : decode cX3_copyFrom 176 = .ok (.return_, 1) := by decide +kernel
theorem dX3_segmentAt_0 : decode cX3_segmentAt 0 = .ok (.iload_n 1, 1) := by decide +kernel
theorem dX3_segmentAt_1 : decode cX3_segmentAt 1 = .ok (.ifCond .lt 20, 3) := by decide +kernel
theorem dX3_segmentAt_4 : decode cX3_segmentAt 4 = .ok (.iload_n 1, 1) := by decide +kernel
theorem dX3_segmentAt_5 : decode cX3_segmentAt 5 = .ok (.aload_n 0, 1) := by decide +kernel
theorem dX3_segmentAt_6 : decode cX3_segmentAt 6 = .ok (.getfield 32, 3) := by decide +kernel
theorem dX3_segmentAt_9 : decode cX3_segmentAt 9 = .ok (.if_icmp .ge 12, 3) := by decide +kernel
theorem dX3_segmentAt_12 : decode cX3_segmentAt 12 = .ok (.iload_n 1, 1) := by decide +kernel
theorem dX3_segmentAt_13 : decode cX3_segmentAt 13 = .ok (.aload_n 0, 1) := by decide +kernel
theorem dX3_segmentAt_14 : decode cX3_segmentAt 14 = .ok (.getfield 11, 3) := by decide +kernel
theorem dX3_segmentAt_17 : decode cX3_segmentAt 17 = .ok (.arraylength, 1) := by decide +kernel
theorem dX3_segmentAt_18 : decode cX3_segmentAt 18 = .ok (.if_icmp .lt 5, 3) := by decide +kernel
theorem dX3_segmentAt_21 : decode cX3_segmentAt 21 = .ok (.aconst_null, 1) := by decide +kernel
theorem dX3_segmentAt_22 : decode cX3_segmentAt 22 = .ok (.areturn, 1) := by decide +kernel
theorem dX3_segmentAt_23 : decode cX3_segmentAt 23 = .ok (.aload_n 0, 1) := by decide +kernel
theorem dX3_segmentAt_24 : decode cX3_segmentAt 24 = .ok (.getfield 11, 3) := by decide +kernel
theorem dX3_segmentAt_27 : decode cX3_segmentAt 27 = .ok (.iload_n 1, 1) := by decide +kernel
theorem dX3_segmentAt_28 : decode cX3_segmentAt 28 = .ok (.aaload, 1) := by decide +kernel
theorem dX3_segmentAt_29 : decode cX3_segmentAt 29 = .ok (.areturn, 1) := by decide +kernel
theorem dX3_trainAt_0 : decode cX3_trainAt 0 = .ok (.iload_n 1, 1) := by decide +kernel
theorem dX3_trainAt_1 : decode cX3_trainAt 1 = .ok (.ifCond .lt 20, 3) := by decide +kernel
theorem dX3_trainAt_4 : decode cX3_trainAt 4 = .ok (.iload_n 1, 1) := by decide +kernel
theorem dX3_trainAt_5 : decode cX3_trainAt 5 = .ok (.aload_n 0, 1) := by decide +kernel
theorem dX3_trainAt_6 : decode cX3_trainAt 6 = .ok (.getfield 40, 3) := by decide +kernel
theorem dX3_trainAt_9 : decode cX3_trainAt 9 = .ok (.if_icmp .ge 12, 3) := by decide +kernel
theorem dX3_trainAt_12 : decode cX3_trainAt 12 = .ok (.iload_n 1, 1) := by decide +kernel
theorem dX3_trainAt_13 : decode cX3_trainAt 13 = .ok (.aload_n 0, 1) := by decide +kernel
theorem dX3_trainAt_14 : decode cX3_trainAt 14 = .ok (.getfield 20, 3) := by decide +kernel
theorem dX3_trainAt_17 : decode cX3_trainAt 17 = .ok (.arraylength, 1) := by decide +kernel
theorem dX3_trainAt_18 : decode cX3_trainAt 18 = .ok (.if_icmp .lt 5, 3) := by decide +kernel
theorem dX3_trainAt_21 : decode cX3_trainAt 21 = .ok (.aconst_null, 1) := by decide +kernel
theorem dX3_trainAt_22 : decode cX3_trainAt 22 = .ok (.areturn, 1) := by decide +kernel
theorem dX3_trainAt_23 : decode cX3_trainAt 23 = .ok (.aload_n 0, 1) := by decide +kernel
theorem dX3_trainAt_24 : decode cX3_trainAt 24 = .ok (.getfield 20, 3) := by decide +kernel
theorem dX3_trainAt_27 : decode cX3_trainAt 27 = .ok (.iload_n 1, 1) := by decide +kernel
theorem dX3_trainAt_28 : decode cX3_trainAt 28 = .ok (.aaload, 1) := by decide +kernel
theorem dX3_trainAt_29 : decode cX3_trainAt 29 = .ok (.areturn, 1) := by decide +kernel
theorem dX3_beginTrack_0 : decode cX3_beginTrack 0 = .ok (.aload_n 0, 1) := by decide +kernel
theorem dX3_beginTrack_1 : decode cX3_beginTrack 1 = .ok (.iconst 0, 1) := by decide +kernel
theorem dX3_beginTrack_2 : decode cX3_beginTrack 2 = .ok (.putfield 32, 3) := by decide +kernel
theorem dX3_beginTrack_5 : decode cX3_beginTrack 5 = .ok (.return_, 1) := by decide +kernel
theorem dX3_appendSegment_0 : decode cX3_appendSegment 0 = .ok (.aload_n 0, 1) := by decide +kernel
theorem dX3_appendSegment_1 : decode cX3_appendSegment 1 = .ok (.dup, 1) := by decide +kernel
theorem dX3_appendSegment_2 : decode cX3_appendSegment 2 = .ok (.getfield 32, 3) := by decide +kernel
theorem dX3_appendSegment_5 : decode cX3_appendSegment 5 = .ok (.iconst 1, 1) := by decide +kernel
theorem dX3_appendSegment_6 : decode cX3_appendSegment 6 = .ok (.iadd, 1) := by decide +kernel
theorem dX3_appendSegment_7 : decode cX3_appendSegment 7 = .ok (.putfield 32, 3) := by decide +kernel
theorem dX3_appendSegment_10 : decode cX3_appendSegment 10 = .ok (.aload_n 0, 1) := by decide +kernel
theorem dX3_appendSegment_11 : decode cX3_appendSegment 11 = .ok (.aload_n 0, 1) := by decide +kernel
theorem dX3_appendSegment_12 : decode cX3_appendSegment 12 = .ok (.getfield 32, 3) := by decide +kernel
theorem dX3_appendSegment_15 : decode cX3_appendSegment 15 = .ok (.iconst 1, 1) := by decide +kernel
theorem dX3_appendSegment_16 : decode cX3_appendSegment 16 = .ok (.isub, 1) := by decide +kernel
theorem dX3_appendSegment_17 : decode cX3_appendSegment 17 = .ok (.invokevirtual 61, 3) := by decide +kernel
theorem dX3_appendSegment_20 : decode cX3_appendSegment 20 = .ok (.astore_n 2, 1) := by decide +kernel
theorem dX3_appendSegment_21 : decode cX3_appendSegment 21 = .ok (.aload_n 2, 1) := by decide +kernel
theorem dX3_appendSegment_22 : decode cX3_appendSegment 22 = .ok (.ifnull 8, 3) := by decide +kernel
theorem dX3_appendSegment_25 : decode cX3_appendSegment 25 = .ok (.aload_n 2, 1) := by decide +kernel
theorem dX3_appendSegment_26 : decode cX3_appendSegment 26 = .ok (.iload_n 1, 1) := by decide +kernel
theorem dX3_appendSegment_27 : decode cX3_appendSegment 27 = .ok (.invokevirtual 65, 3) := by decide +kernel
theorem dX3_appendSegment_30 : decode cX3_appendSegment 30 = .ok (.return_, 1) := by decide +kernel
theorem dX3_widenLatestSegment_0 : decode cX3_widenLatestSegment 0 = .ok (.aload_n 0, 1) := by decide +kernel
theorem dX3_widenLatestSegment_1 : decode cX3_widenLatestSegment 1 = .ok (.aload_n 0, 1) := by decide +kernel
theorem dX3_widenLatestSegment_2 : decode cX3_widenLatestSegment 2 = .ok (.getfield 32, 3) := by decide +kernel
theorem dX3_widenLatestSegment_5 : decode cX3_widenLatestSegment 5 = .ok (.iconst 1, 1) := by decide +kernel
theorem dX3_widenLatestSegment_6 : decode cX3_widenLatestSegment 6 = .ok (.isub, 1) := by decide +kernel
theorem dX3_widenLatestSegment_7 : decode cX3_widenLatestSegment 7 = .ok (.invokevirtual 61, 3) := by decide +kernel
theorem dX3_widenLatestSegment_10 : decode cX3_widenLatestSegment 10 = .ok (.astore_n 1, 1) := by decide +kernel
theorem dX3_widenLatestSegment_11 : decode cX3_widenLatestSegment 11 = .ok (.aload_n 1, 1) := by decide +kernel
theorem dX3_widenLatestSegment_12 : decode cX3_widenLatestSegment 12 = .ok (.ifnull 8, 3) := by decide +kernel
theorem dX3_widenLatestSegment_15 : decode cX3_widenLatestSegment 15 = .ok (.aload_n 1, 1) := by decide +kernel
theorem dX3_widenLatestSegment_16 : decode cX3_widenLatestSegment 16 = .ok (.iconst 2, 1) := by decide +kernel
theorem dX3_widenLatestSegment_17 : decode cX3_widenLatestSegment 17 = .ok (.putfield 69, 3) := by decide +kernel
theorem dX3_widenLatestSegment_20 : decode cX3_widenLatestSegment 20 = .ok (.return_, 1) := by decide +kernel
theorem dX3_endTrack_0 : decode cX3_endTrack 0 = .ok (.aload_n 0, 1) := by decide +kernel
theorem dX3_endTrack_1 : decode cX3_endTrack 1 = .ok (.iconst 0, 1) := by decide +kernel
theorem dX3_endTrack_2 : decode cX3_endTrack 2 = .ok (.invokevirtual 61, 3) := by decide +kernel
theorem dX3_endTrack_5 : decode cX3_endTrack 5 = .ok (.astore_n 1, 1) := by decide +kernel
theorem dX3_endTrack_6 : decode cX3_endTrack 6 = .ok (.aload_n 0, 1) := by decide +kernel
theorem dX3_endTrack_7 : decode cX3_endTrack 7 = .ok (.aload_n 0, 1) := by decide +kernel
theorem dX3_endTrack_8 : decode cX3_endTrack 8 = .ok (.getfield 32, 3) := by decide +kernel
theorem dX3_endTrack_11 : decode cX3_endTrack 11 = .ok (.iconst 1, 1) := by decide +kernel
theorem dX3_endTrack_12 : decode cX3_endTrack 12 = .ok (.isub, 1) := by decide +kernel
theorem dX3_endTrack_13 : decode cX3_endTrack 13 = .ok (.invokevirtual 61, 3) := by decide +kernel
theorem dX3_endTrack_16 : decode cX3_endTrack 16 = .ok (.astore_n 2, 1) := by decide +kernel
theorem dX3_endTrack_17 : decode cX3_endTrack 17 = .ok (.aload_n 1, 1) := by decide +kernel
theorem dX3_endTrack_18 : decode cX3_endTrack 18 = .ok (.ifnull 17, 3) := by decide +kernel
theorem dX3_endTrack_21 : decode cX3_endTrack 21 = .ok (.aload_n 2, 1) := by decide +kernel
theorem dX3_endTrack_22 : decode cX3_endTrack 22 = .ok (.ifnull 13, 3) := by decide +kernel
theorem dX3_endTrack_25 : decode cX3_endTrack 25 = .ok (.aload_n 1, 1) := by decide +kernel
theorem dX3_endTrack_26 : decode cX3_endTrack 26 = .ok (.iconst 4, 1) := by decide +kernel
theorem dX3_endTrack_27 : decode cX3_endTrack 27 = .ok (.putfield 69, 3) := by decide +kernel
theorem dX3_endTrack_30 : decode cX3_endTrack 30 = .ok (.aload_n 2, 1) := by decide +kernel
theorem dX3_endTrack_31 : decode cX3_endTrack 31 = .ok (.iconst 4, 1) := by decide +kernel
theorem dX3_endTrack_32 : decode cX3_endTrack 32 = .ok (.putfield 69, 3) := by decide +kernel
theorem dX3_endTrack_35 : decode cX3_endTrack 35 = .ok (.iconst 0, 1) := by decide +kernel
theorem dX3_endTrack_36 : decode cX3_endTrack 36 = .ok (.istore_n 3, 1) := by decide +kernel
theorem dX3_endTrack_37 : decode cX3_endTrack 37 = .ok (.iconst 0, 1) := by decide +kernel
theorem dX3_endTrack_38 : decode cX3_endTrack 38 = .ok (.istore 4, 2) := by decide +kernel
theorem dX3_endTrack_40 : decode cX3_endTrack 40 = .ok (.iload 4, 2) := by decide +kernel
theorem dX3_endTrack_42 : decode cX3_endTrack 42 = .ok (.bipush 12, 2) := by decide +kernel
theorem dX3_endTrack_44 : decode cX3_endTrack 44 = .ok (.if_icmp .ge 43, 3) := by decide +kernel
theorem dX3_endTrack_47 : decode cX3_endTrack 47 = .ok (.aload_n 0, 1) := by decide +kernel
theorem dX3_endTrack_48 : decode cX3_endTrack 48 = .ok (.iload 4, 2) := by decide +kernel
theorem dX3_endTrack_50 : decode cX3_endTrack 50 = .ok (.invokevirtual 61, 3) := by decide +kernel
theorem dX3_endTrack_53 : decode cX3_endTrack 53 = .ok (.astore 5, 2) := by decide +kernel
theorem dX3_endTrack_55 : decode cX3_endTrack 55 = .ok (.aload 5, 2) := by decide +kernel
theorem dX3_endTrack_57 : decode cX3_endTrack 57 = .ok (.ifnull 24, 3) := by decide +kernel
theorem dX3_endTrack_60 : decode cX3_endTrack 60 = .ok (.aload 5, 2) := by decide +kernel
theorem dX3_endTrack_62 : decode cX3_endTrack 62 = .ok (.iload_n 3, 1) := by decide +kernel
theorem dX3_endTrack_63 : decode cX3_endTrack 63 = .ok (.putfield 72, 3) := by decide +kernel
theorem dX3_endTrack_66 : decode cX3_endTrack 66 = .ok (.aload 5, 2) := by decide +kernel
theorem dX3_endTrack_68 : decode cX3_endTrack 68 = .ok (.invokevirtual 75, 3) := by decide +kernel
theorem dX3_endTrack_71 : decode cX3_endTrack 71 = .ok (.ifCond .eq 8, 3) := by decide +kernel
theorem dX3_endTrack_74 : decode cX3_endTrack 74 = .ok (.iload 4, 2) := by decide +kernel
theorem dX3_endTrack_76 : decode cX3_endTrack 76 = .ok (.goto 4, 3) := by decide +kernel
theorem dX3_endTrack_79 : decode cX3_endTrack 79 = .ok (.iload_n 3, 1) := by decide +kernel
theorem dX3_endTrack_80 : decode cX3_endTrack 80 = .ok (.istore_n 3, 1) := by decide +kernel
theorem dX3_endTrack_81 : decode cX3_endTrack 81 = .ok (.iinc 4 1, 3) := by decide +kernel
theorem dX3_endTrack_84 : decode cX3_endTrack 84 = .ok (.goto (-44), 3) := by decide +kernel
theorem dX3_endTrack_87 : decode cX3_endTrack 87 = .ok (.bipush 11, 2) := by decide +kernel
theorem dX3_endTrack_89 : decode cX3_endTrack 89 = .ok (.istore 4, 2) := by decide +kernel
theorem dX3_endTrack_91 : decode cX3_endTrack 91 = .ok (.iload 4, 2) := by decide +kernel
theorem dX3_endTrack_93 : decode cX3_endTrack 93 = .ok (.ifCond .lt 43, 3) := by decide +kernel
theorem dX3_endTrack_96 : decode cX3_endTrack 96 = .ok (.aload_n 0, 1) := by decide +kernel
theorem dX3_endTrack_97 : decode cX3_endTrack 97 = .ok (.iload 4, 2) := by decide +kernel
theorem dX3_endTrack_99 : decode cX3_endTrack 99 = .ok (.invokevirtual 61, 3) := by decide +kernel
theorem dX3_endTrack_102 : decode cX3_endTrack 102 = .ok (.astore 5, 2) := by decide +kernel
theorem dX3_endTrack_104 : decode cX3_endTrack 104 = .ok (.aload 5, 2) := by decide +kernel
theorem dX3_endTrack_106 : decode cX3_endTrack 106 = .ok (.ifnull 24, 3) := by decide +kernel
theorem dX3_endTrack_109 : decode cX3_endTrack 109 = .ok (.aload 5, 2) := by decide +kernel
theorem dX3_endTrack_111 : decode cX3_endTrack 111 = .ok (.iload_n 3, 1) := by decide +kernel
theorem dX3_endTrack_112 : decode cX3_endTrack 112 = .ok (.putfield 79, 3) := by decide +kernel
theorem dX3_endTrack_115 : decode cX3_endTrack 115 = .ok (.aload 5, 2) := by decide +kernel
theorem dX3_endTrack_117 : decode cX3_endTrack 117 = .ok (.invokevirtual 75, 3) := by decide +kernel
theorem dX3_endTrack_120 : decode cX3_endTrack 120 = .ok (.ifCond .eq 8, 3) := by decide +kernel
theorem dX3_endTrack_123 : decode cX3_endTrack 123 = .ok (.iload 4, 2) := by decide +kernel
theorem dX3_endTrack_125 : decode cX3_endTrack 125 = .ok (.goto 4, 3) := by decide +kernel
theorem dX3_endTrack_128 : decode cX3_endTrack 128 = .ok (.iload_n 3, 1) := by decide +kernel
theorem dX3_endTrack_129 : decode cX3_endTrack 129 = .ok (.istore_n 3, 1) := by decide +kernel
theorem dX3_endTrack_130 : decode cX3_endTrack 130 = .ok (.iinc 4 (-1), 3) := by decide +kernel
theorem dX3_endTrack_133 : decode cX3_endTrack 133 = .ok (.goto (-42), 3) := by decide +kernel
theorem dX3_endTrack_136 : decode cX3_endTrack 136 = .ok (.return_, 1) := by decide +kernel
theorem dX3_bringTrain_0 : decode cX3_bringTrain 0 = .ok (.aload_n 0, 1) := by decide +kernel
theorem dX3_bringTrain_1 : decode cX3_bringTrain 1 = .ok (.dup, 1) := by decide +kernel
theorem dX3_bringTrain_2 : decode cX3_bringTrain 2 = .ok (.getfield 40, 3) := by decide +kernel
theorem dX3_bringTrain_5 : decode cX3_bringTrain 5 = .ok (.iconst 1, 1) := by decide +kernel
theorem dX3_bringTrain_6 : decode cX3_bringTrain 6 = .ok (.iadd, 1) := by decide +kernel
theorem dX3_bringTrain_7 : decode cX3_bringTrain 7 = .ok (.putfield 40, 3) := by decide +kernel
theorem dX3_bringTrain_10 : decode cX3_bringTrain 10 = .ok (.aload_n 0, 1) := by decide +kernel
theorem dX3_bringTrain_11 : decode cX3_bringTrain 11 = .ok (.aload_n 0, 1) := by decide +kernel
theorem dX3_bringTrain_12 : decode cX3_bringTrain 12 = .ok (.getfield 40, 3) := by decide +kernel
theorem dX3_bringTrain_15 : decode cX3_bringTrain 15 = .ok (.iconst 1, 1) := by decide +kernel
theorem dX3_bringTrain_16 : decode cX3_bringTrain 16 = .ok (.isub, 1) := by decide +kernel
theorem dX3_bringTrain_17 : decode cX3_bringTrain 17 = .ok (.invokevirtual 82, 3) := by decide +kernel
theorem dX3_bringTrain_20 : decode cX3_bringTrain 20 = .ok (.astore_n 3, 1) := by decide +kernel
theorem dX3_bringTrain_21 : decode cX3_bringTrain 21 = .ok (.aload_n 3, 1) := by decide +kernel
theorem dX3_bringTrain_22 : decode cX3_bringTrain 22 = .ok (.ifnull 9, 3) := by decide +kernel
theorem dX3_bringTrain_25 : decode cX3_bringTrain 25 = .ok (.aload_n 3, 1) := by decide +kernel
theorem dX3_bringTrain_26 : decode cX3_bringTrain 26 = .ok (.iload_n 1, 1) := by decide +kernel
theorem dX3_bringTrain_27 : decode cX3_bringTrain 27 = .ok (.iload_n 2, 1) := by decide +kernel
theorem dX3_bringTrain_28 : decode cX3_bringTrain 28 = .ok (.invokevirtual 86, 3) := by decide +kernel
theorem dX3_bringTrain_31 : decode cX3_bringTrain 31 = .ok (.aload_n 0, 1) := by decide +kernel
theorem dX3_bringTrain_32 : decode cX3_bringTrain 32 = .ok (.getfield 40, 3) := by decide +kernel
theorem dX3_bringTrain_35 : decode cX3_bringTrain 35 = .ok (.iconst 1, 1) := by decide +kernel
theorem dX3_bringTrain_36 : decode cX3_bringTrain 36 = .ok (.isub, 1) := by decide +kernel
theorem dX3_bringTrain_37 : decode cX3_bringTrain 37 = .ok (.ireturn, 1) := by decide +kernel
theorem dX3_loseTrain_0 : decode cX3_loseTrain 0 = .ok (.aload_n 0, 1) := by decide +kernel
theorem dX3_loseTrain_1 : decode cX3_loseTrain 1 = .ok (.iload_n 1, 1) := by decide +kernel
theorem dX3_loseTrain_2 : decode cX3_loseTrain 2 = .ok (.invokevirtual 82, 3) := by decide +kernel
theorem dX3_loseTrain_5 : decode cX3_loseTrain 5 = .ok (.astore_n 2, 1) := by decide +kernel
theorem dX3_loseTrain_6 : decode cX3_loseTrain 6 = .ok (.aload_n 2, 1) := by decide +kernel
theorem dX3_loseTrain_7 : decode cX3_loseTrain 7 = .ok (.ifnonnull 4, 3) := by decide +kernel
theorem dX3_loseTrain_10 : decode cX3_loseTrain 10 = .ok (.return_, 1) := by decide +kernel
theorem dX3_loseTrain_11 : decode cX3_loseTrain 11 = .ok (.aload_n 0, 1) := by decide +kernel
theorem dX3_loseTrain_12 : decode cX3_loseTrain 12 = .ok (.dup, 1) := by decide +kernel
theorem dX3_loseTrain_13 : decode cX3_loseTrain 13 = .ok (.getfield 55, 3) := by decide +kernel
theorem dX3_loseTrain_16 : decode cX3_loseTrain 16 = .ok (.aload_n 2, 1) := by decide +kernel
theorem dX3_loseTrain_17 : decode cX3_loseTrain 17 = .ok (.getfield 90, 3) := by decide +kernel
theorem dX3_loseTrain_20 : decode cX3_loseTrain 20 = .ok (.iadd, 1) := by decide +kernel
theorem dX3_loseTrain_21 : decode cX3_loseTrain 21 = .ok (.putfield 55, 3) := by decide +kernel
theorem dX3_loseTrain_24 : decode cX3_loseTrain 24 = .ok (.iload_n 1, 1) := by decide +kernel
theorem dX3_loseTrain_25 : decode cX3_loseTrain 25 = .ok (.istore_n 3, 1) := by decide +kernel
theorem dX3_loseTrain_26 : decode cX3_loseTrain 26 = .ok (.iload_n 3, 1) := by decide +kernel
theorem dX3_loseTrain_27 : decode cX3_loseTrain 27 = .ok (.iconst 4, 1) := by decide +kernel
theorem dX3_loseTrain_28 : decode cX3_loseTrain 28 = .ok (.if_icmp .ge 42, 3) := by decide +kernel
theorem dX3_loseTrain_31 : decode cX3_loseTrain 31 = .ok (.aload_n 0, 1) := by decide +kernel
theorem dX3_loseTrain_32 : decode cX3_loseTrain 32 = .ok (.iload_n 3, 1) := by decide +kernel
theorem dX3_loseTrain_33 : decode cX3_loseTrain 33 = .ok (.invokevirtual 82, 3) := by decide +kernel
theorem dX3_loseTrain_36 : decode cX3_loseTrain 36 = .ok (.astore 4, 2) := by decide +kernel
theorem dX3_loseTrain_38 : decode cX3_loseTrain 38 = .ok (.aload_n 0, 1) := by decide +kernel
theorem dX3_loseTrain_39 : decode cX3_loseTrain 39 = .ok (.iload_n 3, 1) := by decide +kernel
theorem dX3_loseTrain_40 : decode cX3_loseTrain 40 = .ok (.iconst 1, 1) := by decide +kernel
theorem dX3_loseTrain_41 : decode cX3_loseTrain 41 = .ok (.iadd, 1) := by decide +kernel
theorem dX3_loseTrain_42 : decode cX3_loseTrain 42 = .ok (.invokevirtual 82, 3) := by decide +kernel
theorem dX3_loseTrain_45 : decode cX3_loseTrain 45 = .ok (.astore 5, 2) := by decide +kernel
theorem dX3_loseTrain_47 : decode cX3_loseTrain 47 = .ok (.aload 4, 2) := by decide +kernel
theorem dX3_loseTrain_49 : decode cX3_loseTrain 49 = .ok (.ifnull 15, 3) := by decide +kernel
theorem dX3_loseTrain_52 : decode cX3_loseTrain 52 = .ok (.aload 5, 2) := by decide +kernel
theorem dX3_loseTrain_54 : decode cX3_loseTrain 54 = .ok (.ifnull 10, 3) := by decide +kernel
theorem dX3_loseTrain_57 : decode cX3_loseTrain 57 = .ok (.aload 4, 2) := by decide +kernel
theorem dX3_loseTrain_59 : decode cX3_loseTrain 59 = .ok (.aload 5, 2) := by decide +kernel
theorem dX3_loseTrain_61 : decode cX3_loseTrain 61 = .ok (.invokevirtual 43, 3) := by decide +kernel
theorem dX3_loseTrain_64 : decode cX3_loseTrain 64 = .ok (.iinc 3 1, 3) := by decide +kernel
theorem dX3_loseTrain_67 : decode cX3_loseTrain 67 = .ok (.goto (-41), 3) := by decide +kernel
theorem dX3_loseTrain_70 : decode cX3_loseTrain 70 = .ok (.aload_n 0, 1) := by decide +kernel
theorem dX3_loseTrain_71 : decode cX3_loseTrain 71 = .ok (.dup, 1) := by decide +kernel
theorem dX3_loseTrain_72 : decode cX3_loseTrain 72 = .ok (.getfield 40, 3) := by decide +kernel
theorem dX3_loseTrain_75 : decode cX3_loseTrain 75 = .ok (.iconst 1, 1) := by decide +kernel
theorem dX3_loseTrain_76 : decode cX3_loseTrain 76 = .ok (.isub, 1) := by decide +kernel
theorem dX3_loseTrain_77 : decode cX3_loseTrain 77 = .ok (.putfield 40, 3) := by decide +kernel
theorem dX3_loseTrain_80 : decode cX3_loseTrain 80 = .ok (.return_, 1) := by decide +kernel
theorem dX3_loseAllTrains_0 : decode cX3_loseAllTrains 0 = .ok (.aload_n 0, 1) := by decide +kernel
theorem dX3_loseAllTrains_1 : decode cX3_loseAllTrains 1 = .ok (.dup, 1) := by decide +kernel
theorem dX3_loseAllTrains_2 : decode cX3_loseAllTrains 2 = .ok (.getfield 55, 3) := by decide +kernel
theorem dX3_loseAllTrains_5 : decode cX3_loseAllTrains 5 = .ok (.aload_n 0, 1) := by decide +kernel
theorem dX3_loseAllTrains_6 : decode cX3_loseAllTrains 6 = .ok (.invokevirtual 93, 3) := by decide +kernel
theorem dX3_loseAllTrains_9 : decode cX3_loseAllTrains 9 = .ok (.iadd, 1) := by decide +kernel
theorem dX3_loseAllTrains_10 : decode cX3_loseAllTrains 10 = .ok (.putfield 55, 3) := by decide +kernel
theorem dX3_loseAllTrains_13 : decode cX3_loseAllTrains 13 = .ok (.aload_n 0, 1) := by decide +kernel
theorem dX3_loseAllTrains_14 : decode cX3_loseAllTrains 14 = .ok (.iconst 0, 1) := by decide +kernel
theorem dX3_loseAllTrains_15 : decode cX3_loseAllTrains 15 = .ok (.putfield 40, 3) := by decide +kernel
theorem dX3_loseAllTrains_18 : decode cX3_loseAllTrains 18 = .ok (.return_, 1) := by decide +kernel
theorem dX3_pass_0 : decode cX3_pass 0 = .ok (.aload_n 0, 1) := by decide +kernel
theorem dX3_pass_1 : decode cX3_pass 1 = .ok (.getfield 52, 3) := by decide +kernel
theorem dX3_pass_4 : decode cX3_pass 4 = .ok (.istore_n 2, 1) := by decide +kernel
theorem dX3_pass_5 : decode cX3_pass 5 = .ok (.aload_n 0, 1) := by decide +kernel
theorem dX3_pass_6 : decode cX3_pass 6 = .ok (.iconst 0, 1) := by decide +kernel
theorem dX3_pass_7 : decode cX3_pass 7 = .ok (.putfield 97, 3) := by decide +kernel
theorem dX3_pass_10 : decode cX3_pass 10 = .ok (.iconst 0, 1) := by decide +kernel
theorem dX3_pass_11 : decode cX3_pass 11 = .ok (.istore_n 3, 1) := by decide +kernel
theorem dX3_pass_12 : decode cX3_pass 12 = .ok (.iload_n 3, 1) := by decide +kernel
theorem dX3_pass_13 : decode cX3_pass 13 = .ok (.iload_n 1, 1) := by decide +kernel
theorem dX3_pass_14 : decode cX3_pass 14 = .ok (.if_icmp .ge 13, 3) := by decide +kernel
theorem dX3_pass_17 : decode cX3_pass 17 = .ok (.aload_n 0, 1) := by decide +kernel
theorem dX3_pass_18 : decode cX3_pass 18 = .ok (.invokevirtual 100, 3) := by decide +kernel
theorem dX3_pass_21 : decode cX3_pass 21 = .ok (.iinc 3 1, 3) := by decide +kernel
theorem dX3_pass_24 : decode cX3_pass 24 = .ok (.goto (-12), 3) := by decide +kernel
theorem dX3_pass_27 : decode cX3_pass 27 = .ok (.aload_n 0, 1) := by decide +kernel
theorem dX3_pass_28 : decode cX3_pass 28 = .ok (.getfield 52, 3) := by decide +kernel
theorem dX3_pass_31 : decode cX3_pass 31 = .ok (.iload_n 2, 1) := by decide +kernel
theorem dX3_pass_32 : decode cX3_pass 32 = .ok (.isub, 1) := by decide +kernel
theorem dX3_pass_33 : decode cX3_pass 33 = .ok (.ireturn, 1) := by decide +kernel
theorem dX3_tick_0 : decode cX3_tick 0 = .ok (.iconst 0, 1) := by decide +kernel
theorem dX3_tick_1 : decode cX3_tick 1 = .ok (.istore_n 1, 1) := by decide +kernel
theorem dX3_tick_2 : decode cX3_tick 2 = .ok (.iload_n 1, 1) := by decide +kernel
theorem dX3_tick_3 : decode cX3_tick 3 = .ok (.iconst 4, 1) := by decide +kernel
theorem dX3_tick_4 : decode cX3_tick 4 = .ok (.if_icmp .ge 28, 3) := by decide +kernel
theorem dX3_tick_7 : decode cX3_tick 7 = .ok (.aload_n 0, 1) := by decide +kernel
theorem dX3_tick_8 : decode cX3_tick 8 = .ok (.iload_n 1, 1) := by decide +kernel
theorem dX3_tick_9 : decode cX3_tick 9 = .ok (.invokevirtual 82, 3) := by decide +kernel
theorem dX3_tick_12 : decode cX3_tick 12 = .ok (.astore_n 2, 1) := by decide +kernel
theorem dX3_tick_13 : decode cX3_tick 13 = .ok (.aload_n 2, 1) := by decide +kernel
theorem dX3_tick_14 : decode cX3_tick 14 = .ok (.ifnull 12, 3) := by decide +kernel
theorem dX3_tick_17 : decode cX3_tick 17 = .ok (.aload_n 2, 1) := by decide +kernel
theorem dX3_tick_18 : decode cX3_tick 18 = .ok (.aload_n 0, 1) := by decide +kernel
theorem dX3_tick_19 : decode cX3_tick 19 = .ok (.aload_n 2, 1) := by decide +kernel
theorem dX3_tick_20 : decode cX3_tick 20 = .ok (.invokevirtual 103, 3) := by decide +kernel
theorem dX3_tick_23 : decode cX3_tick 23 = .ok (.putfield 107, 3) := by decide +kernel
theorem dX3_tick_26 : decode cX3_tick 26 = .ok (.iinc 1 1, 3) := by decide +kernel
theorem dX3_tick_29 : decode cX3_tick 29 = .ok (.goto (-27), 3) := by decide +kernel
theorem dX3_tick_32 : decode cX3_tick 32 = .ok (.iconst 0, 1) := by decide +kernel
theorem dX3_tick_33 : decode cX3_tick 33 = .ok (.istore_n 1, 1) := by decide +kernel
theorem dX3_tick_34 : decode cX3_tick 34 = .ok (.iload_n 1, 1) := by decide +kernel
theorem dX3_tick_35 : decode cX3_tick 35 = .ok (.iconst 2, 1) := by decide +kernel
theorem dX3_tick_36 : decode cX3_tick 36 = .ok (.if_icmp .ge 53, 3) := by decide +kernel
theorem dX3_tick_39 : decode cX3_tick 39 = .ok (.iconst 0, 1) := by decide +kernel
theorem dX3_tick_40 : decode cX3_tick 40 = .ok (.istore_n 2, 1) := by decide +kernel
theorem dX3_tick_41 : decode cX3_tick 41 = .ok (.iload_n 2, 1) := by decide +kernel
theorem dX3_tick_42 : decode cX3_tick 42 = .ok (.iconst 4, 1) := by decide +kernel
theorem dX3_tick_43 : decode cX3_tick 43 = .ok (.if_icmp .ge 40, 3) := by decide +kernel
theorem dX3_tick_46 : decode cX3_tick 46 = .ok (.aload_n 0, 1) := by decide +kernel
theorem dX3_tick_47 : decode cX3_tick 47 = .ok (.iload_n 2, 1) := by decide +kernel
theorem dX3_tick_48 : decode cX3_tick 48 = .ok (.invokevirtual 82, 3) := by decide +kernel
theorem dX3_tick_51 : decode cX3_tick 51 = .ok (.astore_n 3, 1) := by decide +kernel
theorem dX3_tick_52 : decode cX3_tick 52 = .ok (.aload_n 3, 1) := by decide +kernel
theorem dX3_tick_53 : decode cX3_tick 53 = .ok (.ifnull 24, 3) := by decide +kernel
theorem dX3_tick_56 : decode cX3_tick 56 = .ok (.aload_n 3, 1) := by decide +kernel
theorem dX3_tick_57 : decode cX3_tick 57 = .ok (.getfield 107, 3) := by decide +kernel
theorem dX3_tick_60 : decode cX3_tick 60 = .ok (.iload_n 1, 1) := by decide +kernel
theorem dX3_tick_61 : decode cX3_tick 61 = .ok (.ifCond .ne 7, 3) := by decide +kernel
theorem dX3_tick_64 : decode cX3_tick 64 = .ok (.iconst 1, 1) := by decide +kernel
theorem dX3_tick_65 : decode cX3_tick 65 = .ok (.goto 4, 3) := by decide +kernel
theorem dX3_tick_68 : decode cX3_tick 68 = .ok (.iconst 0, 1) := by decide +kernel
theorem dX3_tick_69 : decode cX3_tick 69 = .ok (.if_icmp .ne 8, 3) := by decide +kernel
theorem dX3_tick_72 : decode cX3_tick 72 = .ok (.aload_n 0, 1) := by decide +kernel
theorem dX3_tick_73 : decode cX3_tick 73 = .ok (.aload_n 3, 1) := by decide +kernel
theorem dX3_tick_74 : decode cX3_tick 74 = .ok (.invokevirtual 111, 3) := by decide +kernel
theorem dX3_tick_77 : decode cX3_tick 77 = .ok (.iinc 2 1, 3) := by decide +kernel
theorem dX3_tick_80 : decode cX3_tick 80 = .ok (.goto (-39), 3) := by decide +kernel
theorem dX3_tick_83 : decode cX3_tick 83 = .ok (.iinc 1 1, 3) := by decide +kernel
theorem dX3_tick_86 : decode cX3_tick 86 = .ok (.goto (-52), 3) := by decide +kernel
theorem dX3_tick_89 : decode cX3_tick 89 = .ok (.aload_n 0, 1) := by decide +kernel
theorem dX3_tick_90 : decode cX3_tick 90 = .ok (.invokevirtual 114, 3) := by decide +kernel
theorem dX3_tick_93 : decode cX3_tick 93 = .ok (.aload_n 0, 1) := by decide +kernel
theorem dX3_tick_94 : decode cX3_tick 94 = .ok (.dup, 1) := by decide +kernel
theorem dX3_tick_95 : decode cX3_tick 95 = .ok (.getfield 58, 3) := by decide +kernel
theorem dX3_tick_98 : decode cX3_tick 98 = .ok (.iconst 1, 1) := by decide +kernel
theorem dX3_tick_99 : decode cX3_tick 99 = .ok (.iadd, 1) := by decide +kernel
theorem dX3_tick_100 : decode cX3_tick 100 = .ok (.putfield 58, 3) := by decide +kernel
theorem dX3_tick_103 : decode cX3_tick 103 = .ok (.return_, 1) := by decide +kernel
theorem dX3_goesFirst_0 : decode cX3_goesFirst 0 = .ok (.aload_n 0, 1) := by decide +kernel
theorem dX3_goesFirst_1 : decode cX3_goesFirst 1 = .ok (.getfield 25, 3) := by decide +kernel
theorem dX3_goesFirst_4 : decode cX3_goesFirst 4 = .ok (.iconst 2, 1) := by decide +kernel
theorem dX3_goesFirst_5 : decode cX3_goesFirst 5 = .ok (.iaload, 1) := by decide +kernel
theorem dX3_goesFirst_6 : decode cX3_goesFirst 6 = .ok (.istore_n 2, 1) := by decide +kernel
theorem dX3_goesFirst_7 : decode cX3_goesFirst 7 = .ok (.iload_n 2, 1) := by decide +kernel
theorem dX3_goesFirst_8 : decode cX3_goesFirst 8 = .ok (.iconst 2, 1) := by decide +kernel
theorem dX3_goesFirst_9 : decode cX3_goesFirst 9 = .ok (.if_icmp .eq 19, 3) := by decide +kernel
theorem dX3_goesFirst_12 : decode cX3_goesFirst 12 = .ok (.aload_n 1, 1) := by decide +kernel
theorem dX3_goesFirst_13 : decode cX3_goesFirst 13 = .ok (.getfield 117, 3) := by decide +kernel
theorem dX3_goesFirst_16 : decode cX3_goesFirst 16 = .ok (.iload_n 2, 1) := by decide +kernel
theorem dX3_goesFirst_17 : decode cX3_goesFirst 17 = .ok (.ifCond .ne 7, 3) := by decide +kernel
theorem dX3_goesFirst_20 : decode cX3_goesFirst 20 = .ok (.iconst 1, 1) := by decide +kernel
theorem dX3_goesFirst_21 : decode cX3_goesFirst 21 = .ok (.goto 4, 3) := by decide +kernel
theorem dX3_goesFirst_24 : decode cX3_goesFirst 24 = .ok (.iconst 0, 1) := by decide +kernel
theorem dX3_goesFirst_25 : decode cX3_goesFirst 25 = .ok (.if_icmp .ne 7, 3) := by decide +kernel
theorem dX3_goesFirst_28 : decode cX3_goesFirst 28 = .ok (.iconst 1, 1) := by decide +kernel
theorem dX3_goesFirst_29 : decode cX3_goesFirst 29 = .ok (.goto 4, 3) := by decide +kernel
theorem dX3_goesFirst_32 : decode cX3_goesFirst 32 = .ok (.iconst 0, 1) := by decide +kernel
theorem dX3_goesFirst_33 : decode cX3_goesFirst 33 = .ok (.ireturn, 1) := by decide +kernel
theorem dX3_takeTurn_0 : decode cX3_takeTurn 0 = .ok (.aload_n 1, 1) := by decide +kernel
theorem dX3_takeTurn_1 : decode cX3_takeTurn 1 = .ok (.getfield 120, 3) := by decide +kernel
theorem dX3_takeTurn_4 : decode cX3_takeTurn 4 = .ok (.ifCond .le 19, 3) := by decide +kernel
theorem dX3_takeTurn_7 : decode cX3_takeTurn 7 = .ok (.aload_n 1, 1) := by decide +kernel
theorem dX3_takeTurn_8 : decode cX3_takeTurn 8 = .ok (.dup, 1) := by decide +kernel
theorem dX3_takeTurn_9 : decode cX3_takeTurn 9 = .ok (.getfield 120, 3) := by decide +kernel
theorem dX3_takeTurn_12 : decode cX3_takeTurn 12 = .ok (.iconst 1, 1) := by decide +kernel
theorem dX3_takeTurn_13 : decode cX3_takeTurn 13 = .ok (.isub, 1) := by decide +kernel
theorem dX3_takeTurn_14 : decode cX3_takeTurn 14 = .ok (.putfield 120, 3) := by decide +kernel
theorem dX3_takeTurn_17 : decode cX3_takeTurn 17 = .ok (.aload_n 1, 1) := by decide +kernel
theorem dX3_takeTurn_18 : decode cX3_takeTurn 18 = .ok (.iconst 0, 1) := by decide +kernel
theorem dX3_takeTurn_19 : decode cX3_takeTurn 19 = .ok (.putfield 123, 3) := by decide +kernel
theorem dX3_takeTurn_22 : decode cX3_takeTurn 22 = .ok (.return_, 1) := by decide +kernel
theorem dX3_takeTurn_23 : decode cX3_takeTurn 23 = .ok (.aload_n 1, 1) := by decide +kernel
theorem dX3_takeTurn_24 : decode cX3_takeTurn 24 = .ok (.aload_n 0, 1) := by decide +kernel
theorem dX3_takeTurn_25 : decode cX3_takeTurn 25 = .ok (.aload_n 1, 1) := by decide +kernel
theorem dX3_takeTurn_26 : decode cX3_takeTurn 26 = .ok (.invokevirtual 126, 3) := by decide +kernel
theorem dX3_takeTurn_29 : decode cX3_takeTurn 29 = .ok (.putfield 123, 3) := by decide +kernel
theorem dX3_takeTurn_32 : decode cX3_takeTurn 32 = .ok (.aload_n 1, 1) := by decide +kernel
theorem dX3_takeTurn_33 : decode cX3_takeTurn 33 = .ok (.getfield 123, 3) := by decide +kernel
theorem dX3_takeTurn_36 : decode cX3_takeTurn 36 = .ok (.ifCond .eq 16, 3) := by decide +kernel
theorem dX3_takeTurn_39 : decode cX3_takeTurn 39 = .ok (.aload_n 1, 1) := by decide +kernel
theorem dX3_takeTurn_40 : decode cX3_takeTurn 40 = .ok (.dup, 1) := by decide +kernel
theorem dX3_takeTurn_41 : decode cX3_takeTurn 41 = .ok (.getfield 130, 3) := by decide +kernel
theorem dX3_takeTurn_44 : decode cX3_takeTurn 44 = .ok (.iconst 1, 1) := by decide +kernel
theorem dX3_takeTurn_45 : decode cX3_takeTurn 45 = .ok (.iadd, 1) := by decide +kernel
theorem dX3_takeTurn_46 : decode cX3_takeTurn 46 = .ok (.putfield 130, 3) := by decide +kernel
theorem dX3_takeTurn_49 : decode cX3_takeTurn 49 = .ok (.goto 40, 3) := by decide +kernel
theorem dX3_takeTurn_52 : decode cX3_takeTurn 52 = .ok (.aload_n 0, 1) := by decide +kernel
theorem dX3_takeTurn_53 : decode cX3_takeTurn 53 = .ok (.aload_n 1, 1) := by decide +kernel
theorem dX3_takeTurn_54 : decode cX3_takeTurn 54 = .ok (.invokevirtual 133, 3) := by decide +kernel
theorem dX3_takeTurn_57 : decode cX3_takeTurn 57 = .ok (.ifCond .eq 11, 3) := by decide +kernel
theorem dX3_takeTurn_60 : decode cX3_takeTurn 60 = .ok (.aload_n 0, 1) := by decide +kernel
theorem dX3_takeTurn_61 : decode cX3_takeTurn 61 = .ok (.aload_n 1, 1) := by decide +kernel
theorem dX3_takeTurn_62 : decode cX3_takeTurn 62 = .ok (.invokevirtual 136, 3) := by decide +kernel
theorem dX3_takeTurn_65 : decode cX3_takeTurn 65 = .ok (.goto 24, 3) := by decide +kernel
theorem dX3_takeTurn_68 : decode cX3_takeTurn 68 = .ok (.aload_n 0, 1) := by decide +kernel
theorem dX3_takeTurn_69 : decode cX3_takeTurn 69 = .ok (.aload_n 1, 1) := by decide +kernel
theorem dX3_takeTurn_70 : decode cX3_takeTurn 70 = .ok (.invokevirtual 139, 3) := by decide +kernel
theorem dX3_takeTurn_73 : decode cX3_takeTurn 73 = .ok (.ifCond .eq 11, 3) := by decide +kernel
theorem dX3_takeTurn_76 : decode cX3_takeTurn 76 = .ok (.aload_n 0, 1) := by decide +kernel
theorem dX3_takeTurn_77 : decode cX3_takeTurn 77 = .ok (.aload_n 1, 1) := by decide +kernel
theorem dX3_takeTurn_78 : decode cX3_takeTurn 78 = .ok (.invokevirtual 142, 3) := by decide +kernel
theorem dX3_takeTurn_81 : decode cX3_takeTurn 81 = .ok (.goto 8, 3) := by decide +kernel
theorem dX3_takeTurn_84 : decode cX3_takeTurn 84 = .ok (.aload_n 0, 1) := by decide +kernel
theorem dX3_takeTurn_85 : decode cX3_takeTurn 85 = .ok (.aload_n 1, 1) := by decide +kernel
theorem dX3_takeTurn_86 : decode cX3_takeTurn 86 = .ok (.invokevirtual 145, 3) := by decide +kernel
theorem dX3_takeTurn_89 : decode cX3_takeTurn 89 = .ok (.return_, 1) := by decide +kernel
theorem dX3_isToUnload_0 : decode cX3_isToUnload 0 = .ok (.aload_n 1, 1) := by decide +kernel
theorem dX3_isToUnload_1 : decode cX3_isToUnload 1 = .ok (.getfield 117, 3) := by decide +kernel
theorem dX3_isToUnload_4 : decode cX3_isToUnload 4 = .ok (.ifCond .eq 20, 3) := by decide +kernel
theorem dX3_isToUnload_7 : decode cX3_isToUnload 7 = .ok (.aload_n 1, 1) := by decide +kernel
theorem dX3_isToUnload_8 : decode cX3_isToUnload 8 = .ok (.getfield 148, 3) := by decide +kernel
theorem dX3_isToUnload_11 : decode cX3_isToUnload 11 = .ok (.aload_n 0, 1) := by decide +kernel
theorem dX3_isToUnload_12 : decode cX3_isToUnload 12 = .ok (.getfield 32, 3) := by decide +kernel
theorem dX3_isToUnload_15 : decode cX3_isToUnload 15 = .ok (.iconst 1, 1) := by decide +kernel
theorem dX3_isToUnload_16 : decode cX3_isToUnload 16 = .ok (.isub, 1) := by decide +kernel
theorem dX3_isToUnload_17 : decode cX3_isToUnload 17 = .ok (.if_icmp .ne 7, 3) := by decide +kernel
theorem dX3_isToUnload_20 : decode cX3_isToUnload 20 = .ok (.iconst 1, 1) := by decide +kernel
theorem dX3_isToUnload_21 : decode cX3_isToUnload 21 = .ok (.goto 4, 3) := by decide +kernel
theorem dX3_isToUnload_24 : decode cX3_isToUnload 24 = .ok (.iconst 0, 1) := by decide +kernel
theorem dX3_isToUnload_25 : decode cX3_isToUnload 25 = .ok (.ireturn, 1) := by decide +kernel
theorem dX3_isToLoad_0 : decode cX3_isToLoad 0 = .ok (.aload_n 1, 1) := by decide +kernel
theorem dX3_isToLoad_1 : decode cX3_isToLoad 1 = .ok (.getfield 117, 3) := by decide +kernel
theorem dX3_isToLoad_4 : decode cX3_isToLoad 4 = .ok (.ifCond .ne 14, 3) := by decide +kernel
theorem dX3_isToLoad_7 : decode cX3_isToLoad 7 = .ok (.aload_n 1, 1) := by decide +kernel
theorem dX3_isToLoad_8 : decode cX3_isToLoad 8 = .ok (.getfield 148, 3) := by decide +kernel
theorem dX3_isToLoad_11 : decode cX3_isToLoad 11 = .ok (.ifCond .ne 7, 3) := by decide +kernel
theorem dX3_isToLoad_14 : decode cX3_isToLoad 14 = .ok (.iconst 1, 1) := by decide +kernel
theorem dX3_isToLoad_15 : decode cX3_isToLoad 15 = .ok (.goto 4, 3) := by decide +kernel
theorem dX3_isToLoad_18 : decode cX3_isToLoad 18 = .ok (.iconst 0, 1) := by decide +kernel
theorem dX3_isToLoad_19 : decode cX3_isToLoad 19 = .ok (.ireturn, 1) := by decide +kernel
theorem dX3_unloadTrain_0 : decode cX3_unloadTrain 0 = .ok (.aload_n 0, 1) := by decide +kernel
theorem dX3_unloadTrain_1 : decode cX3_unloadTrain 1 = .ok (.dup, 1) := by decide +kernel
theorem dX3_unloadTrain_2 : decode cX3_unloadTrain 2 = .ok (.getfield 52, 3) := by decide +kernel
theorem dX3_unloadTrain_5 : decode cX3_unloadTrain 5 = .ok (.aload_n 1, 1) := by decide +kernel
theorem dX3_unloadTrain_6 : decode cX3_unloadTrain 6 = .ok (.getfield 90, 3) := by decide +kernel
theorem dX3_unloadTrain_9 : decode cX3_unloadTrain 9 = .ok (.iadd, 1) := by decide +kernel
theorem dX3_unloadTrain_10 : decode cX3_unloadTrain 10 = .ok (.putfield 52, 3) := by decide +kernel
theorem dX3_unloadTrain_13 : decode cX3_unloadTrain 13 = .ok (.aload_n 1, 1) := by decide +kernel
theorem dX3_unloadTrain_14 : decode cX3_unloadTrain 14 = .ok (.iconst 0, 1) := by decide +kernel
theorem dX3_unloadTrain_15 : decode cX3_unloadTrain 15 = .ok (.putfield 90, 3) := by decide +kernel
theorem dX3_unloadTrain_18 : decode cX3_unloadTrain 18 = .ok (.aload_n 1, 1) := by decide +kernel
theorem dX3_unloadTrain_19 : decode cX3_unloadTrain 19 = .ok (.iconst 0, 1) := by decide +kernel
theorem dX3_unloadTrain_20 : decode cX3_unloadTrain 20 = .ok (.putfield 117, 3) := by decide +kernel
theorem dX3_unloadTrain_23 : decode cX3_unloadTrain 23 = .ok (.aload_n 1, 1) := by decide +kernel
theorem dX3_unloadTrain_24 : decode cX3_unloadTrain 24 = .ok (.aload_n 1, 1) := by decide +kernel
theorem dX3_unloadTrain_25 : decode cX3_unloadTrain 25 = .ok (.getfield 151, 3) := by decide +kernel
theorem dX3_unloadTrain_28 : decode cX3_unloadTrain 28 = .ok (.putfield 120, 3) := by decide +kernel
theorem dX3_unloadTrain_31 : decode cX3_unloadTrain 31 = .ok (.aload_n 1, 1) := by decide +kernel
theorem dX3_unloadTrain_32 : decode cX3_unloadTrain 32 = .ok (.dup, 1) := by decide +kernel
theorem dX3_unloadTrain_33 : decode cX3_unloadTrain 33 = .ok (.getfield 154, 3) := by decide +kernel
theorem dX3_unloadTrain_36 : decode cX3_unloadTrain 36 = .ok (.iconst 1, 1) := by decide +kernel
theorem dX3_unloadTrain_37 : decode cX3_unloadTrain 37 = .ok (.iadd, 1) := by decide +kernel
theorem dX3_unloadTrain_38 : decode cX3_unloadTrain 38 = .ok (.putfield 154, 3) := by decide +kernel
theorem dX3_unloadTrain_41 : decode cX3_unloadTrain 41 = .ok (.return_, 1) := by decide +kernel
theorem dX3_loadTrain_0 : decode cX3_loadTrain 0 = .ok (.aload_n 1, 1) := by decide +kernel
theorem dX3_loadTrain_1 : decode cX3_loadTrain 1 = .ok (.aload_n 1, 1) := by decide +kernel
theorem dX3_loadTrain_2 : decode cX3_loadTrain 2 = .ok (.invokevirtual 157, 3) := by decide +kernel
theorem dX3_loadTrain_5 : decode cX3_loadTrain 5 = .ok (.putfield 90, 3) := by decide +kernel
theorem dX3_loadTrain_8 : decode cX3_loadTrain 8 = .ok (.aload_n 0, 1) := by decide +kernel
theorem dX3_loadTrain_9 : decode cX3_loadTrain 9 = .ok (.dup, 1) := by decide +kernel
theorem dX3_loadTrain_10 : decode cX3_loadTrain 10 = .ok (.getfield 46, 3) := by decide +kernel
theorem dX3_loadTrain_13 : decode cX3_loadTrain 13 = .ok (.aload_n 1, 1) := by decide +kernel
theorem dX3_loadTrain_14 : decode cX3_loadTrain 14 = .ok (.getfield 90, 3) := by decide +kernel
theorem dX3_loadTrain_17 : decode cX3_loadTrain 17 = .ok (.isub, 1) := by decide +kernel
theorem dX3_loadTrain_18 : decode cX3_loadTrain 18 = .ok (.putfield 46, 3) := by decide +kernel
theorem dX3_loadTrain_21 : decode cX3_loadTrain 21 = .ok (.aload_n 1, 1) := by decide +kernel
theorem dX3_loadTrain_22 : decode cX3_loadTrain 22 = .ok (.iconst 1, 1) := by decide +kernel
theorem dX3_loadTrain_23 : decode cX3_loadTrain 23 = .ok (.putfield 117, 3) := by decide +kernel
theorem dX3_loadTrain_26 : decode cX3_loadTrain 26 = .ok (.aload_n 1, 1) := by decide +kernel
theorem dX3_loadTrain_27 : decode cX3_loadTrain 27 = .ok (.aload_n 1, 1) := by decide +kernel
theorem dX3_loadTrain_28 : decode cX3_loadTrain 28 = .ok (.getfield 151, 3) := by decide +kernel
theorem dX3_loadTrain_31 : decode cX3_loadTrain 31 = .ok (.putfield 120, 3) := by decide +kernel
theorem dX3_loadTrain_34 : decode cX3_loadTrain 34 = .ok (.return_, 1) := by decide +kernel
theorem dX3_moveTrain_0 : decode cX3_moveTrain 0 = .ok (.aload_n 0, 1) := by decide +kernel
theorem dX3_moveTrain_1 : decode cX3_moveTrain 1 = .ok (.aload_n 0, 1) := by decide +kernel
theorem dX3_moveTrain_2 : decode cX3_moveTrain 2 = .ok (.aload_n 1, 1) := by decide +kernel
theorem dX3_moveTrain_3 : decode cX3_moveTrain 3 = .ok (.invokevirtual 160, 3) := by decide +kernel
theorem dX3_moveTrain_6 : decode cX3_moveTrain 6 = .ok (.invokevirtual 61, 3) := by decide +kernel
theorem dX3_moveTrain_9 : decode cX3_moveTrain 9 = .ok (.astore_n 2, 1) := by decide +kernel
theorem dX3_moveTrain_10 : decode cX3_moveTrain 10 = .ok (.aload_n 2, 1) := by decide +kernel
theorem dX3_moveTrain_11 : decode cX3_moveTrain 11 = .ok (.ifnull 25, 3) := by decide +kernel
theorem dX3_moveTrain_14 : decode cX3_moveTrain 14 = .ok (.aload_n 1, 1) := by decide +kernel
theorem dX3_moveTrain_15 : decode cX3_moveTrain 15 = .ok (.aload_n 0, 1) := by decide +kernel
theorem dX3_moveTrain_16 : decode cX3_moveTrain 16 = .ok (.aload_n 1, 1) := by decide +kernel
theorem dX3_moveTrain_17 : decode cX3_moveTrain 17 = .ok (.invokevirtual 160, 3) := by decide +kernel
theorem dX3_moveTrain_20 : decode cX3_moveTrain 20 = .ok (.putfield 148, 3) := by decide +kernel
theorem dX3_moveTrain_23 : decode cX3_moveTrain 23 = .ok (.aload_n 1, 1) := by decide +kernel
theorem dX3_moveTrain_24 : decode cX3_moveTrain 24 = .ok (.iconst 1, 1) := by decide +kernel
theorem dX3_moveTrain_25 : decode cX3_moveTrain 25 = .ok (.aload_n 2, 1) := by decide +kernel
theorem dX3_moveTrain_26 : decode cX3_moveTrain 26 = .ok (.getfield 163, 3) := by decide +kernel
theorem dX3_moveTrain_29 : decode cX3_moveTrain 29 = .ok (.bipush 100, 2) := by decide +kernel
theorem dX3_moveTrain_31 : decode cX3_moveTrain 31 = .ok (.idiv, 1) := by decide +kernel
theorem dX3_moveTrain_32 : decode cX3_moveTrain 32 = .ok (.iadd, 1) := by decide +kernel
theorem dX3_moveTrain_33 : decode cX3_moveTrain 33 = .ok (.putfield 120, 3) := by decide +kernel
theorem dX3_moveTrain_36 : decode cX3_moveTrain 36 = .ok (.return_, 1) := by decide +kernel
theorem dX3_placeBeyond_0 : decode cX3_placeBeyond 0 = .ok (.aload_n 1, 1) := by decide +kernel
theorem dX3_placeBeyond_1 : decode cX3_placeBeyond 1 = .ok (.getfield 117, 3) := by decide +kernel
theorem dX3_placeBeyond_4 : decode cX3_placeBeyond 4 = .ok (.ifCond .eq 12, 3) := by decide +kernel
theorem dX3_placeBeyond_7 : decode cX3_placeBeyond 7 = .ok (.aload_n 1, 1) := by decide +kernel
theorem dX3_placeBeyond_8 : decode cX3_placeBeyond 8 = .ok (.getfield 148, 3) := by decide +kernel
theorem dX3_placeBeyond_11 : decode cX3_placeBeyond 11 = .ok (.iconst 1, 1) := by decide +kernel
theorem dX3_placeBeyond_12 : decode cX3_placeBeyond 12 = .ok (.iadd, 1) := by decide +kernel
theorem dX3_placeBeyond_13 : decode cX3_placeBeyond 13 = .ok (.goto 9, 3) := by decide +kernel
theorem dX3_placeBeyond_16 : decode cX3_placeBeyond 16 = .ok (.aload_n 1, 1) := by decide +kernel
theorem dX3_placeBeyond_17 : decode cX3_placeBeyond 17 = .ok (.getfield 148, 3) := by decide +kernel
theorem dX3_placeBeyond_20 : decode cX3_placeBeyond 20 = .ok (.iconst 1, 1) := by decide +kernel
theorem dX3_placeBeyond_21 : decode cX3_placeBeyond 21 = .ok (.isub, 1) := by decide +kernel
theorem dX3_placeBeyond_22 : decode cX3_placeBeyond 22 = .ok (.ireturn, 1) := by decide +kernel
theorem dX3_reasonToWait_0 : decode cX3_reasonToWait 0 = .ok (.aload_n 0, 1) := by decide +kernel
theorem dX3_reasonToWait_1 : decode cX3_reasonToWait 1 = .ok (.aload_n 1, 1) := by decide +kernel
theorem dX3_reasonToWait_2 : decode cX3_reasonToWait 2 = .ok (.invokevirtual 133, 3) := by decide +kernel
theorem dX3_reasonToWait_5 : decode cX3_reasonToWait 5 = .ok (.ifCond .eq 5, 3) := by decide +kernel
theorem dX3_reasonToWait_8 : decode cX3_reasonToWait 8 = .ok (.iconst 0, 1) := by decide +kernel
theorem dX3_reasonToWait_9 : decode cX3_reasonToWait 9 = .ok (.ireturn, 1) := by decide +kernel
theorem dX3_reasonToWait_10 : decode cX3_reasonToWait 10 = .ok (.aload_n 0, 1) := by decide +kernel
theorem dX3_reasonToWait_11 : decode cX3_reasonToWait 11 = .ok (.aload_n 1, 1) := by decide +kernel
theorem dX3_reasonToWait_12 : decode cX3_reasonToWait 12 = .ok (.invokevirtual 139, 3) := by decide +kernel
theorem dX3_reasonToWait_15 : decode cX3_reasonToWait 15 = .ok (.ifCond .eq 20, 3) := by decide +kernel
theorem dX3_reasonToWait_18 : decode cX3_reasonToWait 18 = .ok (.aload_n 0, 1) := by decide +kernel
theorem dX3_reasonToWait_19 : decode cX3_reasonToWait 19 = .ok (.getfield 46, 3) := by decide +kernel
theorem dX3_reasonToWait_22 : decode cX3_reasonToWait 22 = .ok (.aload_n 1, 1) := by decide +kernel
theorem dX3_reasonToWait_23 : decode cX3_reasonToWait 23 = .ok (.invokevirtual 157, 3) := by decide +kernel
theorem dX3_reasonToWait_26 : decode cX3_reasonToWait 26 = .ok (.if_icmp .lt 7, 3) := by decide +kernel
theorem dX3_reasonToWait_29 : decode cX3_reasonToWait 29 = .ok (.iconst 0, 1) := by decide +kernel
theorem dX3_reasonToWait_30 : decode cX3_reasonToWait 30 = .ok (.goto 4, 3) := by decide +kernel
theorem dX3_reasonToWait_33 : decode cX3_reasonToWait 33 = .ok (.iconst 1, 1) := by decide +kernel
theorem dX3_reasonToWait_34 : decode cX3_reasonToWait 34 = .ok (.ireturn, 1) := by decide +kernel
theorem dX3_reasonToWait_35 : decode cX3_reasonToWait 35 = .ok (.aload_n 0, 1) := by decide +kernel
theorem dX3_reasonToWait_36 : decode cX3_reasonToWait 36 = .ok (.aload_n 1, 1) := by decide +kernel
theorem dX3_reasonToWait_37 : decode cX3_reasonToWait 37 = .ok (.invokevirtual 160, 3) := by decide +kernel
theorem dX3_reasonToWait_40 : decode cX3_reasonToWait 40 = .ok (.istore_n 2, 1) := by decide +kernel
theorem dX3_reasonToWait_41 : decode cX3_reasonToWait 41 = .ok (.aload_n 0, 1) := by decide +kernel
theorem dX3_reasonToWait_42 : decode cX3_reasonToWait 42 = .ok (.aload_n 1, 1) := by decide +kernel
theorem dX3_reasonToWait_43 : decode cX3_reasonToWait 43 = .ok (.getfield 148, 3) := by decide +kernel
theorem dX3_reasonToWait_46 : decode cX3_reasonToWait 46 = .ok (.invokevirtual 61, 3) := by decide +kernel
theorem dX3_reasonToWait_49 : decode cX3_reasonToWait 49 = .ok (.astore_n 3, 1) := by decide +kernel
theorem dX3_reasonToWait_50 : decode cX3_reasonToWait 50 = .ok (.aload_n 0, 1) := by decide +kernel
theorem dX3_reasonToWait_51 : decode cX3_reasonToWait 51 = .ok (.iload_n 2, 1) := by decide +kernel
theorem dX3_reasonToWait_52 : decode cX3_reasonToWait 52 = .ok (.invokevirtual 61, 3) := by decide +kernel
theorem dX3_reasonToWait_55 : decode cX3_reasonToWait 55 = .ok (.astore 4, 2) := by decide +kernel
theorem dX3_reasonToWait_57 : decode cX3_reasonToWait 57 = .ok (.aload_n 3, 1) := by decide +kernel
theorem dX3_reasonToWait_58 : decode cX3_reasonToWait 58 = .ok (.ifnull 8, 3) := by decide +kernel
theorem dX3_reasonToWait_61 : decode cX3_reasonToWait 61 = .ok (.aload 4, 2) := by decide +kernel
theorem dX3_reasonToWait_63 : decode cX3_reasonToWait 63 = .ok (.ifnonnull 5, 3) := by decide +kernel
theorem dX3_reasonToWait_66 : decode cX3_reasonToWait 66 = .ok (.iconst 0, 1) := by decide +kernel
theorem dX3_reasonToWait_67 : decode cX3_reasonToWait 67 = .ok (.ireturn, 1) := by decide +kernel
theorem dX3_reasonToWait_68 : decode cX3_reasonToWait 68 = .ok (.aload 4, 2) := by decide +kernel
theorem dX3_reasonToWait_70 : decode cX3_reasonToWait 70 = .ok (.getfield 163, 3) := by decide +kernel
theorem dX3_reasonToWait_73 : decode cX3_reasonToWait 73 = .ok (.aload_n 0, 1) := by decide +kernel
theorem dX3_reasonToWait_74 : decode cX3_reasonToWait 74 = .ok (.getfield 25, 3) := by decide +kernel
theorem dX3_reasonToWait_77 : decode cX3_reasonToWait 77 = .ok (.iconst 0, 1) := by decide +kernel
theorem dX3_reasonToWait_78 : decode cX3_reasonToWait 78 = .ok (.iaload, 1) := by decide +kernel
theorem dX3_reasonToWait_79 : decode cX3_reasonToWait 79 = .ok (.if_icmp .le 5, 3) := by decide +kernel
theorem dX3_reasonToWait_82 : decode cX3_reasonToWait 82 = .ok (.iconst 2, 1) := by decide +kernel
theorem dX3_reasonToWait_83 : decode cX3_reasonToWait 83 = .ok (.ireturn, 1) := by decide +kernel
theorem dX3_reasonToWait_84 : decode cX3_reasonToWait 84 = .ok (.aload_n 0, 1) := by decide +kernel
theorem dX3_reasonToWait_85 : decode cX3_reasonToWait 85 = .ok (.iload_n 2, 1) := by decide +kernel
theorem dX3_reasonToWait_86 : decode cX3_reasonToWait 86 = .ok (.invokevirtual 166, 3) := by decide +kernel
theorem dX3_reasonToWait_89 : decode cX3_reasonToWait 89 = .ok (.aload 4, 2) := by decide +kernel
theorem dX3_reasonToWait_91 : decode cX3_reasonToWait 91 = .ok (.getfield 69, 3) := by decide +kernel
theorem dX3_reasonToWait_94 : decode cX3_reasonToWait 94 = .ok (.if_icmp .lt 5, 3) := by decide +kernel
theorem dX3_reasonToWait_97 : decode cX3_reasonToWait 97 = .ok (.iconst 3, 1) := by decide +kernel
theorem dX3_reasonToWait_98 : decode cX3_reasonToWait 98 = .ok (.ireturn, 1) := by decide +kernel
theorem dX3_reasonToWait_99 : decode cX3_reasonToWait 99 = .ok (.aload_n 3, 1) := by decide +kernel
theorem dX3_reasonToWait_100 : decode cX3_reasonToWait 100 = .ok (.invokevirtual 75, 3) := by decide +kernel
theorem dX3_reasonToWait_103 : decode cX3_reasonToWait 103 = .ok (.ifCond .eq 11, 3) := by decide +kernel
theorem dX3_reasonToWait_106 : decode cX3_reasonToWait 106 = .ok (.aload 4, 2) := by decide +kernel
theorem dX3_reasonToWait_108 : decode cX3_reasonToWait 108 = .ok (.invokevirtual 75, 3) := by decide +kernel
theorem dX3_reasonToWait_111 : decode cX3_reasonToWait 111 = .ok (.ifCond .eq 5, 3) := by decide +kernel
theorem dX3_reasonToWait_114 : decode cX3_reasonToWait 114 = .ok (.iconst 0, 1) := by decide +kernel
theorem dX3_reasonToWait_115 : decode cX3_reasonToWait 115 = .ok (.ireturn, 1) := by decide +kernel
theorem dX3_reasonToWait_116 : decode cX3_reasonToWait 116 = .ok (.aload_n 0, 1) := by decide +kernel
theorem dX3_reasonToWait_117 : decode cX3_reasonToWait 117 = .ok (.aload_n 1, 1) := by decide +kernel
theorem dX3_reasonToWait_118 : decode cX3_reasonToWait 118 = .ok (.aload_n 1, 1) := by decide +kernel
theorem dX3_reasonToWait_119 : decode cX3_reasonToWait 119 = .ok (.getfield 117, 3) := by decide +kernel
theorem dX3_reasonToWait_122 : decode cX3_reasonToWait 122 = .ok (.ifCond .eq 10, 3) := by decide +kernel
theorem dX3_reasonToWait_125 : decode cX3_reasonToWait 125 = .ok (.aload_n 3, 1) := by decide +kernel
theorem dX3_reasonToWait_126 : decode cX3_reasonToWait 126 = .ok (.getfield 79, 3) := by decide +kernel
theorem dX3_reasonToWait_129 : decode cX3_reasonToWait 129 = .ok (.goto 7, 3) := by decide +kernel
theorem dX3_reasonToWait_132 : decode cX3_reasonToWait 132 = .ok (.aload_n 3, 1) := by decide +kernel
theorem dX3_reasonToWait_133 : decode cX3_reasonToWait 133 = .ok (.getfield 72, 3) := by decide +kernel
theorem dX3_reasonToWait_136 : decode cX3_reasonToWait 136 = .ok (.invokevirtual 170, 3) := by decide +kernel
theorem dX3_reasonToWait_139 : decode cX3_reasonToWait 139 = .ok (.ireturn, 1) := by decide +kernel
theorem dX3_reasonAhead_0 : decode cX3_reasonAhead 0 = .ok (.iconst 0, 1) := by decide +kernel
theorem dX3_reasonAhead_1 : decode cX3_reasonAhead 1 = .ok (.istore_n 3, 1) := by decide +kernel
theorem dX3_reasonAhead_2 : decode cX3_reasonAhead 2 = .ok (.iconst 0, 1) := by decide +kernel
theorem dX3_reasonAhead_3 : decode cX3_reasonAhead 3 = .ok (.istore 4, 2) := by decide +kernel
theorem dX3_reasonAhead_5 : decode cX3_reasonAhead 5 = .ok (.iload 4, 2) := by decide +kernel
theorem dX3_reasonAhead_7 : decode cX3_reasonAhead 7 = .ok (.iconst 4, 1) := by decide +kernel
theorem dX3_reasonAhead_8 : decode cX3_reasonAhead 8 = .ok (.if_icmp .ge 73, 3) := by decide +kernel
theorem dX3_reasonAhead_11 : decode cX3_reasonAhead 11 = .ok (.aload_n 0, 1) := by decide +kernel
theorem dX3_reasonAhead_12 : decode cX3_reasonAhead 12 = .ok (.iload 4, 2) := by decide +kernel
theorem dX3_reasonAhead_14 : decode cX3_reasonAhead 14 = .ok (.invokevirtual 82, 3) := by decide +kernel
theorem dX3_reasonAhead_17 : decode cX3_reasonAhead 17 = .ok (.astore 5, 2) := by decide +kernel
theorem dX3_reasonAhead_19 : decode cX3_reasonAhead 19 = .ok (.aload 5, 2) := by decide +kernel
theorem dX3_reasonAhead_21 : decode cX3_reasonAhead 21 = .ok (.ifnonnull 6, 3) := by decide +kernel
theorem dX3_reasonAhead_24 : decode cX3_reasonAhead 24 = .ok (.goto 51, 3) := by decide +kernel
theorem dX3_reasonAhead_27 : decode cX3_reasonAhead 27 = .ok (.aload_n 1, 1) := by decide +kernel
theorem dX3_reasonAhead_28 : decode cX3_reasonAhead 28 = .ok (.getfield 148, 3) := by decide +kernel
theorem dX3_reasonAhead_31 : decode cX3_reasonAhead 31 = .ok (.aload 5, 2) := by decide +kernel
theorem dX3_reasonAhead_33 : decode cX3_reasonAhead 33 = .ok (.getfield 148, 3) := by decide +kernel
theorem dX3_reasonAhead_36 : decode cX3_reasonAhead 36 = .ok (.iload_n 2, 1) := by decide +kernel
theorem dX3_reasonAhead_37 : decode cX3_reasonAhead 37 = .ok (.invokestatic 174, 3) := by decide +kernel
theorem dX3_reasonAhead_40 : decode cX3_reasonAhead 40 = .ok (.ifCond .eq 23, 3) := by decide +kernel
theorem dX3_reasonAhead_43 : decode cX3_reasonAhead 43 = .ok (.aload 5, 2) := by decide +kernel
theorem dX3_reasonAhead_45 : decode cX3_reasonAhead 45 = .ok (.getfield 117, 3) := by decide +kernel
theorem dX3_reasonAhead_48 : decode cX3_reasonAhead 48 = .ok (.aload_n 1, 1) := by decide +kernel
theorem dX3_reasonAhead_49 : decode cX3_reasonAhead 49 = .ok (.getfield 117, 3) := by decide +kernel
theorem dX3_reasonAhead_52 : decode cX3_reasonAhead 52 = .ok (.if_icmp .eq 5, 3) := by decide +kernel
theorem dX3_reasonAhead_55 : decode cX3_reasonAhead 55 = .ok (.iconst 4, 1) := by decide +kernel
theorem dX3_reasonAhead_56 : decode cX3_reasonAhead 56 = .ok (.ireturn, 1) := by decide +kernel
theorem dX3_reasonAhead_57 : decode cX3_reasonAhead 57 = .ok (.iinc 3 1, 3) := by decide +kernel
theorem dX3_reasonAhead_60 : decode cX3_reasonAhead 60 = .ok (.goto 15, 3) := by decide +kernel
theorem dX3_reasonAhead_63 : decode cX3_reasonAhead 63 = .ok (.aload 5, 2) := by decide +kernel
theorem dX3_reasonAhead_65 : decode cX3_reasonAhead 65 = .ok (.getfield 148, 3) := by decide +kernel
theorem dX3_reasonAhead_68 : decode cX3_reasonAhead 68 = .ok (.iload_n 2, 1) := by decide +kernel
theorem dX3_reasonAhead_69 : decode cX3_reasonAhead 69 = .ok (.if_icmp .ne 6, 3) := by decide +kernel
theorem dX3_reasonAhead_72 : decode cX3_reasonAhead 72 = .ok (.iinc 3 1, 3) := by decide +kernel
theorem dX3_reasonAhead_75 : decode cX3_reasonAhead 75 = .ok (.iinc 4 1, 3) := by decide +kernel
theorem dX3_reasonAhead_78 : decode cX3_reasonAhead 78 = .ok (.goto (-73), 3) := by decide +kernel
theorem dX3_reasonAhead_81 : decode cX3_reasonAhead 81 = .ok (.aload_n 0, 1) := by decide +kernel
theorem dX3_reasonAhead_82 : decode cX3_reasonAhead 82 = .ok (.iload_n 2, 1) := by decide +kernel
theorem dX3_reasonAhead_83 : decode cX3_reasonAhead 83 = .ok (.invokevirtual 61, 3) := by decide +kernel
theorem dX3_reasonAhead_86 : decode cX3_reasonAhead 86 = .ok (.astore 4, 2) := by decide +kernel
theorem dX3_reasonAhead_88 : decode cX3_reasonAhead 88 = .ok (.aload 4, 2) := by decide +kernel
theorem dX3_reasonAhead_90 : decode cX3_reasonAhead 90 = .ok (.ifnull 16, 3) := by decide +kernel
theorem dX3_reasonAhead_93 : decode cX3_reasonAhead 93 = .ok (.iload_n 3, 1) := by decide +kernel
theorem dX3_reasonAhead_94 : decode cX3_reasonAhead 94 = .ok (.aload 4, 2) := by decide +kernel
theorem dX3_reasonAhead_96 : decode cX3_reasonAhead 96 = .ok (.getfield 69, 3) := by decide +kernel
theorem dX3_reasonAhead_99 : decode cX3_reasonAhead 99 = .ok (.if_icmp .lt 7, 3) := by decide +kernel
theorem dX3_reasonAhead_102 : decode cX3_reasonAhead 102 = .ok (.iconst 5, 1) := by decide +kernel
theorem dX3_reasonAhead_103 : decode cX3_reasonAhead 103 = .ok (.goto 4, 3) := by decide +kernel
theorem dX3_reasonAhead_106 : decode cX3_reasonAhead 106 = .ok (.iconst 0, 1) := by decide +kernel
theorem dX3_reasonAhead_107 : decode cX3_reasonAhead 107 = .ok (.ireturn, 1) := by decide +kernel
theorem dX3_isBetween_0 : decode cX3_isBetween 0 = .ok (.iload_n 0, 1) := by decide +kernel
theorem dX3_isBetween_1 : decode cX3_isBetween 1 = .ok (.iload_n 1, 1) := by decide +kernel
theorem dX3_isBetween_2 : decode cX3_isBetween 2 = .ok (.if_icmp .ge 8, 3) := by decide +kernel
theorem dX3_isBetween_5 : decode cX3_isBetween 5 = .ok (.iload_n 1, 1) := by decide +kernel
theorem dX3_isBetween_6 : decode cX3_isBetween 6 = .ok (.iload_n 2, 1) := by decide +kernel
theorem dX3_isBetween_7 : decode cX3_isBetween 7 = .ok (.if_icmp .lt 13, 3) := by decide +kernel
theorem dX3_isBetween_10 : decode cX3_isBetween 10 = .ok (.iload_n 2, 1) := by decide +kernel
theorem dX3_isBetween_11 : decode cX3_isBetween 11 = .ok (.iload_n 1, 1) := by decide +kernel
theorem dX3_isBetween_12 : decode cX3_isBetween 12 = .ok (.if_icmp .ge 12, 3) := by decide +kernel
theorem dX3_isBetween_15 : decode cX3_isBetween 15 = .ok (.iload_n 1, 1) := by decide +kernel
theorem dX3_isBetween_16 : decode cX3_isBetween 16 = .ok (.iload_n 0, 1) := by decide +kernel
theorem dX3_isBetween_17 : decode cX3_isBetween 17 = .ok (.if_icmp .ge 7, 3) := by decide +kernel
theorem dX3_isBetween_20 : decode cX3_isBetween 20 = .ok (.iconst 1, 1) := by decide +kernel
theorem dX3_isBetween_21 : decode cX3_isBetween 21 = .ok (.goto 4, 3) := by decide +kernel
theorem dX3_isBetween_24 : decode cX3_isBetween 24 = .ok (.iconst 0, 1) := by decide +kernel
theorem dX3_isBetween_25 : decode cX3_isBetween 25 = .ok (.ireturn, 1) := by decide +kernel
theorem dX3_settle_0 : decode cX3_settle 0 = .ok (.iconst 0, 1) := by decide +kernel
theorem dX3_settle_1 : decode cX3_settle 1 = .ok (.istore_n 1, 1) := by decide +kernel
theorem dX3_settle_2 : decode cX3_settle 2 = .ok (.iload_n 1, 1) := by decide +kernel
theorem dX3_settle_3 : decode cX3_settle 3 = .ok (.iconst 4, 1) := by decide +kernel
theorem dX3_settle_4 : decode cX3_settle 4 = .ok (.if_icmp .ge 45, 3) := by decide +kernel
theorem dX3_settle_7 : decode cX3_settle 7 = .ok (.aload_n 0, 1) := by decide +kernel
theorem dX3_settle_8 : decode cX3_settle 8 = .ok (.iload_n 1, 1) := by decide +kernel
theorem dX3_settle_9 : decode cX3_settle 9 = .ok (.invokevirtual 82, 3) := by decide +kernel
theorem dX3_settle_12 : decode cX3_settle 12 = .ok (.astore_n 2, 1) := by decide +kernel
theorem dX3_settle_13 : decode cX3_settle 13 = .ok (.aload_n 2, 1) := by decide +kernel
theorem dX3_settle_14 : decode cX3_settle 14 = .ok (.ifnull 29, 3) := by decide +kernel
theorem dX3_settle_17 : decode cX3_settle 17 = .ok (.aload_n 0, 1) := by decide +kernel
theorem dX3_settle_18 : decode cX3_settle 18 = .ok (.aload_n 2, 1) := by decide +kernel
theorem dX3_settle_19 : decode cX3_settle 19 = .ok (.getfield 148, 3) := by decide +kernel
theorem dX3_settle_22 : decode cX3_settle 22 = .ok (.invokevirtual 61, 3) := by decide +kernel
theorem dX3_settle_25 : decode cX3_settle 25 = .ok (.astore_n 3, 1) := by decide +kernel
theorem dX3_settle_26 : decode cX3_settle 26 = .ok (.aload_n 3, 1) := by decide +kernel
theorem dX3_settle_27 : decode cX3_settle 27 = .ok (.ifnull 16, 3) := by decide +kernel
theorem dX3_settle_30 : decode cX3_settle 30 = .ok (.aload_n 3, 1) := by decide +kernel
theorem dX3_settle_31 : decode cX3_settle 31 = .ok (.dup, 1) := by decide +kernel
theorem dX3_settle_32 : decode cX3_settle 32 = .ok (.getfield 178, 3) := by decide +kernel
theorem dX3_settle_35 : decode cX3_settle 35 = .ok (.aload_n 2, 1) := by decide +kernel
theorem dX3_settle_36 : decode cX3_settle 36 = .ok (.invokevirtual 181, 3) := by decide +kernel
theorem dX3_settle_39 : decode cX3_settle 39 = .ok (.iadd, 1) := by decide +kernel
theorem dX3_settle_40 : decode cX3_settle 40 = .ok (.putfield 178, 3) := by decide +kernel
theorem dX3_settle_43 : decode cX3_settle 43 = .ok (.iinc 1 1, 3) := by decide +kernel
theorem dX3_settle_46 : decode cX3_settle 46 = .ok (.goto (-44), 3) := by decide +kernel
theorem dX3_settle_49 : decode cX3_settle 49 = .ok (.iconst 0, 1) := by decide +kernel
theorem dX3_settle_50 : decode cX3_settle 50 = .ok (.istore_n 1, 1) := by decide +kernel
theorem dX3_settle_51 : decode cX3_settle 51 = .ok (.iload_n 1, 1) := by decide +kernel
theorem dX3_settle_52 : decode cX3_settle 52 = .ok (.bipush 12, 2) := by decide +kernel
theorem dX3_settle_54 : decode cX3_settle 54 = .ok (.if_icmp .ge 44, 3) := by decide +kernel
theorem dX3_settle_57 : decode cX3_settle 57 = .ok (.aload_n 0, 1) := by decide +kernel
theorem dX3_settle_58 : decode cX3_settle 58 = .ok (.iload_n 1, 1) := by decide +kernel
theorem dX3_settle_59 : decode cX3_settle 59 = .ok (.invokevirtual 61, 3) := by decide +kernel
theorem dX3_settle_62 : decode cX3_settle 62 = .ok (.astore_n 2, 1) := by decide +kernel
theorem dX3_settle_63 : decode cX3_settle 63 = .ok (.aload_n 2, 1) := by decide +kernel
theorem dX3_settle_64 : decode cX3_settle 64 = .ok (.ifnull 28, 3) := by decide +kernel
theorem dX3_settle_67 : decode cX3_settle 67 = .ok (.aload_n 2, 1) := by decide +kernel
theorem dX3_settle_68 : decode cX3_settle 68 = .ok (.aload_n 0, 1) := by decide +kernel
theorem dX3_settle_69 : decode cX3_settle 69 = .ok (.getfield 25, 3) := by decide +kernel
theorem dX3_settle_72 : decode cX3_settle 72 = .ok (.iconst 1, 1) := by decide +kernel
theorem dX3_settle_73 : decode cX3_settle 73 = .ok (.iaload, 1) := by decide +kernel
theorem dX3_settle_74 : decode cX3_settle 74 = .ok (.invokevirtual 184, 3) := by decide +kernel
theorem dX3_settle_77 : decode cX3_settle 77 = .ok (.aload_n 0, 1) := by decide +kernel
theorem dX3_settle_78 : decode cX3_settle 78 = .ok (.aload_n 0, 1) := by decide +kernel
theorem dX3_settle_79 : decode cX3_settle 79 = .ok (.getfield 97, 3) := by decide +kernel
theorem dX3_settle_82 : decode cX3_settle 82 = .ok (.aload_n 2, 1) := by decide +kernel
theorem dX3_settle_83 : decode cX3_settle 83 = .ok (.getfield 163, 3) := by decide +kernel
theorem dX3_settle_86 : decode cX3_settle 86 = .ok (.invokestatic 186, 3) := by decide +kernel
theorem dX3_settle_89 : decode cX3_settle 89 = .ok (.putfield 97, 3) := by decide +kernel
theorem dX3_settle_92 : decode cX3_settle 92 = .ok (.iinc 1 1, 3) := by decide +kernel
theorem dX3_settle_95 : decode cX3_settle 95 = .ok (.goto (-44), 3) := by decide +kernel
theorem dX3_settle_98 : decode cX3_settle 98 = .ok (.return_, 1) := by decide +kernel
theorem dX3_trainsIn_0 : decode cX3_trainsIn 0 = .ok (.iconst 0, 1) := by decide +kernel
theorem dX3_trainsIn_1 : decode cX3_trainsIn 1 = .ok (.istore_n 2, 1) := by decide +kernel
theorem dX3_trainsIn_2 : decode cX3_trainsIn 2 = .ok (.iconst 0, 1) := by decide +kernel
theorem dX3_trainsIn_3 : decode cX3_trainsIn 3 = .ok (.istore_n 3, 1) := by decide +kernel
theorem dX3_trainsIn_4 : decode cX3_trainsIn 4 = .ok (.iload_n 3, 1) := by decide +kernel
theorem dX3_trainsIn_5 : decode cX3_trainsIn 5 = .ok (.iconst 4, 1) := by decide +kernel
theorem dX3_trainsIn_6 : decode cX3_trainsIn 6 = .ok (.if_icmp .ge 33, 3) := by decide +kernel
theorem dX3_trainsIn_9 : decode cX3_trainsIn 9 = .ok (.aload_n 0, 1) := by decide +kernel
theorem dX3_trainsIn_10 : decode cX3_trainsIn 10 = .ok (.iload_n 3, 1) := by decide +kernel
theorem dX3_trainsIn_11 : decode cX3_trainsIn 11 = .ok (.invokevirtual 82, 3) := by decide +kernel
theorem dX3_trainsIn_14 : decode cX3_trainsIn 14 = .ok (.astore 4, 2) := by decide +kernel
theorem dX3_trainsIn_16 : decode cX3_trainsIn 16 = .ok (.aload 4, 2) := by decide +kernel
theorem dX3_trainsIn_18 : decode cX3_trainsIn 18 = .ok (.ifnull 15, 3) := by decide +kernel
theorem dX3_trainsIn_21 : decode cX3_trainsIn 21 = .ok (.aload 4, 2) := by decide +kernel
theorem dX3_trainsIn_23 : decode cX3_trainsIn 23 = .ok (.getfield 148, 3) := by decide +kernel
theorem dX3_trainsIn_26 : decode cX3_trainsIn 26 = .ok (.iload_n 1, 1) := by decide +kernel
theorem dX3_trainsIn_27 : decode cX3_trainsIn 27 = .ok (.if_icmp .ne 6, 3) := by decide +kernel
theorem dX3_trainsIn_30 : decode cX3_trainsIn 30 = .ok (.iinc 2 1, 3) := by decide +kernel
theorem dX3_trainsIn_33 : decode cX3_trainsIn 33 = .ok (.iinc 3 1, 3) := by decide +kernel
theorem dX3_trainsIn_36 : decode cX3_trainsIn 36 = .ok (.goto (-32), 3) := by decide +kernel
theorem dX3_trainsIn_39 : decode cX3_trainsIn 39 = .ok (.iload_n 2, 1) := by decide +kernel
theorem dX3_trainsIn_40 : decode cX3_trainsIn 40 = .ok (.ireturn, 1) := by decide +kernel
theorem dX3_weightIn_0 : decode cX3_weightIn 0 = .ok (.iconst 0, 1) := by decide +kernel
theorem dX3_weightIn_1 : decode cX3_weightIn 1 = .ok (.istore_n 2, 1) := by decide +kernel
theorem dX3_weightIn_2 : decode cX3_weightIn 2 = .ok (.iconst 0, 1) := by decide +kernel
theorem dX3_weightIn_3 : decode cX3_weightIn 3 = .ok (.istore_n 3, 1) := by decide +kernel
theorem dX3_weightIn_4 : decode cX3_weightIn 4 = .ok (.iload_n 3, 1) := by decide +kernel
theorem dX3_weightIn_5 : decode cX3_weightIn 5 = .ok (.iconst 4, 1) := by decide +kernel
theorem dX3_weightIn_6 : decode cX3_weightIn 6 = .ok (.if_icmp .ge 38, 3) := by decide +kernel
theorem dX3_weightIn_9 : decode cX3_weightIn 9 = .ok (.aload_n 0, 1) := by decide +kernel
theorem dX3_weightIn_10 : decode cX3_weightIn 10 = .ok (.iload_n 3, 1) := by decide +kernel
theorem dX3_weightIn_11 : decode cX3_weightIn 11 = .ok (.invokevirtual 82, 3) := by decide +kernel
theorem dX3_weightIn_14 : decode cX3_weightIn 14 = .ok (.astore 4, 2) := by decide +kernel
theorem dX3_weightIn_16 : decode cX3_weightIn 16 = .ok (.aload 4, 2) := by decide +kernel
theorem dX3_weightIn_18 : decode cX3_weightIn 18 = .ok (.ifnull 20, 3) := by decide +kernel
theorem dX3_weightIn_21 : decode cX3_weightIn 21 = .ok (.aload 4, 2) := by decide +kernel
theorem dX3_weightIn_23 : decode cX3_weightIn 23 = .ok (.getfield 148, 3) := by decide +kernel
theorem dX3_weightIn_26 : decode cX3_weightIn 26 = .ok (.iload_n 1, 1) := by decide +kernel
theorem dX3_weightIn_27 : decode cX3_weightIn 27 = .ok (.if_icmp .ne 11, 3) := by decide +kernel
theorem dX3_weightIn_30 : decode cX3_weightIn 30 = .ok (.iload_n 2, 1) := by decide +kernel
theorem dX3_weightIn_31 : decode cX3_weightIn 31 = .ok (.aload 4, 2) := by decide +kernel
theorem dX3_weightIn_33 : decode cX3_weightIn 33 = .ok (.invokevirtual 181, 3) := by decide +kernel
theorem dX3_weightIn_36 : decode cX3_weightIn 36 = .ok (.iadd, 1) := by decide +kernel
theorem dX3_weightIn_37 : decode cX3_weightIn 37 = .ok (.istore_n 2, 1) := by decide +kernel
theorem dX3_weightIn_38 : decode cX3_weightIn 38 = .ok (.iinc 3 1, 3) := by decide +kernel
theorem dX3_weightIn_41 : decode cX3_weightIn 41 = .ok (.goto (-37), 3) := by decide +kernel
theorem dX3_weightIn_44 : decode cX3_weightIn 44 = .ok (.iload_n 2, 1) := by decide +kernel
theorem dX3_weightIn_45 : decode cX3_weightIn 45 = .ok (.ireturn, 1) := by decide +kernel
theorem dX3_peatInTrains_0 : decode cX3_peatInTrains 0 = .ok (.iconst 0, 1) := by decide +kernel
theorem dX3_peatInTrains_1 : decode cX3_peatInTrains 1 = .ok (.istore_n 1, 1) := by decide +kernel
theorem dX3_peatInTrains_2 : decode cX3_peatInTrains 2 = .ok (.iconst 0, 1) := by decide +kernel
theorem dX3_peatInTrains_3 : decode cX3_peatInTrains 3 = .ok (.istore_n 2, 1) := by decide +kernel
theorem dX3_peatInTrains_4 : decode cX3_peatInTrains 4 = .ok (.iload_n 2, 1) := by decide +kernel
theorem dX3_peatInTrains_5 : decode cX3_peatInTrains 5 = .ok (.iconst 4, 1) := by decide +kernel
theorem dX3_peatInTrains_6 : decode cX3_peatInTrains 6 = .ok (.if_icmp .ge 26, 3) := by decide +kernel
theorem dX3_peatInTrains_9 : decode cX3_peatInTrains 9 = .ok (.aload_n 0, 1) := by decide +kernel
theorem dX3_peatInTrains_10 : decode cX3_peatInTrains 10 = .ok (.iload_n 2, 1) := by decide +kernel
theorem dX3_peatInTrains_11 : decode cX3_peatInTrains 11 = .ok (.invokevirtual 82, 3) := by decide +kernel
theorem dX3_peatInTrains_14 : decode cX3_peatInTrains 14 = .ok (.astore_n 3, 1) := by decide +kernel
theorem dX3_peatInTrains_15 : decode cX3_peatInTrains 15 = .ok (.aload_n 3, 1) := by decide +kernel
theorem dX3_peatInTrains_16 : decode cX3_peatInTrains 16 = .ok (.ifnull 10, 3) := by decide +kernel
theorem dX3_peatInTrains_19 : decode cX3_peatInTrains 19 = .ok (.iload_n 1, 1) := by decide +kernel
theorem dX3_peatInTrains_20 : decode cX3_peatInTrains 20 = .ok (.aload_n 3, 1) := by decide +kernel
theorem dX3_peatInTrains_21 : decode cX3_peatInTrains 21 = .ok (.getfield 90, 3) := by decide +kernel
theorem dX3_peatInTrains_24 : decode cX3_peatInTrains 24 = .ok (.iadd, 1) := by decide +kernel
theorem dX3_peatInTrains_25 : decode cX3_peatInTrains 25 = .ok (.istore_n 1, 1) := by decide +kernel
theorem dX3_peatInTrains_26 : decode cX3_peatInTrains 26 = .ok (.iinc 2 1, 3) := by decide +kernel
theorem dX3_peatInTrains_29 : decode cX3_peatInTrains 29 = .ok (.goto (-25), 3) := by decide +kernel
theorem dX3_peatInTrains_32 : decode cX3_peatInTrains 32 = .ok (.iload_n 1, 1) := by decide +kernel
theorem dX3_peatInTrains_33 : decode cX3_peatInTrains 33 = .ok (.ireturn, 1) := by decide +kernel
theorem dX3_waitsOfAll_0 : decode cX3_waitsOfAll 0 = .ok (.iconst 0, 1) := by decide +kernel
theorem dX3_waitsOfAll_1 : decode cX3_waitsOfAll 1 = .ok (.istore_n 1, 1) := by decide +kernel
theorem dX3_waitsOfAll_2 : decode cX3_waitsOfAll 2 = .ok (.iconst 0, 1) := by decide +kernel
theorem dX3_waitsOfAll_3 : decode cX3_waitsOfAll 3 = .ok (.istore_n 2, 1) := by decide +kernel
theorem dX3_waitsOfAll_4 : decode cX3_waitsOfAll 4 = .ok (.iload_n 2, 1) := by decide +kernel
theorem dX3_waitsOfAll_5 : decode cX3_waitsOfAll 5 = .ok (.iconst 4, 1) := by decide +kernel
theorem dX3_waitsOfAll_6 : decode cX3_waitsOfAll 6 = .ok (.if_icmp .ge 26, 3) := by decide +kernel
theorem dX3_waitsOfAll_9 : decode cX3_waitsOfAll 9 = .ok (.aload_n 0, 1) := by decide +kernel
theorem dX3_waitsOfAll_10 : decode cX3_waitsOfAll 10 = .ok (.iload_n 2, 1) := by decide +kernel
theorem dX3_waitsOfAll_11 : decode cX3_waitsOfAll 11 = .ok (.invokevirtual 82, 3) := by decide +kernel
theorem dX3_waitsOfAll_14 : decode cX3_waitsOfAll 14 = .ok (.astore_n 3, 1) := by decide +kernel
theorem dX3_waitsOfAll_15 : decode cX3_waitsOfAll 15 = .ok (.aload_n 3, 1) := by decide +kernel
theorem dX3_waitsOfAll_16 : decode cX3_waitsOfAll 16 = .ok (.ifnull 10, 3) := by decide +kernel
theorem dX3_waitsOfAll_19 : decode cX3_waitsOfAll 19 = .ok (.iload_n 1, 1) := by decide +kernel
theorem dX3_waitsOfAll_20 : decode cX3_waitsOfAll 20 = .ok (.aload_n 3, 1) := by decide +kernel
theorem dX3_waitsOfAll_21 : decode cX3_waitsOfAll 21 = .ok (.getfield 130, 3) := by decide +kernel
theorem dX3_waitsOfAll_24 : decode cX3_waitsOfAll 24 = .ok (.iadd, 1) := by decide +kernel
theorem dX3_waitsOfAll_25 : decode cX3_waitsOfAll 25 = .ok (.istore_n 1, 1) := by decide +kernel
theorem dX3_waitsOfAll_26 : decode cX3_waitsOfAll 26 = .ok (.iinc 2 1, 3) := by decide +kernel
theorem dX3_waitsOfAll_29 : decode cX3_waitsOfAll 29 = .ok (.goto (-25), 3) := by decide +kernel
theorem dX3_waitsOfAll_32 : decode cX3_waitsOfAll 32 = .ok (.iload_n 1, 1) := by decide +kernel
theorem dX3_waitsOfAll_33 : decode cX3_waitsOfAll 33 = .ok (.ireturn, 1) := by decide +kernel
theorem dX3_greatestSinking_0 : decode cX3_greatestSinking 0 = .ok (.iconst 0, 1) := by decide +kernel
theorem dX3_greatestSinking_1 : decode cX3_greatestSinking 1 = .ok (.istore_n 1, 1) := by decide +kernel
theorem dX3_greatestSinking_2 : decode cX3_greatestSinking 2 = .ok (.iconst 0, 1) := by decide +kernel
theorem dX3_greatestSinking_3 : decode cX3_greatestSinking 3 = .ok (.istore_n 2, 1) := by decide +kernel
theorem dX3_greatestSinking_4 : decode cX3_greatestSinking 4 = .ok (.iload_n 2, 1) := by decide +kernel
theorem dX3_greatestSinking_5 : decode cX3_greatestSinking 5 = .ok (.bipush 12, 2) := by decide +kernel
theorem dX3_greatestSinking_7 : decode cX3_greatestSinking 7 = .ok (.if_icmp .ge 28, 3) := by decide +kernel
theorem dX3_greatestSinking_10 : decode cX3_greatestSinking 10 = .ok (.aload_n 0, 1) := by decide +kernel
theorem dX3_greatestSinking_11 : decode cX3_greatestSinking 11 = .ok (.iload_n 2, 1) := by decide +kernel
theorem dX3_greatestSinking_12 : decode cX3_greatestSinking 12 = .ok (.invokevirtual 61, 3) := by decide +kernel
theorem dX3_greatestSinking_15 : decode cX3_greatestSinking 15 = .ok (.astore_n 3, 1) := by decide +kernel
theorem dX3_greatestSinking_16 : decode cX3_greatestSinking 16 = .ok (.aload_n 3, 1) := by decide +kernel
theorem dX3_greatestSinking_17 : decode cX3_greatestSinking 17 = .ok (.ifnull 12, 3) := by decide +kernel
theorem dX3_greatestSinking_20 : decode cX3_greatestSinking 20 = .ok (.iload_n 1, 1) := by decide +kernel
theorem dX3_greatestSinking_21 : decode cX3_greatestSinking 21 = .ok (.aload_n 3, 1) := by decide +kernel
theorem dX3_greatestSinking_22 : decode cX3_greatestSinking 22 = .ok (.getfield 163, 3) := by decide +kernel
theorem dX3_greatestSinking_25 : decode cX3_greatestSinking 25 = .ok (.invokestatic 186, 3) := by decide +kernel
theorem dX3_greatestSinking_28 : decode cX3_greatestSinking 28 = .ok (.istore_n 1, 1) := by decide +kernel
theorem dX3_greatestSinking_29 : decode cX3_greatestSinking 29 = .ok (.iinc 2 1, 3) := by decide +kernel
theorem dX3_greatestSinking_32 : decode cX3_greatestSinking 32 = .ok (.goto (-28), 3) := by decide +kernel
theorem dX3_greatestSinking_35 : decode cX3_greatestSinking 35 = .ok (.iload_n 1, 1) := by decide +kernel
theorem dX3_greatestSinking_36 : decode cX3_greatestSinking 36 = .ok (.ireturn, 1) := by decide +kernel
theorem dX3_sumOfSinkings_0 : decode cX3_sumOfSinkings 0 = .ok (.iconst 0, 1) := by decide +kernel
theorem dX3_sumOfSinkings_1 : decode cX3_sumOfSinkings 1 = .ok (.istore_n 1, 1) := by decide +kernel
theorem dX3_sumOfSinkings_2 : decode cX3_sumOfSinkings 2 = .ok (.iconst 0, 1) := by decide +kernel
theorem dX3_sumOfSinkings_3 : decode cX3_sumOfSinkings 3 = .ok (.istore_n 2, 1) := by decide +kernel
theorem dX3_sumOfSinkings_4 : decode cX3_sumOfSinkings 4 = .ok (.iload_n 2, 1) := by decide +kernel
theorem dX3_sumOfSinkings_5 : decode cX3_sumOfSinkings 5 = .ok (.bipush 12, 2) := by decide +kernel
theorem dX3_sumOfSinkings_7 : decode cX3_sumOfSinkings 7 = .ok (.if_icmp .ge 26, 3) := by decide +kernel
theorem dX3_sumOfSinkings_10 : decode cX3_sumOfSinkings 10 = .ok (.aload_n 0, 1) := by decide +kernel
theorem dX3_sumOfSinkings_11 : decode cX3_sumOfSinkings 11 = .ok (.iload_n 2, 1) := by decide +kernel
theorem dX3_sumOfSinkings_12 : decode cX3_sumOfSinkings 12 = .ok (.invokevirtual 61, 3) := by decide +kernel
theorem dX3_sumOfSinkings_15 : decode cX3_sumOfSinkings 15 = .ok (.astore_n 3, 1) := by decide +kernel
theorem dX3_sumOfSinkings_16 : decode cX3_sumOfSinkings 16 = .ok (.aload_n 3, 1) := by decide +kernel
theorem dX3_sumOfSinkings_17 : decode cX3_sumOfSinkings 17 = .ok (.ifnull 10, 3) := by decide +kernel
theorem dX3_sumOfSinkings_20 : decode cX3_sumOfSinkings 20 = .ok (.iload_n 1, 1) := by decide +kernel
theorem dX3_sumOfSinkings_21 : decode cX3_sumOfSinkings 21 = .ok (.aload_n 3, 1) := by decide +kernel
theorem dX3_sumOfSinkings_22 : decode cX3_sumOfSinkings 22 = .ok (.getfield 163, 3) := by decide +kernel
theorem dX3_sumOfSinkings_25 : decode cX3_sumOfSinkings 25 = .ok (.iadd, 1) := by decide +kernel
theorem dX3_sumOfSinkings_26 : decode cX3_sumOfSinkings 26 = .ok (.istore_n 1, 1) := by decide +kernel
theorem dX3_sumOfSinkings_27 : decode cX3_sumOfSinkings 27 = .ok (.iinc 2 1, 3) := by decide +kernel
theorem dX3_sumOfSinkings_30 : decode cX3_sumOfSinkings 30 = .ok (.goto (-26), 3) := by decide +kernel
theorem dX3_sumOfSinkings_33 : decode cX3_sumOfSinkings 33 = .ok (.iload_n 1, 1) := by decide +kernel
theorem dX3_sumOfSinkings_34 : decode cX3_sumOfSinkings 34 = .ok (.ireturn, 1) := by decide +kernel
theorem dX3_sunkSegments_0 : decode cX3_sunkSegments 0 = .ok (.iconst 0, 1) := by decide +kernel
theorem dX3_sunkSegments_1 : decode cX3_sunkSegments 1 = .ok (.istore_n 1, 1) := by decide +kernel
theorem dX3_sunkSegments_2 : decode cX3_sunkSegments 2 = .ok (.iconst 0, 1) := by decide +kernel
theorem dX3_sunkSegments_3 : decode cX3_sunkSegments 3 = .ok (.istore_n 2, 1) := by decide +kernel
theorem dX3_sunkSegments_4 : decode cX3_sunkSegments 4 = .ok (.iload_n 2, 1) := by decide +kernel
theorem dX3_sunkSegments_5 : decode cX3_sunkSegments 5 = .ok (.bipush 12, 2) := by decide +kernel
theorem dX3_sunkSegments_7 : decode cX3_sunkSegments 7 = .ok (.if_icmp .ge 38, 3) := by decide +kernel
theorem dX3_sunkSegments_10 : decode cX3_sunkSegments 10 = .ok (.aload_n 0, 1) := by decide +kernel
theorem dX3_sunkSegments_11 : decode cX3_sunkSegments 11 = .ok (.iload_n 2, 1) := by decide +kernel
theorem dX3_sunkSegments_12 : decode cX3_sunkSegments 12 = .ok (.invokevirtual 61, 3) := by decide +kernel
theorem dX3_sunkSegments_15 : decode cX3_sunkSegments 15 = .ok (.astore_n 3, 1) := by decide +kernel
theorem dX3_sunkSegments_16 : decode cX3_sunkSegments 16 = .ok (.aload_n 3, 1) := by decide +kernel
theorem dX3_sunkSegments_17 : decode cX3_sunkSegments 17 = .ok (.ifnull 22, 3) := by decide +kernel
theorem dX3_sunkSegments_20 : decode cX3_sunkSegments 20 = .ok (.aload_n 3, 1) := by decide +kernel
theorem dX3_sunkSegments_21 : decode cX3_sunkSegments 21 = .ok (.getfield 163, 3) := by decide +kernel
theorem dX3_sunkSegments_24 : decode cX3_sunkSegments 24 = .ok (.aload_n 0, 1) := by decide +kernel
theorem dX3_sunkSegments_25 : decode cX3_sunkSegments 25 = .ok (.getfield 25, 3) := by decide +kernel
theorem dX3_sunkSegments_28 : decode cX3_sunkSegments 28 = .ok (.iconst 0, 1) := by decide +kernel
theorem dX3_sunkSegments_29 : decode cX3_sunkSegments 29 = .ok (.iaload, 1) := by decide +kernel
theorem dX3_sunkSegments_30 : decode cX3_sunkSegments 30 = .ok (.if_icmp .le 9, 3) := by decide +kernel
theorem dX3_sunkSegments_33 : decode cX3_sunkSegments 33 = .ok (.iload_n 1, 1) := by decide +kernel
theorem dX3_sunkSegments_34 : decode cX3_sunkSegments 34 = .ok (.iconst 1, 1) := by decide +kernel
theorem dX3_sunkSegments_35 : decode cX3_sunkSegments 35 = .ok (.iload_n 2, 1) := by decide +kernel
theorem dX3_sunkSegments_36 : decode cX3_sunkSegments 36 = .ok (.ishl, 1) := by decide +kernel
theorem dX3_sunkSegments_37 : decode cX3_sunkSegments 37 = .ok (.ior, 1) := by decide +kernel
theorem dX3_sunkSegments_38 : decode cX3_sunkSegments 38 = .ok (.istore_n 1, 1) := by decide +kernel
theorem dX3_sunkSegments_39 : decode cX3_sunkSegments 39 = .ok (.iinc 2 1, 3) := by decide +kernel
theorem dX3_sunkSegments_42 : decode cX3_sunkSegments 42 = .ok (.goto (-38), 3) := by decide +kernel
theorem dX3_sunkSegments_45 : decode cX3_sunkSegments 45 = .ok (.iload_n 1, 1) := by decide +kernel
theorem dX3_sunkSegments_46 : decode cX3_sunkSegments 46 = .ok (.ireturn, 1) := by decide +kernel
theorem dX4_init_0 : decode cX4_init 0 = .ok (.aload_n 0, 1) := by decide +kernel
theorem dX4_init_1 : decode cX4_init 1 = .ok (.invokespecial 3, 3) := by decide +kernel
theorem dX4_init_4 : decode cX4_init 4 = .ok (.return_, 1) := by decide +kernel
theorem dX4_start_0 : decode cX4_start 0 = .ok (.aload_n 0, 1) := by decide +kernel
theorem dX4_start_1 : decode cX4_start 1 = .ok (.iload_n 1, 1) := by decide +kernel
theorem dX4_start_2 : decode cX4_start 2 = .ok (.putfield 9, 3) := by decide +kernel
theorem dX4_start_5 : decode cX4_start 5 = .ok (.aload_n 0, 1) := by decide +kernel
theorem dX4_start_6 : decode cX4_start 6 = .ok (.iload_n 2, 1) := by decide +kernel
theorem dX4_start_7 : decode cX4_start 7 = .ok (.putfield 15, 3) := by decide +kernel
theorem dX4_start_10 : decode cX4_start 10 = .ok (.aload_n 0, 1) := by decide +kernel
theorem dX4_start_11 : decode cX4_start 11 = .ok (.iconst 0, 1) := by decide +kernel
theorem dX4_start_12 : decode cX4_start 12 = .ok (.putfield 18, 3) := by decide +kernel
theorem dX4_start_15 : decode cX4_start 15 = .ok (.aload_n 0, 1) := by decide +kernel
theorem dX4_start_16 : decode cX4_start 16 = .ok (.iconst 0, 1) := by decide +kernel
theorem dX4_start_17 : decode cX4_start 17 = .ok (.putfield 21, 3) := by decide +kernel
theorem dX4_start_20 : decode cX4_start 20 = .ok (.aload_n 0, 1) := by decide +kernel
theorem dX4_start_21 : decode cX4_start 21 = .ok (.iconst 0, 1) := by decide +kernel
theorem dX4_start_22 : decode cX4_start 22 = .ok (.putfield 24, 3) := by decide +kernel
theorem dX4_start_25 : decode cX4_start 25 = .ok (.aload_n 0, 1) := by decide +kernel
theorem dX4_start_26 : decode cX4_start 26 = .ok (.iconst 0, 1) := by decide +kernel
theorem dX4_start_27 : decode cX4_start 27 = .ok (.putfield 28, 3) := by decide +kernel
theorem dX4_start_30 : decode cX4_start 30 = .ok (.aload_n 0, 1) := by decide +kernel
theorem dX4_start_31 : decode cX4_start 31 = .ok (.iconst 0, 1) := by decide +kernel
theorem dX4_start_32 : decode cX4_start 32 = .ok (.putfield 31, 3) := by decide +kernel
theorem dX4_start_35 : decode cX4_start 35 = .ok (.aload_n 0, 1) := by decide +kernel
theorem dX4_start_36 : decode cX4_start 36 = .ok (.iconst 0, 1) := by decide +kernel
theorem dX4_start_37 : decode cX4_start 37 = .ok (.putfield 34, 3) := by decide +kernel
theorem dX4_start_40 : decode cX4_start 40 = .ok (.aload_n 0, 1) := by decide +kernel
theorem dX4_start_41 : decode cX4_start 41 = .ok (.iconst 0, 1) := by decide +kernel
theorem dX4_start_42 : decode cX4_start 42 = .ok (.putfield 37, 3) := by decide +kernel
theorem dX4_start_45 : decode cX4_start 45 = .ok (.return_, 1) := by decide +kernel
theorem dX4_copyFrom_0 : decode cX4_copyFrom 0 = .ok (.aload_n 0, 1) := by decide +kernel
theorem dX4_copyFrom_1 : decode cX4_copyFrom 1 = .ok (.aload_n 1, 1) := by decide +kernel
theorem dX4_copyFrom_2 : decode cX4_copyFrom 2 = .ok (.getfield 9, 3) := by decide +kernel
theorem dX4_copyFrom_5 : decode cX4_copyFrom 5 = .ok (.putfield 9, 3) := by decide +kernel
theorem dX4_copyFrom_8 : decode cX4_copyFrom 8 = .ok (.aload_n 0, 1) := by decide +kernel
theorem dX4_copyFrom_9 : decode cX4_copyFrom 9 = .ok (.aload_n 1, 1) := by decide +kernel
theorem dX4_copyFrom_10 : decode cX4_copyFrom 10 = .ok (.getfield 15, 3) := by decide +kernel
theorem dX4_copyFrom_13 : decode cX4_copyFrom 13 = .ok (.putfield 15, 3) := by decide +kernel
theorem dX4_copyFrom_16 : decode cX4_copyFrom 16 = .ok (.aload_n 0, 1) := by decide +kernel
theorem dX4_copyFrom_17 : decode cX4_copyFrom 17 = .ok (.aload_n 1, 1) := by decide +kernel
theorem dX4_copyFrom_18 : decode cX4_copyFrom 18 = .ok (.getfield 18, 3) := by decide +kernel
theorem dX4_copyFrom_21 : decode cX4_copyFrom 21 = .ok (.putfield 18, 3) := by decide +kernel
theorem dX4_copyFrom_24 : decode cX4_copyFrom 24 = .ok (.aload_n 0, 1) := by decide +kernel
theorem dX4_copyFrom_25 : decode cX4_copyFrom 25 = .ok (.aload_n 1, 1) := by decide +kernel
theorem dX4_copyFrom_26 : decode cX4_copyFrom 26 = .ok (.getfield 21, 3) := by decide +kernel
theorem dX4_copyFrom_29 : decode cX4_copyFrom 29 = .ok (.putfield 21, 3) := by decide +kernel
theorem dX4_copyFrom_32 : decode cX4_copyFrom 32 = .ok (.aload_n 0, 1) := by decide +kernel
theorem dX4_copyFrom_33 : decode cX4_copyFrom 33 = .ok (.aload_n 1, 1) := by decide +kernel
theorem dX4_copyFrom_34 : decode cX4_copyFrom 34 = .ok (.getfield 24, 3) := by decide +kernel
theorem dX4_copyFrom_37 : decode cX4_copyFrom 37 = .ok (.putfield 24, 3) := by decide +kernel
theorem dX4_copyFrom_40 : decode cX4_copyFrom 40 = .ok (.aload_n 0, 1) := by decide +kernel
theorem dX4_copyFrom_41 : decode cX4_copyFrom 41 = .ok (.aload_n 1, 1) := by decide +kernel
theorem dX4_copyFrom_42 : decode cX4_copyFrom 42 = .ok (.getfield 28, 3) := by decide +kernel
theorem dX4_copyFrom_45 : decode cX4_copyFrom 45 = .ok (.putfield 28, 3) := by decide +kernel
theorem dX4_copyFrom_48 : decode cX4_copyFrom 48 = .ok (.aload_n 0, 1) := by decide +kernel
theorem dX4_copyFrom_49 : decode cX4_copyFrom 49 = .ok (.aload_n 1, 1) := by decide +kernel
theorem dX4_copyFrom_50 : decode cX4_copyFrom 50 = .ok (.getfield 31, 3) := by decide +kernel
theorem dX4_copyFrom_53 : decode cX4_copyFrom 53 = .ok (.putfield 31, 3) := by decide +kernel
theorem dX4_copyFrom_56 : decode cX4_copyFrom 56 = .ok (.aload_n 0, 1) := by decide +kernel
theorem dX4_copyFrom_57 : decode cX4_copyFrom 57 = .ok (.aload_n 1, 1) := by decide +kernel
theorem dX4_copyFrom_58 : decode cX4_copyFrom 58 = .ok (.getfield 34, 3) := by decide +kernel
theorem dX4_copyFrom_61 : decode cX4_copyFrom 61 = .ok (.putfield 34, 3) := by decide +kernel
theorem dX4_copyFrom_64 : decode cX4_copyFrom 64 = .ok (.aload_n 0, 1) := by decide +kernel
theorem dX4_copyFrom_65 : decode cX4_copyFrom 65 = .ok (.aload_n 1, 1) := by decide +kernel
theorem dX4_copyFrom_66 : decode cX4_copyFrom 66 = .ok (.getfield 37, 3) := by decide +kernel
theorem dX4_copyFrom_69 : decode cX4_copyFrom 69 = .ok (.putfield 37, 3) := by decide +kernel
theorem dX4_copyFrom_72 : decode cX4_copyFrom 72 = .ok (.return_, 1) := by decide +kernel
theorem dX4_fullLoad_0 : decode cX4_fullLoad 0 = .ok (.aload_n 0, 1) := by decide +kernel
theorem dX4_fullLoad_1 : decode cX4_fullLoad 1 = .ok (.getfield 9, 3) := by decide +kernel
theorem dX4_fullLoad_4 : decode cX4_fullLoad 4 = .ok (.aload_n 0, 1) := by decide +kernel
theorem dX4_fullLoad_5 : decode cX4_fullLoad 5 = .ok (.getfield 15, 3) := by decide +kernel
theorem dX4_fullLoad_8 : decode cX4_fullLoad 8 = .ok (.imul, 1) := by decide +kernel
theorem dX4_fullLoad_9 : decode cX4_fullLoad 9 = .ok (.ireturn, 1) := by decide +kernel
theorem dX4_weight_0 : decode cX4_weight 0 = .ok (.iconst 4, 1) := by decide +kernel
theorem dX4_weight_1 : decode cX4_weight 1 = .ok (.iconst 2, 1) := by decide +kernel
theorem dX4_weight_2 : decode cX4_weight 2 = .ok (.aload_n 0, 1) := by decide +kernel
theorem dX4_weight_3 : decode cX4_weight 3 = .ok (.getfield 9, 3) := by decide +kernel
theorem dX4_weight_6 : decode cX4_weight 6 = .ok (.imul, 1) := by decide +kernel
theorem dX4_weight_7 : decode cX4_weight 7 = .ok (.iadd, 1) := by decide +kernel
theorem dX4_weight_8 : decode cX4_weight 8 = .ok (.aload_n 0, 1) := by decide +kernel
theorem dX4_weight_9 : decode cX4_weight 9 = .ok (.getfield 18, 3) := by decide +kernel
theorem dX4_weight_12 : decode cX4_weight 12 = .ok (.iadd, 1) := by decide +kernel
theorem dX4_weight_13 : decode cX4_weight 13 = .ok (.ireturn, 1) := by decide +kernel
theorem dX5_init_0 : decode cX5_init 0 = .ok (.aload_n 0, 1) := by decide +kernel
theorem dX5_init_1 : decode cX5_init 1 = .ok (.invokespecial 3, 3) := by decide +kernel
theorem dX5_init_4 : decode cX5_init 4 = .ok (.new 9, 3) := by decide +kernel
theorem dX5_init_7 : decode cX5_init 7 = .ok (.dup, 1) := by decide +kernel
theorem dX5_init_8 : decode cX5_init 8 = .ok (.invokespecial 11, 3) := by decide +kernel
theorem dX5_init_11 : decode cX5_init 11 = .ok (.astore_n 1, 1) := by decide +kernel
theorem dX5_init_12 : decode cX5_init 12 = .ok (.iconst 0, 1) := by decide +kernel
theorem dX5_init_13 : decode cX5_init 13 = .ok (.istore_n 2, 1) := by decide +kernel
theorem dX5_init_14 : decode cX5_init 14 = .ok (.iload_n 2, 1) := by decide +kernel
theorem dX5_init_15 : decode cX5_init 15 = .ok (.ldc 12, 2) := by decide +kernel
theorem dX5_init_17 : decode cX5_init 17 = .ok (.invokevirtual 14, 3) := by decide +kernel
theorem dX5_init_20 : decode cX5_init 20 = .ok (.if_icmp .ge 19, 3) := by decide +kernel
theorem dX5_init_23 : decode cX5_init 23 = .ok (.aload_n 1, 1) := by decide +kernel
theorem dX5_init_24 : decode cX5_init 24 = .ok (.ldc 12, 2) := by decide +kernel
theorem dX5_init_26 : decode cX5_init 26 = .ok (.iload_n 2, 1) := by decide +kernel
theorem dX5_init_27 : decode cX5_init 27 = .ok (.invokevirtual 20, 3) := by decide +kernel
theorem dX5_init_30 : decode cX5_init 30 = .ok (.invokevirtual 24, 3) := by decide +kernel
theorem dX5_init_33 : decode cX5_init 33 = .ok (.iinc 2 1, 3) := by decide +kernel
theorem dX5_init_36 : decode cX5_init 36 = .ok (.goto (-22), 3) := by decide +kernel
theorem dX5_init_39 : decode cX5_init 39 = .ok (.new 28, 3) := by decide +kernel
theorem dX5_init_42 : decode cX5_init 42 = .ok (.dup, 1) := by decide +kernel
theorem dX5_init_43 : decode cX5_init 43 = .ok (.invokespecial 30, 3) := by decide +kernel
theorem dX5_init_46 : decode cX5_init 46 = .ok (.astore_n 2, 1) := by decide +kernel
theorem dX5_init_47 : decode cX5_init 47 = .ok (.aload_n 1, 1) := by decide +kernel
theorem dX5_init_48 : decode cX5_init 48 = .ok (.aload_n 2, 1) := by decide +kernel
theorem dX5_init_49 : decode cX5_init 49 = .ok (.invokevirtual 31, 3) := by decide +kernel
theorem dX5_init_52 : decode cX5_init 52 = .ok (.aload_n 1, 1) := by decide +kernel
theorem dX5_init_53 : decode cX5_init 53 = .ok (.invokevirtual 35, 3) := by decide +kernel
theorem dX5_init_56 : decode cX5_init 56 = .ok (.aload_n 0, 1) := by decide +kernel
theorem dX5_init_57 : decode cX5_init 57 = .ok (.aload_n 1, 1) := by decide +kernel
theorem dX5_init_58 : decode cX5_init 58 = .ok (.putfield 38, 3) := by decide +kernel
theorem dX5_init_61 : decode cX5_init 61 = .ok (.aload_n 0, 1) := by decide +kernel
theorem dX5_init_62 : decode cX5_init 62 = .ok (.aload_n 2, 1) := by decide +kernel
theorem dX5_init_63 : decode cX5_init 63 = .ok (.putfield 42, 3) := by decide +kernel
theorem dX5_init_66 : decode cX5_init 66 = .ok (.aload_n 0, 1) := by decide +kernel
theorem dX5_init_67 : decode cX5_init 67 = .ok (.new 28, 3) := by decide +kernel
theorem dX5_init_70 : decode cX5_init 70 = .ok (.dup, 1) := by decide +kernel
theorem dX5_init_71 : decode cX5_init 71 = .ok (.invokespecial 30, 3) := by decide +kernel
theorem dX5_init_74 : decode cX5_init 74 = .ok (.putfield 46, 3) := by decide +kernel
theorem dX5_init_77 : decode cX5_init 77 = .ok (.aload_n 0, 1) := by decide +kernel
theorem dX5_init_78 : decode cX5_init 78 = .ok (.new 49, 3) := by decide +kernel
theorem dX5_init_81 : decode cX5_init 81 = .ok (.dup, 1) := by decide +kernel
theorem dX5_init_82 : decode cX5_init 82 = .ok (.invokespecial 51, 3) := by decide +kernel
theorem dX5_init_85 : decode cX5_init 85 = .ok (.putfield 52, 3) := by decide +kernel
theorem dX5_init_88 : decode cX5_init 88 = .ok (.aload_n 0, 1) := by decide +kernel
theorem dX5_init_89 : decode cX5_init 89 = .ok (.iconst 2, 1) := by decide +kernel
theorem dX5_init_90 : decode cX5_init 90 = .ok (.anewarray 28, 3) := by decide +kernel
theorem dX5_init_93 : decode cX5_init 93 = .ok (.putfield 56, 3) := by decide +kernel
theorem dX5_init_96 : decode cX5_init 96 = .ok (.iconst 0, 1) := by decide +kernel
theorem dX5_init_97 : decode cX5_init 97 = .ok (.istore_n 3, 1) := by decide +kernel
theorem dX5_init_98 : decode cX5_init 98 = .ok (.iload_n 3, 1) := by decide +kernel
theorem dX5_init_99 : decode cX5_init 99 = .ok (.aload_n 0, 1) := by decide +kernel
theorem dX5_init_100 : decode cX5_init 100 = .ok (.getfield 56, 3) := by decide +kernel
theorem dX5_init_103 : decode cX5_init 103 = .ok (.arraylength, 1) := by decide +kernel
theorem dX5_init_104 : decode cX5_init 104 = .ok (.if_icmp .ge 22, 3) := by decide +kernel
theorem dX5_init_107 : decode cX5_init 107 = .ok (.aload_n 0, 1) := by decide +kernel
theorem dX5_init_108 : decode cX5_init 108 = .ok (.getfield 56, 3) := by decide +kernel
theorem dX5_init_111 : decode cX5_init 111 = .ok (.iload_n 3, 1) := by decide +kernel
theorem dX5_init_112 : decode cX5_init 112 = .ok (.new 28, 3) := by decide +kernel
theorem dX5_init_115 : decode cX5_init 115 = .ok (.dup, 1) := by decide +kernel
theorem dX5_init_116 : decode cX5_init 116 = .ok (.invokespecial 30, 3) := by decide +kernel
theorem dX5_init_119 : decode cX5_init 119 = .ok (.aastore, 1) := by decide +kernel
theorem dX5_init_120 : decode cX5_init 120 = .ok (.iinc 3 1, 3) := by decide +kernel
theorem dX5_init_123 : decode cX5_init 123 = .ok (.goto (-25), 3) := by decide +kernel
theorem dX5_init_126 : decode cX5_init 126 = .ok (.return_, 1) := by decide +kernel
theorem dX5_type_0 : decode cX5_type 0 = .ok (.iload_n 1, 1) := by decide +kernel
theorem dX5_type_1 : decode cX5_type 1 = .ok (.bipush 32, 2) := by decide +kernel
theorem dX5_type_3 : decode cX5_type 3 = .ok (.if_icmp .lt 9, 3) := by decide +kernel
theorem dX5_type_6 : decode cX5_type 6 = .ok (.iload_n 1, 1) := by decide +kernel
theorem dX5_type_7 : decode cX5_type 7 = .ok (.bipush 126, 2) := by decide +kernel
theorem dX5_type_9 : decode cX5_type 9 = .ok (.if_icmp .le 6, 3) := by decide +kernel
theorem dX5_type_12 : decode cX5_type 12 = .ok (.bipush (-2), 2) := by decide +kernel
theorem dX5_type_14 : decode cX5_type 14 = .ok (.ireturn, 1) := by decide +kernel
theorem dX5_type_15 : decode cX5_type 15 = .ok (.aload_n 0, 1) := by decide +kernel
theorem dX5_type_16 : decode cX5_type 16 = .ok (.getfield 38, 3) := by decide +kernel
theorem dX5_type_19 : decode cX5_type 19 = .ok (.invokevirtual 60, 3) := by decide +kernel
theorem dX5_type_22 : decode cX5_type 22 = .ok (.ifCond .eq 6, 3) := by decide +kernel
theorem dX5_type_25 : decode cX5_type 25 = .ok (.bipush (-4), 2) := by decide +kernel
theorem dX5_type_27 : decode cX5_type 27 = .ok (.ireturn, 1) := by decide +kernel
theorem dX5_type_28 : decode cX5_type 28 = .ok (.aload_n 0, 1) := by decide +kernel
theorem dX5_type_29 : decode cX5_type 29 = .ok (.getfield 38, 3) := by decide +kernel
theorem dX5_type_32 : decode cX5_type 32 = .ok (.iload_n 1, 1) := by decide +kernel
theorem dX5_type_33 : decode cX5_type 33 = .ok (.i2c, 1) := by decide +kernel
theorem dX5_type_34 : decode cX5_type 34 = .ok (.invokevirtual 24, 3) := by decide +kernel
theorem dX5_type_37 : decode cX5_type 37 = .ok (.aload_n 0, 1) := by decide +kernel
theorem dX5_type_38 : decode cX5_type 38 = .ok (.getfield 38, 3) := by decide +kernel
theorem dX5_type_41 : decode cX5_type 41 = .ok (.invokevirtual 64, 3) := by decide +kernel
theorem dX5_type_44 : decode cX5_type 44 = .ok (.ireturn, 1) := by decide +kernel
theorem dX5_clear_0 : decode cX5_clear 0 = .ok (.aload_n 0, 1) := by decide +kernel
theorem dX5_clear_1 : decode cX5_clear 1 = .ok (.getfield 38, 3) := by decide +kernel
theorem dX5_clear_4 : decode cX5_clear 4 = .ok (.invokevirtual 64, 3) := by decide +kernel
theorem dX5_clear_7 : decode cX5_clear 7 = .ok (.istore_n 1, 1) := by decide +kernel
theorem dX5_clear_8 : decode cX5_clear 8 = .ok (.aload_n 0, 1) := by decide +kernel
theorem dX5_clear_9 : decode cX5_clear 9 = .ok (.getfield 38, 3) := by decide +kernel
theorem dX5_clear_12 : decode cX5_clear 12 = .ok (.invokevirtual 35, 3) := by decide +kernel
theorem dX5_clear_15 : decode cX5_clear 15 = .ok (.iload_n 1, 1) := by decide +kernel
theorem dX5_clear_16 : decode cX5_clear 16 = .ok (.ireturn, 1) := by decide +kernel
theorem dX5_fault_0 : decode cX5_fault 0 = .ok (.aload_n 0, 1) := by decide +kernel
theorem dX5_fault_1 : decode cX5_fault 1 = .ok (.getfield 38, 3) := by decide +kernel
theorem dX5_fault_4 : decode cX5_fault 4 = .ok (.invokevirtual 65, 3) := by decide +kernel
theorem dX5_fault_7 : decode cX5_fault 7 = .ok (.ireturn, 1) := by decide +kernel
theorem dX5_layTrack_0 : decode cX5_layTrack 0 = .ok (.aload_n 0, 1) := by decide +kernel
theorem dX5_layTrack_1 : decode cX5_layTrack 1 = .ok (.getfield 38, 3) := by decide +kernel
theorem dX5_layTrack_4 : decode cX5_layTrack 4 = .ok (.invokevirtual 65, 3) := by decide +kernel
theorem dX5_layTrack_7 : decode cX5_layTrack 7 = .ok (.iconst (-1), 1) := by decide +kernel
theorem dX5_layTrack_8 : decode cX5_layTrack 8 = .ok (.if_icmp .eq 6, 3) := by decide +kernel
theorem dX5_layTrack_11 : decode cX5_layTrack 11 = .ok (.bipush (-3), 2) := by decide +kernel
theorem dX5_layTrack_13 : decode cX5_layTrack 13 = .ok (.ireturn, 1) := by decide +kernel
theorem dX5_layTrack_14 : decode cX5_layTrack 14 = .ok (.aload_n 0, 1) := by decide +kernel
theorem dX5_layTrack_15 : decode cX5_layTrack 15 = .ok (.getfield 52, 3) := by decide +kernel
theorem dX5_layTrack_18 : decode cX5_layTrack 18 = .ok (.aload_n 0, 1) := by decide +kernel
theorem dX5_layTrack_19 : decode cX5_layTrack 19 = .ok (.getfield 42, 3) := by decide +kernel
theorem dX5_layTrack_22 : decode cX5_layTrack 22 = .ok (.invokevirtual 68, 3) := by decide +kernel
theorem dX5_layTrack_25 : decode cX5_layTrack 25 = .ok (.aload_n 0, 1) := by decide +kernel
theorem dX5_layTrack_26 : decode cX5_layTrack 26 = .ok (.getfield 42, 3) := by decide +kernel
theorem dX5_layTrack_29 : decode cX5_layTrack 29 = .ok (.invokevirtual 71, 3) := by decide +kernel
theorem dX5_layTrack_32 : decode cX5_layTrack 32 = .ok (.aload_n 0, 1) := by decide +kernel
theorem dX5_layTrack_33 : decode cX5_layTrack 33 = .ok (.getfield 38, 3) := by decide +kernel
theorem dX5_layTrack_36 : decode cX5_layTrack 36 = .ok (.aload_n 0, 1) := by decide +kernel
theorem dX5_layTrack_37 : decode cX5_layTrack 37 = .ok (.getfield 42, 3) := by decide +kernel
theorem dX5_layTrack_40 : decode cX5_layTrack 40 = .ok (.invokevirtual 31, 3) := by decide +kernel
theorem dX5_layTrack_43 : decode cX5_layTrack 43 = .ok (.aload_n 0, 1) := by decide +kernel
theorem dX5_layTrack_44 : decode cX5_layTrack 44 = .ok (.getfield 38, 3) := by decide +kernel
theorem dX5_layTrack_47 : decode cX5_layTrack 47 = .ok (.invokevirtual 35, 3) := by decide +kernel
theorem dX5_layTrack_50 : decode cX5_layTrack 50 = .ok (.aload_n 0, 1) := by decide +kernel
theorem dX5_layTrack_51 : decode cX5_layTrack 51 = .ok (.getfield 42, 3) := by decide +kernel
theorem dX5_layTrack_54 : decode cX5_layTrack 54 = .ok (.getfield 74, 3) := by decide +kernel
theorem dX5_layTrack_57 : decode cX5_layTrack 57 = .ok (.ireturn, 1) := by decide +kernel
theorem dX5_set_0 : decode cX5_set 0 = .ok (.iload_n 1, 1) := by decide +kernel
theorem dX5_set_1 : decode cX5_set 1 = .ok (.invokestatic 78, 3) := by decide +kernel
theorem dX5_set_4 : decode cX5_set 4 = .ok (.ifCond .eq 21, 3) := by decide +kernel
theorem dX5_set_7 : decode cX5_set 7 = .ok (.iload_n 2, 1) := by decide +kernel
theorem dX5_set_8 : decode cX5_set 8 = .ok (.getstatic 82, 3) := by decide +kernel
theorem dX5_set_11 : decode cX5_set 11 = .ok (.iload_n 1, 1) := by decide +kernel
theorem dX5_set_12 : decode cX5_set 12 = .ok (.iaload, 1) := by decide +kernel
theorem dX5_set_13 : decode cX5_set 13 = .ok (.if_icmp .lt 12, 3) := by decide +kernel
theorem dX5_set_16 : decode cX5_set 16 = .ok (.iload_n 2, 1) := by decide +kernel
theorem dX5_set_17 : decode cX5_set 17 = .ok (.getstatic 86, 3) := by decide +kernel
theorem dX5_set_20 : decode cX5_set 20 = .ok (.iload_n 1, 1) := by decide +kernel
theorem dX5_set_21 : decode cX5_set 21 = .ok (.iaload, 1) := by decide +kernel
theorem dX5_set_22 : decode cX5_set 22 = .ok (.if_icmp .le 6, 3) := by decide +kernel
theorem dX5_set_25 : decode cX5_set 25 = .ok (.bipush (-2), 2) := by decide +kernel
theorem dX5_set_27 : decode cX5_set 27 = .ok (.ireturn, 1) := by decide +kernel
theorem dX5_set_28 : decode cX5_set 28 = .ok (.aload_n 0, 1) := by decide +kernel
theorem dX5_set_29 : decode cX5_set 29 = .ok (.getfield 52, 3) := by decide +kernel
theorem dX5_set_32 : decode cX5_set 32 = .ok (.aload_n 0, 1) := by decide +kernel
theorem dX5_set_33 : decode cX5_set 33 = .ok (.getfield 42, 3) := by decide +kernel
theorem dX5_set_36 : decode cX5_set 36 = .ok (.invokevirtual 68, 3) := by decide +kernel
theorem dX5_set_39 : decode cX5_set 39 = .ok (.aload_n 0, 1) := by decide +kernel
theorem dX5_set_40 : decode cX5_set 40 = .ok (.getfield 42, 3) := by decide +kernel
theorem dX5_set_43 : decode cX5_set 43 = .ok (.getfield 89, 3) := by decide +kernel
theorem dX5_set_46 : decode cX5_set 46 = .ok (.iload_n 1, 1) := by decide +kernel
theorem dX5_set_47 : decode cX5_set 47 = .ok (.iaload, 1) := by decide +kernel
theorem dX5_set_48 : decode cX5_set 48 = .ok (.istore_n 3, 1) := by decide +kernel
theorem dX5_set_49 : decode cX5_set 49 = .ok (.aload_n 0, 1) := by decide +kernel
theorem dX5_set_50 : decode cX5_set 50 = .ok (.getfield 42, 3) := by decide +kernel
theorem dX5_set_53 : decode cX5_set 53 = .ok (.getfield 89, 3) := by decide +kernel
theorem dX5_set_56 : decode cX5_set 56 = .ok (.iload_n 1, 1) := by decide +kernel
theorem dX5_set_57 : decode cX5_set 57 = .ok (.iload_n 2, 1) := by decide +kernel
theorem dX5_set_58 : decode cX5_set 58 = .ok (.iastore, 1) := by decide +kernel
theorem dX5_set_59 : decode cX5_set 59 = .ok (.iload_n 3, 1) := by decide +kernel
theorem dX5_set_60 : decode cX5_set 60 = .ok (.ireturn, 1) := by decide +kernel
theorem dX5_dig_0 : decode cX5_dig 0 = .ok (.iload_n 1, 1) := by decide +kernel
theorem dX5_dig_1 : decode cX5_dig 1 = .ok (.iconst 1, 1) := by decide +kernel
theorem dX5_dig_2 : decode cX5_dig 2 = .ok (.if_icmp .lt 10, 3) := by decide +kernel
theorem dX5_dig_5 : decode cX5_dig 5 = .ok (.iload_n 1, 1) := by decide +kernel
theorem dX5_dig_6 : decode cX5_dig 6 = .ok (.sipush 1000, 3) := by decide +kernel
theorem dX5_dig_9 : decode cX5_dig 9 = .ok (.if_icmp .le 6, 3) := by decide +kernel
theorem dX5_dig_12 : decode cX5_dig 12 = .ok (.bipush (-2), 2) := by decide +kernel
theorem dX5_dig_14 : decode cX5_dig 14 = .ok (.ireturn, 1) := by decide +kernel
theorem dX5_dig_15 : decode cX5_dig 15 = .ok (.aload_n 0, 1) := by decide +kernel
theorem dX5_dig_16 : decode cX5_dig 16 = .ok (.getfield 42, 3) := by decide +kernel
theorem dX5_dig_19 : decode cX5_dig 19 = .ok (.getfield 92, 3) := by decide +kernel
theorem dX5_dig_22 : decode cX5_dig 22 = .ok (.iload_n 1, 1) := by decide +kernel
theorem dX5_dig_23 : decode cX5_dig 23 = .ok (.iadd, 1) := by decide +kernel
theorem dX5_dig_24 : decode cX5_dig 24 = .ok (.sipush 5000, 3) := by decide +kernel
theorem dX5_dig_27 : decode cX5_dig 27 = .ok (.if_icmp .le 6, 3) := by decide +kernel
theorem dX5_dig_30 : decode cX5_dig 30 = .ok (.bipush (-4), 2) := by decide +kernel
theorem dX5_dig_32 : decode cX5_dig 32 = .ok (.ireturn, 1) := by decide +kernel
theorem dX5_dig_33 : decode cX5_dig 33 = .ok (.aload_n 0, 1) := by decide +kernel
theorem dX5_dig_34 : decode cX5_dig 34 = .ok (.getfield 52, 3) := by decide +kernel
theorem dX5_dig_37 : decode cX5_dig 37 = .ok (.aload_n 0, 1) := by decide +kernel
theorem dX5_dig_38 : decode cX5_dig 38 = .ok (.getfield 42, 3) := by decide +kernel
theorem dX5_dig_41 : decode cX5_dig 41 = .ok (.invokevirtual 68, 3) := by decide +kernel
theorem dX5_dig_44 : decode cX5_dig 44 = .ok (.aload_n 0, 1) := by decide +kernel
theorem dX5_dig_45 : decode cX5_dig 45 = .ok (.getfield 42, 3) := by decide +kernel
theorem dX5_dig_48 : decode cX5_dig 48 = .ok (.dup, 1) := by decide +kernel
theorem dX5_dig_49 : decode cX5_dig 49 = .ok (.getfield 92, 3) := by decide +kernel
theorem dX5_dig_52 : decode cX5_dig 52 = .ok (.iload_n 1, 1) := by decide +kernel
theorem dX5_dig_53 : decode cX5_dig 53 = .ok (.iadd, 1) := by decide +kernel
theorem dX5_dig_54 : decode cX5_dig 54 = .ok (.putfield 92, 3) := by decide +kernel
theorem dX5_dig_57 : decode cX5_dig 57 = .ok (.aload_n 0, 1) := by decide +kernel
theorem dX5_dig_58 : decode cX5_dig 58 = .ok (.getfield 42, 3) := by decide +kernel
theorem dX5_dig_61 : decode cX5_dig 61 = .ok (.dup, 1) := by decide +kernel
theorem dX5_dig_62 : decode cX5_dig 62 = .ok (.getfield 95, 3) := by decide +kernel
theorem dX5_dig_65 : decode cX5_dig 65 = .ok (.iload_n 1, 1) := by decide +kernel
theorem dX5_dig_66 : decode cX5_dig 66 = .ok (.iadd, 1) := by decide +kernel
theorem dX5_dig_67 : decode cX5_dig 67 = .ok (.putfield 95, 3) := by decide +kernel
theorem dX5_dig_70 : decode cX5_dig 70 = .ok (.aload_n 0, 1) := by decide +kernel
theorem dX5_dig_71 : decode cX5_dig 71 = .ok (.getfield 42, 3) := by decide +kernel
theorem dX5_dig_74 : decode cX5_dig 74 = .ok (.getfield 92, 3) := by decide +kernel
theorem dX5_dig_77 : decode cX5_dig 77 = .ok (.ireturn, 1) := by decide +kernel
theorem dX5_addTrain_0 : decode cX5_addTrain 0 = .ok (.iload_n 1, 1) := by decide +kernel
theorem dX5_addTrain_1 : decode cX5_addTrain 1 = .ok (.iconst 1, 1) := by decide +kernel
theorem dX5_addTrain_2 : decode cX5_addTrain 2 = .ok (.if_icmp .lt 16, 3) := by decide +kernel
theorem dX5_addTrain_5 : decode cX5_addTrain 5 = .ok (.iload_n 1, 1) := by decide +kernel
theorem dX5_addTrain_6 : decode cX5_addTrain 6 = .ok (.bipush 6, 2) := by decide +kernel
theorem dX5_addTrain_8 : decode cX5_addTrain 8 = .ok (.if_icmp .gt 10, 3) := by decide +kernel
theorem dX5_addTrain_11 : decode cX5_addTrain 11 = .ok (.iload_n 2, 1) := by decide +kernel
theorem dX5_addTrain_12 : decode cX5_addTrain 12 = .ok (.invokestatic 98, 3) := by decide +kernel
theorem dX5_addTrain_15 : decode cX5_addTrain 15 = .ok (.ifCond .ne 6, 3) := by decide +kernel
theorem dX5_addTrain_18 : decode cX5_addTrain 18 = .ok (.bipush (-2), 2) := by decide +kernel
theorem dX5_addTrain_20 : decode cX5_addTrain 20 = .ok (.ireturn, 1) := by decide +kernel
theorem dX5_addTrain_21 : decode cX5_addTrain 21 = .ok (.aload_n 0, 1) := by decide +kernel
theorem dX5_addTrain_22 : decode cX5_addTrain 22 = .ok (.getfield 42, 3) := by decide +kernel
theorem dX5_addTrain_25 : decode cX5_addTrain 25 = .ok (.getfield 101, 3) := by decide +kernel
theorem dX5_addTrain_28 : decode cX5_addTrain 28 = .ok (.iconst 4, 1) := by decide +kernel
theorem dX5_addTrain_29 : decode cX5_addTrain 29 = .ok (.if_icmp .lt 6, 3) := by decide +kernel
theorem dX5_addTrain_32 : decode cX5_addTrain 32 = .ok (.bipush (-4), 2) := by decide +kernel
theorem dX5_addTrain_34 : decode cX5_addTrain 34 = .ok (.ireturn, 1) := by decide +kernel
theorem dX5_addTrain_35 : decode cX5_addTrain 35 = .ok (.aload_n 0, 1) := by decide +kernel
theorem dX5_addTrain_36 : decode cX5_addTrain 36 = .ok (.getfield 52, 3) := by decide +kernel
theorem dX5_addTrain_39 : decode cX5_addTrain 39 = .ok (.aload_n 0, 1) := by decide +kernel
theorem dX5_addTrain_40 : decode cX5_addTrain 40 = .ok (.getfield 42, 3) := by decide +kernel
theorem dX5_addTrain_43 : decode cX5_addTrain 43 = .ok (.invokevirtual 68, 3) := by decide +kernel
theorem dX5_addTrain_46 : decode cX5_addTrain 46 = .ok (.aload_n 0, 1) := by decide +kernel
theorem dX5_addTrain_47 : decode cX5_addTrain 47 = .ok (.getfield 42, 3) := by decide +kernel
theorem dX5_addTrain_50 : decode cX5_addTrain 50 = .ok (.iload_n 1, 1) := by decide +kernel
theorem dX5_addTrain_51 : decode cX5_addTrain 51 = .ok (.iload_n 2, 1) := by decide +kernel
theorem dX5_addTrain_52 : decode cX5_addTrain 52 = .ok (.invokevirtual 104, 3) := by decide +kernel
theorem dX5_addTrain_55 : decode cX5_addTrain 55 = .ok (.ireturn, 1) := by decide +kernel
theorem dX5_dropTrain_0 : decode cX5_dropTrain 0 = .ok (.aload_n 0, 1) := by decide +kernel
theorem dX5_dropTrain_1 : decode cX5_dropTrain 1 = .ok (.getfield 42, 3) := by decide +kernel
theorem dX5_dropTrain_4 : decode cX5_dropTrain 4 = .ok (.iload_n 1, 1) := by decide +kernel
theorem dX5_dropTrain_5 : decode cX5_dropTrain 5 = .ok (.invokevirtual 108, 3) := by decide +kernel
theorem dX5_dropTrain_8 : decode cX5_dropTrain 8 = .ok (.astore_n 2, 1) := by decide +kernel
theorem dX5_dropTrain_9 : decode cX5_dropTrain 9 = .ok (.aload_n 2, 1) := by decide +kernel
theorem dX5_dropTrain_10 : decode cX5_dropTrain 10 = .ok (.ifnonnull 6, 3) := by decide +kernel
theorem dX5_dropTrain_13 : decode cX5_dropTrain 13 = .ok (.bipush (-2), 2) := by decide +kernel
theorem dX5_dropTrain_15 : decode cX5_dropTrain 15 = .ok (.ireturn, 1) := by decide +kernel
theorem dX5_dropTrain_16 : decode cX5_dropTrain 16 = .ok (.aload_n 0, 1) := by decide +kernel
theorem dX5_dropTrain_17 : decode cX5_dropTrain 17 = .ok (.getfield 52, 3) := by decide +kernel
theorem dX5_dropTrain_20 : decode cX5_dropTrain 20 = .ok (.aload_n 0, 1) := by decide +kernel
theorem dX5_dropTrain_21 : decode cX5_dropTrain 21 = .ok (.getfield 42, 3) := by decide +kernel
theorem dX5_dropTrain_24 : decode cX5_dropTrain 24 = .ok (.invokevirtual 68, 3) := by decide +kernel
theorem dX5_dropTrain_27 : decode cX5_dropTrain 27 = .ok (.aload_n 2, 1) := by decide +kernel
theorem dX5_dropTrain_28 : decode cX5_dropTrain 28 = .ok (.getfield 112, 3) := by decide +kernel
theorem dX5_dropTrain_31 : decode cX5_dropTrain 31 = .ok (.istore_n 3, 1) := by decide +kernel
theorem dX5_dropTrain_32 : decode cX5_dropTrain 32 = .ok (.aload_n 0, 1) := by decide +kernel
theorem dX5_dropTrain_33 : decode cX5_dropTrain 33 = .ok (.getfield 42, 3) := by decide +kernel
theorem dX5_dropTrain_36 : decode cX5_dropTrain 36 = .ok (.iload_n 1, 1) := by decide +kernel
theorem dX5_dropTrain_37 : decode cX5_dropTrain 37 = .ok (.invokevirtual 117, 3) := by decide +kernel
theorem dX5_dropTrain_40 : decode cX5_dropTrain 40 = .ok (.iload_n 3, 1) := by decide +kernel
theorem dX5_dropTrain_41 : decode cX5_dropTrain 41 = .ok (.ireturn, 1) := by decide +kernel
theorem dX5_setLoad_0 : decode cX5_setLoad 0 = .ok (.aload_n 0, 1) := by decide +kernel
theorem dX5_setLoad_1 : decode cX5_setLoad 1 = .ok (.getfield 42, 3) := by decide +kernel
theorem dX5_setLoad_4 : decode cX5_setLoad 4 = .ok (.iload_n 1, 1) := by decide +kernel
theorem dX5_setLoad_5 : decode cX5_setLoad 5 = .ok (.invokevirtual 108, 3) := by decide +kernel
theorem dX5_setLoad_8 : decode cX5_setLoad 8 = .ok (.astore_n 3, 1) := by decide +kernel
theorem dX5_setLoad_9 : decode cX5_setLoad 9 = .ok (.aload_n 3, 1) := by decide +kernel
theorem dX5_setLoad_10 : decode cX5_setLoad 10 = .ok (.ifnull 10, 3) := by decide +kernel
theorem dX5_setLoad_13 : decode cX5_setLoad 13 = .ok (.iload_n 2, 1) := by decide +kernel
theorem dX5_setLoad_14 : decode cX5_setLoad 14 = .ok (.invokestatic 98, 3) := by decide +kernel
theorem dX5_setLoad_17 : decode cX5_setLoad 17 = .ok (.ifCond .ne 6, 3) := by decide +kernel
theorem dX5_setLoad_20 : decode cX5_setLoad 20 = .ok (.bipush (-2), 2) := by decide +kernel
theorem dX5_setLoad_22 : decode cX5_setLoad 22 = .ok (.ireturn, 1) := by decide +kernel
theorem dX5_setLoad_23 : decode cX5_setLoad 23 = .ok (.aload_n 0, 1) := by decide +kernel
theorem dX5_setLoad_24 : decode cX5_setLoad 24 = .ok (.getfield 52, 3) := by decide +kernel
theorem dX5_setLoad_27 : decode cX5_setLoad 27 = .ok (.aload_n 0, 1) := by decide +kernel
theorem dX5_setLoad_28 : decode cX5_setLoad 28 = .ok (.getfield 42, 3) := by decide +kernel
theorem dX5_setLoad_31 : decode cX5_setLoad 31 = .ok (.invokevirtual 68, 3) := by decide +kernel
theorem dX5_setLoad_34 : decode cX5_setLoad 34 = .ok (.aload_n 3, 1) := by decide +kernel
theorem dX5_setLoad_35 : decode cX5_setLoad 35 = .ok (.getfield 121, 3) := by decide +kernel
theorem dX5_setLoad_38 : decode cX5_setLoad 38 = .ok (.istore 4, 2) := by decide +kernel
theorem dX5_setLoad_40 : decode cX5_setLoad 40 = .ok (.aload_n 3, 1) := by decide +kernel
theorem dX5_setLoad_41 : decode cX5_setLoad 41 = .ok (.iload_n 2, 1) := by decide +kernel
theorem dX5_setLoad_42 : decode cX5_setLoad 42 = .ok (.putfield 121, 3) := by decide +kernel
theorem dX5_setLoad_45 : decode cX5_setLoad 45 = .ok (.iload 4, 2) := by decide +kernel
theorem dX5_setLoad_47 : decode cX5_setLoad 47 = .ok (.ireturn, 1) := by decide +kernel
theorem dX5_run_0 : decode cX5_run 0 = .ok (.iload_n 1, 1) := by decide +kernel
theorem dX5_run_1 : decode cX5_run 1 = .ok (.invokestatic 124, 3) := by decide +kernel
theorem dX5_run_4 : decode cX5_run 4 = .ok (.ifCond .ne 6, 3) := by decide +kernel
theorem dX5_run_7 : decode cX5_run 7 = .ok (.bipush (-2), 2) := by decide +kernel
theorem dX5_run_9 : decode cX5_run 9 = .ok (.ireturn, 1) := by decide +kernel
theorem dX5_run_10 : decode cX5_run 10 = .ok (.aload_n 0, 1) := by decide +kernel
theorem dX5_run_11 : decode cX5_run 11 = .ok (.getfield 52, 3) := by decide +kernel
theorem dX5_run_14 : decode cX5_run 14 = .ok (.aload_n 0, 1) := by decide +kernel
theorem dX5_run_15 : decode cX5_run 15 = .ok (.getfield 42, 3) := by decide +kernel
theorem dX5_run_18 : decode cX5_run 18 = .ok (.invokevirtual 68, 3) := by decide +kernel
theorem dX5_run_21 : decode cX5_run 21 = .ok (.aload_n 0, 1) := by decide +kernel
theorem dX5_run_22 : decode cX5_run 22 = .ok (.getfield 42, 3) := by decide +kernel
theorem dX5_run_25 : decode cX5_run 25 = .ok (.iload_n 1, 1) := by decide +kernel
theorem dX5_run_26 : decode cX5_run 26 = .ok (.invokevirtual 127, 3) := by decide +kernel
theorem dX5_run_29 : decode cX5_run 29 = .ok (.ireturn, 1) := by decide +kernel
theorem dX5_undo_0 : decode cX5_undo 0 = .ok (.aload_n 0, 1) := by decide +kernel
theorem dX5_undo_1 : decode cX5_undo 1 = .ok (.getfield 52, 3) := by decide +kernel
theorem dX5_undo_4 : decode cX5_undo 4 = .ok (.invokevirtual 131, 3) := by decide +kernel
theorem dX5_undo_7 : decode cX5_undo 7 = .ok (.ifCond .ne 6, 3) := by decide +kernel
theorem dX5_undo_10 : decode cX5_undo 10 = .ok (.bipush (-3), 2) := by decide +kernel
theorem dX5_undo_12 : decode cX5_undo 12 = .ok (.ireturn, 1) := by decide +kernel
theorem dX5_undo_13 : decode cX5_undo 13 = .ok (.aload_n 0, 1) := by decide +kernel
theorem dX5_undo_14 : decode cX5_undo 14 = .ok (.getfield 52, 3) := by decide +kernel
theorem dX5_undo_17 : decode cX5_undo 17 = .ok (.aload_n 0, 1) := by decide +kernel
theorem dX5_undo_18 : decode cX5_undo 18 = .ok (.getfield 42, 3) := by decide +kernel
theorem dX5_undo_21 : decode cX5_undo 21 = .ok (.invokevirtual 134, 3) := by decide +kernel
theorem dX5_undo_24 : decode cX5_undo 24 = .ok (.aload_n 0, 1) := by decide +kernel
theorem dX5_undo_25 : decode cX5_undo 25 = .ok (.getfield 52, 3) := by decide +kernel
theorem dX5_undo_28 : decode cX5_undo 28 = .ok (.invokevirtual 131, 3) := by decide +kernel
theorem dX5_undo_31 : decode cX5_undo 31 = .ok (.ireturn, 1) := by decide +kernel
theorem dX5_back_0 : decode cX5_back 0 = .ok (.iload_n 1, 1) := by decide +kernel
theorem dX5_back_1 : decode cX5_back 1 = .ok (.invokestatic 137, 3) := by decide +kernel
theorem dX5_back_4 : decode cX5_back 4 = .ok (.ifCond .ne 6, 3) := by decide +kernel
theorem dX5_back_7 : decode cX5_back 7 = .ok (.bipush (-2), 2) := by decide +kernel
theorem dX5_back_9 : decode cX5_back 9 = .ok (.ireturn, 1) := by decide +kernel
theorem dX5_back_10 : decode cX5_back 10 = .ok (.aload_n 0, 1) := by decide +kernel
theorem dX5_back_11 : decode cX5_back 11 = .ok (.getfield 143, 3) := by decide +kernel
theorem dX5_back_14 : decode cX5_back 14 = .ok (.iconst 1, 1) := by decide +kernel
theorem dX5_back_15 : decode cX5_back 15 = .ok (.iload_n 1, 1) := by decide +kernel
theorem dX5_back_16 : decode cX5_back 16 = .ok (.ishl, 1) := by decide +kernel
theorem dX5_back_17 : decode cX5_back 17 = .ok (.iand, 1) := by decide +kernel
theorem dX5_back_18 : decode cX5_back 18 = .ok (.ifCond .ne 6, 3) := by decide +kernel
theorem dX5_back_21 : decode cX5_back 21 = .ok (.bipush (-3), 2) := by decide +kernel
theorem dX5_back_23 : decode cX5_back 23 = .ok (.ireturn, 1) := by decide +kernel
theorem dX5_back_24 : decode cX5_back 24 = .ok (.aload_n 0, 1) := by decide +kernel
theorem dX5_back_25 : decode cX5_back 25 = .ok (.getfield 52, 3) := by decide +kernel
theorem dX5_back_28 : decode cX5_back 28 = .ok (.aload_n 0, 1) := by decide +kernel
theorem dX5_back_29 : decode cX5_back 29 = .ok (.getfield 42, 3) := by decide +kernel
theorem dX5_back_32 : decode cX5_back 32 = .ok (.invokevirtual 68, 3) := by decide +kernel
theorem dX5_back_35 : decode cX5_back 35 = .ok (.aload_n 0, 1) := by decide +kernel
theorem dX5_back_36 : decode cX5_back 36 = .ok (.getfield 42, 3) := by decide +kernel
theorem dX5_back_39 : decode cX5_back 39 = .ok (.aload_n 0, 1) := by decide +kernel
theorem dX5_back_40 : decode cX5_back 40 = .ok (.getfield 56, 3) := by decide +kernel
theorem dX5_back_43 : decode cX5_back 43 = .ok (.iload_n 1, 1) := by decide +kernel
theorem dX5_back_44 : decode cX5_back 44 = .ok (.aaload, 1) := by decide +kernel
theorem dX5_back_45 : decode cX5_back 45 = .ok (.invokevirtual 140, 3) := by decide +kernel
theorem dX5_back_48 : decode cX5_back 48 = .ok (.aload_n 0, 1) := by decide +kernel
theorem dX5_back_49 : decode cX5_back 49 = .ok (.getfield 42, 3) := by decide +kernel
theorem dX5_back_52 : decode cX5_back 52 = .ok (.getfield 146, 3) := by decide +kernel
theorem dX5_back_55 : decode cX5_back 55 = .ok (.ireturn, 1) := by decide +kernel
theorem dX5_segment_0 : decode cX5_segment 0 = .ok (.aload_n 0, 1) := by decide +kernel
theorem dX5_segment_1 : decode cX5_segment 1 = .ok (.getfield 42, 3) := by decide +kernel
theorem dX5_segment_4 : decode cX5_segment 4 = .ok (.iload_n 1, 1) := by decide +kernel
theorem dX5_segment_5 : decode cX5_segment 5 = .ok (.invokevirtual 149, 3) := by decide +kernel
theorem dX5_segment_8 : decode cX5_segment 8 = .ok (.astore_n 3, 1) := by decide +kernel
theorem dX5_segment_9 : decode cX5_segment 9 = .ok (.aload_n 3, 1) := by decide +kernel
theorem dX5_segment_10 : decode cX5_segment 10 = .ok (.ifnonnull 6, 3) := by decide +kernel
theorem dX5_segment_13 : decode cX5_segment 13 = .ok (.bipush (-2), 2) := by decide +kernel
theorem dX5_segment_15 : decode cX5_segment 15 = .ok (.ireturn, 1) := by decide +kernel
theorem dX5_segment_16 : decode cX5_segment 16 = .ok (.iload_n 2, 1) := by decide +kernel
theorem dX5_segment_17 : decode cX5_segment 17 = .ok (.tableswitch 121 0 6 #[43, 48, 61, 66, 75, 84, 98], 43) := by decide +kernel
theorem dX5_segment_60 : decode cX5_segment 60 = .ok (.aload_n 3, 1) := by decide +kernel
theorem dX5_segment_61 : decode cX5_segment 61 = .ok (.getfield 153, 3) := by decide +kernel
theorem dX5_segment_64 : decode cX5_segment 64 = .ok (.ireturn, 1) := by decide +kernel
theorem dX5_segment_65 : decode cX5_segment 65 = .ok (.aload_n 3, 1) := by decide +kernel
theorem dX5_segment_66 : decode cX5_segment 66 = .ok (.invokevirtual 158, 3) := by decide +kernel
theorem dX5_segment_69 : decode cX5_segment 69 = .ok (.ifCond .eq 7, 3) := by decide +kernel
theorem dX5_segment_72 : decode cX5_segment 72 = .ok (.iconst 1, 1) := by decide +kernel
theorem dX5_segment_73 : decode cX5_segment 73 = .ok (.goto 4, 3) := by decide +kernel
theorem dX5_segment_76 : decode cX5_segment 76 = .ok (.iconst 0, 1) := by decide +kernel
theorem dX5_segment_77 : decode cX5_segment 77 = .ok (.ireturn, 1) := by decide +kernel
theorem dX5_segment_78 : decode cX5_segment 78 = .ok (.aload_n 3, 1) := by decide +kernel
theorem dX5_segment_79 : decode cX5_segment 79 = .ok (.getfield 161, 3) := by decide +kernel
theorem dX5_segment_82 : decode cX5_segment 82 = .ok (.ireturn, 1) := by decide +kernel
theorem dX5_segment_83 : decode cX5_segment 83 = .ok (.aload_n 0, 1) := by decide +kernel
theorem dX5_segment_84 : decode cX5_segment 84 = .ok (.getfield 42, 3) := by decide +kernel
theorem dX5_segment_87 : decode cX5_segment 87 = .ok (.iload_n 1, 1) := by decide +kernel
theorem dX5_segment_88 : decode cX5_segment 88 = .ok (.invokevirtual 164, 3) := by decide +kernel
theorem dX5_segment_91 : decode cX5_segment 91 = .ok (.ireturn, 1) := by decide +kernel
theorem dX5_segment_92 : decode cX5_segment 92 = .ok (.aload_n 0, 1) := by decide +kernel
theorem dX5_segment_93 : decode cX5_segment 93 = .ok (.getfield 42, 3) := by decide +kernel
theorem dX5_segment_96 : decode cX5_segment 96 = .ok (.iload_n 1, 1) := by decide +kernel
theorem dX5_segment_97 : decode cX5_segment 97 = .ok (.invokevirtual 167, 3) := by decide +kernel
theorem dX5_segment_100 : decode cX5_segment 100 = .ok (.ireturn, 1) := by decide +kernel
theorem dX5_segment_101 : decode cX5_segment 101 = .ok (.aload_n 3, 1) := by decide +kernel
theorem dX5_segment_102 : decode cX5_segment 102 = .ok (.getfield 170, 3) := by decide +kernel
theorem dX5_segment_105 : decode cX5_segment 105 = .ok (.aload_n 0, 1) := by decide +kernel
theorem dX5_segment_106 : decode cX5_segment 106 = .ok (.getfield 42, 3) := by decide +kernel
theorem dX5_segment_109 : decode cX5_segment 109 = .ok (.iload_n 1, 1) := by decide +kernel
theorem dX5_segment_110 : decode cX5_segment 110 = .ok (.invokevirtual 164, 3) := by decide +kernel
theorem dX5_segment_113 : decode cX5_segment 113 = .ok (.isub, 1) := by decide +kernel
theorem dX5_segment_114 : decode cX5_segment 114 = .ok (.ireturn, 1) := by decide +kernel
theorem dX5_segment_115 : decode cX5_segment 115 = .ok (.aload_n 3, 1) := by decide +kernel
theorem dX5_segment_116 : decode cX5_segment 116 = .ok (.aload_n 0, 1) := by decide +kernel
theorem dX5_segment_117 : decode cX5_segment 117 = .ok (.getfield 42, 3) := by decide +kernel
theorem dX5_segment_120 : decode cX5_segment 120 = .ok (.getfield 89, 3) := by decide +kernel
theorem dX5_segment_123 : decode cX5_segment 123 = .ok (.iconst 0, 1) := by decide +kernel
theorem dX5_segment_124 : decode cX5_segment 124 = .ok (.iaload, 1) := by decide +kernel
theorem dX5_segment_125 : decode cX5_segment 125 = .ok (.aload_n 0, 1) := by decide +kernel
theorem dX5_segment_126 : decode cX5_segment 126 = .ok (.getfield 42, 3) := by decide +kernel
theorem dX5_segment_129 : decode cX5_segment 129 = .ok (.getfield 89, 3) := by decide +kernel
theorem dX5_segment_132 : decode cX5_segment 132 = .ok (.iconst 1, 1) := by decide +kernel
theorem dX5_segment_133 : decode cX5_segment 133 = .ok (.iaload, 1) := by decide +kernel
theorem dX5_segment_134 : decode cX5_segment 134 = .ok (.invokevirtual 173, 3) := by decide +kernel
theorem dX5_segment_137 : decode cX5_segment 137 = .ok (.ireturn, 1) := by decide +kernel
theorem dX5_segment_138 : decode cX5_segment 138 = .ok (.bipush (-2), 2) := by decide +kernel
theorem dX5_segment_140 : decode cX5_segment 140 = .ok (.ireturn, 1) := by decide +kernel
theorem dX5_train_0 : decode cX5_train 0 = .ok (.aload_n 0, 1) := by decide +kernel
theorem dX5_train_1 : decode cX5_train 1 = .ok (.getfield 42, 3) := by decide +kernel
theorem dX5_train_4 : decode cX5_train 4 = .ok (.iload_n 1, 1) := by decide +kernel
theorem dX5_train_5 : decode cX5_train 5 = .ok (.invokevirtual 108, 3) := by decide +kernel
theorem dX5_train_8 : decode cX5_train 8 = .ok (.astore_n 3, 1) := by decide +kernel
theorem dX5_train_9 : decode cX5_train 9 = .ok (.aload_n 3, 1) := by decide +kernel
theorem dX5_train_10 : decode cX5_train 10 = .ok (.ifnonnull 6, 3) := by decide +kernel
theorem dX5_train_13 : decode cX5_train 13 = .ok (.bipush (-2), 2) := by decide +kernel
theorem dX5_train_15 : decode cX5_train 15 = .ok (.ireturn, 1) := by decide +kernel
theorem dX5_train_16 : decode cX5_train 16 = .ok (.iload_n 2, 1) := by decide +kernel
theorem dX5_train_17 : decode cX5_train 17 = .ok (.tableswitch 113 0 9 #[55, 60, 65, 70, 75, 88, 93, 98, 103, 108], 55) := by decide +kernel
theorem dX5_train_72 : decode cX5_train 72 = .ok (.aload_n 3, 1) := by decide +kernel
theorem dX5_train_73 : decode cX5_train 73 = .ok (.getfield 176, 3) := by decide +kernel
theorem dX5_train_76 : decode cX5_train 76 = .ok (.ireturn, 1) := by decide +kernel
theorem dX5_train_77 : decode cX5_train 77 = .ok (.aload_n 3, 1) := by decide +kernel
theorem dX5_train_78 : decode cX5_train 78 = .ok (.getfield 121, 3) := by decide +kernel
theorem dX5_train_81 : decode cX5_train 81 = .ok (.ireturn, 1) := by decide +kernel
theorem dX5_train_82 : decode cX5_train 82 = .ok (.aload_n 3, 1) := by decide +kernel
theorem dX5_train_83 : decode cX5_train 83 = .ok (.getfield 112, 3) := by decide +kernel
theorem dX5_train_86 : decode cX5_train 86 = .ok (.ireturn, 1) := by decide +kernel
theorem dX5_train_87 : decode cX5_train 87 = .ok (.aload_n 3, 1) := by decide +kernel
theorem dX5_train_88 : decode cX5_train 88 = .ok (.getfield 179, 3) := by decide +kernel
theorem dX5_train_91 : decode cX5_train 91 = .ok (.ireturn, 1) := by decide +kernel
theorem dX5_train_92 : decode cX5_train 92 = .ok (.aload_n 3, 1) := by decide +kernel
theorem dX5_train_93 : decode cX5_train 93 = .ok (.getfield 182, 3) := by decide +kernel
theorem dX5_train_96 : decode cX5_train 96 = .ok (.ifCond .eq 7, 3) := by decide +kernel
theorem dX5_train_99 : decode cX5_train 99 = .ok (.iconst 1, 1) := by decide +kernel
theorem dX5_train_100 : decode cX5_train 100 = .ok (.goto 4, 3) := by decide +kernel
theorem dX5_train_103 : decode cX5_train 103 = .ok (.iconst 0, 1) := by decide +kernel
theorem dX5_train_104 : decode cX5_train 104 = .ok (.ireturn, 1) := by decide +kernel
theorem dX5_train_105 : decode cX5_train 105 = .ok (.aload_n 3, 1) := by decide +kernel
theorem dX5_train_106 : decode cX5_train 106 = .ok (.getfield 186, 3) := by decide +kernel
theorem dX5_train_109 : decode cX5_train 109 = .ok (.ireturn, 1) := by decide +kernel
theorem dX5_train_110 : decode cX5_train 110 = .ok (.aload_n 3, 1) := by decide +kernel
theorem dX5_train_111 : decode cX5_train 111 = .ok (.getfield 189, 3) := by decide +kernel
theorem dX5_train_114 : decode cX5_train 114 = .ok (.ireturn, 1) := by decide +kernel
theorem dX5_train_115 : decode cX5_train 115 = .ok (.aload_n 3, 1) := by decide +kernel
theorem dX5_train_116 : decode cX5_train 116 = .ok (.getfield 192, 3) := by decide +kernel
theorem dX5_train_119 : decode cX5_train 119 = .ok (.ireturn, 1) := by decide +kernel
theorem dX5_train_120 : decode cX5_train 120 = .ok (.aload_n 3, 1) := by decide +kernel
theorem dX5_train_121 : decode cX5_train 121 = .ok (.getfield 195, 3) := by decide +kernel
theorem dX5_train_124 : decode cX5_train 124 = .ok (.ireturn, 1) := by decide +kernel
theorem dX5_train_125 : decode cX5_train 125 = .ok (.aload_n 3, 1) := by decide +kernel
theorem dX5_train_126 : decode cX5_train 126 = .ok (.invokevirtual 198, 3) := by decide +kernel
theorem dX5_train_129 : decode cX5_train 129 = .ok (.ireturn, 1) := by decide +kernel
theorem dX5_train_130 : decode cX5_train 130 = .ok (.bipush (-2), 2) := by decide +kernel
theorem dX5_train_132 : decode cX5_train 132 = .ok (.ireturn, 1) := by decide +kernel
theorem dX5_why_0 : decode cX5_why 0 = .ok (.aload_n 0, 1) := by decide +kernel
theorem dX5_why_1 : decode cX5_why 1 = .ok (.getfield 42, 3) := by decide +kernel
theorem dX5_why_4 : decode cX5_why 4 = .ok (.iload_n 1, 1) := by decide +kernel
theorem dX5_why_5 : decode cX5_why 5 = .ok (.invokevirtual 108, 3) := by decide +kernel
theorem dX5_why_8 : decode cX5_why 8 = .ok (.astore_n 2, 1) := by decide +kernel
theorem dX5_why_9 : decode cX5_why 9 = .ok (.aload_n 2, 1) := by decide +kernel
theorem dX5_why_10 : decode cX5_why 10 = .ok (.ifnonnull 6, 3) := by decide +kernel
theorem dX5_why_13 : decode cX5_why 13 = .ok (.bipush (-2), 2) := by decide +kernel
theorem dX5_why_15 : decode cX5_why 15 = .ok (.ireturn, 1) := by decide +kernel
theorem dX5_why_16 : decode cX5_why 16 = .ok (.aload_n 0, 1) := by decide +kernel
theorem dX5_why_17 : decode cX5_why 17 = .ok (.getfield 42, 3) := by decide +kernel
theorem dX5_why_20 : decode cX5_why 20 = .ok (.aload_n 2, 1) := by decide +kernel
theorem dX5_why_21 : decode cX5_why 21 = .ok (.invokevirtual 201, 3) := by decide +kernel
theorem dX5_why_24 : decode cX5_why 24 = .ok (.ireturn, 1) := by decide +kernel
theorem dX5_account_0 : decode cX5_account 0 = .ok (.iload_n 1, 1) := by decide +kernel
theorem dX5_account_1 : decode cX5_account 1 = .ok (.tableswitch 75 0 4 #[35, 43, 51, 59, 67], 35) := by decide +kernel
theorem dX5_account_36 : decode cX5_account 36 = .ok (.aload_n 0, 1) := by decide +kernel
theorem dX5_account_37 : decode cX5_account 37 = .ok (.getfield 42, 3) := by decide +kernel
theorem dX5_account_40 : decode cX5_account 40 = .ok (.getfield 95, 3) := by decide +kernel
theorem dX5_account_43 : decode cX5_account 43 = .ok (.ireturn, 1) := by decide +kernel
theorem dX5_account_44 : decode cX5_account 44 = .ok (.aload_n 0, 1) := by decide +kernel
theorem dX5_account_45 : decode cX5_account 45 = .ok (.getfield 42, 3) := by decide +kernel
theorem dX5_account_48 : decode cX5_account 48 = .ok (.getfield 92, 3) := by decide +kernel
theorem dX5_account_51 : decode cX5_account 51 = .ok (.ireturn, 1) := by decide +kernel
theorem dX5_account_52 : decode cX5_account 52 = .ok (.aload_n 0, 1) := by decide +kernel
theorem dX5_account_53 : decode cX5_account 53 = .ok (.getfield 42, 3) := by decide +kernel
theorem dX5_account_56 : decode cX5_account 56 = .ok (.invokevirtual 205, 3) := by decide +kernel
theorem dX5_account_59 : decode cX5_account 59 = .ok (.ireturn, 1) := by decide +kernel
theorem dX5_account_60 : decode cX5_account 60 = .ok (.aload_n 0, 1) := by decide +kernel
theorem dX5_account_61 : decode cX5_account 61 = .ok (.getfield 42, 3) := by decide +kernel
theorem dX5_account_64 : decode cX5_account 64 = .ok (.getfield 208, 3) := by decide +kernel
theorem dX5_account_67 : decode cX5_account 67 = .ok (.ireturn, 1) := by decide +kernel
theorem dX5_account_68 : decode cX5_account 68 = .ok (.aload_n 0, 1) := by decide +kernel
theorem dX5_account_69 : decode cX5_account 69 = .ok (.getfield 42, 3) := by decide +kernel
theorem dX5_account_72 : decode cX5_account 72 = .ok (.getfield 211, 3) := by decide +kernel
theorem dX5_account_75 : decode cX5_account 75 = .ok (.ireturn, 1) := by decide +kernel
theorem dX5_account_76 : decode cX5_account 76 = .ok (.bipush (-2), 2) := by decide +kernel
theorem dX5_account_78 : decode cX5_account 78 = .ok (.ireturn, 1) := by decide +kernel
theorem dX5_count_0 : decode cX5_count 0 = .ok (.iload_n 1, 1) := by decide +kernel
theorem dX5_count_1 : decode cX5_count 1 = .ok (.tableswitch 108 0 7 #[47, 55, 63, 71, 79, 87, 95, 100], 47) := by decide +kernel
theorem dX5_count_48 : decode cX5_count 48 = .ok (.aload_n 0, 1) := by decide +kernel
theorem dX5_count_49 : decode cX5_count 49 = .ok (.getfield 42, 3) := by decide +kernel
theorem dX5_count_52 : decode cX5_count 52 = .ok (.getfield 74, 3) := by decide +kernel
theorem dX5_count_55 : decode cX5_count 55 = .ok (.ireturn, 1) := by decide +kernel
theorem dX5_count_56 : decode cX5_count 56 = .ok (.aload_n 0, 1) := by decide +kernel
theorem dX5_count_57 : decode cX5_count 57 = .ok (.getfield 42, 3) := by decide +kernel
theorem dX5_count_60 : decode cX5_count 60 = .ok (.getfield 101, 3) := by decide +kernel
theorem dX5_count_63 : decode cX5_count 63 = .ok (.ireturn, 1) := by decide +kernel
theorem dX5_count_64 : decode cX5_count 64 = .ok (.aload_n 0, 1) := by decide +kernel
theorem dX5_count_65 : decode cX5_count 65 = .ok (.getfield 42, 3) := by decide +kernel
theorem dX5_count_68 : decode cX5_count 68 = .ok (.getfield 146, 3) := by decide +kernel
theorem dX5_count_71 : decode cX5_count 71 = .ok (.ireturn, 1) := by decide +kernel
theorem dX5_count_72 : decode cX5_count 72 = .ok (.aload_n 0, 1) := by decide +kernel
theorem dX5_count_73 : decode cX5_count 73 = .ok (.getfield 42, 3) := by decide +kernel
theorem dX5_count_76 : decode cX5_count 76 = .ok (.invokevirtual 214, 3) := by decide +kernel
theorem dX5_count_79 : decode cX5_count 79 = .ok (.ireturn, 1) := by decide +kernel
theorem dX5_count_80 : decode cX5_count 80 = .ok (.aload_n 0, 1) := by decide +kernel
theorem dX5_count_81 : decode cX5_count 81 = .ok (.getfield 42, 3) := by decide +kernel
theorem dX5_count_84 : decode cX5_count 84 = .ok (.invokevirtual 217, 3) := by decide +kernel
theorem dX5_count_87 : decode cX5_count 87 = .ok (.ireturn, 1) := by decide +kernel
theorem dX5_count_88 : decode cX5_count 88 = .ok (.aload_n 0, 1) := by decide +kernel
theorem dX5_count_89 : decode cX5_count 89 = .ok (.getfield 52, 3) := by decide +kernel
theorem dX5_count_92 : decode cX5_count 92 = .ok (.invokevirtual 131, 3) := by decide +kernel
theorem dX5_count_95 : decode cX5_count 95 = .ok (.ireturn, 1) := by decide +kernel
theorem dX5_count_96 : decode cX5_count 96 = .ok (.aload_n 0, 1) := by decide +kernel
theorem dX5_count_97 : decode cX5_count 97 = .ok (.getfield 143, 3) := by decide +kernel
theorem dX5_count_100 : decode cX5_count 100 = .ok (.ireturn, 1) := by decide +kernel
theorem dX5_count_101 : decode cX5_count 101 = .ok (.aload_n 0, 1) := by decide +kernel
theorem dX5_count_102 : decode cX5_count 102 = .ok (.getfield 42, 3) := by decide +kernel
theorem dX5_count_105 : decode cX5_count 105 = .ok (.invokevirtual 220, 3) := by decide +kernel
theorem dX5_count_108 : decode cX5_count 108 = .ok (.ireturn, 1) := by decide +kernel
theorem dX5_count_109 : decode cX5_count 109 = .ok (.bipush (-2), 2) := by decide +kernel
theorem dX5_count_111 : decode cX5_count 111 = .ok (.ireturn, 1) := by decide +kernel
theorem dX5_setting_0 : decode cX5_setting 0 = .ok (.iload_n 1, 1) := by decide +kernel
theorem dX5_setting_1 : decode cX5_setting 1 = .ok (.invokestatic 78, 3) := by decide +kernel
theorem dX5_setting_4 : decode cX5_setting 4 = .ok (.ifCond .eq 15, 3) := by decide +kernel
theorem dX5_setting_7 : decode cX5_setting 7 = .ok (.aload_n 0, 1) := by decide +kernel
theorem dX5_setting_8 : decode cX5_setting 8 = .ok (.getfield 42, 3) := by decide +kernel
theorem dX5_setting_11 : decode cX5_setting 11 = .ok (.getfield 89, 3) := by decide +kernel
theorem dX5_setting_14 : decode cX5_setting 14 = .ok (.iload_n 1, 1) := by decide +kernel
theorem dX5_setting_15 : decode cX5_setting 15 = .ok (.iaload, 1) := by decide +kernel
theorem dX5_setting_16 : decode cX5_setting 16 = .ok (.goto 5, 3) := by decide +kernel
theorem dX5_setting_19 : decode cX5_setting 19 = .ok (.bipush (-2), 2) := by decide +kernel
theorem dX5_setting_21 : decode cX5_setting 21 = .ok (.ireturn, 1) := by decide +kernel
theorem dX5_ifRun_0 : decode cX5_ifRun 0 = .ok (.iload_n 1, 1) := by decide +kernel
theorem dX5_ifRun_1 : decode cX5_ifRun 1 = .ok (.invokestatic 124, 3) := by decide +kernel
theorem dX5_ifRun_4 : decode cX5_ifRun 4 = .ok (.ifCond .eq 12, 3) := by decide +kernel
theorem dX5_ifRun_7 : decode cX5_ifRun 7 = .ok (.iload_n 2, 1) := by decide +kernel
theorem dX5_ifRun_8 : decode cX5_ifRun 8 = .ok (.ifCond .lt 8, 3) := by decide +kernel
theorem dX5_ifRun_11 : decode cX5_ifRun 11 = .ok (.iload_n 2, 1) := by decide +kernel
theorem dX5_ifRun_12 : decode cX5_ifRun 12 = .ok (.iconst 4, 1) := by decide +kernel
theorem dX5_ifRun_13 : decode cX5_ifRun 13 = .ok (.if_icmp .lt 6, 3) := by decide +kernel
theorem dX5_ifRun_16 : decode cX5_ifRun 16 = .ok (.bipush (-2), 2) := by decide +kernel
theorem dX5_ifRun_18 : decode cX5_ifRun 18 = .ok (.ireturn, 1) := by decide +kernel
theorem dX5_ifRun_19 : decode cX5_ifRun 19 = .ok (.aload_n 0, 1) := by decide +kernel
theorem dX5_ifRun_20 : decode cX5_ifRun 20 = .ok (.getfield 46, 3) := by decide +kernel
theorem dX5_ifRun_23 : decode cX5_ifRun 23 = .ok (.aload_n 0, 1) := by decide +kernel
theorem dX5_ifRun_24 : decode cX5_ifRun 24 = .ok (.getfield 42, 3) := by decide +kernel
theorem dX5_ifRun_27 : decode cX5_ifRun 27 = .ok (.invokevirtual 140, 3) := by decide +kernel
theorem dX5_ifRun_30 : decode cX5_ifRun 30 = .ok (.aload_n 0, 1) := by decide +kernel
theorem dX5_ifRun_31 : decode cX5_ifRun 31 = .ok (.getfield 46, 3) := by decide +kernel
theorem dX5_ifRun_34 : decode cX5_ifRun 34 = .ok (.iload_n 1, 1) := by decide +kernel
theorem dX5_ifRun_35 : decode cX5_ifRun 35 = .ok (.invokevirtual 127, 3) := by decide +kernel
theorem dX5_ifRun_38 : decode cX5_ifRun 38 = .ok (.pop, 1) := by decide +kernel
theorem dX5_ifRun_39 : decode cX5_ifRun 39 = .ok (.aload_n 0, 1) := by decide +kernel
theorem dX5_ifRun_40 : decode cX5_ifRun 40 = .ok (.iload_n 2, 1) := by decide +kernel
theorem dX5_ifRun_41 : decode cX5_ifRun 41 = .ok (.invokevirtual 223, 3) := by decide +kernel
theorem dX5_ifRun_44 : decode cX5_ifRun 44 = .ok (.ireturn, 1) := by decide +kernel
theorem dX5_ticksFor_0 : decode cX5_ticksFor 0 = .ok (.iload_n 1, 1) := by decide +kernel
theorem dX5_ticksFor_1 : decode cX5_ticksFor 1 = .ok (.iconst 1, 1) := by decide +kernel
theorem dX5_ticksFor_2 : decode cX5_ticksFor 2 = .ok (.if_icmp .lt 10, 3) := by decide +kernel
theorem dX5_ticksFor_5 : decode cX5_ticksFor 5 = .ok (.iload_n 1, 1) := by decide +kernel
theorem dX5_ticksFor_6 : decode cX5_ticksFor 6 = .ok (.sipush 1000, 3) := by decide +kernel
theorem dX5_ticksFor_9 : decode cX5_ticksFor 9 = .ok (.if_icmp .le 6, 3) := by decide +kernel
theorem dX5_ticksFor_12 : decode cX5_ticksFor 12 = .ok (.bipush (-2), 2) := by decide +kernel
theorem dX5_ticksFor_14 : decode cX5_ticksFor 14 = .ok (.ireturn, 1) := by decide +kernel
theorem dX5_ticksFor_15 : decode cX5_ticksFor 15 = .ok (.aload_n 0, 1) := by decide +kernel
theorem dX5_ticksFor_16 : decode cX5_ticksFor 16 = .ok (.getfield 46, 3) := by decide +kernel
theorem dX5_ticksFor_19 : decode cX5_ticksFor 19 = .ok (.aload_n 0, 1) := by decide +kernel
theorem dX5_ticksFor_20 : decode cX5_ticksFor 20 = .ok (.getfield 42, 3) := by decide +kernel
theorem dX5_ticksFor_23 : decode cX5_ticksFor 23 = .ok (.invokevirtual 140, 3) := by decide +kernel
theorem dX5_ticksFor_26 : decode cX5_ticksFor 26 = .ok (.iconst 1, 1) := by decide +kernel
theorem dX5_ticksFor_27 : decode cX5_ticksFor 27 = .ok (.istore_n 2, 1) := by decide +kernel
theorem dX5_ticksFor_28 : decode cX5_ticksFor 28 = .ok (.iload_n 2, 1) := by decide +kernel
theorem dX5_ticksFor_29 : decode cX5_ticksFor 29 = .ok (.sipush 500, 3) := by decide +kernel
theorem dX5_ticksFor_32 : decode cX5_ticksFor 32 = .ok (.if_icmp .gt 37, 3) := by decide +kernel
theorem dX5_ticksFor_35 : decode cX5_ticksFor 35 = .ok (.aload_n 0, 1) := by decide +kernel
theorem dX5_ticksFor_36 : decode cX5_ticksFor 36 = .ok (.getfield 46, 3) := by decide +kernel
theorem dX5_ticksFor_39 : decode cX5_ticksFor 39 = .ok (.invokevirtual 226, 3) := by decide +kernel
theorem dX5_ticksFor_42 : decode cX5_ticksFor 42 = .ok (.aload_n 0, 1) := by decide +kernel
theorem dX5_ticksFor_43 : decode cX5_ticksFor 43 = .ok (.getfield 46, 3) := by decide +kernel
theorem dX5_ticksFor_46 : decode cX5_ticksFor 46 = .ok (.getfield 208, 3) := by decide +kernel
theorem dX5_ticksFor_49 : decode cX5_ticksFor 49 = .ok (.aload_n 0, 1) := by decide +kernel
theorem dX5_ticksFor_50 : decode cX5_ticksFor 50 = .ok (.getfield 42, 3) := by decide +kernel
theorem dX5_ticksFor_53 : decode cX5_ticksFor 53 = .ok (.getfield 208, 3) := by decide +kernel
theorem dX5_ticksFor_56 : decode cX5_ticksFor 56 = .ok (.isub, 1) := by decide +kernel
theorem dX5_ticksFor_57 : decode cX5_ticksFor 57 = .ok (.iload_n 1, 1) := by decide +kernel
theorem dX5_ticksFor_58 : decode cX5_ticksFor 58 = .ok (.if_icmp .lt 5, 3) := by decide +kernel
theorem dX5_ticksFor_61 : decode cX5_ticksFor 61 = .ok (.iload_n 2, 1) := by decide +kernel
theorem dX5_ticksFor_62 : decode cX5_ticksFor 62 = .ok (.ireturn, 1) := by decide +kernel
theorem dX5_ticksFor_63 : decode cX5_ticksFor 63 = .ok (.iinc 2 1, 3) := by decide +kernel
theorem dX5_ticksFor_66 : decode cX5_ticksFor 66 = .ok (.goto (-38), 3) := by decide +kernel
theorem dX5_ticksFor_69 : decode cX5_ticksFor 69 = .ok (.iconst (-1), 1) := by decide +kernel
theorem dX5_ticksFor_70 : decode cX5_ticksFor 70 = .ok (.ireturn, 1) := by decide +kernel
theorem dX5_bestRule_0 : decode cX5_bestRule 0 = .ok (.iload_n 1, 1) := by decide +kernel
theorem dX5_bestRule_1 : decode cX5_bestRule 1 = .ok (.invokestatic 124, 3) := by decide +kernel
theorem dX5_bestRule_4 : decode cX5_bestRule 4 = .ok (.ifCond .ne 6, 3) := by decide +kernel
theorem dX5_bestRule_7 : decode cX5_bestRule 7 = .ok (.bipush (-2), 2) := by decide +kernel
theorem dX5_bestRule_9 : decode cX5_bestRule 9 = .ok (.ireturn, 1) := by decide +kernel
theorem dX5_bestRule_10 : decode cX5_bestRule 10 = .ok (.getstatic 82, 3) := by decide +kernel
theorem dX5_bestRule_13 : decode cX5_bestRule 13 = .ok (.iconst 2, 1) := by decide +kernel
theorem dX5_bestRule_14 : decode cX5_bestRule 14 = .ok (.iaload, 1) := by decide +kernel
theorem dX5_bestRule_15 : decode cX5_bestRule 15 = .ok (.istore_n 2, 1) := by decide +kernel
theorem dX5_bestRule_16 : decode cX5_bestRule 16 = .ok (.iconst (-1), 1) := by decide +kernel
theorem dX5_bestRule_17 : decode cX5_bestRule 17 = .ok (.istore_n 3, 1) := by decide +kernel
theorem dX5_bestRule_18 : decode cX5_bestRule 18 = .ok (.getstatic 82, 3) := by decide +kernel
theorem dX5_bestRule_21 : decode cX5_bestRule 21 = .ok (.iconst 2, 1) := by decide +kernel
theorem dX5_bestRule_22 : decode cX5_bestRule 22 = .ok (.iaload, 1) := by decide +kernel
theorem dX5_bestRule_23 : decode cX5_bestRule 23 = .ok (.istore 4, 2) := by decide +kernel
theorem dX5_bestRule_25 : decode cX5_bestRule 25 = .ok (.iload 4, 2) := by decide +kernel
theorem dX5_bestRule_27 : decode cX5_bestRule 27 = .ok (.getstatic 86, 3) := by decide +kernel
theorem dX5_bestRule_30 : decode cX5_bestRule 30 = .ok (.iconst 2, 1) := by decide +kernel
theorem dX5_bestRule_31 : decode cX5_bestRule 31 = .ok (.iaload, 1) := by decide +kernel
theorem dX5_bestRule_32 : decode cX5_bestRule 32 = .ok (.if_icmp .gt 53, 3) := by decide +kernel
theorem dX5_bestRule_35 : decode cX5_bestRule 35 = .ok (.aload_n 0, 1) := by decide +kernel
theorem dX5_bestRule_36 : decode cX5_bestRule 36 = .ok (.getfield 46, 3) := by decide +kernel
theorem dX5_bestRule_39 : decode cX5_bestRule 39 = .ok (.aload_n 0, 1) := by decide +kernel
theorem dX5_bestRule_40 : decode cX5_bestRule 40 = .ok (.getfield 42, 3) := by decide +kernel
theorem dX5_bestRule_43 : decode cX5_bestRule 43 = .ok (.invokevirtual 140, 3) := by decide +kernel
theorem dX5_bestRule_46 : decode cX5_bestRule 46 = .ok (.aload_n 0, 1) := by decide +kernel
theorem dX5_bestRule_47 : decode cX5_bestRule 47 = .ok (.getfield 46, 3) := by decide +kernel
theorem dX5_bestRule_50 : decode cX5_bestRule 50 = .ok (.getfield 89, 3) := by decide +kernel
theorem dX5_bestRule_53 : decode cX5_bestRule 53 = .ok (.iconst 2, 1) := by decide +kernel
theorem dX5_bestRule_54 : decode cX5_bestRule 54 = .ok (.iload 4, 2) := by decide +kernel
theorem dX5_bestRule_56 : decode cX5_bestRule 56 = .ok (.iastore, 1) := by decide +kernel
theorem dX5_bestRule_57 : decode cX5_bestRule 57 = .ok (.aload_n 0, 1) := by decide +kernel
theorem dX5_bestRule_58 : decode cX5_bestRule 58 = .ok (.getfield 46, 3) := by decide +kernel
theorem dX5_bestRule_61 : decode cX5_bestRule 61 = .ok (.iload_n 1, 1) := by decide +kernel
theorem dX5_bestRule_62 : decode cX5_bestRule 62 = .ok (.invokevirtual 127, 3) := by decide +kernel
theorem dX5_bestRule_65 : decode cX5_bestRule 65 = .ok (.istore 5, 2) := by decide +kernel
theorem dX5_bestRule_67 : decode cX5_bestRule 67 = .ok (.iload 5, 2) := by decide +kernel
theorem dX5_bestRule_69 : decode cX5_bestRule 69 = .ok (.iload_n 3, 1) := by decide +kernel
theorem dX5_bestRule_70 : decode cX5_bestRule 70 = .ok (.if_icmp .le 9, 3) := by decide +kernel
theorem dX5_bestRule_73 : decode cX5_bestRule 73 = .ok (.iload 5, 2) := by decide +kernel
theorem dX5_bestRule_75 : decode cX5_bestRule 75 = .ok (.istore_n 3, 1) := by decide +kernel
theorem dX5_bestRule_76 : decode cX5_bestRule 76 = .ok (.iload 4, 2) := by decide +kernel
theorem dX5_bestRule_78 : decode cX5_bestRule 78 = .ok (.istore_n 2, 1) := by decide +kernel
theorem dX5_bestRule_79 : decode cX5_bestRule 79 = .ok (.iinc 4 1, 3) := by decide +kernel
theorem dX5_bestRule_82 : decode cX5_bestRule 82 = .ok (.goto (-57), 3) := by decide +kernel
theorem dX5_bestRule_85 : decode cX5_bestRule 85 = .ok (.iload_n 2, 1) := by decide +kernel
theorem dX5_bestRule_86 : decode cX5_bestRule 86 = .ok (.ireturn, 1) := by decide +kernel
theorem dX5_bestLoad_0 : decode cX5_bestLoad 0 = .ok (.aload_n 0, 1) := by decide +kernel
theorem dX5_bestLoad_1 : decode cX5_bestLoad 1 = .ok (.getfield 42, 3) := by decide +kernel
theorem dX5_bestLoad_4 : decode cX5_bestLoad 4 = .ok (.iload_n 1, 1) := by decide +kernel
theorem dX5_bestLoad_5 : decode cX5_bestLoad 5 = .ok (.invokevirtual 108, 3) := by decide +kernel
theorem dX5_bestLoad_8 : decode cX5_bestLoad 8 = .ok (.ifnull 10, 3) := by decide +kernel
theorem dX5_bestLoad_11 : decode cX5_bestLoad 11 = .ok (.iload_n 2, 1) := by decide +kernel
theorem dX5_bestLoad_12 : decode cX5_bestLoad 12 = .ok (.invokestatic 124, 3) := by decide +kernel
theorem dX5_bestLoad_15 : decode cX5_bestLoad 15 = .ok (.ifCond .ne 6, 3) := by decide +kernel
theorem dX5_bestLoad_18 : decode cX5_bestLoad 18 = .ok (.bipush (-2), 2) := by decide +kernel
theorem dX5_bestLoad_20 : decode cX5_bestLoad 20 = .ok (.ireturn, 1) := by decide +kernel
theorem dX5_bestLoad_21 : decode cX5_bestLoad 21 = .ok (.iconst 1, 1) := by decide +kernel
theorem dX5_bestLoad_22 : decode cX5_bestLoad 22 = .ok (.istore_n 3, 1) := by decide +kernel
theorem dX5_bestLoad_23 : decode cX5_bestLoad 23 = .ok (.iconst (-1), 1) := by decide +kernel
theorem dX5_bestLoad_24 : decode cX5_bestLoad 24 = .ok (.istore 4, 2) := by decide +kernel
theorem dX5_bestLoad_26 : decode cX5_bestLoad 26 = .ok (.iconst 1, 1) := by decide +kernel
theorem dX5_bestLoad_27 : decode cX5_bestLoad 27 = .ok (.istore 5, 2) := by decide +kernel
theorem dX5_bestLoad_29 : decode cX5_bestLoad 29 = .ok (.iload 5, 2) := by decide +kernel
theorem dX5_bestLoad_31 : decode cX5_bestLoad 31 = .ok (.bipush 20, 2) := by decide +kernel
theorem dX5_bestLoad_33 : decode cX5_bestLoad 33 = .ok (.if_icmp .gt 66, 3) := by decide +kernel
theorem dX5_bestLoad_36 : decode cX5_bestLoad 36 = .ok (.aload_n 0, 1) := by decide +kernel
theorem dX5_bestLoad_37 : decode cX5_bestLoad 37 = .ok (.getfield 46, 3) := by decide +kernel
theorem dX5_bestLoad_40 : decode cX5_bestLoad 40 = .ok (.aload_n 0, 1) := by decide +kernel
theorem dX5_bestLoad_41 : decode cX5_bestLoad 41 = .ok (.getfield 42, 3) := by decide +kernel
theorem dX5_bestLoad_44 : decode cX5_bestLoad 44 = .ok (.invokevirtual 140, 3) := by decide +kernel
theorem dX5_bestLoad_47 : decode cX5_bestLoad 47 = .ok (.aload_n 0, 1) := by decide +kernel
theorem dX5_bestLoad_48 : decode cX5_bestLoad 48 = .ok (.getfield 46, 3) := by decide +kernel
theorem dX5_bestLoad_51 : decode cX5_bestLoad 51 = .ok (.iload_n 1, 1) := by decide +kernel
theorem dX5_bestLoad_52 : decode cX5_bestLoad 52 = .ok (.invokevirtual 108, 3) := by decide +kernel
theorem dX5_bestLoad_55 : decode cX5_bestLoad 55 = .ok (.astore 6, 2) := by decide +kernel
theorem dX5_bestLoad_57 : decode cX5_bestLoad 57 = .ok (.aload 6, 2) := by decide +kernel
theorem dX5_bestLoad_59 : decode cX5_bestLoad 59 = .ok (.ifnull 10, 3) := by decide +kernel
theorem dX5_bestLoad_62 : decode cX5_bestLoad 62 = .ok (.aload 6, 2) := by decide +kernel
theorem dX5_bestLoad_64 : decode cX5_bestLoad 64 = .ok (.iload 5, 2) := by decide +kernel
theorem dX5_bestLoad_66 : decode cX5_bestLoad 66 = .ok (.putfield 121, 3) := by decide +kernel
theorem dX5_bestLoad_69 : decode cX5_bestLoad 69 = .ok (.aload_n 0, 1) := by decide +kernel
theorem dX5_bestLoad_70 : decode cX5_bestLoad 70 = .ok (.getfield 46, 3) := by decide +kernel
theorem dX5_bestLoad_73 : decode cX5_bestLoad 73 = .ok (.iload_n 2, 1) := by decide +kernel
theorem dX5_bestLoad_74 : decode cX5_bestLoad 74 = .ok (.invokevirtual 127, 3) := by decide +kernel
theorem dX5_bestLoad_77 : decode cX5_bestLoad 77 = .ok (.istore 7, 2) := by decide +kernel
theorem dX5_bestLoad_79 : decode cX5_bestLoad 79 = .ok (.iload 7, 2) := by decide +kernel
theorem dX5_bestLoad_81 : decode cX5_bestLoad 81 = .ok (.iload 4, 2) := by decide +kernel
theorem dX5_bestLoad_83 : decode cX5_bestLoad 83 = .ok (.if_icmp .le 10, 3) := by decide +kernel
theorem dX5_bestLoad_86 : decode cX5_bestLoad 86 = .ok (.iload 7, 2) := by decide +kernel
theorem dX5_bestLoad_88 : decode cX5_bestLoad 88 = .ok (.istore 4, 2) := by decide +kernel
theorem dX5_bestLoad_90 : decode cX5_bestLoad 90 = .ok (.iload 5, 2) := by decide +kernel
theorem dX5_bestLoad_92 : decode cX5_bestLoad 92 = .ok (.istore_n 3, 1) := by decide +kernel
theorem dX5_bestLoad_93 : decode cX5_bestLoad 93 = .ok (.iinc 5 1, 3) := by decide +kernel
theorem dX5_bestLoad_96 : decode cX5_bestLoad 96 = .ok (.goto (-67), 3) := by decide +kernel
theorem dX5_bestLoad_99 : decode cX5_bestLoad 99 = .ok (.iload_n 3, 1) := by decide +kernel
theorem dX5_bestLoad_100 : decode cX5_bestLoad 100 = .ok (.ireturn, 1) := by decide +kernel
theorem dX5_meanSinking_0 : decode cX5_meanSinking 0 = .ok (.aload_n 0, 1) := by decide +kernel
theorem dX5_meanSinking_1 : decode cX5_meanSinking 1 = .ok (.getfield 42, 3) := by decide +kernel
theorem dX5_meanSinking_4 : decode cX5_meanSinking 4 = .ok (.getfield 74, 3) := by decide +kernel
theorem dX5_meanSinking_7 : decode cX5_meanSinking 7 = .ok (.iconst 1, 1) := by decide +kernel
theorem dX5_meanSinking_8 : decode cX5_meanSinking 8 = .ok (.if_icmp .ge 5, 3) := by decide +kernel
theorem dX5_meanSinking_11 : decode cX5_meanSinking 11 = .ok (.dconst 0, 1) := by decide +kernel
theorem dX5_meanSinking_12 : decode cX5_meanSinking 12 = .ok (.dreturn, 1) := by decide +kernel
theorem dX5_meanSinking_13 : decode cX5_meanSinking 13 = .ok (.aload_n 0, 1) := by decide +kernel
theorem dX5_meanSinking_14 : decode cX5_meanSinking 14 = .ok (.getfield 42, 3) := by decide +kernel
theorem dX5_meanSinking_17 : decode cX5_meanSinking 17 = .ok (.invokevirtual 229, 3) := by decide +kernel
theorem dX5_meanSinking_20 : decode cX5_meanSinking 20 = .ok (.i2d, 1) := by decide +kernel
theorem dX5_meanSinking_21 : decode cX5_meanSinking 21 = .ok (.aload_n 0, 1) := by decide +kernel
theorem dX5_meanSinking_22 : decode cX5_meanSinking 22 = .ok (.getfield 42, 3) := by decide +kernel
theorem dX5_meanSinking_25 : decode cX5_meanSinking 25 = .ok (.getfield 74, 3) := by decide +kernel
theorem dX5_meanSinking_28 : decode cX5_meanSinking 28 = .ok (.i2d, 1) := by decide +kernel
theorem dX5_meanSinking_29 : decode cX5_meanSinking 29 = .ok (.ddiv, 1) := by decide +kernel
theorem dX5_meanSinking_30 : decode cX5_meanSinking 30 = .ok (.dreturn, 1) := by decide +kernel
theorem dX5_isSetting_0 : decode cX5_isSetting 0 = .ok (.iload_n 0, 1) := by decide +kernel
theorem dX5_isSetting_1 : decode cX5_isSetting 1 = .ok (.ifCond .lt 12, 3) := by decide +kernel
theorem dX5_isSetting_4 : decode cX5_isSetting 4 = .ok (.iload_n 0, 1) := by decide +kernel
theorem dX5_isSetting_5 : decode cX5_isSetting 5 = .ok (.iconst 3, 1) := by decide +kernel
theorem dX5_isSetting_6 : decode cX5_isSetting 6 = .ok (.if_icmp .ge 7, 3) := by decide +kernel
theorem dX5_isSetting_9 : decode cX5_isSetting 9 = .ok (.iconst 1, 1) := by decide +kernel
theorem dX5_isSetting_10 : decode cX5_isSetting 10 = .ok (.goto 4, 3) := by decide +kernel
theorem dX5_isSetting_13 : decode cX5_isSetting 13 = .ok (.iconst 0, 1) := by decide +kernel
theorem dX5_isSetting_14 : decode cX5_isSetting 14 = .ok (.ireturn, 1) := by decide +kernel
theorem dX5_isLoad_0 : decode cX5_isLoad 0 = .ok (.iload_n 0, 1) := by decide +kernel
theorem dX5_isLoad_1 : decode cX5_isLoad 1 = .ok (.iconst 1, 1) := by decide +kernel
theorem dX5_isLoad_2 : decode cX5_isLoad 2 = .ok (.if_icmp .lt 13, 3) := by decide +kernel
theorem dX5_isLoad_5 : decode cX5_isLoad 5 = .ok (.iload_n 0, 1) := by decide +kernel
theorem dX5_isLoad_6 : decode cX5_isLoad 6 = .ok (.bipush 20, 2) := by decide +kernel
theorem dX5_isLoad_8 : decode cX5_isLoad 8 = .ok (.if_icmp .gt 7, 3) := by decide +kernel
theorem dX5_isLoad_11 : decode cX5_isLoad 11 = .ok (.iconst 1, 1) := by decide +kernel
theorem dX5_isLoad_12 : decode cX5_isLoad 12 = .ok (.goto 4, 3) := by decide +kernel
theorem dX5_isLoad_15 : decode cX5_isLoad 15 = .ok (.iconst 0, 1) := by decide +kernel
theorem dX5_isLoad_16 : decode cX5_isLoad 16 = .ok (.ireturn, 1) := by decide +kernel
theorem dX5_isRun_0 : decode cX5_isRun 0 = .ok (.iload_n 0, 1) := by decide +kernel
theorem dX5_isRun_1 : decode cX5_isRun 1 = .ok (.iconst 1, 1) := by decide +kernel
theorem dX5_isRun_2 : decode cX5_isRun 2 = .ok (.if_icmp .lt 14, 3) := by decide +kernel
theorem dX5_isRun_5 : decode cX5_isRun 5 = .ok (.iload_n 0, 1) := by decide +kernel
theorem dX5_isRun_6 : decode cX5_isRun 6 = .ok (.sipush 200, 3) := by decide +kernel
theorem dX5_isRun_9 : decode cX5_isRun 9 = .ok (.if_icmp .gt 7, 3) := by decide +kernel
theorem dX5_isRun_12 : decode cX5_isRun 12 = .ok (.iconst 1, 1) := by decide +kernel
theorem dX5_isRun_13 : decode cX5_isRun 13 = .ok (.goto 4, 3) := by decide +kernel
theorem dX5_isRun_16 : decode cX5_isRun 16 = .ok (.iconst 0, 1) := by decide +kernel
theorem dX5_isRun_17 : decode cX5_isRun 17 = .ok (.ireturn, 1) := by decide +kernel
theorem dX5_isImage_0 : decode cX5_isImage 0 = .ok (.iload_n 0, 1) := by decide +kernel
theorem dX5_isImage_1 : decode cX5_isImage 1 = .ok (.ifCond .lt 12, 3) := by decide +kernel
theorem dX5_isImage_4 : decode cX5_isImage 4 = .ok (.iload_n 0, 1) := by decide +kernel
theorem dX5_isImage_5 : decode cX5_isImage 5 = .ok (.iconst 2, 1) := by decide +kernel
theorem dX5_isImage_6 : decode cX5_isImage 6 = .ok (.if_icmp .ge 7, 3) := by decide +kernel
theorem dX5_isImage_9 : decode cX5_isImage 9 = .ok (.iconst 1, 1) := by decide +kernel
theorem dX5_isImage_10 : decode cX5_isImage 10 = .ok (.goto 4, 3) := by decide +kernel
theorem dX5_isImage_13 : decode cX5_isImage 13 = .ok (.iconst 0, 1) := by decide +kernel
theorem dX5_isImage_14 : decode cX5_isImage 14 = .ok (.ireturn, 1) := by decide +kernel
theorem dX5_foreseen_0 : decode cX5_foreseen 0 = .ok (.iload_n 1, 1) := by decide +kernel
theorem dX5_foreseen_1 : decode cX5_foreseen 1 = .ok (.tableswitch 79 0 3 #[31, 47, 55, 71], 31) := by decide +kernel
theorem dX5_foreseen_32 : decode cX5_foreseen 32 = .ok (.aload_n 0, 1) := by decide +kernel
theorem dX5_foreseen_33 : decode cX5_foreseen 33 = .ok (.getfield 46, 3) := by decide +kernel
theorem dX5_foreseen_36 : decode cX5_foreseen 36 = .ok (.getfield 208, 3) := by decide +kernel
theorem dX5_foreseen_39 : decode cX5_foreseen 39 = .ok (.aload_n 0, 1) := by decide +kernel
theorem dX5_foreseen_40 : decode cX5_foreseen 40 = .ok (.getfield 42, 3) := by decide +kernel
theorem dX5_foreseen_43 : decode cX5_foreseen 43 = .ok (.getfield 208, 3) := by decide +kernel
theorem dX5_foreseen_46 : decode cX5_foreseen 46 = .ok (.isub, 1) := by decide +kernel
theorem dX5_foreseen_47 : decode cX5_foreseen 47 = .ok (.ireturn, 1) := by decide +kernel
theorem dX5_foreseen_48 : decode cX5_foreseen 48 = .ok (.aload_n 0, 1) := by decide +kernel
theorem dX5_foreseen_49 : decode cX5_foreseen 49 = .ok (.getfield 46, 3) := by decide +kernel
theorem dX5_foreseen_52 : decode cX5_foreseen 52 = .ok (.invokevirtual 214, 3) := by decide +kernel
theorem dX5_foreseen_55 : decode cX5_foreseen 55 = .ok (.ireturn, 1) := by decide +kernel
theorem dX5_foreseen_56 : decode cX5_foreseen 56 = .ok (.aload_n 0, 1) := by decide +kernel
theorem dX5_foreseen_57 : decode cX5_foreseen 57 = .ok (.getfield 46, 3) := by decide +kernel
theorem dX5_foreseen_60 : decode cX5_foreseen 60 = .ok (.invokevirtual 217, 3) := by decide +kernel
theorem dX5_foreseen_63 : decode cX5_foreseen 63 = .ok (.aload_n 0, 1) := by decide +kernel
theorem dX5_foreseen_64 : decode cX5_foreseen 64 = .ok (.getfield 42, 3) := by decide +kernel
theorem dX5_foreseen_67 : decode cX5_foreseen 67 = .ok (.invokevirtual 217, 3) := by decide +kernel
theorem dX5_foreseen_70 : decode cX5_foreseen 70 = .ok (.isub, 1) := by decide +kernel
theorem dX5_foreseen_71 : decode cX5_foreseen 71 = .ok (.ireturn, 1) := by decide +kernel
theorem dX5_foreseen_72 : decode cX5_foreseen 72 = .ok (.aload_n 0, 1) := by decide +kernel
theorem dX5_foreseen_73 : decode cX5_foreseen 73 = .ok (.getfield 46, 3) := by decide +kernel
theorem dX5_foreseen_76 : decode cX5_foreseen 76 = .ok (.getfield 265, 3) := by decide +kernel
theorem dX5_foreseen_79 : decode cX5_foreseen 79 = .ok (.ireturn, 1) := by decide +kernel
theorem dX5_foreseen_80 : decode cX5_foreseen 80 = .ok (.bipush (-2), 2) := by decide +kernel
theorem dX5_foreseen_82 : decode cX5_foreseen 82 = .ok (.ireturn, 1) := by decide +kernel
theorem dJ9_max_7cf53_0 : decode cJ9_max_7cf53 0 = .ok (.iload_n 0, 1) := by decide +kernel
theorem dJ9_max_7cf53_1 : decode cJ9_max_7cf53 1 = .ok (.iload_n 1, 1) := by decide +kernel
theorem dJ9_max_7cf53_2 : decode cJ9_max_7cf53 2 = .ok (.if_icmp .lt 7, 3) := by decide +kernel
theorem dJ9_max_7cf53_5 : decode cJ9_max_7cf53 5 = .ok (.iload_n 0, 1) := by decide +kernel
theorem dJ9_max_7cf53_6 : decode cJ9_max_7cf53 6 = .ok (.goto 4, 3) := by decide +kernel
theorem dJ9_max_7cf53_9 : decode cJ9_max_7cf53 9 = .ok (.iload_n 1, 1) := by decide +kernel
theorem dJ9_max_7cf53_10 : decode cJ9_max_7cf53 10 = .ok (.ireturn, 1) := by decide +kernel
theorem dJ9_min_7cf53_0 : decode cJ9_min_7cf53 0 = .ok (.iload_n 0, 1) := by decide +kernel
theorem dJ9_min_7cf53_1 : decode cJ9_min_7cf53 1 = .ok (.iload_n 1, 1) := by decide +kernel
theorem dJ9_min_7cf53_2 : decode cJ9_min_7cf53 2 = .ok (.if_icmp .gt 7, 3) := by decide +kernel
