theorem dX0_init_0 : decode cX0_init 0 = .ok (.aload_n 0, 1) := by decide +kernel
theorem dX0_init_1 : decode cX0_init 1 = .ok (.invokespecial 3, 3) := by decide +kernel
theorem dX0_init_4 : decode cX0_init 4 = .ok (.aload_n 0, 1) := by decide +kernel
theorem dX0_init_5 : decode cX0_init 5 = .ok (.bipush 8, 2) := by decide +kernel
theorem dX0_init_7 : decode cX0_init 7 = .ok (.anewarray 9, 3) := by decide +kernel
theorem dX0_init_10 : decode cX0_init 10 = .ok (.putfield 11, 3) := by decide +kernel
theorem dX0_init_13 : decode cX0_init 13 = .ok (.iconst 0, 1) := by decide +kernel
theorem dX0_init_14 : decode cX0_init 14 = .ok (.istore_n 1, 1) := by decide +kernel
theorem dX0_init_15 : decode cX0_init 15 = .ok (.iload_n 1, 1) := by decide +kernel
theorem dX0_init_16 : decode cX0_init 16 = .ok (.bipush 8, 2) := by decide +kernel
theorem dX0_init_18 : decode cX0_init 18 = .ok (.if_icmp .ge 22, 3) := by decide +kernel
theorem dX0_init_21 : decode cX0_init 21 = .ok (.aload_n 0, 1) := by decide +kernel
theorem dX0_init_22 : decode cX0_init 22 = .ok (.getfield 11, 3) := by decide +kernel
theorem dX0_init_25 : decode cX0_init 25 = .ok (.iload_n 1, 1) := by decide +kernel
theorem dX0_init_26 : decode cX0_init 26 = .ok (.new 9, 3) := by decide +kernel
theorem dX0_init_29 : decode cX0_init 29 = .ok (.dup, 1) := by decide +kernel
theorem dX0_init_30 : decode cX0_init 30 = .ok (.invokespecial 17, 3) := by decide +kernel
theorem dX0_init_33 : decode cX0_init 33 = .ok (.aastore, 1) := by decide +kernel
theorem dX0_init_34 : decode cX0_init 34 = .ok (.iinc 1 1, 3) := by decide +kernel
theorem dX0_init_37 : decode cX0_init 37 = .ok (.goto (-22), 3) := by decide +kernel
theorem dX0_init_40 : decode cX0_init 40 = .ok (.return_, 1) := by decide +kernel
theorem dX0_count_0 : decode cX0_count 0 = .ok (.aload_n 0, 1) := by decide +kernel
theorem dX0_count_1 : decode cX0_count 1 = .ok (.getfield 18, 3) := by decide +kernel
theorem dX0_count_4 : decode cX0_count 4 = .ok (.ireturn, 1) := by decide +kernel
theorem dX0_isFull_0 : decode cX0_isFull 0 = .ok (.aload_n 0, 1) := by decide +kernel
theorem dX0_isFull_1 : decode cX0_isFull 1 = .ok (.getfield 18, 3) := by decide +kernel
theorem dX0_isFull_4 : decode cX0_isFull 4 = .ok (.bipush 8, 2) := by decide +kernel
theorem dX0_isFull_6 : decode cX0_isFull 6 = .ok (.if_icmp .lt 7, 3) := by decide +kernel
theorem dX0_isFull_9 : decode cX0_isFull 9 = .ok (.iconst 1, 1) := by decide +kernel
theorem dX0_isFull_10 : decode cX0_isFull 10 = .ok (.goto 4, 3) := by decide +kernel
theorem dX0_isFull_13 : decode cX0_isFull 13 = .ok (.iconst 0, 1) := by decide +kernel
theorem dX0_isFull_14 : decode cX0_isFull 14 = .ok (.ireturn, 1) := by decide +kernel
theorem dX0_at_0 : decode cX0_at 0 = .ok (.iload_n 1, 1) := by decide +kernel
theorem dX0_at_1 : decode cX0_at 1 = .ok (.ifCond .lt 20, 3) := by decide +kernel
theorem dX0_at_4 : decode cX0_at 4 = .ok (.iload_n 1, 1) := by decide +kernel
theorem dX0_at_5 : decode cX0_at 5 = .ok (.aload_n 0, 1) := by decide +kernel
theorem dX0_at_6 : decode cX0_at 6 = .ok (.getfield 18, 3) := by decide +kernel
theorem dX0_at_9 : decode cX0_at 9 = .ok (.if_icmp .ge 12, 3) := by decide +kernel
theorem dX0_at_12 : decode cX0_at 12 = .ok (.aload_n 0, 1) := by decide +kernel
theorem dX0_at_13 : decode cX0_at 13 = .ok (.getfield 11, 3) := by decide +kernel
theorem dX0_at_16 : decode cX0_at 16 = .ok (.iload_n 1, 1) := by decide +kernel
theorem dX0_at_17 : decode cX0_at 17 = .ok (.aaload, 1) := by decide +kernel
theorem dX0_at_18 : decode cX0_at 18 = .ok (.goto 4, 3) := by decide +kernel
theorem dX0_at_21 : decode cX0_at 21 = .ok (.aconst_null, 1) := by decide +kernel
theorem dX0_at_22 : decode cX0_at 22 = .ok (.areturn, 1) := by decide +kernel
theorem dX0_add_0 : decode cX0_add 0 = .ok (.aload_n 0, 1) := by decide +kernel
theorem dX0_add_1 : decode cX0_add 1 = .ok (.invokevirtual 22, 3) := by decide +kernel
theorem dX0_add_4 : decode cX0_add 4 = .ok (.ifCond .ne 27, 3) := by decide +kernel
theorem dX0_add_7 : decode cX0_add 7 = .ok (.aload_n 0, 1) := by decide +kernel
theorem dX0_add_8 : decode cX0_add 8 = .ok (.getfield 11, 3) := by decide +kernel
theorem dX0_add_11 : decode cX0_add 11 = .ok (.aload_n 0, 1) := by decide +kernel
theorem dX0_add_12 : decode cX0_add 12 = .ok (.getfield 18, 3) := by decide +kernel
theorem dX0_add_15 : decode cX0_add 15 = .ok (.aaload, 1) := by decide +kernel
theorem dX0_add_16 : decode cX0_add 16 = .ok (.iload_n 1, 1) := by decide +kernel
theorem dX0_add_17 : decode cX0_add 17 = .ok (.aload_n 2, 1) := by decide +kernel
theorem dX0_add_18 : decode cX0_add 18 = .ok (.invokevirtual 26, 3) := by decide +kernel
theorem dX0_add_21 : decode cX0_add 21 = .ok (.aload_n 0, 1) := by decide +kernel
theorem dX0_add_22 : decode cX0_add 22 = .ok (.dup, 1) := by decide +kernel
theorem dX0_add_23 : decode cX0_add 23 = .ok (.getfield 18, 3) := by decide +kernel
theorem dX0_add_26 : decode cX0_add 26 = .ok (.iconst 1, 1) := by decide +kernel
theorem dX0_add_27 : decode cX0_add 27 = .ok (.iadd, 1) := by decide +kernel
theorem dX0_add_28 : decode cX0_add 28 = .ok (.putfield 18, 3) := by decide +kernel
theorem dX0_add_31 : decode cX0_add 31 = .ok (.return_, 1) := by decide +kernel
theorem dX0_clear_0 : decode cX0_clear 0 = .ok (.aload_n 0, 1) := by decide +kernel
theorem dX0_clear_1 : decode cX0_clear 1 = .ok (.iconst 0, 1) := by decide +kernel
theorem dX0_clear_2 : decode cX0_clear 2 = .ok (.putfield 18, 3) := by decide +kernel
theorem dX0_clear_5 : decode cX0_clear 5 = .ok (.return_, 1) := by decide +kernel
theorem dX0_copy_0 : decode cX0_copy 0 = .ok (.aload_n 0, 1) := by decide +kernel
theorem dX0_copy_1 : decode cX0_copy 1 = .ok (.aload_n 1, 1) := by decide +kernel
theorem dX0_copy_2 : decode cX0_copy 2 = .ok (.getfield 18, 3) := by decide +kernel
theorem dX0_copy_5 : decode cX0_copy 5 = .ok (.putfield 18, 3) := by decide +kernel
theorem dX0_copy_8 : decode cX0_copy 8 = .ok (.iconst 0, 1) := by decide +kernel
theorem dX0_copy_9 : decode cX0_copy 9 = .ok (.istore_n 2, 1) := by decide +kernel
theorem dX0_copy_10 : decode cX0_copy 10 = .ok (.iload_n 2, 1) := by decide +kernel
theorem dX0_copy_11 : decode cX0_copy 11 = .ok (.aload_n 0, 1) := by decide +kernel
theorem dX0_copy_12 : decode cX0_copy 12 = .ok (.getfield 18, 3) := by decide +kernel
theorem dX0_copy_15 : decode cX0_copy 15 = .ok (.if_icmp .ge 24, 3) := by decide +kernel
theorem dX0_copy_18 : decode cX0_copy 18 = .ok (.aload_n 0, 1) := by decide +kernel
theorem dX0_copy_19 : decode cX0_copy 19 = .ok (.getfield 11, 3) := by decide +kernel
theorem dX0_copy_22 : decode cX0_copy 22 = .ok (.iload_n 2, 1) := by decide +kernel
theorem dX0_copy_23 : decode cX0_copy 23 = .ok (.aaload, 1) := by decide +kernel
theorem dX0_copy_24 : decode cX0_copy 24 = .ok (.aload_n 1, 1) := by decide +kernel
theorem dX0_copy_25 : decode cX0_copy 25 = .ok (.getfield 11, 3) := by decide +kernel
theorem dX0_copy_28 : decode cX0_copy 28 = .ok (.iload_n 2, 1) := by decide +kernel
theorem dX0_copy_29 : decode cX0_copy 29 = .ok (.aaload, 1) := by decide +kernel
theorem dX0_copy_30 : decode cX0_copy 30 = .ok (.invokevirtual 30, 3) := by decide +kernel
theorem dX0_copy_33 : decode cX0_copy 33 = .ok (.iinc 2 1, 3) := by decide +kernel
theorem dX0_copy_36 : decode cX0_copy 36 = .ok (.goto (-26), 3) := by decide +kernel
theorem dX0_copy_39 : decode cX0_copy 39 = .ok (.return_, 1) := by decide +kernel
theorem dX0_textsThatAre_0 : decode cX0_textsThatAre 0 = .ok (.iconst 0, 1) := by decide +kernel
theorem dX0_textsThatAre_1 : decode cX0_textsThatAre 1 = .ok (.istore_n 2, 1) := by decide +kernel
theorem dX0_textsThatAre_2 : decode cX0_textsThatAre 2 = .ok (.iconst 0, 1) := by decide +kernel
theorem dX0_textsThatAre_3 : decode cX0_textsThatAre 3 = .ok (.istore_n 3, 1) := by decide +kernel
theorem dX0_textsThatAre_4 : decode cX0_textsThatAre 4 = .ok (.iload_n 3, 1) := by decide +kernel
theorem dX0_textsThatAre_5 : decode cX0_textsThatAre 5 = .ok (.aload_n 0, 1) := by decide +kernel
theorem dX0_textsThatAre_6 : decode cX0_textsThatAre 6 = .ok (.getfield 18, 3) := by decide +kernel
theorem dX0_textsThatAre_9 : decode cX0_textsThatAre 9 = .ok (.if_icmp .ge 22, 3) := by decide +kernel
theorem dX0_textsThatAre_12 : decode cX0_textsThatAre 12 = .ok (.iload_n 2, 1) := by decide +kernel
theorem dX0_textsThatAre_13 : decode cX0_textsThatAre 13 = .ok (.aload_n 0, 1) := by decide +kernel
theorem dX0_textsThatAre_14 : decode cX0_textsThatAre 14 = .ok (.getfield 11, 3) := by decide +kernel
theorem dX0_textsThatAre_17 : decode cX0_textsThatAre 17 = .ok (.iload_n 3, 1) := by decide +kernel
theorem dX0_textsThatAre_18 : decode cX0_textsThatAre 18 = .ok (.aaload, 1) := by decide +kernel
theorem dX0_textsThatAre_19 : decode cX0_textsThatAre 19 = .ok (.iload_n 1, 1) := by decide +kernel
theorem dX0_textsThatAre_20 : decode cX0_textsThatAre 20 = .ok (.invokevirtual 34, 3) := by decide +kernel
theorem dX0_textsThatAre_23 : decode cX0_textsThatAre 23 = .ok (.iadd, 1) := by decide +kernel
theorem dX0_textsThatAre_24 : decode cX0_textsThatAre 24 = .ok (.istore_n 2, 1) := by decide +kernel
theorem dX0_textsThatAre_25 : decode cX0_textsThatAre 25 = .ok (.iinc 3 1, 3) := by decide +kernel
theorem dX0_textsThatAre_28 : decode cX0_textsThatAre 28 = .ok (.goto (-24), 3) := by decide +kernel
theorem dX0_textsThatAre_31 : decode cX0_textsThatAre 31 = .ok (.iload_n 2, 1) := by decide +kernel
theorem dX0_textsThatAre_32 : decode cX0_textsThatAre 32 = .ok (.ireturn, 1) := by decide +kernel
theorem dX0_releasedSize_0 : decode cX0_releasedSize 0 = .ok (.iconst 0, 1) := by decide +kernel
theorem dX0_releasedSize_1 : decode cX0_releasedSize 1 = .ok (.istore_n 2, 1) := by decide +kernel
theorem dX0_releasedSize_2 : decode cX0_releasedSize 2 = .ok (.iconst 0, 1) := by decide +kernel
theorem dX0_releasedSize_3 : decode cX0_releasedSize 3 = .ok (.istore_n 3, 1) := by decide +kernel
theorem dX0_releasedSize_4 : decode cX0_releasedSize 4 = .ok (.iload_n 3, 1) := by decide +kernel
theorem dX0_releasedSize_5 : decode cX0_releasedSize 5 = .ok (.aload_n 0, 1) := by decide +kernel
theorem dX0_releasedSize_6 : decode cX0_releasedSize 6 = .ok (.getfield 18, 3) := by decide +kernel
theorem dX0_releasedSize_9 : decode cX0_releasedSize 9 = .ok (.if_icmp .ge 25, 3) := by decide +kernel
theorem dX0_releasedSize_12 : decode cX0_releasedSize 12 = .ok (.iload_n 2, 1) := by decide +kernel
theorem dX0_releasedSize_13 : decode cX0_releasedSize 13 = .ok (.aload_n 0, 1) := by decide +kernel
theorem dX0_releasedSize_14 : decode cX0_releasedSize 14 = .ok (.getfield 11, 3) := by decide +kernel
theorem dX0_releasedSize_17 : decode cX0_releasedSize 17 = .ok (.iload_n 3, 1) := by decide +kernel
theorem dX0_releasedSize_18 : decode cX0_releasedSize 18 = .ok (.aaload, 1) := by decide +kernel
theorem dX0_releasedSize_19 : decode cX0_releasedSize 19 = .ok (.iload_n 1, 1) := by decide +kernel
theorem dX0_releasedSize_20 : decode cX0_releasedSize 20 = .ok (.invokevirtual 38, 3) := by decide +kernel
theorem dX0_releasedSize_23 : decode cX0_releasedSize 23 = .ok (.invokevirtual 42, 3) := by decide +kernel
theorem dX0_releasedSize_26 : decode cX0_releasedSize 26 = .ok (.iadd, 1) := by decide +kernel
theorem dX0_releasedSize_27 : decode cX0_releasedSize 27 = .ok (.istore_n 2, 1) := by decide +kernel
theorem dX0_releasedSize_28 : decode cX0_releasedSize 28 = .ok (.iinc 3 1, 3) := by decide +kernel
theorem dX0_releasedSize_31 : decode cX0_releasedSize 31 = .ok (.goto (-27), 3) := by decide +kernel
theorem dX0_releasedSize_34 : decode cX0_releasedSize 34 = .ok (.iload_n 2, 1) := by decide +kernel
theorem dX0_releasedSize_35 : decode cX0_releasedSize 35 = .ok (.ireturn, 1) := by decide +kernel
theorem dX0_releasedSign_0 : decode cX0_releasedSign 0 = .ok (.iload_n 2, 1) := by decide +kernel
theorem dX0_releasedSign_1 : decode cX0_releasedSign 1 = .ok (.ifCond .ge 6, 3) := by decide +kernel
theorem dX0_releasedSign_4 : decode cX0_releasedSign 4 = .ok (.bipush (-5), 2) := by decide +kernel
theorem dX0_releasedSign_6 : decode cX0_releasedSign 6 = .ok (.ireturn, 1) := by decide +kernel
theorem dX0_releasedSign_7 : decode cX0_releasedSign 7 = .ok (.iload_n 2, 1) := by decide +kernel
theorem dX0_releasedSign_8 : decode cX0_releasedSign 8 = .ok (.istore_n 3, 1) := by decide +kernel
theorem dX0_releasedSign_9 : decode cX0_releasedSign 9 = .ok (.iconst 0, 1) := by decide +kernel
theorem dX0_releasedSign_10 : decode cX0_releasedSign 10 = .ok (.istore 4, 2) := by decide +kernel
theorem dX0_releasedSign_12 : decode cX0_releasedSign 12 = .ok (.iload 4, 2) := by decide +kernel
theorem dX0_releasedSign_14 : decode cX0_releasedSign 14 = .ok (.aload_n 0, 1) := by decide +kernel
theorem dX0_releasedSign_15 : decode cX0_releasedSign 15 = .ok (.getfield 18, 3) := by decide +kernel
theorem dX0_releasedSign_18 : decode cX0_releasedSign 18 = .ok (.if_icmp .ge 46, 3) := by decide +kernel
theorem dX0_releasedSign_21 : decode cX0_releasedSign 21 = .ok (.aload_n 0, 1) := by decide +kernel
theorem dX0_releasedSign_22 : decode cX0_releasedSign 22 = .ok (.getfield 11, 3) := by decide +kernel
theorem dX0_releasedSign_25 : decode cX0_releasedSign 25 = .ok (.iload 4, 2) := by decide +kernel
theorem dX0_releasedSign_27 : decode cX0_releasedSign 27 = .ok (.aaload, 1) := by decide +kernel
theorem dX0_releasedSign_28 : decode cX0_releasedSign 28 = .ok (.iload_n 1, 1) := by decide +kernel
theorem dX0_releasedSign_29 : decode cX0_releasedSign 29 = .ok (.invokevirtual 38, 3) := by decide +kernel
theorem dX0_releasedSign_32 : decode cX0_releasedSign 32 = .ok (.astore 5, 2) := by decide +kernel
theorem dX0_releasedSign_34 : decode cX0_releasedSign 34 = .ok (.iload_n 3, 1) := by decide +kernel
theorem dX0_releasedSign_35 : decode cX0_releasedSign 35 = .ok (.aload 5, 2) := by decide +kernel
theorem dX0_releasedSign_37 : decode cX0_releasedSign 37 = .ok (.invokevirtual 42, 3) := by decide +kernel
theorem dX0_releasedSign_40 : decode cX0_releasedSign 40 = .ok (.if_icmp .ge 10, 3) := by decide +kernel
theorem dX0_releasedSign_43 : decode cX0_releasedSign 43 = .ok (.aload 5, 2) := by decide +kernel
theorem dX0_releasedSign_45 : decode cX0_releasedSign 45 = .ok (.iload_n 3, 1) := by decide +kernel
theorem dX0_releasedSign_46 : decode cX0_releasedSign 46 = .ok (.invokevirtual 48, 3) := by decide +kernel
theorem dX0_releasedSign_49 : decode cX0_releasedSign 49 = .ok (.ireturn, 1) := by decide +kernel
theorem dX0_releasedSign_50 : decode cX0_releasedSign 50 = .ok (.iload_n 3, 1) := by decide +kernel
theorem dX0_releasedSign_51 : decode cX0_releasedSign 51 = .ok (.aload 5, 2) := by decide +kernel
theorem dX0_releasedSign_53 : decode cX0_releasedSign 53 = .ok (.invokevirtual 42, 3) := by decide +kernel
theorem dX0_releasedSign_56 : decode cX0_releasedSign 56 = .ok (.isub, 1) := by decide +kernel
theorem dX0_releasedSign_57 : decode cX0_releasedSign 57 = .ok (.istore_n 3, 1) := by decide +kernel
theorem dX0_releasedSign_58 : decode cX0_releasedSign 58 = .ok (.iinc 4 1, 3) := by decide +kernel
theorem dX0_releasedSign_61 : decode cX0_releasedSign 61 = .ok (.goto (-49), 3) := by decide +kernel
theorem dX0_releasedSign_64 : decode cX0_releasedSign 64 = .ok (.bipush (-5), 2) := by decide +kernel
theorem dX0_releasedSign_66 : decode cX0_releasedSign 66 = .ok (.ireturn, 1) := by decide +kernel
theorem dX1_init_0 : decode cX1_init 0 = .ok (.aload_n 0, 1) := by decide +kernel
theorem dX1_init_1 : decode cX1_init 1 = .ok (.invokespecial 1, 3) := by decide +kernel
theorem dX1_init_4 : decode cX1_init 4 = .ok (.aload_n 0, 1) := by decide +kernel
theorem dX1_init_5 : decode cX1_init 5 = .ok (.new 7, 3) := by decide +kernel
theorem dX1_init_8 : decode cX1_init 8 = .ok (.dup, 1) := by decide +kernel
theorem dX1_init_9 : decode cX1_init 9 = .ok (.invokespecial 9, 3) := by decide +kernel
theorem dX1_init_12 : decode cX1_init 12 = .ok (.putfield 10, 3) := by decide +kernel
theorem dX1_init_15 : decode cX1_init 15 = .ok (.aload_n 0, 1) := by decide +kernel
theorem dX1_init_16 : decode cX1_init 16 = .ok (.new 7, 3) := by decide +kernel
theorem dX1_init_19 : decode cX1_init 19 = .ok (.dup, 1) := by decide +kernel
theorem dX1_init_20 : decode cX1_init 20 = .ok (.invokespecial 9, 3) := by decide +kernel
theorem dX1_init_23 : decode cX1_init 23 = .ok (.putfield 16, 3) := by decide +kernel
theorem dX1_init_26 : decode cX1_init 26 = .ok (.return_, 1) := by decide +kernel
theorem dX1_pieceSigns_0 : decode cX1_pieceSigns 0 = .ok (.aload_n 0, 1) := by decide +kernel
theorem dX1_pieceSigns_1 : decode cX1_pieceSigns 1 = .ok (.getfield 10, 3) := by decide +kernel
theorem dX1_pieceSigns_4 : decode cX1_pieceSigns 4 = .ok (.areturn, 1) := by decide +kernel
theorem dX1_textSigns_0 : decode cX1_textSigns 0 = .ok (.aload_n 0, 1) := by decide +kernel
theorem dX1_textSigns_1 : decode cX1_textSigns 1 = .ok (.getfield 16, 3) := by decide +kernel
theorem dX1_textSigns_4 : decode cX1_textSigns 4 = .ok (.areturn, 1) := by decide +kernel
theorem dX1_tongue_0 : decode cX1_tongue 0 = .ok (.aload_n 0, 1) := by decide +kernel
theorem dX1_tongue_1 : decode cX1_tongue 1 = .ok (.getfield 19, 3) := by decide +kernel
theorem dX1_tongue_4 : decode cX1_tongue 4 = .ok (.ireturn, 1) := by decide +kernel
theorem dX1_fill_0 : decode cX1_fill 0 = .ok (.aload_n 0, 1) := by decide +kernel
theorem dX1_fill_1 : decode cX1_fill 1 = .ok (.getfield 10, 3) := by decide +kernel
theorem dX1_fill_4 : decode cX1_fill 4 = .ok (.aload_n 1, 1) := by decide +kernel
theorem dX1_fill_5 : decode cX1_fill 5 = .ok (.invokevirtual 23, 3) := by decide +kernel
theorem dX1_fill_8 : decode cX1_fill 8 = .ok (.aload_n 0, 1) := by decide +kernel
theorem dX1_fill_9 : decode cX1_fill 9 = .ok (.iload_n 2, 1) := by decide +kernel
theorem dX1_fill_10 : decode cX1_fill 10 = .ok (.putfield 19, 3) := by decide +kernel
theorem dX1_fill_13 : decode cX1_fill 13 = .ok (.aload_n 0, 1) := by decide +kernel
theorem dX1_fill_14 : decode cX1_fill 14 = .ok (.getfield 16, 3) := by decide +kernel
theorem dX1_fill_17 : decode cX1_fill 17 = .ok (.aload_n 3, 1) := by decide +kernel
theorem dX1_fill_18 : decode cX1_fill 18 = .ok (.invokevirtual 23, 3) := by decide +kernel
theorem dX1_fill_21 : decode cX1_fill 21 = .ok (.return_, 1) := by decide +kernel
theorem dX1_isJust_0 : decode cX1_isJust 0 = .ok (.aload_n 0, 1) := by decide +kernel
theorem dX1_isJust_1 : decode cX1_isJust 1 = .ok (.getfield 19, 3) := by decide +kernel
theorem dX1_isJust_4 : decode cX1_isJust 4 = .ok (.iload_n 2, 1) := by decide +kernel
theorem dX1_isJust_5 : decode cX1_isJust 5 = .ok (.if_icmp .ne 29, 3) := by decide +kernel
theorem dX1_isJust_8 : decode cX1_isJust 8 = .ok (.aload_n 0, 1) := by decide +kernel
theorem dX1_isJust_9 : decode cX1_isJust 9 = .ok (.getfield 10, 3) := by decide +kernel
theorem dX1_isJust_12 : decode cX1_isJust 12 = .ok (.aload_n 1, 1) := by decide +kernel
theorem dX1_isJust_13 : decode cX1_isJust 13 = .ok (.invokevirtual 27, 3) := by decide +kernel
theorem dX1_isJust_16 : decode cX1_isJust 16 = .ok (.ifCond .eq 18, 3) := by decide +kernel
theorem dX1_isJust_19 : decode cX1_isJust 19 = .ok (.aload_n 0, 1) := by decide +kernel
theorem dX1_isJust_20 : decode cX1_isJust 20 = .ok (.getfield 16, 3) := by decide +kernel
theorem dX1_isJust_23 : decode cX1_isJust 23 = .ok (.aload_n 3, 1) := by decide +kernel
theorem dX1_isJust_24 : decode cX1_isJust 24 = .ok (.invokevirtual 27, 3) := by decide +kernel
theorem dX1_isJust_27 : decode cX1_isJust 27 = .ok (.ifCond .eq 7, 3) := by decide +kernel
theorem dX1_isJust_30 : decode cX1_isJust 30 = .ok (.iconst 1, 1) := by decide +kernel
theorem dX1_isJust_31 : decode cX1_isJust 31 = .ok (.goto 4, 3) := by decide +kernel
theorem dX1_isJust_34 : decode cX1_isJust 34 = .ok (.iconst 0, 1) := by decide +kernel
theorem dX1_isJust_35 : decode cX1_isJust 35 = .ok (.ireturn, 1) := by decide +kernel
theorem dX2_init_0 : decode cX2_init 0 = .ok (.aload_n 0, 1) := by decide +kernel
theorem dX2_init_1 : decode cX2_init 1 = .ok (.invokespecial 3, 3) := by decide +kernel
theorem dX2_init_4 : decode cX2_init 4 = .ok (.aload_n 0, 1) := by decide +kernel
theorem dX2_init_5 : decode cX2_init 5 = .ok (.iconst 5, 1) := by decide +kernel
theorem dX2_init_6 : decode cX2_init 6 = .ok (.newarray .int, 2) := by decide +kernel
theorem dX2_init_8 : decode cX2_init 8 = .ok (.putfield 9, 3) := by decide +kernel
theorem dX2_init_11 : decode cX2_init 11 = .ok (.aload_n 0, 1) := by decide +kernel
theorem dX2_init_12 : decode cX2_init 12 = .ok (.iconst 5, 1) := by decide +kernel
theorem dX2_init_13 : decode cX2_init 13 = .ok (.newarray .int, 2) := by decide +kernel
theorem dX2_init_15 : decode cX2_init 15 = .ok (.putfield 15, 3) := by decide +kernel
theorem dX2_init_18 : decode cX2_init 18 = .ok (.aload_n 0, 1) := by decide +kernel
theorem dX2_init_19 : decode cX2_init 19 = .ok (.iconst 5, 1) := by decide +kernel
theorem dX2_init_20 : decode cX2_init 20 = .ok (.newarray .int, 2) := by decide +kernel
theorem dX2_init_22 : decode cX2_init 22 = .ok (.putfield 18, 3) := by decide +kernel
theorem dX2_init_25 : decode cX2_init 25 = .ok (.return_, 1) := by decide +kernel
theorem dX2_count_0 : decode cX2_count 0 = .ok (.aload_n 0, 1) := by decide +kernel
theorem dX2_count_1 : decode cX2_count 1 = .ok (.getfield 21, 3) := by decide +kernel
theorem dX2_count_4 : decode cX2_count 4 = .ok (.ireturn, 1) := by decide +kernel
theorem dX2_isFull_0 : decode cX2_isFull 0 = .ok (.aload_n 0, 1) := by decide +kernel
theorem dX2_isFull_1 : decode cX2_isFull 1 = .ok (.getfield 21, 3) := by decide +kernel
theorem dX2_isFull_4 : decode cX2_isFull 4 = .ok (.iconst 5, 1) := by decide +kernel
theorem dX2_isFull_5 : decode cX2_isFull 5 = .ok (.if_icmp .lt 7, 3) := by decide +kernel
theorem dX2_isFull_8 : decode cX2_isFull 8 = .ok (.iconst 1, 1) := by decide +kernel
theorem dX2_isFull_9 : decode cX2_isFull 9 = .ok (.goto 4, 3) := by decide +kernel
theorem dX2_isFull_12 : decode cX2_isFull 12 = .ok (.iconst 0, 1) := by decide +kernel
theorem dX2_isFull_13 : decode cX2_isFull 13 = .ok (.ireturn, 1) := by decide +kernel
theorem dX2_has_0 : decode cX2_has 0 = .ok (.iload_n 1, 1) := by decide +kernel
theorem dX2_has_1 : decode cX2_has 1 = .ok (.ifCond .lt 15, 3) := by decide +kernel
theorem dX2_has_4 : decode cX2_has 4 = .ok (.iload_n 1, 1) := by decide +kernel
theorem dX2_has_5 : decode cX2_has 5 = .ok (.aload_n 0, 1) := by decide +kernel
theorem dX2_has_6 : decode cX2_has 6 = .ok (.getfield 21, 3) := by decide +kernel
theorem dX2_has_9 : decode cX2_has 9 = .ok (.if_icmp .ge 7, 3) := by decide +kernel
theorem dX2_has_12 : decode cX2_has 12 = .ok (.iconst 1, 1) := by decide +kernel
theorem dX2_has_13 : decode cX2_has 13 = .ok (.goto 4, 3) := by decide +kernel
theorem dX2_has_16 : decode cX2_has 16 = .ok (.iconst 0, 1) := by decide +kernel
theorem dX2_has_17 : decode cX2_has 17 = .ok (.ireturn, 1) := by decide +kernel
theorem dX2_knows_0 : decode cX2_knows 0 = .ok (.aload_n 0, 1) := by decide +kernel
theorem dX2_knows_1 : decode cX2_knows 1 = .ok (.iload_n 1, 1) := by decide +kernel
theorem dX2_knows_2 : decode cX2_knows 2 = .ok (.invokevirtual 25, 3) := by decide +kernel
theorem dX2_knows_5 : decode cX2_knows 5 = .ok (.ifCond .eq 28, 3) := by decide +kernel
theorem dX2_knows_8 : decode cX2_knows 8 = .ok (.iload_n 2, 1) := by decide +kernel
theorem dX2_knows_9 : decode cX2_knows 9 = .ok (.invokestatic 29, 3) := by decide +kernel
theorem dX2_knows_12 : decode cX2_knows 12 = .ok (.ifCond .eq 21, 3) := by decide +kernel
theorem dX2_knows_15 : decode cX2_knows 15 = .ok (.aload_n 0, 1) := by decide +kernel
theorem dX2_knows_16 : decode cX2_knows 16 = .ok (.getfield 9, 3) := by decide +kernel
theorem dX2_knows_19 : decode cX2_knows 19 = .ok (.iload_n 1, 1) := by decide +kernel
theorem dX2_knows_20 : decode cX2_knows 20 = .ok (.iaload, 1) := by decide +kernel
theorem dX2_knows_21 : decode cX2_knows 21 = .ok (.iload_n 2, 1) := by decide +kernel
theorem dX2_knows_22 : decode cX2_knows 22 = .ok (.ishr, 1) := by decide +kernel
theorem dX2_knows_23 : decode cX2_knows 23 = .ok (.iconst 1, 1) := by decide +kernel
theorem dX2_knows_24 : decode cX2_knows 24 = .ok (.iand, 1) := by decide +kernel
theorem dX2_knows_25 : decode cX2_knows 25 = .ok (.iconst 1, 1) := by decide +kernel
theorem dX2_knows_26 : decode cX2_knows 26 = .ok (.if_icmp .ne 7, 3) := by decide +kernel
theorem dX2_knows_29 : decode cX2_knows 29 = .ok (.iconst 1, 1) := by decide +kernel
theorem dX2_knows_30 : decode cX2_knows 30 = .ok (.goto 4, 3) := by decide +kernel
theorem dX2_knows_33 : decode cX2_knows 33 = .ok (.iconst 0, 1) := by decide +kernel
theorem dX2_knows_34 : decode cX2_knows 34 = .ok (.ireturn, 1) := by decide +kernel
theorem dX2_hoursOf_0 : decode cX2_hoursOf 0 = .ok (.aload_n 0, 1) := by decide +kernel
theorem dX2_hoursOf_1 : decode cX2_hoursOf 1 = .ok (.iload_n 1, 1) := by decide +kernel
theorem dX2_hoursOf_2 : decode cX2_hoursOf 2 = .ok (.invokevirtual 25, 3) := by decide +kernel
theorem dX2_hoursOf_5 : decode cX2_hoursOf 5 = .ok (.ifCond .eq 12, 3) := by decide +kernel
theorem dX2_hoursOf_8 : decode cX2_hoursOf 8 = .ok (.aload_n 0, 1) := by decide +kernel
theorem dX2_hoursOf_9 : decode cX2_hoursOf 9 = .ok (.getfield 15, 3) := by decide +kernel
theorem dX2_hoursOf_12 : decode cX2_hoursOf 12 = .ok (.iload_n 1, 1) := by decide +kernel
theorem dX2_hoursOf_13 : decode cX2_hoursOf 13 = .ok (.iaload, 1) := by decide +kernel
theorem dX2_hoursOf_14 : decode cX2_hoursOf 14 = .ok (.goto 4, 3) := by decide +kernel
theorem dX2_hoursOf_17 : decode cX2_hoursOf 17 = .ok (.iconst 0, 1) := by decide +kernel
theorem dX2_hoursOf_18 : decode cX2_hoursOf 18 = .ok (.ireturn, 1) := by decide +kernel
theorem dX2_rateOf_0 : decode cX2_rateOf 0 = .ok (.aload_n 0, 1) := by decide +kernel
theorem dX2_rateOf_1 : decode cX2_rateOf 1 = .ok (.iload_n 1, 1) := by decide +kernel
theorem dX2_rateOf_2 : decode cX2_rateOf 2 = .ok (.invokevirtual 25, 3) := by decide +kernel
theorem dX2_rateOf_5 : decode cX2_rateOf 5 = .ok (.ifCond .eq 12, 3) := by decide +kernel
theorem dX2_rateOf_8 : decode cX2_rateOf 8 = .ok (.aload_n 0, 1) := by decide +kernel
theorem dX2_rateOf_9 : decode cX2_rateOf 9 = .ok (.getfield 18, 3) := by decide +kernel
theorem dX2_rateOf_12 : decode cX2_rateOf 12 = .ok (.iload_n 1, 1) := by decide +kernel
theorem dX2_rateOf_13 : decode cX2_rateOf 13 = .ok (.iaload, 1) := by decide +kernel
theorem dX2_rateOf_14 : decode cX2_rateOf 14 = .ok (.goto 4, 3) := by decide +kernel
theorem dX2_rateOf_17 : decode cX2_rateOf 17 = .ok (.iconst 0, 1) := by decide +kernel
theorem dX2_rateOf_18 : decode cX2_rateOf 18 = .ok (.ireturn, 1) := by decide +kernel
theorem dX2_add_0 : decode cX2_add 0 = .ok (.aload_n 0, 1) := by decide +kernel
theorem dX2_add_1 : decode cX2_add 1 = .ok (.invokevirtual 32, 3) := by decide +kernel
theorem dX2_add_4 : decode cX2_add 4 = .ok (.ifCond .ne 43, 3) := by decide +kernel
theorem dX2_add_7 : decode cX2_add 7 = .ok (.aload_n 0, 1) := by decide +kernel
theorem dX2_add_8 : decode cX2_add 8 = .ok (.getfield 9, 3) := by decide +kernel
theorem dX2_add_11 : decode cX2_add 11 = .ok (.aload_n 0, 1) := by decide +kernel
theorem dX2_add_12 : decode cX2_add 12 = .ok (.getfield 21, 3) := by decide +kernel
theorem dX2_add_15 : decode cX2_add 15 = .ok (.iload_n 1, 1) := by decide +kernel
theorem dX2_add_16 : decode cX2_add 16 = .ok (.iastore, 1) := by decide +kernel
theorem dX2_add_17 : decode cX2_add 17 = .ok (.aload_n 0, 1) := by decide +kernel
theorem dX2_add_18 : decode cX2_add 18 = .ok (.getfield 15, 3) := by decide +kernel
theorem dX2_add_21 : decode cX2_add 21 = .ok (.aload_n 0, 1) := by decide +kernel
theorem dX2_add_22 : decode cX2_add 22 = .ok (.getfield 21, 3) := by decide +kernel
theorem dX2_add_25 : decode cX2_add 25 = .ok (.iload_n 2, 1) := by decide +kernel
theorem dX2_add_26 : decode cX2_add 26 = .ok (.iastore, 1) := by decide +kernel
theorem dX2_add_27 : decode cX2_add 27 = .ok (.aload_n 0, 1) := by decide +kernel
theorem dX2_add_28 : decode cX2_add 28 = .ok (.getfield 18, 3) := by decide +kernel
theorem dX2_add_31 : decode cX2_add 31 = .ok (.aload_n 0, 1) := by decide +kernel
theorem dX2_add_32 : decode cX2_add 32 = .ok (.getfield 21, 3) := by decide +kernel
theorem dX2_add_35 : decode cX2_add 35 = .ok (.iload_n 3, 1) := by decide +kernel
theorem dX2_add_36 : decode cX2_add 36 = .ok (.iastore, 1) := by decide +kernel
theorem dX2_add_37 : decode cX2_add 37 = .ok (.aload_n 0, 1) := by decide +kernel
theorem dX2_add_38 : decode cX2_add 38 = .ok (.dup, 1) := by decide +kernel
theorem dX2_add_39 : decode cX2_add 39 = .ok (.getfield 21, 3) := by decide +kernel
theorem dX2_add_42 : decode cX2_add 42 = .ok (.iconst 1, 1) := by decide +kernel
theorem dX2_add_43 : decode cX2_add 43 = .ok (.iadd, 1) := by decide +kernel
theorem dX2_add_44 : decode cX2_add 44 = .ok (.putfield 21, 3) := by decide +kernel
theorem dX2_add_47 : decode cX2_add 47 = .ok (.return_, 1) := by decide +kernel
theorem dX2_setHours_0 : decode cX2_setHours 0 = .ok (.aload_n 0, 1) := by decide +kernel
theorem dX2_setHours_1 : decode cX2_setHours 1 = .ok (.iload_n 1, 1) := by decide +kernel
theorem dX2_setHours_2 : decode cX2_setHours 2 = .ok (.invokevirtual 25, 3) := by decide +kernel
theorem dX2_setHours_5 : decode cX2_setHours 5 = .ok (.ifCond .eq 10, 3) := by decide +kernel
theorem dX2_setHours_8 : decode cX2_setHours 8 = .ok (.aload_n 0, 1) := by decide +kernel
theorem dX2_setHours_9 : decode cX2_setHours 9 = .ok (.getfield 15, 3) := by decide +kernel
theorem dX2_setHours_12 : decode cX2_setHours 12 = .ok (.iload_n 1, 1) := by decide +kernel
theorem dX2_setHours_13 : decode cX2_setHours 13 = .ok (.iload_n 2, 1) := by decide +kernel
theorem dX2_setHours_14 : decode cX2_setHours 14 = .ok (.iastore, 1) := by decide +kernel
theorem dX2_setHours_15 : decode cX2_setHours 15 = .ok (.return_, 1) := by decide +kernel
theorem dX3_init_0 : decode cX3_init 0 = .ok (.aload_n 0, 1) := by decide +kernel
theorem dX3_init_1 : decode cX3_init 1 = .ok (.invokespecial 3, 3) := by decide +kernel
theorem dX3_init_4 : decode cX3_init 4 = .ok (.aload_n 0, 1) := by decide +kernel
theorem dX3_init_5 : decode cX3_init 5 = .ok (.sipush 256, 3) := by decide +kernel
theorem dX3_init_8 : decode cX3_init 8 = .ok (.newarray .long, 2) := by decide +kernel
theorem dX3_init_10 : decode cX3_init 10 = .ok (.putfield 9, 3) := by decide +kernel
theorem dX3_init_13 : decode cX3_init 13 = .ok (.aload_n 0, 1) := by decide +kernel
theorem dX3_init_14 : decode cX3_init 14 = .ok (.bipush 8, 2) := by decide +kernel
theorem dX3_init_16 : decode cX3_init 16 = .ok (.newarray .long, 2) := by decide +kernel
theorem dX3_init_18 : decode cX3_init 18 = .ok (.putfield 15, 3) := by decide +kernel
theorem dX3_init_21 : decode cX3_init 21 = .ok (.return_, 1) := by decide +kernel
theorem dX3_match_0 : decode cX3_match 0 = .ok (.iconst 1, 1) := by decide +kernel
theorem dX3_match_1 : decode cX3_match 1 = .ok (.aload_n 1, 1) := by decide +kernel
theorem dX3_match_2 : decode cX3_match 2 = .ok (.invokevirtual 18, 3) := by decide +kernel
theorem dX3_match_5 : decode cX3_match 5 = .ok (.ishl, 1) := by decide +kernel
theorem dX3_match_6 : decode cX3_match 6 = .ok (.iconst 1, 1) := by decide +kernel
theorem dX3_match_7 : decode cX3_match 7 = .ok (.isub, 1) := by decide +kernel
theorem dX3_match_8 : decode cX3_match 8 = .ok (.istore 4, 2) := by decide +kernel
theorem dX3_match_10 : decode cX3_match 10 = .ok (.iconst 0, 1) := by decide +kernel
theorem dX3_match_11 : decode cX3_match 11 = .ok (.istore 5, 2) := by decide +kernel
theorem dX3_match_13 : decode cX3_match 13 = .ok (.iload 5, 2) := by decide +kernel
theorem dX3_match_15 : decode cX3_match 15 = .ok (.iload 4, 2) := by decide +kernel
theorem dX3_match_17 : decode cX3_match 17 = .ok (.if_icmp .gt 17, 3) := by decide +kernel
theorem dX3_match_20 : decode cX3_match 20 = .ok (.aload_n 0, 1) := by decide +kernel
theorem dX3_match_21 : decode cX3_match 21 = .ok (.getfield 9, 3) := by decide +kernel
theorem dX3_match_24 : decode cX3_match 24 = .ok (.iload 5, 2) := by decide +kernel
theorem dX3_match_26 : decode cX3_match 26 = .ok (.lconst 0, 1) := by decide +kernel
theorem dX3_match_27 : decode cX3_match 27 = .ok (.lastore, 1) := by decide +kernel
theorem dX3_match_28 : decode cX3_match 28 = .ok (.iinc 5 1, 3) := by decide +kernel
theorem dX3_match_31 : decode cX3_match 31 = .ok (.goto (-18), 3) := by decide +kernel
theorem dX3_match_34 : decode cX3_match 34 = .ok (.iconst 0, 1) := by decide +kernel
theorem dX3_match_35 : decode cX3_match 35 = .ok (.istore 5, 2) := by decide +kernel
theorem dX3_match_37 : decode cX3_match 37 = .ok (.iload 5, 2) := by decide +kernel
theorem dX3_match_39 : decode cX3_match 39 = .ok (.aload_n 2, 1) := by decide +kernel
theorem dX3_match_40 : decode cX3_match 40 = .ok (.invokevirtual 18, 3) := by decide +kernel
theorem dX3_match_43 : decode cX3_match 43 = .ok (.if_icmp .ge 62, 3) := by decide +kernel
theorem dX3_match_46 : decode cX3_match 46 = .ok (.aload_n 2, 1) := by decide +kernel
theorem dX3_match_47 : decode cX3_match 47 = .ok (.iload 5, 2) := by decide +kernel
theorem dX3_match_49 : decode cX3_match 49 = .ok (.invokevirtual 24, 3) := by decide +kernel
theorem dX3_match_52 : decode cX3_match 52 = .ok (.astore 6, 2) := by decide +kernel
theorem dX3_match_54 : decode cX3_match 54 = .ok (.aload 6, 2) := by decide +kernel
theorem dX3_match_56 : decode cX3_match 56 = .ok (.ifnull 43, 3) := by decide +kernel
theorem dX3_match_59 : decode cX3_match 59 = .ok (.aload_n 0, 1) := by decide +kernel
theorem dX3_match_60 : decode cX3_match 60 = .ok (.aload 6, 2) := by decide +kernel
theorem dX3_match_62 : decode cX3_match 62 = .ok (.invokevirtual 28, 3) := by decide +kernel
theorem dX3_match_65 : decode cX3_match 65 = .ok (.iload 5, 2) := by decide +kernel
theorem dX3_match_67 : decode cX3_match 67 = .ok (.aload_n 1, 1) := by decide +kernel
theorem dX3_match_68 : decode cX3_match 68 = .ok (.aload_n 3, 1) := by decide +kernel
theorem dX3_match_69 : decode cX3_match 69 = .ok (.invokevirtual 34, 3) := by decide +kernel
theorem dX3_match_72 : decode cX3_match 72 = .ok (.aload 6, 2) := by decide +kernel
theorem dX3_match_74 : decode cX3_match 74 = .ok (.invokevirtual 28, 3) := by decide +kernel
theorem dX3_match_77 : decode cX3_match 77 = .ok (.invokevirtual 38, 3) := by decide +kernel
theorem dX3_match_80 : decode cX3_match 80 = .ok (.bipush 8, 2) := by decide +kernel
theorem dX3_match_82 : decode cX3_match 82 = .ok (.iload 5, 2) := by decide +kernel
theorem dX3_match_84 : decode cX3_match 84 = .ok (.invokestatic 43, 3) := by decide +kernel
theorem dX3_match_87 : decode cX3_match 87 = .ok (.lstore 7, 2) := by decide +kernel
theorem dX3_match_89 : decode cX3_match 89 = .ok (.aload_n 0, 1) := by decide +kernel
theorem dX3_match_90 : decode cX3_match 90 = .ok (.aload_n 1, 1) := by decide +kernel
theorem dX3_match_91 : decode cX3_match 91 = .ok (.invokevirtual 18, 3) := by decide +kernel
theorem dX3_match_94 : decode cX3_match 94 = .ok (.lload 7, 2) := by decide +kernel
theorem dX3_match_96 : decode cX3_match 96 = .ok (.invokevirtual 47, 3) := by decide +kernel
theorem dX3_match_99 : decode cX3_match 99 = .ok (.iinc 5 1, 3) := by decide +kernel
theorem dX3_match_102 : decode cX3_match 102 = .ok (.goto (-65), 3) := by decide +kernel
theorem dX3_match_105 : decode cX3_match 105 = .ok (.aload_n 0, 1) := by decide +kernel
theorem dX3_match_106 : decode cX3_match 106 = .ok (.aload_n 0, 1) := by decide +kernel
theorem dX3_match_107 : decode cX3_match 107 = .ok (.getfield 9, 3) := by decide +kernel
theorem dX3_match_110 : decode cX3_match 110 = .ok (.iload 4, 2) := by decide +kernel
theorem dX3_match_112 : decode cX3_match 112 = .ok (.laload, 1) := by decide +kernel
theorem dX3_match_113 : decode cX3_match 113 = .ok (.putfield 51, 3) := by decide +kernel
theorem dX3_match_116 : decode cX3_match 116 = .ok (.aload_n 0, 1) := by decide +kernel
theorem dX3_match_117 : decode cX3_match 117 = .ok (.getfield 51, 3) := by decide +kernel
theorem dX3_match_120 : decode cX3_match 120 = .ok (.bipush 32, 2) := by decide +kernel
theorem dX3_match_122 : decode cX3_match 122 = .ok (.lshr, 1) := by decide +kernel
theorem dX3_match_123 : decode cX3_match 123 = .ok (.l2i, 1) := by decide +kernel
theorem dX3_match_124 : decode cX3_match 124 = .ok (.ireturn, 1) := by decide +kernel
theorem dX3_givenTo_0 : decode cX3_givenTo 0 = .ok (.aload_n 0, 1) := by decide +kernel
theorem dX3_givenTo_1 : decode cX3_givenTo 1 = .ok (.getfield 51, 3) := by decide +kernel
theorem dX3_givenTo_4 : decode cX3_givenTo 4 = .ok (.iload_n 1, 1) := by decide +kernel
theorem dX3_givenTo_5 : decode cX3_givenTo 5 = .ok (.invokestatic 55, 3) := by decide +kernel
theorem dX3_givenTo_8 : decode cX3_givenTo 8 = .ok (.lshr, 1) := by decide +kernel
theorem dX3_givenTo_9 : decode cX3_givenTo 9 = .ok (.l2i, 1) := by decide +kernel
theorem dX3_givenTo_10 : decode cX3_givenTo 10 = .ok (.bipush 15, 2) := by decide +kernel
theorem dX3_givenTo_12 : decode cX3_givenTo 12 = .ok (.iand, 1) := by decide +kernel
theorem dX3_givenTo_13 : decode cX3_givenTo 13 = .ok (.istore_n 2, 1) := by decide +kernel
theorem dX3_givenTo_14 : decode cX3_givenTo 14 = .ok (.iload_n 2, 1) := by decide +kernel
theorem dX3_givenTo_15 : decode cX3_givenTo 15 = .ok (.bipush 8, 2) := by decide +kernel
theorem dX3_givenTo_17 : decode cX3_givenTo 17 = .ok (.if_icmp .ne 8, 3) := by decide +kernel
theorem dX3_givenTo_20 : decode cX3_givenTo 20 = .ok (.bipush (-5), 2) := by decide +kernel
theorem dX3_givenTo_22 : decode cX3_givenTo 22 = .ok (.goto 4, 3) := by decide +kernel
theorem dX3_givenTo_25 : decode cX3_givenTo 25 = .ok (.iload_n 2, 1) := by decide +kernel
theorem dX3_givenTo_26 : decode cX3_givenTo 26 = .ok (.ireturn, 1) := by decide +kernel
theorem dX3_weigh_0 : decode cX3_weigh 0 = .ok (.iconst 0, 1) := by decide +kernel
theorem dX3_weigh_1 : decode cX3_weigh 1 = .ok (.istore 5, 2) := by decide +kernel
theorem dX3_weigh_3 : decode cX3_weigh 3 = .ok (.iload 5, 2) := by decide +kernel
theorem dX3_weigh_5 : decode cX3_weigh 5 = .ok (.aload_n 3, 1) := by decide +kernel
theorem dX3_weigh_6 : decode cX3_weigh 6 = .ok (.invokevirtual 18, 3) := by decide +kernel
theorem dX3_weigh_9 : decode cX3_weigh 9 = .ok (.if_icmp .ge 46, 3) := by decide +kernel
theorem dX3_weigh_12 : decode cX3_weigh 12 = .ok (.aload_n 3, 1) := by decide +kernel
theorem dX3_weigh_13 : decode cX3_weigh 13 = .ok (.iload 5, 2) := by decide +kernel
theorem dX3_weigh_15 : decode cX3_weigh 15 = .ok (.invokevirtual 24, 3) := by decide +kernel
theorem dX3_weigh_18 : decode cX3_weigh 18 = .ok (.astore 6, 2) := by decide +kernel
theorem dX3_weigh_20 : decode cX3_weigh 20 = .ok (.aload 6, 2) := by decide +kernel
theorem dX3_weigh_22 : decode cX3_weigh 22 = .ok (.ifnull 27, 3) := by decide +kernel
theorem dX3_weigh_25 : decode cX3_weigh 25 = .ok (.aload_n 0, 1) := by decide +kernel
theorem dX3_weigh_26 : decode cX3_weigh 26 = .ok (.getfield 15, 3) := by decide +kernel
theorem dX3_weigh_29 : decode cX3_weigh 29 = .ok (.iload 5, 2) := by decide +kernel
theorem dX3_weigh_31 : decode cX3_weigh 31 = .ok (.aload 4, 2) := by decide +kernel
theorem dX3_weigh_33 : decode cX3_weigh 33 = .ok (.aload_n 1, 1) := by decide +kernel
theorem dX3_weigh_34 : decode cX3_weigh 34 = .ok (.aload 6, 2) := by decide +kernel
theorem dX3_weigh_36 : decode cX3_weigh 36 = .ok (.invokevirtual 28, 3) := by decide +kernel
theorem dX3_weigh_39 : decode cX3_weigh 39 = .ok (.invokevirtual 59, 3) := by decide +kernel
theorem dX3_weigh_42 : decode cX3_weigh 42 = .ok (.iload 5, 2) := by decide +kernel
theorem dX3_weigh_44 : decode cX3_weigh 44 = .ok (.iload_n 2, 1) := by decide +kernel
theorem dX3_weigh_45 : decode cX3_weigh 45 = .ok (.invokestatic 43, 3) := by decide +kernel
theorem dX3_weigh_48 : decode cX3_weigh 48 = .ok (.lastore, 1) := by decide +kernel
theorem dX3_weigh_49 : decode cX3_weigh 49 = .ok (.iinc 5 1, 3) := by decide +kernel
theorem dX3_weigh_52 : decode cX3_weigh 52 = .ok (.goto (-49), 3) := by decide +kernel
theorem dX3_weigh_55 : decode cX3_weigh 55 = .ok (.return_, 1) := by decide +kernel
theorem dX3_giveOne_0 : decode cX3_giveOne 0 = .ok (.iconst 1, 1) := by decide +kernel
theorem dX3_giveOne_1 : decode cX3_giveOne 1 = .ok (.iload_n 1, 1) := by decide +kernel
theorem dX3_giveOne_2 : decode cX3_giveOne 2 = .ok (.ishl, 1) := by decide +kernel
theorem dX3_giveOne_3 : decode cX3_giveOne 3 = .ok (.iconst 1, 1) := by decide +kernel
theorem dX3_giveOne_4 : decode cX3_giveOne 4 = .ok (.isub, 1) := by decide +kernel
theorem dX3_giveOne_5 : decode cX3_giveOne 5 = .ok (.istore 4, 2) := by decide +kernel
theorem dX3_giveOne_7 : decode cX3_giveOne 7 = .ok (.iload 4, 2) := by decide +kernel
theorem dX3_giveOne_9 : decode cX3_giveOne 9 = .ok (.ifCond .lt 82, 3) := by decide +kernel
theorem dX3_giveOne_12 : decode cX3_giveOne 12 = .ok (.aload_n 0, 1) := by decide +kernel
theorem dX3_giveOne_13 : decode cX3_giveOne 13 = .ok (.getfield 9, 3) := by decide +kernel
theorem dX3_giveOne_16 : decode cX3_giveOne 16 = .ok (.iload 4, 2) := by decide +kernel
theorem dX3_giveOne_18 : decode cX3_giveOne 18 = .ok (.laload, 1) := by decide +kernel
theorem dX3_giveOne_19 : decode cX3_giveOne 19 = .ok (.lload_n 2, 1) := by decide +kernel
theorem dX3_giveOne_20 : decode cX3_giveOne 20 = .ok (.ladd, 1) := by decide +kernel
theorem dX3_giveOne_21 : decode cX3_giveOne 21 = .ok (.lstore 5, 2) := by decide +kernel
theorem dX3_giveOne_23 : decode cX3_giveOne 23 = .ok (.iconst 0, 1) := by decide +kernel
theorem dX3_giveOne_24 : decode cX3_giveOne 24 = .ok (.istore 7, 2) := by decide +kernel
theorem dX3_giveOne_26 : decode cX3_giveOne 26 = .ok (.iload 7, 2) := by decide +kernel
theorem dX3_giveOne_28 : decode cX3_giveOne 28 = .ok (.iload_n 1, 1) := by decide +kernel
theorem dX3_giveOne_29 : decode cX3_giveOne 29 = .ok (.if_icmp .ge 47, 3) := by decide +kernel
theorem dX3_giveOne_32 : decode cX3_giveOne 32 = .ok (.iload 4, 2) := by decide +kernel
theorem dX3_giveOne_34 : decode cX3_giveOne 34 = .ok (.iload 7, 2) := by decide +kernel
theorem dX3_giveOne_36 : decode cX3_giveOne 36 = .ok (.ishr, 1) := by decide +kernel
theorem dX3_giveOne_37 : decode cX3_giveOne 37 = .ok (.iconst 1, 1) := by decide +kernel
theorem dX3_giveOne_38 : decode cX3_giveOne 38 = .ok (.iand, 1) := by decide +kernel
theorem dX3_giveOne_39 : decode cX3_giveOne 39 = .ok (.iconst 1, 1) := by decide +kernel
theorem dX3_giveOne_40 : decode cX3_giveOne 40 = .ok (.if_icmp .ne 30, 3) := by decide +kernel
theorem dX3_giveOne_43 : decode cX3_giveOne 43 = .ok (.lload 5, 2) := by decide +kernel
theorem dX3_giveOne_45 : decode cX3_giveOne 45 = .ok (.aload_n 0, 1) := by decide +kernel
theorem dX3_giveOne_46 : decode cX3_giveOne 46 = .ok (.getfield 9, 3) := by decide +kernel
theorem dX3_giveOne_49 : decode cX3_giveOne 49 = .ok (.iload 4, 2) := by decide +kernel
theorem dX3_giveOne_51 : decode cX3_giveOne 51 = .ok (.iconst 1, 1) := by decide +kernel
theorem dX3_giveOne_52 : decode cX3_giveOne 52 = .ok (.iload 7, 2) := by decide +kernel
theorem dX3_giveOne_54 : decode cX3_giveOne 54 = .ok (.ishl, 1) := by decide +kernel
theorem dX3_giveOne_55 : decode cX3_giveOne 55 = .ok (.ixor, 1) := by decide +kernel
theorem dX3_giveOne_56 : decode cX3_giveOne 56 = .ok (.laload, 1) := by decide +kernel
theorem dX3_giveOne_57 : decode cX3_giveOne 57 = .ok (.aload_n 0, 1) := by decide +kernel
theorem dX3_giveOne_58 : decode cX3_giveOne 58 = .ok (.getfield 15, 3) := by decide +kernel
theorem dX3_giveOne_61 : decode cX3_giveOne 61 = .ok (.iload 7, 2) := by decide +kernel
theorem dX3_giveOne_63 : decode cX3_giveOne 63 = .ok (.laload, 1) := by decide +kernel
theorem dX3_giveOne_64 : decode cX3_giveOne 64 = .ok (.ladd, 1) := by decide +kernel
theorem dX3_giveOne_65 : decode cX3_giveOne 65 = .ok (.invokestatic 65, 3) := by decide +kernel
theorem dX3_giveOne_68 : decode cX3_giveOne 68 = .ok (.lstore 5, 2) := by decide +kernel
theorem dX3_giveOne_70 : decode cX3_giveOne 70 = .ok (.iinc 7 1, 3) := by decide +kernel
theorem dX3_giveOne_73 : decode cX3_giveOne 73 = .ok (.goto (-47), 3) := by decide +kernel
theorem dX3_giveOne_76 : decode cX3_giveOne 76 = .ok (.aload_n 0, 1) := by decide +kernel
theorem dX3_giveOne_77 : decode cX3_giveOne 77 = .ok (.getfield 9, 3) := by decide +kernel
theorem dX3_giveOne_80 : decode cX3_giveOne 80 = .ok (.iload 4, 2) := by decide +kernel
theorem dX3_giveOne_82 : decode cX3_giveOne 82 = .ok (.lload 5, 2) := by decide +kernel
theorem dX3_giveOne_84 : decode cX3_giveOne 84 = .ok (.lastore, 1) := by decide +kernel
theorem dX3_giveOne_85 : decode cX3_giveOne 85 = .ok (.iinc 4 (-1), 3) := by decide +kernel
theorem dX3_giveOne_88 : decode cX3_giveOne 88 = .ok (.goto (-81), 3) := by decide +kernel
theorem dX3_giveOne_91 : decode cX3_giveOne 91 = .ok (.return_, 1) := by decide +kernel
theorem dX3_worthOf_0 : decode cX3_worthOf 0 = .ok (.iload_n 0, 1) := by decide +kernel
theorem dX3_worthOf_1 : decode cX3_worthOf 1 = .ok (.i2l, 1) := by decide +kernel
theorem dX3_worthOf_2 : decode cX3_worthOf 2 = .ok (.bipush 32, 2) := by decide +kernel
theorem dX3_worthOf_4 : decode cX3_worthOf 4 = .ok (.lshl, 1) := by decide +kernel
theorem dX3_worthOf_5 : decode cX3_worthOf 5 = .ok (.iload_n 1, 1) := by decide +kernel
theorem dX3_worthOf_6 : decode cX3_worthOf 6 = .ok (.i2l, 1) := by decide +kernel
theorem dX3_worthOf_7 : decode cX3_worthOf 7 = .ok (.iload_n 2, 1) := by decide +kernel
theorem dX3_worthOf_8 : decode cX3_worthOf 8 = .ok (.invokestatic 55, 3) := by decide +kernel
theorem dX3_worthOf_11 : decode cX3_worthOf 11 = .ok (.lshl, 1) := by decide +kernel
theorem dX3_worthOf_12 : decode cX3_worthOf 12 = .ok (.ladd, 1) := by decide +kernel
theorem dX3_worthOf_13 : decode cX3_worthOf 13 = .ok (.lreturn, 1) := by decide +kernel
theorem dX3_shiftOf_0 : decode cX3_shiftOf 0 = .ok (.iconst 4, 1) := by decide +kernel
theorem dX3_shiftOf_1 : decode cX3_shiftOf 1 = .ok (.bipush 7, 2) := by decide +kernel
theorem dX3_shiftOf_3 : decode cX3_shiftOf 3 = .ok (.iload_n 0, 1) := by decide +kernel
theorem dX3_shiftOf_4 : decode cX3_shiftOf 4 = .ok (.isub, 1) := by decide +kernel
theorem dX3_shiftOf_5 : decode cX3_shiftOf 5 = .ok (.imul, 1) := by decide +kernel
theorem dX3_shiftOf_6 : decode cX3_shiftOf 6 = .ok (.ireturn, 1) := by decide +kernel
theorem dX4_init_0 : decode cX4_init 0 = .ok (.aload_n 0, 1) := by decide +kernel
theorem dX4_init_1 : decode cX4_init 1 = .ok (.invokespecial 3, 3) := by decide +kernel
theorem dX4_init_4 : decode cX4_init 4 = .ok (.aload_n 0, 1) := by decide +kernel
theorem dX4_init_5 : decode cX4_init 5 = .ok (.bipush 20, 2) := by decide +kernel
theorem dX4_init_7 : decode cX4_init 7 = .ok (.anewarray 9, 3) := by decide +kernel
theorem dX4_init_10 : decode cX4_init 10 = .ok (.putfield 11, 3) := by decide +kernel
theorem dX4_init_13 : decode cX4_init 13 = .ok (.iconst 0, 1) := by decide +kernel
theorem dX4_init_14 : decode cX4_init 14 = .ok (.istore_n 1, 1) := by decide +kernel
theorem dX4_init_15 : decode cX4_init 15 = .ok (.iload_n 1, 1) := by decide +kernel
theorem dX4_init_16 : decode cX4_init 16 = .ok (.bipush 20, 2) := by decide +kernel
theorem dX4_init_18 : decode cX4_init 18 = .ok (.if_icmp .ge 22, 3) := by decide +kernel
theorem dX4_init_21 : decode cX4_init 21 = .ok (.aload_n 0, 1) := by decide +kernel
theorem dX4_init_22 : decode cX4_init 22 = .ok (.getfield 11, 3) := by decide +kernel
theorem dX4_init_25 : decode cX4_init 25 = .ok (.iload_n 1, 1) := by decide +kernel
theorem dX4_init_26 : decode cX4_init 26 = .ok (.new 9, 3) := by decide +kernel
theorem dX4_init_29 : decode cX4_init 29 = .ok (.dup, 1) := by decide +kernel
theorem dX4_init_30 : decode cX4_init 30 = .ok (.invokespecial 17, 3) := by decide +kernel
theorem dX4_init_33 : decode cX4_init 33 = .ok (.aastore, 1) := by decide +kernel
theorem dX4_init_34 : decode cX4_init 34 = .ok (.iinc 1 1, 3) := by decide +kernel
theorem dX4_init_37 : decode cX4_init 37 = .ok (.goto (-22), 3) := by decide +kernel
theorem dX4_init_40 : decode cX4_init 40 = .ok (.return_, 1) := by decide +kernel
theorem dX4_count_0 : decode cX4_count 0 = .ok (.aload_n 0, 1) := by decide +kernel
theorem dX4_count_1 : decode cX4_count 1 = .ok (.getfield 18, 3) := by decide +kernel
theorem dX4_count_4 : decode cX4_count 4 = .ok (.ireturn, 1) := by decide +kernel
theorem dX4_at_0 : decode cX4_at 0 = .ok (.iload_n 1, 1) := by decide +kernel
theorem dX4_at_1 : decode cX4_at 1 = .ok (.ifCond .lt 20, 3) := by decide +kernel
theorem dX4_at_4 : decode cX4_at 4 = .ok (.iload_n 1, 1) := by decide +kernel
theorem dX4_at_5 : decode cX4_at 5 = .ok (.aload_n 0, 1) := by decide +kernel
theorem dX4_at_6 : decode cX4_at 6 = .ok (.getfield 18, 3) := by decide +kernel
theorem dX4_at_9 : decode cX4_at 9 = .ok (.if_icmp .ge 12, 3) := by decide +kernel
theorem dX4_at_12 : decode cX4_at 12 = .ok (.aload_n 0, 1) := by decide +kernel
theorem dX4_at_13 : decode cX4_at 13 = .ok (.getfield 11, 3) := by decide +kernel
theorem dX4_at_16 : decode cX4_at 16 = .ok (.iload_n 1, 1) := by decide +kernel
theorem dX4_at_17 : decode cX4_at 17 = .ok (.aaload, 1) := by decide +kernel
theorem dX4_at_18 : decode cX4_at 18 = .ok (.goto 4, 3) := by decide +kernel
theorem dX4_at_21 : decode cX4_at 21 = .ok (.aconst_null, 1) := by decide +kernel
theorem dX4_at_22 : decode cX4_at 22 = .ok (.areturn, 1) := by decide +kernel
theorem dX4_remember_0 : decode cX4_remember 0 = .ok (.iconst 0, 1) := by decide +kernel
theorem dX4_remember_1 : decode cX4_remember 1 = .ok (.istore 4, 2) := by decide +kernel
theorem dX4_remember_3 : decode cX4_remember 3 = .ok (.iload 4, 2) := by decide +kernel
theorem dX4_remember_5 : decode cX4_remember 5 = .ok (.aload_n 0, 1) := by decide +kernel
theorem dX4_remember_6 : decode cX4_remember 6 = .ok (.getfield 18, 3) := by decide +kernel
theorem dX4_remember_9 : decode cX4_remember 9 = .ok (.if_icmp .ge 26, 3) := by decide +kernel
theorem dX4_remember_12 : decode cX4_remember 12 = .ok (.aload_n 0, 1) := by decide +kernel
theorem dX4_remember_13 : decode cX4_remember 13 = .ok (.getfield 11, 3) := by decide +kernel
theorem dX4_remember_16 : decode cX4_remember 16 = .ok (.iload 4, 2) := by decide +kernel
theorem dX4_remember_18 : decode cX4_remember 18 = .ok (.aaload, 1) := by decide +kernel
theorem dX4_remember_19 : decode cX4_remember 19 = .ok (.aload_n 1, 1) := by decide +kernel
theorem dX4_remember_20 : decode cX4_remember 20 = .ok (.iload_n 2, 1) := by decide +kernel
theorem dX4_remember_21 : decode cX4_remember 21 = .ok (.aload_n 3, 1) := by decide +kernel
theorem dX4_remember_22 : decode cX4_remember 22 = .ok (.invokevirtual 22, 3) := by decide +kernel
theorem dX4_remember_25 : decode cX4_remember 25 = .ok (.ifCond .eq 4, 3) := by decide +kernel
theorem dX4_remember_28 : decode cX4_remember 28 = .ok (.return_, 1) := by decide +kernel
theorem dX4_remember_29 : decode cX4_remember 29 = .ok (.iinc 4 1, 3) := by decide +kernel
theorem dX4_remember_32 : decode cX4_remember 32 = .ok (.goto (-29), 3) := by decide +kernel
theorem dX4_remember_35 : decode cX4_remember 35 = .ok (.aload_n 0, 1) := by decide +kernel
theorem dX4_remember_36 : decode cX4_remember 36 = .ok (.getfield 18, 3) := by decide +kernel
theorem dX4_remember_39 : decode cX4_remember 39 = .ok (.bipush 20, 2) := by decide +kernel
theorem dX4_remember_41 : decode cX4_remember 41 = .ok (.if_icmp .ge 16, 3) := by decide +kernel
theorem dX4_remember_44 : decode cX4_remember 44 = .ok (.aload_n 0, 1) := by decide +kernel
theorem dX4_remember_45 : decode cX4_remember 45 = .ok (.dup, 1) := by decide +kernel
theorem dX4_remember_46 : decode cX4_remember 46 = .ok (.getfield 18, 3) := by decide +kernel
theorem dX4_remember_49 : decode cX4_remember 49 = .ok (.iconst 1, 1) := by decide +kernel
theorem dX4_remember_50 : decode cX4_remember 50 = .ok (.iadd, 1) := by decide +kernel
theorem dX4_remember_51 : decode cX4_remember 51 = .ok (.putfield 18, 3) := by decide +kernel
theorem dX4_remember_54 : decode cX4_remember 54 = .ok (.goto 7, 3) := by decide +kernel
theorem dX4_remember_57 : decode cX4_remember 57 = .ok (.aload_n 0, 1) := by decide +kernel
theorem dX4_remember_58 : decode cX4_remember 58 = .ok (.invokevirtual 26, 3) := by decide +kernel
theorem dX4_remember_61 : decode cX4_remember 61 = .ok (.aload_n 0, 1) := by decide +kernel
theorem dX4_remember_62 : decode cX4_remember 62 = .ok (.getfield 11, 3) := by decide +kernel
theorem dX4_remember_65 : decode cX4_remember 65 = .ok (.aload_n 0, 1) := by decide +kernel
theorem dX4_remember_66 : decode cX4_remember 66 = .ok (.getfield 18, 3) := by decide +kernel
theorem dX4_remember_69 : decode cX4_remember 69 = .ok (.iconst 1, 1) := by decide +kernel
theorem dX4_remember_70 : decode cX4_remember 70 = .ok (.isub, 1) := by decide +kernel
theorem dX4_remember_71 : decode cX4_remember 71 = .ok (.aaload, 1) := by decide +kernel
theorem dX4_remember_72 : decode cX4_remember 72 = .ok (.aload_n 1, 1) := by decide +kernel
theorem dX4_remember_73 : decode cX4_remember 73 = .ok (.iload_n 2, 1) := by decide +kernel
theorem dX4_remember_74 : decode cX4_remember 74 = .ok (.aload_n 3, 1) := by decide +kernel
theorem dX4_remember_75 : decode cX4_remember 75 = .ok (.invokevirtual 29, 3) := by decide +kernel
theorem dX4_remember_78 : decode cX4_remember 78 = .ok (.return_, 1) := by decide +kernel
theorem dX4_putEldestLast_0 : decode cX4_putEldestLast 0 = .ok (.aload_n 0, 1) := by decide +kernel
theorem dX4_putEldestLast_1 : decode cX4_putEldestLast 1 = .ok (.getfield 11, 3) := by decide +kernel
theorem dX4_putEldestLast_4 : decode cX4_putEldestLast 4 = .ok (.iconst 0, 1) := by decide +kernel
theorem dX4_putEldestLast_5 : decode cX4_putEldestLast 5 = .ok (.aaload, 1) := by decide +kernel
theorem dX4_putEldestLast_6 : decode cX4_putEldestLast 6 = .ok (.astore_n 1, 1) := by decide +kernel
theorem dX4_putEldestLast_7 : decode cX4_putEldestLast 7 = .ok (.iconst 1, 1) := by decide +kernel
theorem dX4_putEldestLast_8 : decode cX4_putEldestLast 8 = .ok (.istore_n 2, 1) := by decide +kernel
theorem dX4_putEldestLast_9 : decode cX4_putEldestLast 9 = .ok (.iload_n 2, 1) := by decide +kernel
theorem dX4_putEldestLast_10 : decode cX4_putEldestLast 10 = .ok (.bipush 20, 2) := by decide +kernel
theorem dX4_putEldestLast_12 : decode cX4_putEldestLast 12 = .ok (.if_icmp .ge 23, 3) := by decide +kernel
theorem dX4_putEldestLast_15 : decode cX4_putEldestLast 15 = .ok (.aload_n 0, 1) := by decide +kernel
theorem dX4_putEldestLast_16 : decode cX4_putEldestLast 16 = .ok (.getfield 11, 3) := by decide +kernel
theorem dX4_putEldestLast_19 : decode cX4_putEldestLast 19 = .ok (.iload_n 2, 1) := by decide +kernel
theorem dX4_putEldestLast_20 : decode cX4_putEldestLast 20 = .ok (.iconst 1, 1) := by decide +kernel
theorem dX4_putEldestLast_21 : decode cX4_putEldestLast 21 = .ok (.isub, 1) := by decide +kernel
theorem dX4_putEldestLast_22 : decode cX4_putEldestLast 22 = .ok (.aload_n 0, 1) := by decide +kernel
theorem dX4_putEldestLast_23 : decode cX4_putEldestLast 23 = .ok (.getfield 11, 3) := by decide +kernel
theorem dX4_putEldestLast_26 : decode cX4_putEldestLast 26 = .ok (.iload_n 2, 1) := by decide +kernel
theorem dX4_putEldestLast_27 : decode cX4_putEldestLast 27 = .ok (.aaload, 1) := by decide +kernel
theorem dX4_putEldestLast_28 : decode cX4_putEldestLast 28 = .ok (.aastore, 1) := by decide +kernel
theorem dX4_putEldestLast_29 : decode cX4_putEldestLast 29 = .ok (.iinc 2 1, 3) := by decide +kernel
theorem dX4_putEldestLast_32 : decode cX4_putEldestLast 32 = .ok (.goto (-23), 3) := by decide +kernel
theorem dX4_putEldestLast_35 : decode cX4_putEldestLast 35 = .ok (.aload_n 0, 1) := by decide +kernel
theorem dX4_putEldestLast_36 : decode cX4_putEldestLast 36 = .ok (.getfield 11, 3) := by decide +kernel
theorem dX4_putEldestLast_39 : decode cX4_putEldestLast 39 = .ok (.bipush 19, 2) := by decide +kernel
theorem dX4_putEldestLast_41 : decode cX4_putEldestLast 41 = .ok (.aload_n 1, 1) := by decide +kernel
theorem dX4_putEldestLast_42 : decode cX4_putEldestLast 42 = .ok (.aastore, 1) := by decide +kernel
theorem dX4_putEldestLast_43 : decode cX4_putEldestLast 43 = .ok (.return_, 1) := by decide +kernel
theorem dX4_closest_0 : decode cX4_closest 0 = .ok (.bipush (-5), 2) := by decide +kernel
theorem dX4_closest_2 : decode cX4_closest 2 = .ok (.istore 4, 2) := by decide +kernel
theorem dX4_closest_4 : decode cX4_closest 4 = .ok (.bipush 11, 2) := by decide +kernel
theorem dX4_closest_6 : decode cX4_closest 6 = .ok (.istore 5, 2) := by decide +kernel
theorem dX4_closest_8 : decode cX4_closest 8 = .ok (.iconst 0, 1) := by decide +kernel
theorem dX4_closest_9 : decode cX4_closest 9 = .ok (.istore 6, 2) := by decide +kernel
theorem dX4_closest_11 : decode cX4_closest 11 = .ok (.iload 6, 2) := by decide +kernel
theorem dX4_closest_13 : decode cX4_closest 13 = .ok (.aload_n 0, 1) := by decide +kernel
theorem dX4_closest_14 : decode cX4_closest 14 = .ok (.getfield 18, 3) := by decide +kernel
theorem dX4_closest_17 : decode cX4_closest 17 = .ok (.if_icmp .ge 55, 3) := by decide +kernel
theorem dX4_closest_20 : decode cX4_closest 20 = .ok (.aload_n 0, 1) := by decide +kernel
theorem dX4_closest_21 : decode cX4_closest 21 = .ok (.getfield 11, 3) := by decide +kernel
theorem dX4_closest_24 : decode cX4_closest 24 = .ok (.iload 6, 2) := by decide +kernel
theorem dX4_closest_26 : decode cX4_closest 26 = .ok (.aaload, 1) := by decide +kernel
theorem dX4_closest_27 : decode cX4_closest 27 = .ok (.invokevirtual 33, 3) := by decide +kernel
theorem dX4_closest_30 : decode cX4_closest 30 = .ok (.iload_n 2, 1) := by decide +kernel
theorem dX4_closest_31 : decode cX4_closest 31 = .ok (.if_icmp .ne 35, 3) := by decide +kernel
theorem dX4_closest_34 : decode cX4_closest 34 = .ok (.aload_n 3, 1) := by decide +kernel
theorem dX4_closest_35 : decode cX4_closest 35 = .ok (.aload_n 1, 1) := by decide +kernel
theorem dX4_closest_36 : decode cX4_closest 36 = .ok (.aload_n 0, 1) := by decide +kernel
theorem dX4_closest_37 : decode cX4_closest 37 = .ok (.getfield 11, 3) := by decide +kernel
theorem dX4_closest_40 : decode cX4_closest 40 = .ok (.iload 6, 2) := by decide +kernel
theorem dX4_closest_42 : decode cX4_closest 42 = .ok (.aaload, 1) := by decide +kernel
theorem dX4_closest_43 : decode cX4_closest 43 = .ok (.invokevirtual 37, 3) := by decide +kernel
theorem dX4_closest_46 : decode cX4_closest 46 = .ok (.invokevirtual 41, 3) := by decide +kernel
theorem dX4_closest_49 : decode cX4_closest 49 = .ok (.istore 7, 2) := by decide +kernel
theorem dX4_closest_51 : decode cX4_closest 51 = .ok (.iload 7, 2) := by decide +kernel
theorem dX4_closest_53 : decode cX4_closest 53 = .ok (.iload 5, 2) := by decide +kernel
theorem dX4_closest_55 : decode cX4_closest 55 = .ok (.if_icmp .gt 11, 3) := by decide +kernel
theorem dX4_closest_58 : decode cX4_closest 58 = .ok (.iload 7, 2) := by decide +kernel
theorem dX4_closest_60 : decode cX4_closest 60 = .ok (.istore 5, 2) := by decide +kernel
theorem dX4_closest_62 : decode cX4_closest 62 = .ok (.iload 6, 2) := by decide +kernel
theorem dX4_closest_64 : decode cX4_closest 64 = .ok (.istore 4, 2) := by decide +kernel
theorem dX4_closest_66 : decode cX4_closest 66 = .ok (.iinc 6 1, 3) := by decide +kernel
theorem dX4_closest_69 : decode cX4_closest 69 = .ok (.goto (-58), 3) := by decide +kernel
theorem dX4_closest_72 : decode cX4_closest 72 = .ok (.iload 4, 2) := by decide +kernel
theorem dX4_closest_74 : decode cX4_closest 74 = .ok (.ireturn, 1) := by decide +kernel
theorem dX4_copy_0 : decode cX4_copy 0 = .ok (.aload_n 0, 1) := by decide +kernel
theorem dX4_copy_1 : decode cX4_copy 1 = .ok (.aload_n 1, 1) := by decide +kernel
theorem dX4_copy_2 : decode cX4_copy 2 = .ok (.getfield 18, 3) := by decide +kernel
theorem dX4_copy_5 : decode cX4_copy 5 = .ok (.putfield 18, 3) := by decide +kernel
theorem dX4_copy_8 : decode cX4_copy 8 = .ok (.iconst 0, 1) := by decide +kernel
theorem dX4_copy_9 : decode cX4_copy 9 = .ok (.istore_n 2, 1) := by decide +kernel
theorem dX4_copy_10 : decode cX4_copy 10 = .ok (.iload_n 2, 1) := by decide +kernel
theorem dX4_copy_11 : decode cX4_copy 11 = .ok (.aload_n 0, 1) := by decide +kernel
theorem dX4_copy_12 : decode cX4_copy 12 = .ok (.getfield 18, 3) := by decide +kernel
theorem dX4_copy_15 : decode cX4_copy 15 = .ok (.if_icmp .ge 37, 3) := by decide +kernel
theorem dX4_copy_18 : decode cX4_copy 18 = .ok (.aload_n 1, 1) := by decide +kernel
theorem dX4_copy_19 : decode cX4_copy 19 = .ok (.getfield 11, 3) := by decide +kernel
theorem dX4_copy_22 : decode cX4_copy 22 = .ok (.iload_n 2, 1) := by decide +kernel
theorem dX4_copy_23 : decode cX4_copy 23 = .ok (.aaload, 1) := by decide +kernel
theorem dX4_copy_24 : decode cX4_copy 24 = .ok (.astore_n 3, 1) := by decide +kernel
theorem dX4_copy_25 : decode cX4_copy 25 = .ok (.aload_n 0, 1) := by decide +kernel
theorem dX4_copy_26 : decode cX4_copy 26 = .ok (.getfield 11, 3) := by decide +kernel
theorem dX4_copy_29 : decode cX4_copy 29 = .ok (.iload_n 2, 1) := by decide +kernel
theorem dX4_copy_30 : decode cX4_copy 30 = .ok (.aaload, 1) := by decide +kernel
theorem dX4_copy_31 : decode cX4_copy 31 = .ok (.aload_n 3, 1) := by decide +kernel
theorem dX4_copy_32 : decode cX4_copy 32 = .ok (.invokevirtual 37, 3) := by decide +kernel
theorem dX4_copy_35 : decode cX4_copy 35 = .ok (.aload_n 3, 1) := by decide +kernel
theorem dX4_copy_36 : decode cX4_copy 36 = .ok (.invokevirtual 33, 3) := by decide +kernel
theorem dX4_copy_39 : decode cX4_copy 39 = .ok (.aload_n 3, 1) := by decide +kernel
theorem dX4_copy_40 : decode cX4_copy 40 = .ok (.invokevirtual 47, 3) := by decide +kernel
theorem dX4_copy_43 : decode cX4_copy 43 = .ok (.invokevirtual 29, 3) := by decide +kernel
theorem dX4_copy_46 : decode cX4_copy 46 = .ok (.iinc 2 1, 3) := by decide +kernel
theorem dX4_copy_49 : decode cX4_copy 49 = .ok (.goto (-39), 3) := by decide +kernel
theorem dX4_copy_52 : decode cX4_copy 52 = .ok (.return_, 1) := by decide +kernel
theorem dX5_init_0 : decode cX5_init 0 = .ok (.aload_n 0, 1) := by decide +kernel
theorem dX5_init_1 : decode cX5_init 1 = .ok (.invokespecial 3, 3) := by decide +kernel
theorem dX5_init_4 : decode cX5_init 4 = .ok (.aload_n 0, 1) := by decide +kernel
theorem dX5_init_5 : decode cX5_init 5 = .ok (.new 9, 3) := by decide +kernel
theorem dX5_init_8 : decode cX5_init 8 = .ok (.dup, 1) := by decide +kernel
theorem dX5_init_9 : decode cX5_init 9 = .ok (.invokespecial 11, 3) := by decide +kernel
theorem dX5_init_12 : decode cX5_init 12 = .ok (.putfield 12, 3) := by decide +kernel
theorem dX5_init_15 : decode cX5_init 15 = .ok (.aload_n 0, 1) := by decide +kernel
theorem dX5_init_16 : decode cX5_init 16 = .ok (.iconst 3, 1) := by decide +kernel
theorem dX5_init_17 : decode cX5_init 17 = .ok (.anewarray 18, 3) := by decide +kernel
theorem dX5_init_20 : decode cX5_init 20 = .ok (.putfield 20, 3) := by decide +kernel
theorem dX5_init_23 : decode cX5_init 23 = .ok (.aload_n 0, 1) := by decide +kernel
theorem dX5_init_24 : decode cX5_init 24 = .ok (.iconst 0, 1) := by decide +kernel
theorem dX5_init_25 : decode cX5_init 25 = .ok (.putfield 24, 3) := by decide +kernel
theorem dX5_init_28 : decode cX5_init 28 = .ok (.aload_n 0, 1) := by decide +kernel
theorem dX5_init_29 : decode cX5_init 29 = .ok (.bipush (-5), 2) := by decide +kernel
theorem dX5_init_31 : decode cX5_init 31 = .ok (.putfield 28, 3) := by decide +kernel
theorem dX5_init_34 : decode cX5_init 34 = .ok (.iconst 0, 1) := by decide +kernel
theorem dX5_init_35 : decode cX5_init 35 = .ok (.istore_n 1, 1) := by decide +kernel
theorem dX5_init_36 : decode cX5_init 36 = .ok (.iload_n 1, 1) := by decide +kernel
theorem dX5_init_37 : decode cX5_init 37 = .ok (.iconst 3, 1) := by decide +kernel
theorem dX5_init_38 : decode cX5_init 38 = .ok (.if_icmp .ge 22, 3) := by decide +kernel
theorem dX5_init_41 : decode cX5_init 41 = .ok (.aload_n 0, 1) := by decide +kernel
theorem dX5_init_42 : decode cX5_init 42 = .ok (.getfield 20, 3) := by decide +kernel
theorem dX5_init_45 : decode cX5_init 45 = .ok (.iload_n 1, 1) := by decide +kernel
theorem dX5_init_46 : decode cX5_init 46 = .ok (.new 18, 3) := by decide +kernel
theorem dX5_init_49 : decode cX5_init 49 = .ok (.dup, 1) := by decide +kernel
theorem dX5_init_50 : decode cX5_init 50 = .ok (.invokespecial 31, 3) := by decide +kernel
theorem dX5_init_53 : decode cX5_init 53 = .ok (.aastore, 1) := by decide +kernel
theorem dX5_init_54 : decode cX5_init 54 = .ok (.iinc 1 1, 3) := by decide +kernel
theorem dX5_init_57 : decode cX5_init 57 = .ok (.goto (-21), 3) := by decide +kernel
theorem dX5_init_60 : decode cX5_init 60 = .ok (.return_, 1) := by decide +kernel
theorem dX5_signs_0 : decode cX5_signs 0 = .ok (.aload_n 0, 1) := by decide +kernel
theorem dX5_signs_1 : decode cX5_signs 1 = .ok (.getfield 12, 3) := by decide +kernel
theorem dX5_signs_4 : decode cX5_signs 4 = .ok (.areturn, 1) := by decide +kernel
theorem dX5_kind_0 : decode cX5_kind 0 = .ok (.aload_n 0, 1) := by decide +kernel
theorem dX5_kind_1 : decode cX5_kind 1 = .ok (.getfield 24, 3) := by decide +kernel
theorem dX5_kind_4 : decode cX5_kind 4 = .ok (.ireturn, 1) := by decide +kernel
theorem dX5_given_0 : decode cX5_given 0 = .ok (.aload_n 0, 1) := by decide +kernel
theorem dX5_given_1 : decode cX5_given 1 = .ok (.getfield 28, 3) := by decide +kernel
theorem dX5_given_4 : decode cX5_given 4 = .ok (.ireturn, 1) := by decide +kernel
theorem dX5_textIn_0 : decode cX5_textIn 0 = .ok (.iload_n 1, 1) := by decide +kernel
theorem dX5_textIn_1 : decode cX5_textIn 1 = .ok (.invokestatic 32, 3) := by decide +kernel
theorem dX5_textIn_4 : decode cX5_textIn 4 = .ok (.ifCond .eq 12, 3) := by decide +kernel
theorem dX5_textIn_7 : decode cX5_textIn 7 = .ok (.aload_n 0, 1) := by decide +kernel
theorem dX5_textIn_8 : decode cX5_textIn 8 = .ok (.getfield 20, 3) := by decide +kernel
theorem dX5_textIn_11 : decode cX5_textIn 11 = .ok (.iload_n 1, 1) := by decide +kernel
theorem dX5_textIn_12 : decode cX5_textIn 12 = .ok (.aaload, 1) := by decide +kernel
theorem dX5_textIn_13 : decode cX5_textIn 13 = .ok (.goto 4, 3) := by decide +kernel
theorem dX5_textIn_16 : decode cX5_textIn 16 = .ok (.aconst_null, 1) := by decide +kernel
theorem dX5_textIn_17 : decode cX5_textIn 17 = .ok (.areturn, 1) := by decide +kernel
theorem dX5_storyAt_0 : decode cX5_storyAt 0 = .ok (.aload_n 0, 1) := by decide +kernel
theorem dX5_storyAt_1 : decode cX5_storyAt 1 = .ok (.getfield 28, 3) := by decide +kernel
theorem dX5_storyAt_4 : decode cX5_storyAt 4 = .ok (.bipush (-5), 2) := by decide +kernel
theorem dX5_storyAt_6 : decode cX5_storyAt 6 = .ok (.if_icmp .ne 5, 3) := by decide +kernel
theorem dX5_storyAt_9 : decode cX5_storyAt 9 = .ok (.iconst 3, 1) := by decide +kernel
theorem dX5_storyAt_10 : decode cX5_storyAt 10 = .ok (.ireturn, 1) := by decide +kernel
theorem dX5_storyAt_11 : decode cX5_storyAt 11 = .ok (.aload_n 0, 1) := by decide +kernel
theorem dX5_storyAt_12 : decode cX5_storyAt 12 = .ok (.getfield 36, 3) := by decide +kernel
theorem dX5_storyAt_15 : decode cX5_storyAt 15 = .ok (.ifCond .le 5, 3) := by decide +kernel
theorem dX5_storyAt_18 : decode cX5_storyAt 18 = .ok (.iconst 2, 1) := by decide +kernel
theorem dX5_storyAt_19 : decode cX5_storyAt 19 = .ok (.ireturn, 1) := by decide +kernel
theorem dX5_storyAt_20 : decode cX5_storyAt 20 = .ok (.aload_n 0, 1) := by decide +kernel
theorem dX5_storyAt_21 : decode cX5_storyAt 21 = .ok (.getfield 28, 3) := by decide +kernel
theorem dX5_storyAt_24 : decode cX5_storyAt 24 = .ok (.iload_n 1, 1) := by decide +kernel
theorem dX5_storyAt_25 : decode cX5_storyAt 25 = .ok (.if_icmp .ne 7, 3) := by decide +kernel
theorem dX5_storyAt_28 : decode cX5_storyAt 28 = .ok (.iconst 0, 1) := by decide +kernel
theorem dX5_storyAt_29 : decode cX5_storyAt 29 = .ok (.goto 4, 3) := by decide +kernel
theorem dX5_storyAt_32 : decode cX5_storyAt 32 = .ok (.iconst 1, 1) := by decide +kernel
theorem dX5_storyAt_33 : decode cX5_storyAt 33 = .ok (.ireturn, 1) := by decide +kernel
theorem dX5_isReviewedIn_0 : decode cX5_isReviewedIn 0 = .ok (.iload_n 1, 1) := by decide +kernel
theorem dX5_isReviewedIn_1 : decode cX5_isReviewedIn 1 = .ok (.invokestatic 32, 3) := by decide +kernel
theorem dX5_isReviewedIn_4 : decode cX5_isReviewedIn 4 = .ok (.ifCond .eq 20, 3) := by decide +kernel
theorem dX5_isReviewedIn_7 : decode cX5_isReviewedIn 7 = .ok (.aload_n 0, 1) := by decide +kernel
theorem dX5_isReviewedIn_8 : decode cX5_isReviewedIn 8 = .ok (.getfield 20, 3) := by decide +kernel
theorem dX5_isReviewedIn_11 : decode cX5_isReviewedIn 11 = .ok (.iload_n 1, 1) := by decide +kernel
theorem dX5_isReviewedIn_12 : decode cX5_isReviewedIn 12 = .ok (.aaload, 1) := by decide +kernel
theorem dX5_isReviewedIn_13 : decode cX5_isReviewedIn 13 = .ok (.invokevirtual 39, 3) := by decide +kernel
theorem dX5_isReviewedIn_16 : decode cX5_isReviewedIn 16 = .ok (.iconst 2, 1) := by decide +kernel
theorem dX5_isReviewedIn_17 : decode cX5_isReviewedIn 17 = .ok (.if_icmp .ne 7, 3) := by decide +kernel
theorem dX5_isReviewedIn_20 : decode cX5_isReviewedIn 20 = .ok (.iconst 1, 1) := by decide +kernel
theorem dX5_isReviewedIn_21 : decode cX5_isReviewedIn 21 = .ok (.goto 4, 3) := by decide +kernel
theorem dX5_isReviewedIn_24 : decode cX5_isReviewedIn 24 = .ok (.iconst 0, 1) := by decide +kernel
theorem dX5_isReviewedIn_25 : decode cX5_isReviewedIn 25 = .ok (.ireturn, 1) := by decide +kernel
theorem dX5_needsWork_0 : decode cX5_needsWork 0 = .ok (.aload_n 0, 1) := by decide +kernel
theorem dX5_needsWork_1 : decode cX5_needsWork 1 = .ok (.getfield 24, 3) := by decide +kernel
theorem dX5_needsWork_4 : decode cX5_needsWork 4 = .ok (.iconst 1, 1) := by decide +kernel
theorem dX5_needsWork_5 : decode cX5_needsWork 5 = .ok (.if_icmp .eq 15, 3) := by decide +kernel
theorem dX5_needsWork_8 : decode cX5_needsWork 8 = .ok (.aload_n 0, 1) := by decide +kernel
theorem dX5_needsWork_9 : decode cX5_needsWork 9 = .ok (.iload_n 1, 1) := by decide +kernel
theorem dX5_needsWork_10 : decode cX5_needsWork 10 = .ok (.invokevirtual 43, 3) := by decide +kernel
theorem dX5_needsWork_13 : decode cX5_needsWork 13 = .ok (.ifCond .ne 7, 3) := by decide +kernel
theorem dX5_needsWork_16 : decode cX5_needsWork 16 = .ok (.iconst 1, 1) := by decide +kernel
theorem dX5_needsWork_17 : decode cX5_needsWork 17 = .ok (.goto 4, 3) := by decide +kernel
theorem dX5_needsWork_20 : decode cX5_needsWork 20 = .ok (.iconst 0, 1) := by decide +kernel
theorem dX5_needsWork_21 : decode cX5_needsWork 21 = .ok (.ireturn, 1) := by decide +kernel
theorem dX5_releasedIn_0 : decode cX5_releasedIn 0 = .ok (.aload_n 0, 1) := by decide +kernel
theorem dX5_releasedIn_1 : decode cX5_releasedIn 1 = .ok (.iload_n 1, 1) := by decide +kernel
theorem dX5_releasedIn_2 : decode cX5_releasedIn 2 = .ok (.invokevirtual 43, 3) := by decide +kernel
theorem dX5_releasedIn_5 : decode cX5_releasedIn 5 = .ok (.ifCond .eq 15, 3) := by decide +kernel
theorem dX5_releasedIn_8 : decode cX5_releasedIn 8 = .ok (.aload_n 0, 1) := by decide +kernel
theorem dX5_releasedIn_9 : decode cX5_releasedIn 9 = .ok (.getfield 20, 3) := by decide +kernel
theorem dX5_releasedIn_12 : decode cX5_releasedIn 12 = .ok (.iload_n 1, 1) := by decide +kernel
theorem dX5_releasedIn_13 : decode cX5_releasedIn 13 = .ok (.aaload, 1) := by decide +kernel
theorem dX5_releasedIn_14 : decode cX5_releasedIn 14 = .ok (.invokevirtual 46, 3) := by decide +kernel
theorem dX5_releasedIn_17 : decode cX5_releasedIn 17 = .ok (.goto 7, 3) := by decide +kernel
theorem dX5_releasedIn_20 : decode cX5_releasedIn 20 = .ok (.aload_n 0, 1) := by decide +kernel
theorem dX5_releasedIn_21 : decode cX5_releasedIn 21 = .ok (.getfield 12, 3) := by decide +kernel
theorem dX5_releasedIn_24 : decode cX5_releasedIn 24 = .ok (.areturn, 1) := by decide +kernel
theorem dX5_textsThatAre_0 : decode cX5_textsThatAre 0 = .ok (.iconst 0, 1) := by decide +kernel
theorem dX5_textsThatAre_1 : decode cX5_textsThatAre 1 = .ok (.istore_n 2, 1) := by decide +kernel
theorem dX5_textsThatAre_2 : decode cX5_textsThatAre 2 = .ok (.iconst 0, 1) := by decide +kernel
theorem dX5_textsThatAre_3 : decode cX5_textsThatAre 3 = .ok (.istore_n 3, 1) := by decide +kernel
theorem dX5_textsThatAre_4 : decode cX5_textsThatAre 4 = .ok (.iload_n 3, 1) := by decide +kernel
theorem dX5_textsThatAre_5 : decode cX5_textsThatAre 5 = .ok (.iconst 3, 1) := by decide +kernel
theorem dX5_textsThatAre_6 : decode cX5_textsThatAre 6 = .ok (.if_icmp .ge 25, 3) := by decide +kernel
theorem dX5_textsThatAre_9 : decode cX5_textsThatAre 9 = .ok (.aload_n 0, 1) := by decide +kernel
theorem dX5_textsThatAre_10 : decode cX5_textsThatAre 10 = .ok (.getfield 20, 3) := by decide +kernel
theorem dX5_textsThatAre_13 : decode cX5_textsThatAre 13 = .ok (.iload_n 3, 1) := by decide +kernel
theorem dX5_textsThatAre_14 : decode cX5_textsThatAre 14 = .ok (.aaload, 1) := by decide +kernel
theorem dX5_textsThatAre_15 : decode cX5_textsThatAre 15 = .ok (.invokevirtual 39, 3) := by decide +kernel
theorem dX5_textsThatAre_18 : decode cX5_textsThatAre 18 = .ok (.iload_n 1, 1) := by decide +kernel
theorem dX5_textsThatAre_19 : decode cX5_textsThatAre 19 = .ok (.if_icmp .ne 6, 3) := by decide +kernel
theorem dX5_textsThatAre_22 : decode cX5_textsThatAre 22 = .ok (.iinc 2 1, 3) := by decide +kernel
theorem dX5_textsThatAre_25 : decode cX5_textsThatAre 25 = .ok (.iinc 3 1, 3) := by decide +kernel
theorem dX5_textsThatAre_28 : decode cX5_textsThatAre 28 = .ok (.goto (-24), 3) := by decide +kernel
theorem dX5_textsThatAre_31 : decode cX5_textsThatAre 31 = .ok (.iload_n 2, 1) := by decide +kernel
theorem dX5_textsThatAre_32 : decode cX5_textsThatAre 32 = .ok (.ireturn, 1) := by decide +kernel
theorem dX5_begin_0 : decode cX5_begin 0 = .ok (.aload_n 0, 1) := by decide +kernel
theorem dX5_begin_1 : decode cX5_begin 1 = .ok (.iload_n 1, 1) := by decide +kernel
theorem dX5_begin_2 : decode cX5_begin 2 = .ok (.putfield 24, 3) := by decide +kernel
theorem dX5_begin_5 : decode cX5_begin 5 = .ok (.aload_n 0, 1) := by decide +kernel
theorem dX5_begin_6 : decode cX5_begin 6 = .ok (.getfield 12, 3) := by decide +kernel
theorem dX5_begin_9 : decode cX5_begin 9 = .ok (.aload_n 2, 1) := by decide +kernel
theorem dX5_begin_10 : decode cX5_begin 10 = .ok (.invokevirtual 49, 3) := by decide +kernel
theorem dX5_begin_13 : decode cX5_begin 13 = .ok (.aload_n 0, 1) := by decide +kernel
theorem dX5_begin_14 : decode cX5_begin 14 = .ok (.bipush (-5), 2) := by decide +kernel
theorem dX5_begin_16 : decode cX5_begin 16 = .ok (.putfield 28, 3) := by decide +kernel
theorem dX5_begin_19 : decode cX5_begin 19 = .ok (.aload_n 0, 1) := by decide +kernel
theorem dX5_begin_20 : decode cX5_begin 20 = .ok (.iconst 0, 1) := by decide +kernel
theorem dX5_begin_21 : decode cX5_begin 21 = .ok (.putfield 36, 3) := by decide +kernel
theorem dX5_begin_24 : decode cX5_begin 24 = .ok (.iconst 0, 1) := by decide +kernel
theorem dX5_begin_25 : decode cX5_begin 25 = .ok (.istore_n 3, 1) := by decide +kernel
theorem dX5_begin_26 : decode cX5_begin 26 = .ok (.iload_n 3, 1) := by decide +kernel
theorem dX5_begin_27 : decode cX5_begin 27 = .ok (.iconst 3, 1) := by decide +kernel
theorem dX5_begin_28 : decode cX5_begin 28 = .ok (.if_icmp .ge 18, 3) := by decide +kernel
theorem dX5_begin_31 : decode cX5_begin 31 = .ok (.aload_n 0, 1) := by decide +kernel
theorem dX5_begin_32 : decode cX5_begin 32 = .ok (.getfield 20, 3) := by decide +kernel
theorem dX5_begin_35 : decode cX5_begin 35 = .ok (.iload_n 3, 1) := by decide +kernel
theorem dX5_begin_36 : decode cX5_begin 36 = .ok (.aaload, 1) := by decide +kernel
theorem dX5_begin_37 : decode cX5_begin 37 = .ok (.invokevirtual 53, 3) := by decide +kernel
theorem dX5_begin_40 : decode cX5_begin 40 = .ok (.iinc 3 1, 3) := by decide +kernel
theorem dX5_begin_43 : decode cX5_begin 43 = .ok (.goto (-17), 3) := by decide +kernel
theorem dX5_begin_46 : decode cX5_begin 46 = .ok (.return_, 1) := by decide +kernel
theorem dX5_follow_0 : decode cX5_follow 0 = .ok (.aload_n 0, 1) := by decide +kernel
theorem dX5_follow_1 : decode cX5_follow 1 = .ok (.iload_n 2, 1) := by decide +kernel
theorem dX5_follow_2 : decode cX5_follow 2 = .ok (.putfield 28, 3) := by decide +kernel
theorem dX5_follow_5 : decode cX5_follow 5 = .ok (.aload_n 0, 1) := by decide +kernel
theorem dX5_follow_6 : decode cX5_follow 6 = .ok (.iload_n 3, 1) := by decide +kernel
theorem dX5_follow_7 : decode cX5_follow 7 = .ok (.putfield 36, 3) := by decide +kernel
theorem dX5_follow_10 : decode cX5_follow 10 = .ok (.aload_n 0, 1) := by decide +kernel
theorem dX5_follow_11 : decode cX5_follow 11 = .ok (.getfield 24, 3) := by decide +kernel
theorem dX5_follow_14 : decode cX5_follow 14 = .ok (.iconst 1, 1) := by decide +kernel
theorem dX5_follow_15 : decode cX5_follow 15 = .ok (.if_icmp .ne 4, 3) := by decide +kernel
theorem dX5_follow_18 : decode cX5_follow 18 = .ok (.return_, 1) := by decide +kernel
theorem dX5_follow_19 : decode cX5_follow 19 = .ok (.iconst 0, 1) := by decide +kernel
theorem dX5_follow_20 : decode cX5_follow 20 = .ok (.istore 4, 2) := by decide +kernel
theorem dX5_follow_22 : decode cX5_follow 22 = .ok (.iload 4, 2) := by decide +kernel
theorem dX5_follow_24 : decode cX5_follow 24 = .ok (.iconst 3, 1) := by decide +kernel
theorem dX5_follow_25 : decode cX5_follow 25 = .ok (.if_icmp .ge 40, 3) := by decide +kernel
theorem dX5_follow_28 : decode cX5_follow 28 = .ok (.aload_n 0, 1) := by decide +kernel
theorem dX5_follow_29 : decode cX5_follow 29 = .ok (.getfield 20, 3) := by decide +kernel
theorem dX5_follow_32 : decode cX5_follow 32 = .ok (.iload 4, 2) := by decide +kernel
theorem dX5_follow_34 : decode cX5_follow 34 = .ok (.aaload, 1) := by decide +kernel
theorem dX5_follow_35 : decode cX5_follow 35 = .ok (.aload_n 1, 1) := by decide +kernel
theorem dX5_follow_36 : decode cX5_follow 36 = .ok (.getfield 20, 3) := by decide +kernel
theorem dX5_follow_39 : decode cX5_follow 39 = .ok (.iload 4, 2) := by decide +kernel
theorem dX5_follow_41 : decode cX5_follow 41 = .ok (.aaload, 1) := by decide +kernel
theorem dX5_follow_42 : decode cX5_follow 42 = .ok (.invokevirtual 56, 3) := by decide +kernel
theorem dX5_follow_45 : decode cX5_follow 45 = .ok (.iload_n 3, 1) := by decide +kernel
theorem dX5_follow_46 : decode cX5_follow 46 = .ok (.ifCond .le 13, 3) := by decide +kernel
theorem dX5_follow_49 : decode cX5_follow 49 = .ok (.aload_n 0, 1) := by decide +kernel
theorem dX5_follow_50 : decode cX5_follow 50 = .ok (.getfield 20, 3) := by decide +kernel
theorem dX5_follow_53 : decode cX5_follow 53 = .ok (.iload 4, 2) := by decide +kernel
theorem dX5_follow_55 : decode cX5_follow 55 = .ok (.aaload, 1) := by decide +kernel
theorem dX5_follow_56 : decode cX5_follow 56 = .ok (.invokevirtual 59, 3) := by decide +kernel
theorem dX5_follow_59 : decode cX5_follow 59 = .ok (.iinc 4 1, 3) := by decide +kernel
theorem dX5_follow_62 : decode cX5_follow 62 = .ok (.goto (-40), 3) := by decide +kernel
theorem dX5_follow_65 : decode cX5_follow 65 = .ok (.return_, 1) := by decide +kernel
theorem dX5_copy_0 : decode cX5_copy 0 = .ok (.aload_n 0, 1) := by decide +kernel
theorem dX5_copy_1 : decode cX5_copy 1 = .ok (.aload_n 1, 1) := by decide +kernel
theorem dX5_copy_2 : decode cX5_copy 2 = .ok (.getfield 24, 3) := by decide +kernel
theorem dX5_copy_5 : decode cX5_copy 5 = .ok (.putfield 24, 3) := by decide +kernel
theorem dX5_copy_8 : decode cX5_copy 8 = .ok (.aload_n 0, 1) := by decide +kernel
theorem dX5_copy_9 : decode cX5_copy 9 = .ok (.getfield 12, 3) := by decide +kernel
theorem dX5_copy_12 : decode cX5_copy 12 = .ok (.aload_n 1, 1) := by decide +kernel
theorem dX5_copy_13 : decode cX5_copy 13 = .ok (.getfield 12, 3) := by decide +kernel
theorem dX5_copy_16 : decode cX5_copy 16 = .ok (.invokevirtual 49, 3) := by decide +kernel
theorem dX5_copy_19 : decode cX5_copy 19 = .ok (.aload_n 0, 1) := by decide +kernel
theorem dX5_copy_20 : decode cX5_copy 20 = .ok (.aload_n 1, 1) := by decide +kernel
theorem dX5_copy_21 : decode cX5_copy 21 = .ok (.getfield 28, 3) := by decide +kernel
theorem dX5_copy_24 : decode cX5_copy 24 = .ok (.putfield 28, 3) := by decide +kernel
theorem dX5_copy_27 : decode cX5_copy 27 = .ok (.aload_n 0, 1) := by decide +kernel
theorem dX5_copy_28 : decode cX5_copy 28 = .ok (.aload_n 1, 1) := by decide +kernel
theorem dX5_copy_29 : decode cX5_copy 29 = .ok (.getfield 36, 3) := by decide +kernel
theorem dX5_copy_32 : decode cX5_copy 32 = .ok (.putfield 36, 3) := by decide +kernel
theorem dX5_copy_35 : decode cX5_copy 35 = .ok (.iconst 0, 1) := by decide +kernel
theorem dX5_copy_36 : decode cX5_copy 36 = .ok (.istore_n 2, 1) := by decide +kernel
theorem dX5_copy_37 : decode cX5_copy 37 = .ok (.iload_n 2, 1) := by decide +kernel
theorem dX5_copy_38 : decode cX5_copy 38 = .ok (.iconst 3, 1) := by decide +kernel
theorem dX5_copy_39 : decode cX5_copy 39 = .ok (.if_icmp .ge 24, 3) := by decide +kernel
theorem dX5_copy_42 : decode cX5_copy 42 = .ok (.aload_n 0, 1) := by decide +kernel
theorem dX5_copy_43 : decode cX5_copy 43 = .ok (.getfield 20, 3) := by decide +kernel
theorem dX5_copy_46 : decode cX5_copy 46 = .ok (.iload_n 2, 1) := by decide +kernel
theorem dX5_copy_47 : decode cX5_copy 47 = .ok (.aaload, 1) := by decide +kernel
theorem dX5_copy_48 : decode cX5_copy 48 = .ok (.aload_n 1, 1) := by decide +kernel
theorem dX5_copy_49 : decode cX5_copy 49 = .ok (.getfield 20, 3) := by decide +kernel
theorem dX5_copy_52 : decode cX5_copy 52 = .ok (.iload_n 2, 1) := by decide +kernel
theorem dX5_copy_53 : decode cX5_copy 53 = .ok (.aaload, 1) := by decide +kernel
theorem dX5_copy_54 : decode cX5_copy 54 = .ok (.invokevirtual 56, 3) := by decide +kernel
theorem dX5_copy_57 : decode cX5_copy 57 = .ok (.iinc 2 1, 3) := by decide +kernel
theorem dX5_copy_60 : decode cX5_copy 60 = .ok (.goto (-23), 3) := by decide +kernel
theorem dX5_copy_63 : decode cX5_copy 63 = .ok (.return_, 1) := by decide +kernel
theorem dX6_init_0 : decode cX6_init 0 = .ok (.aload_n 0, 1) := by decide +kernel
theorem dX6_init_1 : decode cX6_init 1 = .ok (.invokespecial 3, 3) := by decide +kernel
theorem dX6_init_4 : decode cX6_init 4 = .ok (.aload_n 0, 1) := by decide +kernel
theorem dX6_init_5 : decode cX6_init 5 = .ok (.bipush 8, 2) := by decide +kernel
theorem dX6_init_7 : decode cX6_init 7 = .ok (.newarray .int, 2) := by decide +kernel
theorem dX6_init_9 : decode cX6_init 9 = .ok (.putfield 9, 3) := by decide +kernel
theorem dX6_init_12 : decode cX6_init 12 = .ok (.aload_n 0, 1) := by decide +kernel
theorem dX6_init_13 : decode cX6_init 13 = .ok (.sipush 256, 3) := by decide +kernel
theorem dX6_init_16 : decode cX6_init 16 = .ok (.newarray .int, 2) := by decide +kernel
theorem dX6_init_18 : decode cX6_init 18 = .ok (.putfield 15, 3) := by decide +kernel
theorem dX6_init_21 : decode cX6_init 21 = .ok (.aload_n 0, 1) := by decide +kernel
theorem dX6_init_22 : decode cX6_init 22 = .ok (.sipush 256, 3) := by decide +kernel
theorem dX6_init_25 : decode cX6_init 25 = .ok (.newarray .int, 2) := by decide +kernel
theorem dX6_init_27 : decode cX6_init 27 = .ok (.putfield 18, 3) := by decide +kernel
theorem dX6_init_30 : decode cX6_init 30 = .ok (.aload_n 0, 1) := by decide +kernel
theorem dX6_init_31 : decode cX6_init 31 = .ok (.sipush 256, 3) := by decide +kernel
theorem dX6_init_34 : decode cX6_init 34 = .ok (.newarray .long, 2) := by decide +kernel
theorem dX6_init_36 : decode cX6_init 36 = .ok (.putfield 21, 3) := by decide +kernel
theorem dX6_init_39 : decode cX6_init 39 = .ok (.iconst 0, 1) := by decide +kernel
theorem dX6_init_40 : decode cX6_init 40 = .ok (.istore_n 1, 1) := by decide +kernel
theorem dX6_init_41 : decode cX6_init 41 = .ok (.iload_n 1, 1) := by decide +kernel
theorem dX6_init_42 : decode cX6_init 42 = .ok (.bipush 8, 2) := by decide +kernel
theorem dX6_init_44 : decode cX6_init 44 = .ok (.if_icmp .ge 47, 3) := by decide +kernel
theorem dX6_init_47 : decode cX6_init 47 = .ok (.iconst 1, 1) := by decide +kernel
theorem dX6_init_48 : decode cX6_init 48 = .ok (.iload_n 1, 1) := by decide +kernel
theorem dX6_init_49 : decode cX6_init 49 = .ok (.ishl, 1) := by decide +kernel
theorem dX6_init_50 : decode cX6_init 50 = .ok (.istore_n 2, 1) := by decide +kernel
theorem dX6_init_51 : decode cX6_init 51 = .ok (.iconst 0, 1) := by decide +kernel
theorem dX6_init_52 : decode cX6_init 52 = .ok (.istore_n 3, 1) := by decide +kernel
theorem dX6_init_53 : decode cX6_init 53 = .ok (.iload_n 3, 1) := by decide +kernel
theorem dX6_init_54 : decode cX6_init 54 = .ok (.iload_n 2, 1) := by decide +kernel
theorem dX6_init_55 : decode cX6_init 55 = .ok (.if_icmp .ge 30, 3) := by decide +kernel
theorem dX6_init_58 : decode cX6_init 58 = .ok (.aload_n 0, 1) := by decide +kernel
theorem dX6_init_59 : decode cX6_init 59 = .ok (.getfield 18, 3) := by decide +kernel
theorem dX6_init_62 : decode cX6_init 62 = .ok (.iload_n 2, 1) := by decide +kernel
theorem dX6_init_63 : decode cX6_init 63 = .ok (.iload_n 3, 1) := by decide +kernel
theorem dX6_init_64 : decode cX6_init 64 = .ok (.iadd, 1) := by decide +kernel
theorem dX6_init_65 : decode cX6_init 65 = .ok (.aload_n 0, 1) := by decide +kernel
theorem dX6_init_66 : decode cX6_init 66 = .ok (.getfield 18, 3) := by decide +kernel
theorem dX6_init_69 : decode cX6_init 69 = .ok (.iload_n 3, 1) := by decide +kernel
theorem dX6_init_70 : decode cX6_init 70 = .ok (.iaload, 1) := by decide +kernel
theorem dX6_init_71 : decode cX6_init 71 = .ok (.iconst 1, 1) := by decide +kernel
theorem dX6_init_72 : decode cX6_init 72 = .ok (.iload_n 1, 1) := by decide +kernel
theorem dX6_init_73 : decode cX6_init 73 = .ok (.invokestatic 25, 3) := by decide +kernel
theorem dX6_init_76 : decode cX6_init 76 = .ok (.ishl, 1) := by decide +kernel
theorem dX6_init_77 : decode cX6_init 77 = .ok (.iadd, 1) := by decide +kernel
theorem dX6_init_78 : decode cX6_init 78 = .ok (.iastore, 1) := by decide +kernel
theorem dX6_init_79 : decode cX6_init 79 = .ok (.iinc 3 1, 3) := by decide +kernel
theorem dX6_init_82 : decode cX6_init 82 = .ok (.goto (-29), 3) := by decide +kernel
theorem dX6_init_85 : decode cX6_init 85 = .ok (.iinc 1 1, 3) := by decide +kernel
theorem dX6_init_88 : decode cX6_init 88 = .ok (.goto (-47), 3) := by decide +kernel
theorem dX6_init_91 : decode cX6_init 91 = .ok (.return_, 1) := by decide +kernel
theorem dX6_setEffort_0 : decode cX6_setEffort 0 = .ok (.iload_n 1, 1) := by decide +kernel
theorem dX6_setEffort_1 : decode cX6_setEffort 1 = .ok (.ifCond .lt 16, 3) := by decide +kernel
theorem dX6_setEffort_4 : decode cX6_setEffort 4 = .ok (.iload_n 1, 1) := by decide +kernel
theorem dX6_setEffort_5 : decode cX6_setEffort 5 = .ok (.bipush 8, 2) := by decide +kernel
theorem dX6_setEffort_7 : decode cX6_setEffort 7 = .ok (.if_icmp .ge 10, 3) := by decide +kernel
theorem dX6_setEffort_10 : decode cX6_setEffort 10 = .ok (.aload_n 0, 1) := by decide +kernel
theorem dX6_setEffort_11 : decode cX6_setEffort 11 = .ok (.getfield 9, 3) := by decide +kernel
theorem dX6_setEffort_14 : decode cX6_setEffort 14 = .ok (.iload_n 1, 1) := by decide +kernel
theorem dX6_setEffort_15 : decode cX6_setEffort 15 = .ok (.iload_n 2, 1) := by decide +kernel
theorem dX6_setEffort_16 : decode cX6_setEffort 16 = .ok (.iastore, 1) := by decide +kernel
theorem dX6_setEffort_17 : decode cX6_setEffort 17 = .ok (.return_, 1) := by decide +kernel
theorem dX6_solve_0 : decode cX6_solve 0 = .ok (.aload_n 0, 1) := by decide +kernel
theorem dX6_solve_1 : decode cX6_solve 1 = .ok (.invokevirtual 29, 3) := by decide +kernel
theorem dX6_solve_4 : decode cX6_solve 4 = .ok (.iconst 0, 1) := by decide +kernel
theorem dX6_solve_5 : decode cX6_solve 5 = .ok (.istore_n 3, 1) := by decide +kernel
theorem dX6_solve_6 : decode cX6_solve 6 = .ok (.iload_n 3, 1) := by decide +kernel
theorem dX6_solve_7 : decode cX6_solve 7 = .ok (.sipush 256, 3) := by decide +kernel
theorem dX6_solve_10 : decode cX6_solve 10 = .ok (.if_icmp .ge 33, 3) := by decide +kernel
theorem dX6_solve_13 : decode cX6_solve 13 = .ok (.aload_n 0, 1) := by decide +kernel
theorem dX6_solve_14 : decode cX6_solve 14 = .ok (.getfield 21, 3) := by decide +kernel
theorem dX6_solve_17 : decode cX6_solve 17 = .ok (.iload_n 3, 1) := by decide +kernel
theorem dX6_solve_18 : decode cX6_solve 18 = .ok (.iload_n 3, 1) := by decide +kernel
theorem dX6_solve_19 : decode cX6_solve 19 = .ok (.invokestatic 32, 3) := by decide +kernel
theorem dX6_solve_22 : decode cX6_solve 22 = .ok (.i2l, 1) := by decide +kernel
theorem dX6_solve_23 : decode cX6_solve 23 = .ok (.bipush 40, 2) := by decide +kernel
theorem dX6_solve_25 : decode cX6_solve 25 = .ok (.lshl, 1) := by decide +kernel
