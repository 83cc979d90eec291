theorem dX12_sign_11 : decode cX12_sign 11 = .ok (.ifCond .ne 12, 3) := by decide +kernel
theorem dX12_sign_14 : decode cX12_sign 14 = .ok (.iload_n 1, 1) := by decide +kernel
theorem dX12_sign_15 : decode cX12_sign 15 = .ok (.invokestatic 145, 3) := by decide +kernel
theorem dX12_sign_18 : decode cX12_sign 18 = .ok (.ifCond .ne 5, 3) := by decide +kernel
theorem dX12_sign_21 : decode cX12_sign 21 = .ok (.iconst (-1), 1) := by decide +kernel
theorem dX12_sign_22 : decode cX12_sign 22 = .ok (.ireturn, 1) := by decide +kernel
theorem dX12_sign_23 : decode cX12_sign 23 = .ok (.aload_n 0, 1) := by decide +kernel
theorem dX12_sign_24 : decode cX12_sign 24 = .ok (.getfield 148, 3) := by decide +kernel
theorem dX12_sign_27 : decode cX12_sign 27 = .ok (.bipush 10, 2) := by decide +kernel
theorem dX12_sign_29 : decode cX12_sign 29 = .ok (.if_icmp .ne 6, 3) := by decide +kernel
theorem dX12_sign_32 : decode cX12_sign 32 = .ok (.bipush (-2), 2) := by decide +kernel
theorem dX12_sign_34 : decode cX12_sign 34 = .ok (.ireturn, 1) := by decide +kernel
theorem dX12_sign_35 : decode cX12_sign 35 = .ok (.aload_n 0, 1) := by decide +kernel
theorem dX12_sign_36 : decode cX12_sign 36 = .ok (.getfield 7, 3) := by decide +kernel
theorem dX12_sign_39 : decode cX12_sign 39 = .ok (.aload_n 0, 1) := by decide +kernel
theorem dX12_sign_40 : decode cX12_sign 40 = .ok (.getfield 148, 3) := by decide +kernel
theorem dX12_sign_43 : decode cX12_sign 43 = .ok (.iload_n 1, 1) := by decide +kernel
theorem dX12_sign_44 : decode cX12_sign 44 = .ok (.iastore, 1) := by decide +kernel
theorem dX12_sign_45 : decode cX12_sign 45 = .ok (.aload_n 0, 1) := by decide +kernel
theorem dX12_sign_46 : decode cX12_sign 46 = .ok (.dup, 1) := by decide +kernel
theorem dX12_sign_47 : decode cX12_sign 47 = .ok (.getfield 148, 3) := by decide +kernel
theorem dX12_sign_50 : decode cX12_sign 50 = .ok (.iconst 1, 1) := by decide +kernel
theorem dX12_sign_51 : decode cX12_sign 51 = .ok (.iadd, 1) := by decide +kernel
theorem dX12_sign_52 : decode cX12_sign 52 = .ok (.putfield 148, 3) := by decide +kernel
theorem dX12_sign_55 : decode cX12_sign 55 = .ok (.aload_n 0, 1) := by decide +kernel
theorem dX12_sign_56 : decode cX12_sign 56 = .ok (.getfield 148, 3) := by decide +kernel
theorem dX12_sign_59 : decode cX12_sign 59 = .ok (.ireturn, 1) := by decide +kernel
theorem dX12_scrap_0 : decode cX12_scrap 0 = .ok (.aload_n 0, 1) := by decide +kernel
theorem dX12_scrap_1 : decode cX12_scrap 1 = .ok (.getfield 148, 3) := by decide +kernel
theorem dX12_scrap_4 : decode cX12_scrap 4 = .ok (.istore_n 1, 1) := by decide +kernel
theorem dX12_scrap_5 : decode cX12_scrap 5 = .ok (.aload_n 0, 1) := by decide +kernel
theorem dX12_scrap_6 : decode cX12_scrap 6 = .ok (.iconst 0, 1) := by decide +kernel
theorem dX12_scrap_7 : decode cX12_scrap 7 = .ok (.putfield 148, 3) := by decide +kernel
theorem dX12_scrap_10 : decode cX12_scrap 10 = .ok (.iload_n 1, 1) := by decide +kernel
theorem dX12_scrap_11 : decode cX12_scrap 11 = .ok (.ireturn, 1) := by decide +kernel
theorem dX12_draftHasOwn_0 : decode cX12_draftHasOwn 0 = .ok (.iconst 0, 1) := by decide +kernel
theorem dX12_draftHasOwn_1 : decode cX12_draftHasOwn 1 = .ok (.istore_n 1, 1) := by decide +kernel
theorem dX12_draftHasOwn_2 : decode cX12_draftHasOwn 2 = .ok (.iconst 0, 1) := by decide +kernel
theorem dX12_draftHasOwn_3 : decode cX12_draftHasOwn 3 = .ok (.istore_n 2, 1) := by decide +kernel
theorem dX12_draftHasOwn_4 : decode cX12_draftHasOwn 4 = .ok (.iload_n 2, 1) := by decide +kernel
theorem dX12_draftHasOwn_5 : decode cX12_draftHasOwn 5 = .ok (.aload_n 0, 1) := by decide +kernel
theorem dX12_draftHasOwn_6 : decode cX12_draftHasOwn 6 = .ok (.getfield 148, 3) := by decide +kernel
theorem dX12_draftHasOwn_9 : decode cX12_draftHasOwn 9 = .ok (.if_icmp .ge 31, 3) := by decide +kernel
theorem dX12_draftHasOwn_12 : decode cX12_draftHasOwn 12 = .ok (.iload_n 1, 1) := by decide +kernel
theorem dX12_draftHasOwn_13 : decode cX12_draftHasOwn 13 = .ok (.ifCond .ne 15, 3) := by decide +kernel
theorem dX12_draftHasOwn_16 : decode cX12_draftHasOwn 16 = .ok (.aload_n 0, 1) := by decide +kernel
theorem dX12_draftHasOwn_17 : decode cX12_draftHasOwn 17 = .ok (.getfield 7, 3) := by decide +kernel
theorem dX12_draftHasOwn_20 : decode cX12_draftHasOwn 20 = .ok (.iload_n 2, 1) := by decide +kernel
theorem dX12_draftHasOwn_21 : decode cX12_draftHasOwn 21 = .ok (.iaload, 1) := by decide +kernel
theorem dX12_draftHasOwn_22 : decode cX12_draftHasOwn 22 = .ok (.invokestatic 145, 3) := by decide +kernel
theorem dX12_draftHasOwn_25 : decode cX12_draftHasOwn 25 = .ok (.ifCond .eq 7, 3) := by decide +kernel
theorem dX12_draftHasOwn_28 : decode cX12_draftHasOwn 28 = .ok (.iconst 1, 1) := by decide +kernel
theorem dX12_draftHasOwn_29 : decode cX12_draftHasOwn 29 = .ok (.goto 4, 3) := by decide +kernel
theorem dX12_draftHasOwn_32 : decode cX12_draftHasOwn 32 = .ok (.iconst 0, 1) := by decide +kernel
theorem dX12_draftHasOwn_33 : decode cX12_draftHasOwn 33 = .ok (.istore_n 1, 1) := by decide +kernel
theorem dX12_draftHasOwn_34 : decode cX12_draftHasOwn 34 = .ok (.iinc 2 1, 3) := by decide +kernel
theorem dX12_draftHasOwn_37 : decode cX12_draftHasOwn 37 = .ok (.goto (-33), 3) := by decide +kernel
theorem dX12_draftHasOwn_40 : decode cX12_draftHasOwn 40 = .ok (.iload_n 1, 1) := by decide +kernel
theorem dX12_draftHasOwn_41 : decode cX12_draftHasOwn 41 = .ok (.ireturn, 1) := by decide +kernel
theorem dX12_draftHasWord_0 : decode cX12_draftHasWord 0 = .ok (.iconst 0, 1) := by decide +kernel
theorem dX12_draftHasWord_1 : decode cX12_draftHasWord 1 = .ok (.istore_n 1, 1) := by decide +kernel
theorem dX12_draftHasWord_2 : decode cX12_draftHasWord 2 = .ok (.iconst 0, 1) := by decide +kernel
theorem dX12_draftHasWord_3 : decode cX12_draftHasWord 3 = .ok (.istore_n 2, 1) := by decide +kernel
theorem dX12_draftHasWord_4 : decode cX12_draftHasWord 4 = .ok (.iload_n 2, 1) := by decide +kernel
theorem dX12_draftHasWord_5 : decode cX12_draftHasWord 5 = .ok (.aload_n 0, 1) := by decide +kernel
theorem dX12_draftHasWord_6 : decode cX12_draftHasWord 6 = .ok (.getfield 148, 3) := by decide +kernel
theorem dX12_draftHasWord_9 : decode cX12_draftHasWord 9 = .ok (.if_icmp .ge 31, 3) := by decide +kernel
theorem dX12_draftHasWord_12 : decode cX12_draftHasWord 12 = .ok (.iload_n 1, 1) := by decide +kernel
theorem dX12_draftHasWord_13 : decode cX12_draftHasWord 13 = .ok (.ifCond .ne 15, 3) := by decide +kernel
theorem dX12_draftHasWord_16 : decode cX12_draftHasWord 16 = .ok (.aload_n 0, 1) := by decide +kernel
theorem dX12_draftHasWord_17 : decode cX12_draftHasWord 17 = .ok (.getfield 7, 3) := by decide +kernel
theorem dX12_draftHasWord_20 : decode cX12_draftHasWord 20 = .ok (.iload_n 2, 1) := by decide +kernel
theorem dX12_draftHasWord_21 : decode cX12_draftHasWord 21 = .ok (.iaload, 1) := by decide +kernel
theorem dX12_draftHasWord_22 : decode cX12_draftHasWord 22 = .ok (.invokestatic 138, 3) := by decide +kernel
theorem dX12_draftHasWord_25 : decode cX12_draftHasWord 25 = .ok (.ifCond .eq 7, 3) := by decide +kernel
theorem dX12_draftHasWord_28 : decode cX12_draftHasWord 28 = .ok (.iconst 1, 1) := by decide +kernel
theorem dX12_draftHasWord_29 : decode cX12_draftHasWord 29 = .ok (.goto 4, 3) := by decide +kernel
theorem dX12_draftHasWord_32 : decode cX12_draftHasWord 32 = .ok (.iconst 0, 1) := by decide +kernel
theorem dX12_draftHasWord_33 : decode cX12_draftHasWord 33 = .ok (.istore_n 1, 1) := by decide +kernel
theorem dX12_draftHasWord_34 : decode cX12_draftHasWord 34 = .ok (.iinc 2 1, 3) := by decide +kernel
theorem dX12_draftHasWord_37 : decode cX12_draftHasWord 37 = .ok (.goto (-33), 3) := by decide +kernel
theorem dX12_draftHasWord_40 : decode cX12_draftHasWord 40 = .ok (.iload_n 1, 1) := by decide +kernel
theorem dX12_draftHasWord_41 : decode cX12_draftHasWord 41 = .ok (.ireturn, 1) := by decide +kernel
theorem dX12_piece_0 : decode cX12_piece 0 = .ok (.iload_n 1, 1) := by decide +kernel
theorem dX12_piece_1 : decode cX12_piece 1 = .ok (.iconst 0, 1) := by decide +kernel
theorem dX12_piece_2 : decode cX12_piece 2 = .ok (.iconst 2, 1) := by decide +kernel
theorem dX12_piece_3 : decode cX12_piece 3 = .ok (.invokestatic 128, 3) := by decide +kernel
theorem dX12_piece_6 : decode cX12_piece 6 = .ok (.ifCond .ne 5, 3) := by decide +kernel
theorem dX12_piece_9 : decode cX12_piece 9 = .ok (.iconst (-1), 1) := by decide +kernel
theorem dX12_piece_10 : decode cX12_piece 10 = .ok (.ireturn, 1) := by decide +kernel
theorem dX12_piece_11 : decode cX12_piece 11 = .ok (.aload_n 0, 1) := by decide +kernel
theorem dX12_piece_12 : decode cX12_piece 12 = .ok (.getfield 148, 3) := by decide +kernel
theorem dX12_piece_15 : decode cX12_piece 15 = .ok (.iconst 1, 1) := by decide +kernel
theorem dX12_piece_16 : decode cX12_piece 16 = .ok (.bipush 8, 2) := by decide +kernel
theorem dX12_piece_18 : decode cX12_piece 18 = .ok (.invokestatic 128, 3) := by decide +kernel
theorem dX12_piece_21 : decode cX12_piece 21 = .ok (.ifCond .ne 6, 3) := by decide +kernel
theorem dX12_piece_24 : decode cX12_piece 24 = .ok (.bipush (-6), 2) := by decide +kernel
theorem dX12_piece_26 : decode cX12_piece 26 = .ok (.ireturn, 1) := by decide +kernel
theorem dX12_piece_27 : decode cX12_piece 27 = .ok (.aload_n 0, 1) := by decide +kernel
theorem dX12_piece_28 : decode cX12_piece 28 = .ok (.invokevirtual 151, 3) := by decide +kernel
theorem dX12_piece_31 : decode cX12_piece 31 = .ok (.ifCond .eq 6, 3) := by decide +kernel
theorem dX12_piece_34 : decode cX12_piece 34 = .ok (.bipush (-3), 2) := by decide +kernel
theorem dX12_piece_36 : decode cX12_piece 36 = .ok (.ireturn, 1) := by decide +kernel
theorem dX12_piece_37 : decode cX12_piece 37 = .ok (.aload_n 0, 1) := by decide +kernel
theorem dX12_piece_38 : decode cX12_piece 38 = .ok (.getfield 155, 3) := by decide +kernel
theorem dX12_piece_41 : decode cX12_piece 41 = .ok (.bipush 8, 2) := by decide +kernel
theorem dX12_piece_43 : decode cX12_piece 43 = .ok (.if_icmp .ne 6, 3) := by decide +kernel
theorem dX12_piece_46 : decode cX12_piece 46 = .ok (.bipush (-2), 2) := by decide +kernel
theorem dX12_piece_48 : decode cX12_piece 48 = .ok (.ireturn, 1) := by decide +kernel
theorem dX12_piece_49 : decode cX12_piece 49 = .ok (.aload_n 0, 1) := by decide +kernel
theorem dX12_piece_50 : decode cX12_piece 50 = .ok (.getfield 28, 3) := by decide +kernel
theorem dX12_piece_53 : decode cX12_piece 53 = .ok (.aload_n 0, 1) := by decide +kernel
theorem dX12_piece_54 : decode cX12_piece 54 = .ok (.getfield 155, 3) := by decide +kernel
theorem dX12_piece_57 : decode cX12_piece 57 = .ok (.iload_n 1, 1) := by decide +kernel
theorem dX12_piece_58 : decode cX12_piece 58 = .ok (.iastore, 1) := by decide +kernel
theorem dX12_piece_59 : decode cX12_piece 59 = .ok (.aload_n 0, 1) := by decide +kernel
theorem dX12_piece_60 : decode cX12_piece 60 = .ok (.getfield 31, 3) := by decide +kernel
theorem dX12_piece_63 : decode cX12_piece 63 = .ok (.aload_n 0, 1) := by decide +kernel
theorem dX12_piece_64 : decode cX12_piece 64 = .ok (.getfield 155, 3) := by decide +kernel
theorem dX12_piece_67 : decode cX12_piece 67 = .ok (.aload_n 0, 1) := by decide +kernel
theorem dX12_piece_68 : decode cX12_piece 68 = .ok (.getfield 148, 3) := by decide +kernel
theorem dX12_piece_71 : decode cX12_piece 71 = .ok (.iastore, 1) := by decide +kernel
theorem dX12_piece_72 : decode cX12_piece 72 = .ok (.iconst 0, 1) := by decide +kernel
theorem dX12_piece_73 : decode cX12_piece 73 = .ok (.istore_n 2, 1) := by decide +kernel
theorem dX12_piece_74 : decode cX12_piece 74 = .ok (.iload_n 2, 1) := by decide +kernel
theorem dX12_piece_75 : decode cX12_piece 75 = .ok (.aload_n 0, 1) := by decide +kernel
theorem dX12_piece_76 : decode cX12_piece 76 = .ok (.getfield 148, 3) := by decide +kernel
theorem dX12_piece_79 : decode cX12_piece 79 = .ok (.if_icmp .ge 29, 3) := by decide +kernel
theorem dX12_piece_82 : decode cX12_piece 82 = .ok (.aload_n 0, 1) := by decide +kernel
theorem dX12_piece_83 : decode cX12_piece 83 = .ok (.getfield 34, 3) := by decide +kernel
theorem dX12_piece_86 : decode cX12_piece 86 = .ok (.bipush 8, 2) := by decide +kernel
theorem dX12_piece_88 : decode cX12_piece 88 = .ok (.aload_n 0, 1) := by decide +kernel
theorem dX12_piece_89 : decode cX12_piece 89 = .ok (.getfield 155, 3) := by decide +kernel
theorem dX12_piece_92 : decode cX12_piece 92 = .ok (.imul, 1) := by decide +kernel
theorem dX12_piece_93 : decode cX12_piece 93 = .ok (.iload_n 2, 1) := by decide +kernel
theorem dX12_piece_94 : decode cX12_piece 94 = .ok (.iadd, 1) := by decide +kernel
theorem dX12_piece_95 : decode cX12_piece 95 = .ok (.aload_n 0, 1) := by decide +kernel
theorem dX12_piece_96 : decode cX12_piece 96 = .ok (.getfield 7, 3) := by decide +kernel
theorem dX12_piece_99 : decode cX12_piece 99 = .ok (.iload_n 2, 1) := by decide +kernel
theorem dX12_piece_100 : decode cX12_piece 100 = .ok (.iaload, 1) := by decide +kernel
theorem dX12_piece_101 : decode cX12_piece 101 = .ok (.iastore, 1) := by decide +kernel
theorem dX12_piece_102 : decode cX12_piece 102 = .ok (.iinc 2 1, 3) := by decide +kernel
theorem dX12_piece_105 : decode cX12_piece 105 = .ok (.goto (-31), 3) := by decide +kernel
theorem dX12_piece_108 : decode cX12_piece 108 = .ok (.aload_n 0, 1) := by decide +kernel
theorem dX12_piece_109 : decode cX12_piece 109 = .ok (.dup, 1) := by decide +kernel
theorem dX12_piece_110 : decode cX12_piece 110 = .ok (.getfield 155, 3) := by decide +kernel
theorem dX12_piece_113 : decode cX12_piece 113 = .ok (.iconst 1, 1) := by decide +kernel
theorem dX12_piece_114 : decode cX12_piece 114 = .ok (.iadd, 1) := by decide +kernel
theorem dX12_piece_115 : decode cX12_piece 115 = .ok (.putfield 155, 3) := by decide +kernel
theorem dX12_piece_118 : decode cX12_piece 118 = .ok (.aload_n 0, 1) := by decide +kernel
theorem dX12_piece_119 : decode cX12_piece 119 = .ok (.iconst 0, 1) := by decide +kernel
theorem dX12_piece_120 : decode cX12_piece 120 = .ok (.putfield 148, 3) := by decide +kernel
theorem dX12_piece_123 : decode cX12_piece 123 = .ok (.aload_n 0, 1) := by decide +kernel
theorem dX12_piece_124 : decode cX12_piece 124 = .ok (.getfield 155, 3) := by decide +kernel
theorem dX12_piece_127 : decode cX12_piece 127 = .ok (.iconst 1, 1) := by decide +kernel
theorem dX12_piece_128 : decode cX12_piece 128 = .ok (.isub, 1) := by decide +kernel
theorem dX12_piece_129 : decode cX12_piece 129 = .ok (.ireturn, 1) := by decide +kernel
theorem dX12_drop_0 : decode cX12_drop 0 = .ok (.aload_n 0, 1) := by decide +kernel
theorem dX12_drop_1 : decode cX12_drop 1 = .ok (.getfield 155, 3) := by decide +kernel
theorem dX12_drop_4 : decode cX12_drop 4 = .ok (.istore_n 1, 1) := by decide +kernel
theorem dX12_drop_5 : decode cX12_drop 5 = .ok (.aload_n 0, 1) := by decide +kernel
theorem dX12_drop_6 : decode cX12_drop 6 = .ok (.iconst 0, 1) := by decide +kernel
theorem dX12_drop_7 : decode cX12_drop 7 = .ok (.putfield 155, 3) := by decide +kernel
theorem dX12_drop_10 : decode cX12_drop 10 = .ok (.iload_n 1, 1) := by decide +kernel
theorem dX12_drop_11 : decode cX12_drop 11 = .ok (.ireturn, 1) := by decide +kernel
theorem dX12_least_0 : decode cX12_least 0 = .ok (.iload_n 0, 1) := by decide +kernel
theorem dX12_least_1 : decode cX12_least 1 = .ok (.iload_n 1, 1) := by decide +kernel
theorem dX12_least_2 : decode cX12_least 2 = .ok (.if_icmp .ge 7, 3) := by decide +kernel
theorem dX12_least_5 : decode cX12_least 5 = .ok (.iload_n 0, 1) := by decide +kernel
theorem dX12_least_6 : decode cX12_least 6 = .ok (.goto 4, 3) := by decide +kernel
theorem dX12_least_9 : decode cX12_least 9 = .ok (.iload_n 1, 1) := by decide +kernel
theorem dX12_least_10 : decode cX12_least 10 = .ok (.ireturn, 1) := by decide +kernel
theorem dX12_apart_0 : decode cX12_apart 0 = .ok (.iconst 0, 1) := by decide +kernel
theorem dX12_apart_1 : decode cX12_apart 1 = .ok (.istore 7, 2) := by decide +kernel
theorem dX12_apart_3 : decode cX12_apart 3 = .ok (.iload 7, 2) := by decide +kernel
theorem dX12_apart_5 : decode cX12_apart 5 = .ok (.iload 6, 2) := by decide +kernel
theorem dX12_apart_7 : decode cX12_apart 7 = .ok (.if_icmp .gt 18, 3) := by decide +kernel
theorem dX12_apart_10 : decode cX12_apart 10 = .ok (.aload_n 0, 1) := by decide +kernel
theorem dX12_apart_11 : decode cX12_apart 11 = .ok (.getfield 89, 3) := by decide +kernel
theorem dX12_apart_14 : decode cX12_apart 14 = .ok (.iload 7, 2) := by decide +kernel
theorem dX12_apart_16 : decode cX12_apart 16 = .ok (.iload 7, 2) := by decide +kernel
theorem dX12_apart_18 : decode cX12_apart 18 = .ok (.iastore, 1) := by decide +kernel
theorem dX12_apart_19 : decode cX12_apart 19 = .ok (.iinc 7 1, 3) := by decide +kernel
theorem dX12_apart_22 : decode cX12_apart 22 = .ok (.goto (-19), 3) := by decide +kernel
theorem dX12_apart_25 : decode cX12_apart 25 = .ok (.iconst 1, 1) := by decide +kernel
theorem dX12_apart_26 : decode cX12_apart 26 = .ok (.istore 7, 2) := by decide +kernel
theorem dX12_apart_28 : decode cX12_apart 28 = .ok (.iload 7, 2) := by decide +kernel
theorem dX12_apart_30 : decode cX12_apart 30 = .ok (.iload_n 3, 1) := by decide +kernel
theorem dX12_apart_31 : decode cX12_apart 31 = .ok (.if_icmp .gt 140, 3) := by decide +kernel
theorem dX12_apart_34 : decode cX12_apart 34 = .ok (.aload_n 0, 1) := by decide +kernel
theorem dX12_apart_35 : decode cX12_apart 35 = .ok (.getfield 86, 3) := by decide +kernel
theorem dX12_apart_38 : decode cX12_apart 38 = .ok (.iconst 0, 1) := by decide +kernel
theorem dX12_apart_39 : decode cX12_apart 39 = .ok (.iload 7, 2) := by decide +kernel
theorem dX12_apart_41 : decode cX12_apart 41 = .ok (.iastore, 1) := by decide +kernel
theorem dX12_apart_42 : decode cX12_apart 42 = .ok (.iconst 1, 1) := by decide +kernel
theorem dX12_apart_43 : decode cX12_apart 43 = .ok (.istore 8, 2) := by decide +kernel
theorem dX12_apart_45 : decode cX12_apart 45 = .ok (.iload 8, 2) := by decide +kernel
theorem dX12_apart_47 : decode cX12_apart 47 = .ok (.iload 6, 2) := by decide +kernel
theorem dX12_apart_49 : decode cX12_apart 49 = .ok (.if_icmp .gt 86, 3) := by decide +kernel
theorem dX12_apart_52 : decode cX12_apart 52 = .ok (.aload_n 0, 1) := by decide +kernel
theorem dX12_apart_53 : decode cX12_apart 53 = .ok (.getfield 89, 3) := by decide +kernel
theorem dX12_apart_56 : decode cX12_apart 56 = .ok (.iload 8, 2) := by decide +kernel
theorem dX12_apart_58 : decode cX12_apart 58 = .ok (.iconst 1, 1) := by decide +kernel
theorem dX12_apart_59 : decode cX12_apart 59 = .ok (.isub, 1) := by decide +kernel
theorem dX12_apart_60 : decode cX12_apart 60 = .ok (.iaload, 1) := by decide +kernel
theorem dX12_apart_61 : decode cX12_apart 61 = .ok (.aload_n 1, 1) := by decide +kernel
theorem dX12_apart_62 : decode cX12_apart 62 = .ok (.iload_n 2, 1) := by decide +kernel
theorem dX12_apart_63 : decode cX12_apart 63 = .ok (.iload 7, 2) := by decide +kernel
theorem dX12_apart_65 : decode cX12_apart 65 = .ok (.iadd, 1) := by decide +kernel
theorem dX12_apart_66 : decode cX12_apart 66 = .ok (.iconst 1, 1) := by decide +kernel
theorem dX12_apart_67 : decode cX12_apart 67 = .ok (.isub, 1) := by decide +kernel
theorem dX12_apart_68 : decode cX12_apart 68 = .ok (.iaload, 1) := by decide +kernel
theorem dX12_apart_69 : decode cX12_apart 69 = .ok (.aload 4, 2) := by decide +kernel
theorem dX12_apart_71 : decode cX12_apart 71 = .ok (.iload 5, 2) := by decide +kernel
theorem dX12_apart_73 : decode cX12_apart 73 = .ok (.iload 8, 2) := by decide +kernel
theorem dX12_apart_75 : decode cX12_apart 75 = .ok (.iadd, 1) := by decide +kernel
theorem dX12_apart_76 : decode cX12_apart 76 = .ok (.iconst 1, 1) := by decide +kernel
theorem dX12_apart_77 : decode cX12_apart 77 = .ok (.isub, 1) := by decide +kernel
theorem dX12_apart_78 : decode cX12_apart 78 = .ok (.iaload, 1) := by decide +kernel
theorem dX12_apart_79 : decode cX12_apart 79 = .ok (.if_icmp .ne 7, 3) := by decide +kernel
theorem dX12_apart_82 : decode cX12_apart 82 = .ok (.iconst 0, 1) := by decide +kernel
theorem dX12_apart_83 : decode cX12_apart 83 = .ok (.goto 4, 3) := by decide +kernel
theorem dX12_apart_86 : decode cX12_apart 86 = .ok (.iconst 1, 1) := by decide +kernel
theorem dX12_apart_87 : decode cX12_apart 87 = .ok (.iadd, 1) := by decide +kernel
theorem dX12_apart_88 : decode cX12_apart 88 = .ok (.istore 9, 2) := by decide +kernel
theorem dX12_apart_90 : decode cX12_apart 90 = .ok (.iload 9, 2) := by decide +kernel
theorem dX12_apart_92 : decode cX12_apart 92 = .ok (.aload_n 0, 1) := by decide +kernel
theorem dX12_apart_93 : decode cX12_apart 93 = .ok (.getfield 89, 3) := by decide +kernel
theorem dX12_apart_96 : decode cX12_apart 96 = .ok (.iload 8, 2) := by decide +kernel
theorem dX12_apart_98 : decode cX12_apart 98 = .ok (.iaload, 1) := by decide +kernel
theorem dX12_apart_99 : decode cX12_apart 99 = .ok (.iconst 1, 1) := by decide +kernel
theorem dX12_apart_100 : decode cX12_apart 100 = .ok (.iadd, 1) := by decide +kernel
theorem dX12_apart_101 : decode cX12_apart 101 = .ok (.invokestatic 158, 3) := by decide +kernel
theorem dX12_apart_104 : decode cX12_apart 104 = .ok (.istore 9, 2) := by decide +kernel
theorem dX12_apart_106 : decode cX12_apart 106 = .ok (.aload_n 0, 1) := by decide +kernel
theorem dX12_apart_107 : decode cX12_apart 107 = .ok (.getfield 86, 3) := by decide +kernel
theorem dX12_apart_110 : decode cX12_apart 110 = .ok (.iload 8, 2) := by decide +kernel
theorem dX12_apart_112 : decode cX12_apart 112 = .ok (.iload 9, 2) := by decide +kernel
theorem dX12_apart_114 : decode cX12_apart 114 = .ok (.aload_n 0, 1) := by decide +kernel
theorem dX12_apart_115 : decode cX12_apart 115 = .ok (.getfield 86, 3) := by decide +kernel
theorem dX12_apart_118 : decode cX12_apart 118 = .ok (.iload 8, 2) := by decide +kernel
theorem dX12_apart_120 : decode cX12_apart 120 = .ok (.iconst 1, 1) := by decide +kernel
theorem dX12_apart_121 : decode cX12_apart 121 = .ok (.isub, 1) := by decide +kernel
theorem dX12_apart_122 : decode cX12_apart 122 = .ok (.iaload, 1) := by decide +kernel
theorem dX12_apart_123 : decode cX12_apart 123 = .ok (.iconst 1, 1) := by decide +kernel
theorem dX12_apart_124 : decode cX12_apart 124 = .ok (.iadd, 1) := by decide +kernel
theorem dX12_apart_125 : decode cX12_apart 125 = .ok (.invokestatic 158, 3) := by decide +kernel
theorem dX12_apart_128 : decode cX12_apart 128 = .ok (.iastore, 1) := by decide +kernel
theorem dX12_apart_129 : decode cX12_apart 129 = .ok (.iinc 8 1, 3) := by decide +kernel
theorem dX12_apart_132 : decode cX12_apart 132 = .ok (.goto (-87), 3) := by decide +kernel
theorem dX12_apart_135 : decode cX12_apart 135 = .ok (.iconst 0, 1) := by decide +kernel
theorem dX12_apart_136 : decode cX12_apart 136 = .ok (.istore 8, 2) := by decide +kernel
theorem dX12_apart_138 : decode cX12_apart 138 = .ok (.iload 8, 2) := by decide +kernel
theorem dX12_apart_140 : decode cX12_apart 140 = .ok (.iload 6, 2) := by decide +kernel
theorem dX12_apart_142 : decode cX12_apart 142 = .ok (.if_icmp .gt 23, 3) := by decide +kernel
theorem dX12_apart_145 : decode cX12_apart 145 = .ok (.aload_n 0, 1) := by decide +kernel
theorem dX12_apart_146 : decode cX12_apart 146 = .ok (.getfield 89, 3) := by decide +kernel
theorem dX12_apart_149 : decode cX12_apart 149 = .ok (.iload 8, 2) := by decide +kernel
theorem dX12_apart_151 : decode cX12_apart 151 = .ok (.aload_n 0, 1) := by decide +kernel
theorem dX12_apart_152 : decode cX12_apart 152 = .ok (.getfield 86, 3) := by decide +kernel
theorem dX12_apart_155 : decode cX12_apart 155 = .ok (.iload 8, 2) := by decide +kernel
theorem dX12_apart_157 : decode cX12_apart 157 = .ok (.iaload, 1) := by decide +kernel
theorem dX12_apart_158 : decode cX12_apart 158 = .ok (.iastore, 1) := by decide +kernel
theorem dX12_apart_159 : decode cX12_apart 159 = .ok (.iinc 8 1, 3) := by decide +kernel
theorem dX12_apart_162 : decode cX12_apart 162 = .ok (.goto (-24), 3) := by decide +kernel
theorem dX12_apart_165 : decode cX12_apart 165 = .ok (.iinc 7 1, 3) := by decide +kernel
theorem dX12_apart_168 : decode cX12_apart 168 = .ok (.goto (-140), 3) := by decide +kernel
theorem dX12_apart_171 : decode cX12_apart 171 = .ok (.aload_n 0, 1) := by decide +kernel
theorem dX12_apart_172 : decode cX12_apart 172 = .ok (.getfield 89, 3) := by decide +kernel
theorem dX12_apart_175 : decode cX12_apart 175 = .ok (.iload 6, 2) := by decide +kernel
theorem dX12_apart_177 : decode cX12_apart 177 = .ok (.iaload, 1) := by decide +kernel
theorem dX12_apart_178 : decode cX12_apart 178 = .ok (.ireturn, 1) := by decide +kernel
theorem dX12_findMatch_0 : decode cX12_findMatch 0 = .ok (.iconst 0, 1) := by decide +kernel
theorem dX12_findMatch_1 : decode cX12_findMatch 1 = .ok (.istore_n 1, 1) := by decide +kernel
theorem dX12_findMatch_2 : decode cX12_findMatch 2 = .ok (.iload_n 1, 1) := by decide +kernel
theorem dX12_findMatch_3 : decode cX12_findMatch 3 = .ok (.aload_n 0, 1) := by decide +kernel
theorem dX12_findMatch_4 : decode cX12_findMatch 4 = .ok (.getfield 155, 3) := by decide +kernel
theorem dX12_findMatch_7 : decode cX12_findMatch 7 = .ok (.if_icmp .ge 68, 3) := by decide +kernel
theorem dX12_findMatch_10 : decode cX12_findMatch 10 = .ok (.iconst 0, 1) := by decide +kernel
theorem dX12_findMatch_11 : decode cX12_findMatch 11 = .ok (.istore_n 2, 1) := by decide +kernel
theorem dX12_findMatch_12 : decode cX12_findMatch 12 = .ok (.iload_n 2, 1) := by decide +kernel
theorem dX12_findMatch_13 : decode cX12_findMatch 13 = .ok (.aload_n 0, 1) := by decide +kernel
theorem dX12_findMatch_14 : decode cX12_findMatch 14 = .ok (.getfield 132, 3) := by decide +kernel
theorem dX12_findMatch_17 : decode cX12_findMatch 17 = .ok (.if_icmp .ge 52, 3) := by decide +kernel
theorem dX12_findMatch_20 : decode cX12_findMatch 20 = .ok (.aload_n 0, 1) := by decide +kernel
theorem dX12_findMatch_21 : decode cX12_findMatch 21 = .ok (.getfield 92, 3) := by decide +kernel
theorem dX12_findMatch_24 : decode cX12_findMatch 24 = .ok (.bipush 8, 2) := by decide +kernel
theorem dX12_findMatch_26 : decode cX12_findMatch 26 = .ok (.iload_n 1, 1) := by decide +kernel
theorem dX12_findMatch_27 : decode cX12_findMatch 27 = .ok (.imul, 1) := by decide +kernel
theorem dX12_findMatch_28 : decode cX12_findMatch 28 = .ok (.iload_n 2, 1) := by decide +kernel
theorem dX12_findMatch_29 : decode cX12_findMatch 29 = .ok (.iadd, 1) := by decide +kernel
theorem dX12_findMatch_30 : decode cX12_findMatch 30 = .ok (.aload_n 0, 1) := by decide +kernel
theorem dX12_findMatch_31 : decode cX12_findMatch 31 = .ok (.aload_n 0, 1) := by decide +kernel
theorem dX12_findMatch_32 : decode cX12_findMatch 32 = .ok (.getfield 34, 3) := by decide +kernel
theorem dX12_findMatch_35 : decode cX12_findMatch 35 = .ok (.bipush 8, 2) := by decide +kernel
theorem dX12_findMatch_37 : decode cX12_findMatch 37 = .ok (.iload_n 1, 1) := by decide +kernel
theorem dX12_findMatch_38 : decode cX12_findMatch 38 = .ok (.imul, 1) := by decide +kernel
theorem dX12_findMatch_39 : decode cX12_findMatch 39 = .ok (.aload_n 0, 1) := by decide +kernel
theorem dX12_findMatch_40 : decode cX12_findMatch 40 = .ok (.getfield 31, 3) := by decide +kernel
theorem dX12_findMatch_43 : decode cX12_findMatch 43 = .ok (.iload_n 1, 1) := by decide +kernel
theorem dX12_findMatch_44 : decode cX12_findMatch 44 = .ok (.iaload, 1) := by decide +kernel
theorem dX12_findMatch_45 : decode cX12_findMatch 45 = .ok (.aload_n 0, 1) := by decide +kernel
theorem dX12_findMatch_46 : decode cX12_findMatch 46 = .ok (.getfield 19, 3) := by decide +kernel
theorem dX12_findMatch_49 : decode cX12_findMatch 49 = .ok (.bipush 8, 2) := by decide +kernel
theorem dX12_findMatch_51 : decode cX12_findMatch 51 = .ok (.iload_n 2, 1) := by decide +kernel
theorem dX12_findMatch_52 : decode cX12_findMatch 52 = .ok (.imul, 1) := by decide +kernel
theorem dX12_findMatch_53 : decode cX12_findMatch 53 = .ok (.aload_n 0, 1) := by decide +kernel
theorem dX12_findMatch_54 : decode cX12_findMatch 54 = .ok (.getfield 16, 3) := by decide +kernel
theorem dX12_findMatch_57 : decode cX12_findMatch 57 = .ok (.iload_n 2, 1) := by decide +kernel
theorem dX12_findMatch_58 : decode cX12_findMatch 58 = .ok (.iaload, 1) := by decide +kernel
theorem dX12_findMatch_59 : decode cX12_findMatch 59 = .ok (.invokevirtual 162, 3) := by decide +kernel
theorem dX12_findMatch_62 : decode cX12_findMatch 62 = .ok (.iastore, 1) := by decide +kernel
theorem dX12_findMatch_63 : decode cX12_findMatch 63 = .ok (.iinc 2 1, 3) := by decide +kernel
theorem dX12_findMatch_66 : decode cX12_findMatch 66 = .ok (.goto (-54), 3) := by decide +kernel
theorem dX12_findMatch_69 : decode cX12_findMatch 69 = .ok (.iinc 1 1, 3) := by decide +kernel
theorem dX12_findMatch_72 : decode cX12_findMatch 72 = .ok (.goto (-70), 3) := by decide +kernel
theorem dX12_findMatch_75 : decode cX12_findMatch 75 = .ok (.iconst 0, 1) := by decide +kernel
theorem dX12_findMatch_76 : decode cX12_findMatch 76 = .ok (.istore_n 1, 1) := by decide +kernel
theorem dX12_findMatch_77 : decode cX12_findMatch 77 = .ok (.iload_n 1, 1) := by decide +kernel
theorem dX12_findMatch_78 : decode cX12_findMatch 78 = .ok (.sipush 256, 3) := by decide +kernel
theorem dX12_findMatch_81 : decode cX12_findMatch 81 = .ok (.if_icmp .ge 25, 3) := by decide +kernel
theorem dX12_findMatch_84 : decode cX12_findMatch 84 = .ok (.aload_n 0, 1) := by decide +kernel
theorem dX12_findMatch_85 : decode cX12_findMatch 85 = .ok (.getfield 95, 3) := by decide +kernel
theorem dX12_findMatch_88 : decode cX12_findMatch 88 = .ok (.sipush 256, 3) := by decide +kernel
theorem dX12_findMatch_91 : decode cX12_findMatch 91 = .ok (.aload_n 0, 1) := by decide +kernel
theorem dX12_findMatch_92 : decode cX12_findMatch 92 = .ok (.getfield 155, 3) := by decide +kernel
theorem dX12_findMatch_95 : decode cX12_findMatch 95 = .ok (.imul, 1) := by decide +kernel
theorem dX12_findMatch_96 : decode cX12_findMatch 96 = .ok (.iload_n 1, 1) := by decide +kernel
theorem dX12_findMatch_97 : decode cX12_findMatch 97 = .ok (.iadd, 1) := by decide +kernel
theorem dX12_findMatch_98 : decode cX12_findMatch 98 = .ok (.iconst 0, 1) := by decide +kernel
theorem dX12_findMatch_99 : decode cX12_findMatch 99 = .ok (.iastore, 1) := by decide +kernel
theorem dX12_findMatch_100 : decode cX12_findMatch 100 = .ok (.iinc 1 1, 3) := by decide +kernel
theorem dX12_findMatch_103 : decode cX12_findMatch 103 = .ok (.goto (-26), 3) := by decide +kernel
theorem dX12_findMatch_106 : decode cX12_findMatch 106 = .ok (.aload_n 0, 1) := by decide +kernel
theorem dX12_findMatch_107 : decode cX12_findMatch 107 = .ok (.getfield 155, 3) := by decide +kernel
theorem dX12_findMatch_110 : decode cX12_findMatch 110 = .ok (.iconst 1, 1) := by decide +kernel
theorem dX12_findMatch_111 : decode cX12_findMatch 111 = .ok (.isub, 1) := by decide +kernel
theorem dX12_findMatch_112 : decode cX12_findMatch 112 = .ok (.istore_n 1, 1) := by decide +kernel
theorem dX12_findMatch_113 : decode cX12_findMatch 113 = .ok (.iload_n 1, 1) := by decide +kernel
theorem dX12_findMatch_114 : decode cX12_findMatch 114 = .ok (.ifCond .lt 123, 3) := by decide +kernel
theorem dX12_findMatch_117 : decode cX12_findMatch 117 = .ok (.iconst 0, 1) := by decide +kernel
theorem dX12_findMatch_118 : decode cX12_findMatch 118 = .ok (.istore_n 2, 1) := by decide +kernel
theorem dX12_findMatch_119 : decode cX12_findMatch 119 = .ok (.iload_n 2, 1) := by decide +kernel
theorem dX12_findMatch_120 : decode cX12_findMatch 120 = .ok (.sipush 256, 3) := by decide +kernel
theorem dX12_findMatch_123 : decode cX12_findMatch 123 = .ok (.if_icmp .ge 108, 3) := by decide +kernel
theorem dX12_findMatch_126 : decode cX12_findMatch 126 = .ok (.aload_n 0, 1) := by decide +kernel
theorem dX12_findMatch_127 : decode cX12_findMatch 127 = .ok (.getfield 31, 3) := by decide +kernel
theorem dX12_findMatch_130 : decode cX12_findMatch 130 = .ok (.iload_n 1, 1) := by decide +kernel
theorem dX12_findMatch_131 : decode cX12_findMatch 131 = .ok (.iaload, 1) := by decide +kernel
theorem dX12_findMatch_132 : decode cX12_findMatch 132 = .ok (.aload_n 0, 1) := by decide +kernel
theorem dX12_findMatch_133 : decode cX12_findMatch 133 = .ok (.getfield 95, 3) := by decide +kernel
theorem dX12_findMatch_136 : decode cX12_findMatch 136 = .ok (.sipush 256, 3) := by decide +kernel
theorem dX12_findMatch_139 : decode cX12_findMatch 139 = .ok (.iload_n 1, 1) := by decide +kernel
theorem dX12_findMatch_140 : decode cX12_findMatch 140 = .ok (.iconst 1, 1) := by decide +kernel
theorem dX12_findMatch_141 : decode cX12_findMatch 141 = .ok (.iadd, 1) := by decide +kernel
theorem dX12_findMatch_142 : decode cX12_findMatch 142 = .ok (.imul, 1) := by decide +kernel
theorem dX12_findMatch_143 : decode cX12_findMatch 143 = .ok (.iload_n 2, 1) := by decide +kernel
theorem dX12_findMatch_144 : decode cX12_findMatch 144 = .ok (.iadd, 1) := by decide +kernel
theorem dX12_findMatch_145 : decode cX12_findMatch 145 = .ok (.iaload, 1) := by decide +kernel
theorem dX12_findMatch_146 : decode cX12_findMatch 146 = .ok (.iadd, 1) := by decide +kernel
theorem dX12_findMatch_147 : decode cX12_findMatch 147 = .ok (.istore_n 3, 1) := by decide +kernel
theorem dX12_findMatch_148 : decode cX12_findMatch 148 = .ok (.iconst 0, 1) := by decide +kernel
theorem dX12_findMatch_149 : decode cX12_findMatch 149 = .ok (.istore 4, 2) := by decide +kernel
theorem dX12_findMatch_151 : decode cX12_findMatch 151 = .ok (.iload 4, 2) := by decide +kernel
theorem dX12_findMatch_153 : decode cX12_findMatch 153 = .ok (.aload_n 0, 1) := by decide +kernel
theorem dX12_findMatch_154 : decode cX12_findMatch 154 = .ok (.getfield 132, 3) := by decide +kernel
theorem dX12_findMatch_157 : decode cX12_findMatch 157 = .ok (.if_icmp .ge 55, 3) := by decide +kernel
theorem dX12_findMatch_160 : decode cX12_findMatch 160 = .ok (.iload_n 2, 1) := by decide +kernel
theorem dX12_findMatch_161 : decode cX12_findMatch 161 = .ok (.iload 4, 2) := by decide +kernel
theorem dX12_findMatch_163 : decode cX12_findMatch 163 = .ok (.ishr, 1) := by decide +kernel
theorem dX12_findMatch_164 : decode cX12_findMatch 164 = .ok (.iconst 1, 1) := by decide +kernel
theorem dX12_findMatch_165 : decode cX12_findMatch 165 = .ok (.iand, 1) := by decide +kernel
theorem dX12_findMatch_166 : decode cX12_findMatch 166 = .ok (.ifCond .ne 40, 3) := by decide +kernel
theorem dX12_findMatch_169 : decode cX12_findMatch 169 = .ok (.iload_n 3, 1) := by decide +kernel
theorem dX12_findMatch_170 : decode cX12_findMatch 170 = .ok (.aload_n 0, 1) := by decide +kernel
theorem dX12_findMatch_171 : decode cX12_findMatch 171 = .ok (.getfield 92, 3) := by decide +kernel
theorem dX12_findMatch_174 : decode cX12_findMatch 174 = .ok (.bipush 8, 2) := by decide +kernel
theorem dX12_findMatch_176 : decode cX12_findMatch 176 = .ok (.iload_n 1, 1) := by decide +kernel
theorem dX12_findMatch_177 : decode cX12_findMatch 177 = .ok (.imul, 1) := by decide +kernel
theorem dX12_findMatch_178 : decode cX12_findMatch 178 = .ok (.iload 4, 2) := by decide +kernel
theorem dX12_findMatch_180 : decode cX12_findMatch 180 = .ok (.iadd, 1) := by decide +kernel
theorem dX12_findMatch_181 : decode cX12_findMatch 181 = .ok (.iaload, 1) := by decide +kernel
theorem dX12_findMatch_182 : decode cX12_findMatch 182 = .ok (.aload_n 0, 1) := by decide +kernel
theorem dX12_findMatch_183 : decode cX12_findMatch 183 = .ok (.getfield 95, 3) := by decide +kernel
theorem dX12_findMatch_186 : decode cX12_findMatch 186 = .ok (.sipush 256, 3) := by decide +kernel
theorem dX12_findMatch_189 : decode cX12_findMatch 189 = .ok (.iload_n 1, 1) := by decide +kernel
theorem dX12_findMatch_190 : decode cX12_findMatch 190 = .ok (.iconst 1, 1) := by decide +kernel
theorem dX12_findMatch_191 : decode cX12_findMatch 191 = .ok (.iadd, 1) := by decide +kernel
theorem dX12_findMatch_192 : decode cX12_findMatch 192 = .ok (.imul, 1) := by decide +kernel
theorem dX12_findMatch_193 : decode cX12_findMatch 193 = .ok (.iload_n 2, 1) := by decide +kernel
theorem dX12_findMatch_194 : decode cX12_findMatch 194 = .ok (.iconst 1, 1) := by decide +kernel
theorem dX12_findMatch_195 : decode cX12_findMatch 195 = .ok (.iload 4, 2) := by decide +kernel
theorem dX12_findMatch_197 : decode cX12_findMatch 197 = .ok (.ishl, 1) := by decide +kernel
theorem dX12_findMatch_198 : decode cX12_findMatch 198 = .ok (.ior, 1) := by decide +kernel
theorem dX12_findMatch_199 : decode cX12_findMatch 199 = .ok (.iadd, 1) := by decide +kernel
theorem dX12_findMatch_200 : decode cX12_findMatch 200 = .ok (.iaload, 1) := by decide +kernel
theorem dX12_findMatch_201 : decode cX12_findMatch 201 = .ok (.iadd, 1) := by decide +kernel
theorem dX12_findMatch_202 : decode cX12_findMatch 202 = .ok (.invokestatic 158, 3) := by decide +kernel
theorem dX12_findMatch_205 : decode cX12_findMatch 205 = .ok (.istore_n 3, 1) := by decide +kernel
theorem dX12_findMatch_206 : decode cX12_findMatch 206 = .ok (.iinc 4 1, 3) := by decide +kernel
theorem dX12_findMatch_209 : decode cX12_findMatch 209 = .ok (.goto (-58), 3) := by decide +kernel
theorem dX12_findMatch_212 : decode cX12_findMatch 212 = .ok (.aload_n 0, 1) := by decide +kernel
theorem dX12_findMatch_213 : decode cX12_findMatch 213 = .ok (.getfield 95, 3) := by decide +kernel
theorem dX12_findMatch_216 : decode cX12_findMatch 216 = .ok (.sipush 256, 3) := by decide +kernel
theorem dX12_findMatch_219 : decode cX12_findMatch 219 = .ok (.iload_n 1, 1) := by decide +kernel
theorem dX12_findMatch_220 : decode cX12_findMatch 220 = .ok (.imul, 1) := by decide +kernel
theorem dX12_findMatch_221 : decode cX12_findMatch 221 = .ok (.iload_n 2, 1) := by decide +kernel
theorem dX12_findMatch_222 : decode cX12_findMatch 222 = .ok (.iadd, 1) := by decide +kernel
theorem dX12_findMatch_223 : decode cX12_findMatch 223 = .ok (.iload_n 3, 1) := by decide +kernel
theorem dX12_findMatch_224 : decode cX12_findMatch 224 = .ok (.iastore, 1) := by decide +kernel
theorem dX12_findMatch_225 : decode cX12_findMatch 225 = .ok (.iinc 2 1, 3) := by decide +kernel
theorem dX12_findMatch_228 : decode cX12_findMatch 228 = .ok (.goto (-109), 3) := by decide +kernel
theorem dX12_findMatch_231 : decode cX12_findMatch 231 = .ok (.iinc 1 (-1), 3) := by decide +kernel
theorem dX12_findMatch_234 : decode cX12_findMatch 234 = .ok (.goto (-121), 3) := by decide +kernel
theorem dX12_findMatch_237 : decode cX12_findMatch 237 = .ok (.iconst 0, 1) := by decide +kernel
theorem dX12_findMatch_238 : decode cX12_findMatch 238 = .ok (.istore_n 1, 1) := by decide +kernel
theorem dX12_findMatch_239 : decode cX12_findMatch 239 = .ok (.iconst 0, 1) := by decide +kernel
theorem dX12_findMatch_240 : decode cX12_findMatch 240 = .ok (.istore_n 2, 1) := by decide +kernel
theorem dX12_findMatch_241 : decode cX12_findMatch 241 = .ok (.iload_n 2, 1) := by decide +kernel
theorem dX12_findMatch_242 : decode cX12_findMatch 242 = .ok (.aload_n 0, 1) := by decide +kernel
theorem dX12_findMatch_243 : decode cX12_findMatch 243 = .ok (.getfield 155, 3) := by decide +kernel
theorem dX12_findMatch_246 : decode cX12_findMatch 246 = .ok (.if_icmp .ge 126, 3) := by decide +kernel
theorem dX12_findMatch_249 : decode cX12_findMatch 249 = .ok (.iconst (-1), 1) := by decide +kernel
theorem dX12_findMatch_250 : decode cX12_findMatch 250 = .ok (.istore_n 3, 1) := by decide +kernel
theorem dX12_findMatch_251 : decode cX12_findMatch 251 = .ok (.aload_n 0, 1) := by decide +kernel
theorem dX12_findMatch_252 : decode cX12_findMatch 252 = .ok (.getfield 132, 3) := by decide +kernel
theorem dX12_findMatch_255 : decode cX12_findMatch 255 = .ok (.iconst 1, 1) := by decide +kernel
theorem dX12_findMatch_256 : decode cX12_findMatch 256 = .ok (.isub, 1) := by decide +kernel
theorem dX12_findMatch_257 : decode cX12_findMatch 257 = .ok (.istore 4, 2) := by decide +kernel
theorem dX12_findMatch_259 : decode cX12_findMatch 259 = .ok (.iload 4, 2) := by decide +kernel
theorem dX12_findMatch_261 : decode cX12_findMatch 261 = .ok (.ifCond .lt 84, 3) := by decide +kernel
theorem dX12_findMatch_264 : decode cX12_findMatch 264 = .ok (.iload_n 1, 1) := by decide +kernel
theorem dX12_findMatch_265 : decode cX12_findMatch 265 = .ok (.iload 4, 2) := by decide +kernel
theorem dX12_findMatch_267 : decode cX12_findMatch 267 = .ok (.ishr, 1) := by decide +kernel
theorem dX12_findMatch_268 : decode cX12_findMatch 268 = .ok (.iconst 1, 1) := by decide +kernel
theorem dX12_findMatch_269 : decode cX12_findMatch 269 = .ok (.iand, 1) := by decide +kernel
theorem dX12_findMatch_270 : decode cX12_findMatch 270 = .ok (.ifCond .ne 54, 3) := by decide +kernel
theorem dX12_findMatch_273 : decode cX12_findMatch 273 = .ok (.aload_n 0, 1) := by decide +kernel
theorem dX12_findMatch_274 : decode cX12_findMatch 274 = .ok (.getfield 92, 3) := by decide +kernel
theorem dX12_findMatch_277 : decode cX12_findMatch 277 = .ok (.bipush 8, 2) := by decide +kernel
theorem dX12_findMatch_279 : decode cX12_findMatch 279 = .ok (.iload_n 2, 1) := by decide +kernel
theorem dX12_findMatch_280 : decode cX12_findMatch 280 = .ok (.imul, 1) := by decide +kernel
theorem dX12_findMatch_281 : decode cX12_findMatch 281 = .ok (.iload 4, 2) := by decide +kernel
theorem dX12_findMatch_283 : decode cX12_findMatch 283 = .ok (.iadd, 1) := by decide +kernel
theorem dX12_findMatch_284 : decode cX12_findMatch 284 = .ok (.iaload, 1) := by decide +kernel
theorem dX12_findMatch_285 : decode cX12_findMatch 285 = .ok (.aload_n 0, 1) := by decide +kernel
theorem dX12_findMatch_286 : decode cX12_findMatch 286 = .ok (.getfield 95, 3) := by decide +kernel
theorem dX12_findMatch_289 : decode cX12_findMatch 289 = .ok (.sipush 256, 3) := by decide +kernel
theorem dX12_findMatch_292 : decode cX12_findMatch 292 = .ok (.iload_n 2, 1) := by decide +kernel
theorem dX12_findMatch_293 : decode cX12_findMatch 293 = .ok (.iconst 1, 1) := by decide +kernel
theorem dX12_findMatch_294 : decode cX12_findMatch 294 = .ok (.iadd, 1) := by decide +kernel
theorem dX12_findMatch_295 : decode cX12_findMatch 295 = .ok (.imul, 1) := by decide +kernel
theorem dX12_findMatch_296 : decode cX12_findMatch 296 = .ok (.iload_n 1, 1) := by decide +kernel
theorem dX12_findMatch_297 : decode cX12_findMatch 297 = .ok (.iconst 1, 1) := by decide +kernel
theorem dX12_findMatch_298 : decode cX12_findMatch 298 = .ok (.iload 4, 2) := by decide +kernel
theorem dX12_findMatch_300 : decode cX12_findMatch 300 = .ok (.ishl, 1) := by decide +kernel
theorem dX12_findMatch_301 : decode cX12_findMatch 301 = .ok (.ior, 1) := by decide +kernel
theorem dX12_findMatch_302 : decode cX12_findMatch 302 = .ok (.iadd, 1) := by decide +kernel
theorem dX12_findMatch_303 : decode cX12_findMatch 303 = .ok (.iaload, 1) := by decide +kernel
theorem dX12_findMatch_304 : decode cX12_findMatch 304 = .ok (.iadd, 1) := by decide +kernel
theorem dX12_findMatch_305 : decode cX12_findMatch 305 = .ok (.aload_n 0, 1) := by decide +kernel
theorem dX12_findMatch_306 : decode cX12_findMatch 306 = .ok (.getfield 95, 3) := by decide +kernel
theorem dX12_findMatch_309 : decode cX12_findMatch 309 = .ok (.sipush 256, 3) := by decide +kernel
theorem dX12_findMatch_312 : decode cX12_findMatch 312 = .ok (.iload_n 2, 1) := by decide +kernel
theorem dX12_findMatch_313 : decode cX12_findMatch 313 = .ok (.imul, 1) := by decide +kernel
theorem dX12_findMatch_314 : decode cX12_findMatch 314 = .ok (.iload_n 1, 1) := by decide +kernel
theorem dX12_findMatch_315 : decode cX12_findMatch 315 = .ok (.iadd, 1) := by decide +kernel
theorem dX12_findMatch_316 : decode cX12_findMatch 316 = .ok (.iaload, 1) := by decide +kernel
theorem dX12_findMatch_317 : decode cX12_findMatch 317 = .ok (.if_icmp .ne 7, 3) := by decide +kernel
theorem dX12_findMatch_320 : decode cX12_findMatch 320 = .ok (.iconst 1, 1) := by decide +kernel
theorem dX12_findMatch_321 : decode cX12_findMatch 321 = .ok (.goto 4, 3) := by decide +kernel
theorem dX12_findMatch_324 : decode cX12_findMatch 324 = .ok (.iconst 0, 1) := by decide +kernel
theorem dX12_findMatch_325 : decode cX12_findMatch 325 = .ok (.istore 5, 2) := by decide +kernel
theorem dX12_findMatch_327 : decode cX12_findMatch 327 = .ok (.iload 5, 2) := by decide +kernel
theorem dX12_findMatch_329 : decode cX12_findMatch 329 = .ok (.ifCond .eq 8, 3) := by decide +kernel
theorem dX12_findMatch_332 : decode cX12_findMatch 332 = .ok (.iload 4, 2) := by decide +kernel
theorem dX12_findMatch_334 : decode cX12_findMatch 334 = .ok (.goto 4, 3) := by decide +kernel
theorem dX12_findMatch_337 : decode cX12_findMatch 337 = .ok (.iload_n 3, 1) := by decide +kernel
theorem dX12_findMatch_338 : decode cX12_findMatch 338 = .ok (.istore_n 3, 1) := by decide +kernel
theorem dX12_findMatch_339 : decode cX12_findMatch 339 = .ok (.iinc 4 (-1), 3) := by decide +kernel
theorem dX12_findMatch_342 : decode cX12_findMatch 342 = .ok (.goto (-83), 3) := by decide +kernel
theorem dX12_findMatch_345 : decode cX12_findMatch 345 = .ok (.aload_n 0, 1) := by decide +kernel
theorem dX12_findMatch_346 : decode cX12_findMatch 346 = .ok (.getfield 98, 3) := by decide +kernel
theorem dX12_findMatch_349 : decode cX12_findMatch 349 = .ok (.iload_n 2, 1) := by decide +kernel
theorem dX12_findMatch_350 : decode cX12_findMatch 350 = .ok (.iload_n 3, 1) := by decide +kernel
theorem dX12_findMatch_351 : decode cX12_findMatch 351 = .ok (.iastore, 1) := by decide +kernel
theorem dX12_findMatch_352 : decode cX12_findMatch 352 = .ok (.iload_n 1, 1) := by decide +kernel
theorem dX12_findMatch_353 : decode cX12_findMatch 353 = .ok (.iload_n 3, 1) := by decide +kernel
theorem dX12_findMatch_354 : decode cX12_findMatch 354 = .ok (.ifCond .ge 7, 3) := by decide +kernel
theorem dX12_findMatch_357 : decode cX12_findMatch 357 = .ok (.iconst 0, 1) := by decide +kernel
theorem dX12_findMatch_358 : decode cX12_findMatch 358 = .ok (.goto 6, 3) := by decide +kernel
theorem dX12_findMatch_361 : decode cX12_findMatch 361 = .ok (.iconst 1, 1) := by decide +kernel
theorem dX12_findMatch_362 : decode cX12_findMatch 362 = .ok (.iload_n 3, 1) := by decide +kernel
theorem dX12_findMatch_363 : decode cX12_findMatch 363 = .ok (.ishl, 1) := by decide +kernel
theorem dX12_findMatch_364 : decode cX12_findMatch 364 = .ok (.ior, 1) := by decide +kernel
theorem dX12_findMatch_365 : decode cX12_findMatch 365 = .ok (.istore_n 1, 1) := by decide +kernel
theorem dX12_findMatch_366 : decode cX12_findMatch 366 = .ok (.iinc 2 1, 3) := by decide +kernel
theorem dX12_findMatch_369 : decode cX12_findMatch 369 = .ok (.goto (-128), 3) := by decide +kernel
theorem dX12_findMatch_372 : decode cX12_findMatch 372 = .ok (.aload_n 0, 1) := by decide +kernel
theorem dX12_findMatch_373 : decode cX12_findMatch 373 = .ok (.getfield 95, 3) := by decide +kernel
theorem dX12_findMatch_376 : decode cX12_findMatch 376 = .ok (.iconst 0, 1) := by decide +kernel
theorem dX12_findMatch_377 : decode cX12_findMatch 377 = .ok (.iaload, 1) := by decide +kernel
theorem dX12_findMatch_378 : decode cX12_findMatch 378 = .ok (.ireturn, 1) := by decide +kernel
theorem dX12_copy_0 : decode cX12_copy 0 = .ok (.iconst 0, 1) := by decide +kernel
theorem dX12_copy_1 : decode cX12_copy 1 = .ok (.istore_n 3, 1) := by decide +kernel
theorem dX12_copy_2 : decode cX12_copy 2 = .ok (.iload_n 3, 1) := by decide +kernel
theorem dX12_copy_3 : decode cX12_copy 3 = .ok (.iload_n 2, 1) := by decide +kernel
theorem dX12_copy_4 : decode cX12_copy 4 = .ok (.if_icmp .ge 15, 3) := by decide +kernel
theorem dX12_copy_7 : decode cX12_copy 7 = .ok (.aload_n 1, 1) := by decide +kernel
theorem dX12_copy_8 : decode cX12_copy 8 = .ok (.iload_n 3, 1) := by decide +kernel
theorem dX12_copy_9 : decode cX12_copy 9 = .ok (.aload_n 0, 1) := by decide +kernel
theorem dX12_copy_10 : decode cX12_copy 10 = .ok (.iload_n 3, 1) := by decide +kernel
theorem dX12_copy_11 : decode cX12_copy 11 = .ok (.iaload, 1) := by decide +kernel
theorem dX12_copy_12 : decode cX12_copy 12 = .ok (.iastore, 1) := by decide +kernel
theorem dX12_copy_13 : decode cX12_copy 13 = .ok (.iinc 3 1, 3) := by decide +kernel
theorem dX12_copy_16 : decode cX12_copy 16 = .ok (.goto (-14), 3) := by decide +kernel
theorem dX12_copy_19 : decode cX12_copy 19 = .ok (.return_, 1) := by decide +kernel
theorem dX12_takeOver_0 : decode cX12_takeOver 0 = .ok (.iconst 0, 1) := by decide +kernel
theorem dX12_takeOver_1 : decode cX12_takeOver 1 = .ok (.istore 4, 2) := by decide +kernel
theorem dX12_takeOver_3 : decode cX12_takeOver 3 = .ok (.iload 4, 2) := by decide +kernel
theorem dX12_takeOver_5 : decode cX12_takeOver 5 = .ok (.iconst 3, 1) := by decide +kernel
theorem dX12_takeOver_6 : decode cX12_takeOver 6 = .ok (.if_icmp .ge 127, 3) := by decide +kernel
theorem dX12_takeOver_9 : decode cX12_takeOver 9 = .ok (.iconst 3, 1) := by decide +kernel
theorem dX12_takeOver_10 : decode cX12_takeOver 10 = .ok (.iload_n 1, 1) := by decide +kernel
theorem dX12_takeOver_11 : decode cX12_takeOver 11 = .ok (.imul, 1) := by decide +kernel
theorem dX12_takeOver_12 : decode cX12_takeOver 12 = .ok (.iload 4, 2) := by decide +kernel
theorem dX12_takeOver_14 : decode cX12_takeOver 14 = .ok (.iadd, 1) := by decide +kernel
theorem dX12_takeOver_15 : decode cX12_takeOver 15 = .ok (.istore 5, 2) := by decide +kernel
theorem dX12_takeOver_17 : decode cX12_takeOver 17 = .ok (.iconst 3, 1) := by decide +kernel
theorem dX12_takeOver_18 : decode cX12_takeOver 18 = .ok (.iload_n 2, 1) := by decide +kernel
theorem dX12_takeOver_19 : decode cX12_takeOver 19 = .ok (.imul, 1) := by decide +kernel
theorem dX12_takeOver_20 : decode cX12_takeOver 20 = .ok (.iload 4, 2) := by decide +kernel
theorem dX12_takeOver_22 : decode cX12_takeOver 22 = .ok (.iadd, 1) := by decide +kernel
theorem dX12_takeOver_23 : decode cX12_takeOver 23 = .ok (.istore 6, 2) := by decide +kernel
theorem dX12_takeOver_25 : decode cX12_takeOver 25 = .ok (.aload_n 0, 1) := by decide +kernel
theorem dX12_takeOver_26 : decode cX12_takeOver 26 = .ok (.getfield 37, 3) := by decide +kernel
theorem dX12_takeOver_29 : decode cX12_takeOver 29 = .ok (.iload 5, 2) := by decide +kernel
theorem dX12_takeOver_31 : decode cX12_takeOver 31 = .ok (.aload_n 0, 1) := by decide +kernel
theorem dX12_takeOver_32 : decode cX12_takeOver 32 = .ok (.getfield 101, 3) := by decide +kernel
theorem dX12_takeOver_35 : decode cX12_takeOver 35 = .ok (.iload 6, 2) := by decide +kernel
theorem dX12_takeOver_37 : decode cX12_takeOver 37 = .ok (.iaload, 1) := by decide +kernel
theorem dX12_takeOver_38 : decode cX12_takeOver 38 = .ok (.ifCond .le 11, 3) := by decide +kernel
theorem dX12_takeOver_41 : decode cX12_takeOver 41 = .ok (.iload_n 3, 1) := by decide +kernel
theorem dX12_takeOver_42 : decode cX12_takeOver 42 = .ok (.ifCond .le 7, 3) := by decide +kernel
theorem dX12_takeOver_45 : decode cX12_takeOver 45 = .ok (.iconst 3, 1) := by decide +kernel
theorem dX12_takeOver_46 : decode cX12_takeOver 46 = .ok (.goto 10, 3) := by decide +kernel
theorem dX12_takeOver_49 : decode cX12_takeOver 49 = .ok (.aload_n 0, 1) := by decide +kernel
theorem dX12_takeOver_50 : decode cX12_takeOver 50 = .ok (.getfield 101, 3) := by decide +kernel
theorem dX12_takeOver_53 : decode cX12_takeOver 53 = .ok (.iload 6, 2) := by decide +kernel
theorem dX12_takeOver_55 : decode cX12_takeOver 55 = .ok (.iaload, 1) := by decide +kernel
theorem dX12_takeOver_56 : decode cX12_takeOver 56 = .ok (.iastore, 1) := by decide +kernel
theorem dX12_takeOver_57 : decode cX12_takeOver 57 = .ok (.aload_n 0, 1) := by decide +kernel
theorem dX12_takeOver_58 : decode cX12_takeOver 58 = .ok (.getfield 40, 3) := by decide +kernel
theorem dX12_takeOver_61 : decode cX12_takeOver 61 = .ok (.iload 5, 2) := by decide +kernel
theorem dX12_takeOver_63 : decode cX12_takeOver 63 = .ok (.aload_n 0, 1) := by decide +kernel
theorem dX12_takeOver_64 : decode cX12_takeOver 64 = .ok (.getfield 104, 3) := by decide +kernel
theorem dX12_takeOver_67 : decode cX12_takeOver 67 = .ok (.iload 6, 2) := by decide +kernel
theorem dX12_takeOver_69 : decode cX12_takeOver 69 = .ok (.iaload, 1) := by decide +kernel
theorem dX12_takeOver_70 : decode cX12_takeOver 70 = .ok (.iastore, 1) := by decide +kernel
theorem dX12_takeOver_71 : decode cX12_takeOver 71 = .ok (.aload_n 0, 1) := by decide +kernel
theorem dX12_takeOver_72 : decode cX12_takeOver 72 = .ok (.getfield 43, 3) := by decide +kernel
theorem dX12_takeOver_75 : decode cX12_takeOver 75 = .ok (.iload 5, 2) := by decide +kernel
theorem dX12_takeOver_77 : decode cX12_takeOver 77 = .ok (.aload_n 0, 1) := by decide +kernel
theorem dX12_takeOver_78 : decode cX12_takeOver 78 = .ok (.getfield 107, 3) := by decide +kernel
theorem dX12_takeOver_81 : decode cX12_takeOver 81 = .ok (.iload 6, 2) := by decide +kernel
theorem dX12_takeOver_83 : decode cX12_takeOver 83 = .ok (.iaload, 1) := by decide +kernel
theorem dX12_takeOver_84 : decode cX12_takeOver 84 = .ok (.iastore, 1) := by decide +kernel
theorem dX12_takeOver_85 : decode cX12_takeOver 85 = .ok (.iconst 0, 1) := by decide +kernel
theorem dX12_takeOver_86 : decode cX12_takeOver 86 = .ok (.istore 7, 2) := by decide +kernel
theorem dX12_takeOver_88 : decode cX12_takeOver 88 = .ok (.iload 7, 2) := by decide +kernel
theorem dX12_takeOver_90 : decode cX12_takeOver 90 = .ok (.bipush 10, 2) := by decide +kernel
theorem dX12_takeOver_92 : decode cX12_takeOver 92 = .ok (.if_icmp .ge 35, 3) := by decide +kernel
theorem dX12_takeOver_95 : decode cX12_takeOver 95 = .ok (.aload_n 0, 1) := by decide +kernel
theorem dX12_takeOver_96 : decode cX12_takeOver 96 = .ok (.getfield 46, 3) := by decide +kernel
theorem dX12_takeOver_99 : decode cX12_takeOver 99 = .ok (.bipush 10, 2) := by decide +kernel
theorem dX12_takeOver_101 : decode cX12_takeOver 101 = .ok (.iload 5, 2) := by decide +kernel
theorem dX12_takeOver_103 : decode cX12_takeOver 103 = .ok (.imul, 1) := by decide +kernel
theorem dX12_takeOver_104 : decode cX12_takeOver 104 = .ok (.iload 7, 2) := by decide +kernel
theorem dX12_takeOver_106 : decode cX12_takeOver 106 = .ok (.iadd, 1) := by decide +kernel
theorem dX12_takeOver_107 : decode cX12_takeOver 107 = .ok (.aload_n 0, 1) := by decide +kernel
theorem dX12_takeOver_108 : decode cX12_takeOver 108 = .ok (.getfield 110, 3) := by decide +kernel
theorem dX12_takeOver_111 : decode cX12_takeOver 111 = .ok (.bipush 10, 2) := by decide +kernel
theorem dX12_takeOver_113 : decode cX12_takeOver 113 = .ok (.iload 6, 2) := by decide +kernel
theorem dX12_takeOver_115 : decode cX12_takeOver 115 = .ok (.imul, 1) := by decide +kernel
theorem dX12_takeOver_116 : decode cX12_takeOver 116 = .ok (.iload 7, 2) := by decide +kernel
theorem dX12_takeOver_118 : decode cX12_takeOver 118 = .ok (.iadd, 1) := by decide +kernel
theorem dX12_takeOver_119 : decode cX12_takeOver 119 = .ok (.iaload, 1) := by decide +kernel
theorem dX12_takeOver_120 : decode cX12_takeOver 120 = .ok (.iastore, 1) := by decide +kernel
theorem dX12_takeOver_121 : decode cX12_takeOver 121 = .ok (.iinc 7 1, 3) := by decide +kernel
theorem dX12_takeOver_124 : decode cX12_takeOver 124 = .ok (.goto (-36), 3) := by decide +kernel
theorem dX12_takeOver_127 : decode cX12_takeOver 127 = .ok (.iinc 4 1, 3) := by decide +kernel
theorem dX12_takeOver_130 : decode cX12_takeOver 130 = .ok (.goto (-127), 3) := by decide +kernel
theorem dX12_takeOver_133 : decode cX12_takeOver 133 = .ok (.return_, 1) := by decide +kernel
theorem dX12_turn_0 : decode cX12_turn 0 = .ok (.aload_n 0, 1) := by decide +kernel
theorem dX12_turn_1 : decode cX12_turn 1 = .ok (.getfield 155, 3) := by decide +kernel
theorem dX12_turn_4 : decode cX12_turn 4 = .ok (.ifCond .ne 6, 3) := by decide +kernel
theorem dX12_turn_7 : decode cX12_turn 7 = .ok (.bipush (-5), 2) := by decide +kernel
theorem dX12_turn_9 : decode cX12_turn 9 = .ok (.ireturn, 1) := by decide +kernel
theorem dX12_turn_10 : decode cX12_turn 10 = .ok (.aload_n 0, 1) := by decide +kernel
theorem dX12_turn_11 : decode cX12_turn 11 = .ok (.invokevirtual 166, 3) := by decide +kernel
theorem dX12_turn_14 : decode cX12_turn 14 = .ok (.istore_n 1, 1) := by decide +kernel
theorem dX12_turn_15 : decode cX12_turn 15 = .ok (.aload_n 0, 1) := by decide +kernel
theorem dX12_turn_16 : decode cX12_turn 16 = .ok (.getfield 37, 3) := by decide +kernel
theorem dX12_turn_19 : decode cX12_turn 19 = .ok (.aload_n 0, 1) := by decide +kernel
theorem dX12_turn_20 : decode cX12_turn 20 = .ok (.getfield 101, 3) := by decide +kernel
theorem dX12_turn_23 : decode cX12_turn 23 = .ok (.bipush 24, 2) := by decide +kernel
theorem dX12_turn_25 : decode cX12_turn 25 = .ok (.invokestatic 170, 3) := by decide +kernel
theorem dX12_turn_28 : decode cX12_turn 28 = .ok (.aload_n 0, 1) := by decide +kernel
theorem dX12_turn_29 : decode cX12_turn 29 = .ok (.getfield 40, 3) := by decide +kernel
theorem dX12_turn_32 : decode cX12_turn 32 = .ok (.aload_n 0, 1) := by decide +kernel
theorem dX12_turn_33 : decode cX12_turn 33 = .ok (.getfield 104, 3) := by decide +kernel
theorem dX12_turn_36 : decode cX12_turn 36 = .ok (.bipush 24, 2) := by decide +kernel
theorem dX12_turn_38 : decode cX12_turn 38 = .ok (.invokestatic 170, 3) := by decide +kernel
theorem dX12_turn_41 : decode cX12_turn 41 = .ok (.aload_n 0, 1) := by decide +kernel
theorem dX12_turn_42 : decode cX12_turn 42 = .ok (.getfield 43, 3) := by decide +kernel
theorem dX12_turn_45 : decode cX12_turn 45 = .ok (.aload_n 0, 1) := by decide +kernel
theorem dX12_turn_46 : decode cX12_turn 46 = .ok (.getfield 107, 3) := by decide +kernel
theorem dX12_turn_49 : decode cX12_turn 49 = .ok (.bipush 24, 2) := by decide +kernel
theorem dX12_turn_51 : decode cX12_turn 51 = .ok (.invokestatic 170, 3) := by decide +kernel
theorem dX12_turn_54 : decode cX12_turn 54 = .ok (.aload_n 0, 1) := by decide +kernel
theorem dX12_turn_55 : decode cX12_turn 55 = .ok (.getfield 46, 3) := by decide +kernel
theorem dX12_turn_58 : decode cX12_turn 58 = .ok (.aload_n 0, 1) := by decide +kernel
theorem dX12_turn_59 : decode cX12_turn 59 = .ok (.getfield 110, 3) := by decide +kernel
theorem dX12_turn_62 : decode cX12_turn 62 = .ok (.sipush 240, 3) := by decide +kernel
theorem dX12_turn_65 : decode cX12_turn 65 = .ok (.invokestatic 170, 3) := by decide +kernel
theorem dX12_turn_68 : decode cX12_turn 68 = .ok (.iconst 0, 1) := by decide +kernel
theorem dX12_turn_69 : decode cX12_turn 69 = .ok (.istore_n 2, 1) := by decide +kernel
theorem dX12_turn_70 : decode cX12_turn 70 = .ok (.iload_n 2, 1) := by decide +kernel
theorem dX12_turn_71 : decode cX12_turn 71 = .ok (.aload_n 0, 1) := by decide +kernel
theorem dX12_turn_72 : decode cX12_turn 72 = .ok (.getfield 155, 3) := by decide +kernel
theorem dX12_turn_75 : decode cX12_turn 75 = .ok (.if_icmp .ge 116, 3) := by decide +kernel
theorem dX12_turn_78 : decode cX12_turn 78 = .ok (.aload_n 0, 1) := by decide +kernel
theorem dX12_turn_79 : decode cX12_turn 79 = .ok (.getfield 22, 3) := by decide +kernel
theorem dX12_turn_82 : decode cX12_turn 82 = .ok (.iload_n 2, 1) := by decide +kernel
theorem dX12_turn_83 : decode cX12_turn 83 = .ok (.aload_n 0, 1) := by decide +kernel
theorem dX12_turn_84 : decode cX12_turn 84 = .ok (.getfield 98, 3) := by decide +kernel
theorem dX12_turn_87 : decode cX12_turn 87 = .ok (.iload_n 2, 1) := by decide +kernel
theorem dX12_turn_88 : decode cX12_turn 88 = .ok (.iaload, 1) := by decide +kernel
theorem dX12_turn_89 : decode cX12_turn 89 = .ok (.iastore, 1) := by decide +kernel
theorem dX12_turn_90 : decode cX12_turn 90 = .ok (.aload_n 0, 1) := by decide +kernel
theorem dX12_turn_91 : decode cX12_turn 91 = .ok (.getfield 25, 3) := by decide +kernel
theorem dX12_turn_94 : decode cX12_turn 94 = .ok (.iload_n 2, 1) := by decide +kernel
theorem dX12_turn_95 : decode cX12_turn 95 = .ok (.aload_n 0, 1) := by decide +kernel
theorem dX12_turn_96 : decode cX12_turn 96 = .ok (.getfield 98, 3) := by decide +kernel
theorem dX12_turn_99 : decode cX12_turn 99 = .ok (.iload_n 2, 1) := by decide +kernel
theorem dX12_turn_100 : decode cX12_turn 100 = .ok (.iaload, 1) := by decide +kernel
theorem dX12_turn_101 : decode cX12_turn 101 = .ok (.ifCond .ge 7, 3) := by decide +kernel
theorem dX12_turn_104 : decode cX12_turn 104 = .ok (.iconst 0, 1) := by decide +kernel
theorem dX12_turn_105 : decode cX12_turn 105 = .ok (.goto 19, 3) := by decide +kernel
theorem dX12_turn_108 : decode cX12_turn 108 = .ok (.aload_n 0, 1) := by decide +kernel
theorem dX12_turn_109 : decode cX12_turn 109 = .ok (.getfield 92, 3) := by decide +kernel
theorem dX12_turn_112 : decode cX12_turn 112 = .ok (.bipush 8, 2) := by decide +kernel
theorem dX12_turn_114 : decode cX12_turn 114 = .ok (.iload_n 2, 1) := by decide +kernel
theorem dX12_turn_115 : decode cX12_turn 115 = .ok (.imul, 1) := by decide +kernel
theorem dX12_turn_116 : decode cX12_turn 116 = .ok (.aload_n 0, 1) := by decide +kernel
theorem dX12_turn_117 : decode cX12_turn 117 = .ok (.getfield 98, 3) := by decide +kernel
theorem dX12_turn_120 : decode cX12_turn 120 = .ok (.iload_n 2, 1) := by decide +kernel
theorem dX12_turn_121 : decode cX12_turn 121 = .ok (.iaload, 1) := by decide +kernel
theorem dX12_turn_122 : decode cX12_turn 122 = .ok (.iadd, 1) := by decide +kernel
theorem dX12_turn_123 : decode cX12_turn 123 = .ok (.iaload, 1) := by decide +kernel
theorem dX12_turn_124 : decode cX12_turn 124 = .ok (.iastore, 1) := by decide +kernel
theorem dX12_turn_125 : decode cX12_turn 125 = .ok (.iconst 0, 1) := by decide +kernel
theorem dX12_turn_126 : decode cX12_turn 126 = .ok (.istore_n 3, 1) := by decide +kernel
theorem dX12_turn_127 : decode cX12_turn 127 = .ok (.iload_n 3, 1) := by decide +kernel
theorem dX12_turn_128 : decode cX12_turn 128 = .ok (.iconst 3, 1) := by decide +kernel
theorem dX12_turn_129 : decode cX12_turn 129 = .ok (.if_icmp .ge 20, 3) := by decide +kernel
theorem dX12_turn_132 : decode cX12_turn 132 = .ok (.aload_n 0, 1) := by decide +kernel
theorem dX12_turn_133 : decode cX12_turn 133 = .ok (.getfield 37, 3) := by decide +kernel
theorem dX12_turn_136 : decode cX12_turn 136 = .ok (.iconst 3, 1) := by decide +kernel
theorem dX12_turn_137 : decode cX12_turn 137 = .ok (.iload_n 2, 1) := by decide +kernel
theorem dX12_turn_138 : decode cX12_turn 138 = .ok (.imul, 1) := by decide +kernel
theorem dX12_turn_139 : decode cX12_turn 139 = .ok (.iload_n 3, 1) := by decide +kernel
theorem dX12_turn_140 : decode cX12_turn 140 = .ok (.iadd, 1) := by decide +kernel
theorem dX12_turn_141 : decode cX12_turn 141 = .ok (.iconst 0, 1) := by decide +kernel
theorem dX12_turn_142 : decode cX12_turn 142 = .ok (.iastore, 1) := by decide +kernel
theorem dX12_turn_143 : decode cX12_turn 143 = .ok (.iinc 3 1, 3) := by decide +kernel
theorem dX12_turn_146 : decode cX12_turn 146 = .ok (.goto (-19), 3) := by decide +kernel
theorem dX12_turn_149 : decode cX12_turn 149 = .ok (.aload_n 0, 1) := by decide +kernel
theorem dX12_turn_150 : decode cX12_turn 150 = .ok (.getfield 98, 3) := by decide +kernel
theorem dX12_turn_153 : decode cX12_turn 153 = .ok (.iload_n 2, 1) := by decide +kernel
theorem dX12_turn_154 : decode cX12_turn 154 = .ok (.iaload, 1) := by decide +kernel
theorem dX12_turn_155 : decode cX12_turn 155 = .ok (.ifCond .lt 30, 3) := by decide +kernel
theorem dX12_turn_158 : decode cX12_turn 158 = .ok (.aload_n 0, 1) := by decide +kernel
theorem dX12_turn_159 : decode cX12_turn 159 = .ok (.getfield 28, 3) := by decide +kernel
theorem dX12_turn_162 : decode cX12_turn 162 = .ok (.iload_n 2, 1) := by decide +kernel
theorem dX12_turn_163 : decode cX12_turn 163 = .ok (.iaload, 1) := by decide +kernel
theorem dX12_turn_164 : decode cX12_turn 164 = .ok (.iconst 1, 1) := by decide +kernel
theorem dX12_turn_165 : decode cX12_turn 165 = .ok (.if_icmp .eq 20, 3) := by decide +kernel
theorem dX12_turn_168 : decode cX12_turn 168 = .ok (.aload_n 0, 1) := by decide +kernel
theorem dX12_turn_169 : decode cX12_turn 169 = .ok (.iload_n 2, 1) := by decide +kernel
theorem dX12_turn_170 : decode cX12_turn 170 = .ok (.aload_n 0, 1) := by decide +kernel
theorem dX12_turn_171 : decode cX12_turn 171 = .ok (.getfield 98, 3) := by decide +kernel
theorem dX12_turn_174 : decode cX12_turn 174 = .ok (.iload_n 2, 1) := by decide +kernel
theorem dX12_turn_175 : decode cX12_turn 175 = .ok (.iaload, 1) := by decide +kernel
theorem dX12_turn_176 : decode cX12_turn 176 = .ok (.aload_n 0, 1) := by decide +kernel
theorem dX12_turn_177 : decode cX12_turn 177 = .ok (.getfield 25, 3) := by decide +kernel
theorem dX12_turn_180 : decode cX12_turn 180 = .ok (.iload_n 2, 1) := by decide +kernel
theorem dX12_turn_181 : decode cX12_turn 181 = .ok (.iaload, 1) := by decide +kernel
theorem dX12_turn_182 : decode cX12_turn 182 = .ok (.invokevirtual 174, 3) := by decide +kernel
theorem dX12_turn_185 : decode cX12_turn 185 = .ok (.iinc 2 1, 3) := by decide +kernel
theorem dX12_turn_188 : decode cX12_turn 188 = .ok (.goto (-118), 3) := by decide +kernel
theorem dX12_turn_191 : decode cX12_turn 191 = .ok (.aload_n 0, 1) := by decide +kernel
theorem dX12_turn_192 : decode cX12_turn 192 = .ok (.getfield 28, 3) := by decide +kernel
theorem dX12_turn_195 : decode cX12_turn 195 = .ok (.aload_n 0, 1) := by decide +kernel
theorem dX12_turn_196 : decode cX12_turn 196 = .ok (.getfield 13, 3) := by decide +kernel
theorem dX12_turn_199 : decode cX12_turn 199 = .ok (.bipush 8, 2) := by decide +kernel
theorem dX12_turn_201 : decode cX12_turn 201 = .ok (.invokestatic 170, 3) := by decide +kernel
theorem dX12_turn_204 : decode cX12_turn 204 = .ok (.aload_n 0, 1) := by decide +kernel
theorem dX12_turn_205 : decode cX12_turn 205 = .ok (.getfield 31, 3) := by decide +kernel
theorem dX12_turn_208 : decode cX12_turn 208 = .ok (.aload_n 0, 1) := by decide +kernel
theorem dX12_turn_209 : decode cX12_turn 209 = .ok (.getfield 16, 3) := by decide +kernel
theorem dX12_turn_212 : decode cX12_turn 212 = .ok (.bipush 8, 2) := by decide +kernel
theorem dX12_turn_214 : decode cX12_turn 214 = .ok (.invokestatic 170, 3) := by decide +kernel
theorem dX12_turn_217 : decode cX12_turn 217 = .ok (.aload_n 0, 1) := by decide +kernel
theorem dX12_turn_218 : decode cX12_turn 218 = .ok (.getfield 34, 3) := by decide +kernel
theorem dX12_turn_221 : decode cX12_turn 221 = .ok (.aload_n 0, 1) := by decide +kernel
theorem dX12_turn_222 : decode cX12_turn 222 = .ok (.getfield 19, 3) := by decide +kernel
theorem dX12_turn_225 : decode cX12_turn 225 = .ok (.bipush 64, 2) := by decide +kernel
theorem dX12_turn_227 : decode cX12_turn 227 = .ok (.invokestatic 170, 3) := by decide +kernel
theorem dX12_turn_230 : decode cX12_turn 230 = .ok (.aload_n 0, 1) := by decide +kernel
theorem dX12_turn_231 : decode cX12_turn 231 = .ok (.aload_n 0, 1) := by decide +kernel
theorem dX12_turn_232 : decode cX12_turn 232 = .ok (.getfield 155, 3) := by decide +kernel
theorem dX12_turn_235 : decode cX12_turn 235 = .ok (.putfield 132, 3) := by decide +kernel
theorem dX12_turn_238 : decode cX12_turn 238 = .ok (.aload_n 0, 1) := by decide +kernel
theorem dX12_turn_239 : decode cX12_turn 239 = .ok (.iconst 0, 1) := by decide +kernel
theorem dX12_turn_240 : decode cX12_turn 240 = .ok (.putfield 155, 3) := by decide +kernel
theorem dX12_turn_243 : decode cX12_turn 243 = .ok (.iload_n 1, 1) := by decide +kernel
theorem dX12_turn_244 : decode cX12_turn 244 = .ok (.ireturn, 1) := by decide +kernel
theorem dX12_of_0 : decode cX12_of 0 = .ok (.aload_n 0, 1) := by decide +kernel
theorem dX12_of_1 : decode cX12_of 1 = .ok (.iload_n 1, 1) := by decide +kernel
theorem dX12_of_2 : decode cX12_of 2 = .ok (.invokevirtual 178, 3) := by decide +kernel
theorem dX12_of_5 : decode cX12_of 5 = .ok (.ifCond .ne 5, 3) := by decide +kernel
theorem dX12_of_8 : decode cX12_of 8 = .ok (.iconst (-1), 1) := by decide +kernel
theorem dX12_of_9 : decode cX12_of 9 = .ok (.ireturn, 1) := by decide +kernel
theorem dX12_of_10 : decode cX12_of 10 = .ok (.iload_n 2, 1) := by decide +kernel
theorem dX12_of_11 : decode cX12_of 11 = .ok (.ifCond .ne 10, 3) := by decide +kernel
theorem dX12_of_14 : decode cX12_of 14 = .ok (.aload_n 0, 1) := by decide +kernel
theorem dX12_of_15 : decode cX12_of 15 = .ok (.getfield 13, 3) := by decide +kernel
theorem dX12_of_18 : decode cX12_of 18 = .ok (.iload_n 1, 1) := by decide +kernel
theorem dX12_of_19 : decode cX12_of 19 = .ok (.iaload, 1) := by decide +kernel
theorem dX12_of_20 : decode cX12_of 20 = .ok (.ireturn, 1) := by decide +kernel
theorem dX12_of_21 : decode cX12_of 21 = .ok (.iload_n 2, 1) := by decide +kernel
theorem dX12_of_22 : decode cX12_of 22 = .ok (.iconst 1, 1) := by decide +kernel
theorem dX12_of_23 : decode cX12_of 23 = .ok (.if_icmp .ne 10, 3) := by decide +kernel
theorem dX12_of_26 : decode cX12_of 26 = .ok (.aload_n 0, 1) := by decide +kernel
theorem dX12_of_27 : decode cX12_of 27 = .ok (.getfield 16, 3) := by decide +kernel
theorem dX12_of_30 : decode cX12_of 30 = .ok (.iload_n 1, 1) := by decide +kernel
theorem dX12_of_31 : decode cX12_of 31 = .ok (.iaload, 1) := by decide +kernel
theorem dX12_of_32 : decode cX12_of 32 = .ok (.ireturn, 1) := by decide +kernel
theorem dX12_of_33 : decode cX12_of 33 = .ok (.iload_n 2, 1) := by decide +kernel
theorem dX12_of_34 : decode cX12_of 34 = .ok (.bipush 10, 2) := by decide +kernel
theorem dX12_of_36 : decode cX12_of 36 = .ok (.bipush 9, 2) := by decide +kernel
theorem dX12_of_38 : decode cX12_of 38 = .ok (.aload_n 0, 1) := by decide +kernel
theorem dX12_of_39 : decode cX12_of 39 = .ok (.getfield 16, 3) := by decide +kernel
theorem dX12_of_42 : decode cX12_of 42 = .ok (.iload_n 1, 1) := by decide +kernel
theorem dX12_of_43 : decode cX12_of 43 = .ok (.iaload, 1) := by decide +kernel
theorem dX12_of_44 : decode cX12_of 44 = .ok (.iadd, 1) := by decide +kernel
theorem dX12_of_45 : decode cX12_of 45 = .ok (.invokestatic 128, 3) := by decide +kernel
theorem dX12_of_48 : decode cX12_of 48 = .ok (.ifCond .eq 20, 3) := by decide +kernel
theorem dX12_of_51 : decode cX12_of 51 = .ok (.aload_n 0, 1) := by decide +kernel
theorem dX12_of_52 : decode cX12_of 52 = .ok (.getfield 19, 3) := by decide +kernel
theorem dX12_of_55 : decode cX12_of 55 = .ok (.bipush 8, 2) := by decide +kernel
theorem dX12_of_57 : decode cX12_of 57 = .ok (.iload_n 1, 1) := by decide +kernel
theorem dX12_of_58 : decode cX12_of 58 = .ok (.imul, 1) := by decide +kernel
theorem dX12_of_59 : decode cX12_of 59 = .ok (.iload_n 2, 1) := by decide +kernel
theorem dX12_of_60 : decode cX12_of 60 = .ok (.iadd, 1) := by decide +kernel
theorem dX12_of_61 : decode cX12_of 61 = .ok (.bipush 10, 2) := by decide +kernel
theorem dX12_of_63 : decode cX12_of 63 = .ok (.isub, 1) := by decide +kernel
theorem dX12_of_64 : decode cX12_of 64 = .ok (.iaload, 1) := by decide +kernel
theorem dX12_of_65 : decode cX12_of 65 = .ok (.goto 4, 3) := by decide +kernel
theorem dX12_of_68 : decode cX12_of 68 = .ok (.iconst (-1), 1) := by decide +kernel
theorem dX12_of_69 : decode cX12_of 69 = .ok (.ireturn, 1) := by decide +kernel
theorem dX12_far_0 : decode cX12_far 0 = .ok (.aload_n 0, 1) := by decide +kernel
theorem dX12_far_1 : decode cX12_far 1 = .ok (.iload_n 1, 1) := by decide +kernel
theorem dX12_far_2 : decode cX12_far 2 = .ok (.invokevirtual 178, 3) := by decide +kernel
theorem dX12_far_5 : decode cX12_far 5 = .ok (.ifCond .eq 46, 3) := by decide +kernel
theorem dX12_far_8 : decode cX12_far 8 = .ok (.aload_n 0, 1) := by decide +kernel
theorem dX12_far_9 : decode cX12_far 9 = .ok (.iload_n 2, 1) := by decide +kernel
theorem dX12_far_10 : decode cX12_far 10 = .ok (.invokevirtual 178, 3) := by decide +kernel
theorem dX12_far_13 : decode cX12_far 13 = .ok (.ifCond .eq 38, 3) := by decide +kernel
theorem dX12_far_16 : decode cX12_far 16 = .ok (.aload_n 0, 1) := by decide +kernel
theorem dX12_far_17 : decode cX12_far 17 = .ok (.aload_n 0, 1) := by decide +kernel
theorem dX12_far_18 : decode cX12_far 18 = .ok (.getfield 19, 3) := by decide +kernel
theorem dX12_far_21 : decode cX12_far 21 = .ok (.bipush 8, 2) := by decide +kernel
theorem dX12_far_23 : decode cX12_far 23 = .ok (.iload_n 1, 1) := by decide +kernel
theorem dX12_far_24 : decode cX12_far 24 = .ok (.imul, 1) := by decide +kernel
theorem dX12_far_25 : decode cX12_far 25 = .ok (.aload_n 0, 1) := by decide +kernel
theorem dX12_far_26 : decode cX12_far 26 = .ok (.getfield 16, 3) := by decide +kernel
theorem dX12_far_29 : decode cX12_far 29 = .ok (.iload_n 1, 1) := by decide +kernel
theorem dX12_far_30 : decode cX12_far 30 = .ok (.iaload, 1) := by decide +kernel
theorem dX12_far_31 : decode cX12_far 31 = .ok (.aload_n 0, 1) := by decide +kernel
theorem dX12_far_32 : decode cX12_far 32 = .ok (.getfield 19, 3) := by decide +kernel
theorem dX12_far_35 : decode cX12_far 35 = .ok (.bipush 8, 2) := by decide +kernel
theorem dX12_far_37 : decode cX12_far 37 = .ok (.iload_n 2, 1) := by decide +kernel
theorem dX12_far_38 : decode cX12_far 38 = .ok (.imul, 1) := by decide +kernel
theorem dX12_far_39 : decode cX12_far 39 = .ok (.aload_n 0, 1) := by decide +kernel
theorem dX12_far_40 : decode cX12_far 40 = .ok (.getfield 16, 3) := by decide +kernel
theorem dX12_far_43 : decode cX12_far 43 = .ok (.iload_n 2, 1) := by decide +kernel
theorem dX12_far_44 : decode cX12_far 44 = .ok (.iaload, 1) := by decide +kernel
theorem dX12_far_45 : decode cX12_far 45 = .ok (.invokevirtual 162, 3) := by decide +kernel
theorem dX12_far_48 : decode cX12_far 48 = .ok (.goto 4, 3) := by decide +kernel
theorem dX12_far_51 : decode cX12_far 51 = .ok (.iconst (-1), 1) := by decide +kernel
theorem dX12_far_52 : decode cX12_far 52 = .ok (.ireturn, 1) := by decide +kernel
theorem dX12_from_0 : decode cX12_from 0 = .ok (.aload_n 0, 1) := by decide +kernel
theorem dX12_from_1 : decode cX12_from 1 = .ok (.iload_n 1, 1) := by decide +kernel
theorem dX12_from_2 : decode cX12_from 2 = .ok (.invokevirtual 178, 3) := by decide +kernel
theorem dX12_from_5 : decode cX12_from 5 = .ok (.ifCond .ne 5, 3) := by decide +kernel
theorem dX12_from_8 : decode cX12_from 8 = .ok (.iconst (-1), 1) := by decide +kernel
theorem dX12_from_9 : decode cX12_from 9 = .ok (.ireturn, 1) := by decide +kernel
theorem dX12_from_10 : decode cX12_from 10 = .ok (.aload_n 0, 1) := by decide +kernel
theorem dX12_from_11 : decode cX12_from 11 = .ok (.getfield 22, 3) := by decide +kernel
theorem dX12_from_14 : decode cX12_from 14 = .ok (.iload_n 1, 1) := by decide +kernel
theorem dX12_from_15 : decode cX12_from 15 = .ok (.iaload, 1) := by decide +kernel
theorem dX12_from_16 : decode cX12_from 16 = .ok (.ifCond .ge 8, 3) := by decide +kernel
theorem dX12_from_19 : decode cX12_from 19 = .ok (.bipush (-5), 2) := by decide +kernel
theorem dX12_from_21 : decode cX12_from 21 = .ok (.goto 9, 3) := by decide +kernel
theorem dX12_from_24 : decode cX12_from 24 = .ok (.aload_n 0, 1) := by decide +kernel
theorem dX12_from_25 : decode cX12_from 25 = .ok (.getfield 22, 3) := by decide +kernel
theorem dX12_from_28 : decode cX12_from 28 = .ok (.iload_n 1, 1) := by decide +kernel
theorem dX12_from_29 : decode cX12_from 29 = .ok (.iaload, 1) := by decide +kernel
theorem dX12_from_30 : decode cX12_from 30 = .ok (.ireturn, 1) := by decide +kernel
theorem dX12_story_0 : decode cX12_story 0 = .ok (.aload_n 0, 1) := by decide +kernel
theorem dX12_story_1 : decode cX12_story 1 = .ok (.iload_n 1, 1) := by decide +kernel
theorem dX12_story_2 : decode cX12_story 2 = .ok (.invokevirtual 178, 3) := by decide +kernel
theorem dX12_story_5 : decode cX12_story 5 = .ok (.ifCond .ne 5, 3) := by decide +kernel
theorem dX12_story_8 : decode cX12_story 8 = .ok (.iconst (-1), 1) := by decide +kernel
theorem dX12_story_9 : decode cX12_story 9 = .ok (.ireturn, 1) := by decide +kernel
theorem dX12_story_10 : decode cX12_story 10 = .ok (.aload_n 0, 1) := by decide +kernel
theorem dX12_story_11 : decode cX12_story 11 = .ok (.getfield 22, 3) := by decide +kernel
theorem dX12_story_14 : decode cX12_story 14 = .ok (.iload_n 1, 1) := by decide +kernel
theorem dX12_story_15 : decode cX12_story 15 = .ok (.iaload, 1) := by decide +kernel
theorem dX12_story_16 : decode cX12_story 16 = .ok (.ifCond .ge 7, 3) := by decide +kernel
theorem dX12_story_19 : decode cX12_story 19 = .ok (.iconst 3, 1) := by decide +kernel
theorem dX12_story_20 : decode cX12_story 20 = .ok (.goto 31, 3) := by decide +kernel
theorem dX12_story_23 : decode cX12_story 23 = .ok (.aload_n 0, 1) := by decide +kernel
theorem dX12_story_24 : decode cX12_story 24 = .ok (.getfield 25, 3) := by decide +kernel
theorem dX12_story_27 : decode cX12_story 27 = .ok (.iload_n 1, 1) := by decide +kernel
theorem dX12_story_28 : decode cX12_story 28 = .ok (.iaload, 1) := by decide +kernel
theorem dX12_story_29 : decode cX12_story 29 = .ok (.ifCond .le 7, 3) := by decide +kernel
theorem dX12_story_32 : decode cX12_story 32 = .ok (.iconst 2, 1) := by decide +kernel
theorem dX12_story_33 : decode cX12_story 33 = .ok (.goto 18, 3) := by decide +kernel
theorem dX12_story_36 : decode cX12_story 36 = .ok (.aload_n 0, 1) := by decide +kernel
theorem dX12_story_37 : decode cX12_story 37 = .ok (.getfield 22, 3) := by decide +kernel
theorem dX12_story_40 : decode cX12_story 40 = .ok (.iload_n 1, 1) := by decide +kernel
theorem dX12_story_41 : decode cX12_story 41 = .ok (.iaload, 1) := by decide +kernel
theorem dX12_story_42 : decode cX12_story 42 = .ok (.iload_n 1, 1) := by decide +kernel
theorem dX12_story_43 : decode cX12_story 43 = .ok (.if_icmp .ne 7, 3) := by decide +kernel
theorem dX12_story_46 : decode cX12_story 46 = .ok (.iconst 0, 1) := by decide +kernel
theorem dX12_story_47 : decode cX12_story 47 = .ok (.goto 4, 3) := by decide +kernel
theorem dX12_story_50 : decode cX12_story 50 = .ok (.iconst 1, 1) := by decide +kernel
theorem dX12_story_51 : decode cX12_story 51 = .ok (.ireturn, 1) := by decide +kernel
theorem dX12_hand_0 : decode cX12_hand 0 = .ok (.iload_n 1, 1) := by decide +kernel
theorem dX12_hand_1 : decode cX12_hand 1 = .ok (.iconst 1, 1) := by decide +kernel
theorem dX12_hand_2 : decode cX12_hand 2 = .ok (.bipush 7, 2) := by decide +kernel
theorem dX12_hand_4 : decode cX12_hand 4 = .ok (.invokestatic 128, 3) := by decide +kernel
theorem dX12_hand_7 : decode cX12_hand 7 = .ok (.ifCond .eq 23, 3) := by decide +kernel
theorem dX12_hand_10 : decode cX12_hand 10 = .ok (.iload_n 2, 1) := by decide +kernel
theorem dX12_hand_11 : decode cX12_hand 11 = .ok (.iconst 0, 1) := by decide +kernel
theorem dX12_hand_12 : decode cX12_hand 12 = .ok (.bipush 20, 2) := by decide +kernel
theorem dX12_hand_14 : decode cX12_hand 14 = .ok (.invokestatic 128, 3) := by decide +kernel
theorem dX12_hand_17 : decode cX12_hand 17 = .ok (.ifCond .eq 13, 3) := by decide +kernel
theorem dX12_hand_20 : decode cX12_hand 20 = .ok (.iload_n 3, 1) := by decide +kernel
theorem dX12_hand_21 : decode cX12_hand 21 = .ok (.iconst 1, 1) := by decide +kernel
theorem dX12_hand_22 : decode cX12_hand 22 = .ok (.bipush 9, 2) := by decide +kernel
theorem dX12_hand_24 : decode cX12_hand 24 = .ok (.invokestatic 128, 3) := by decide +kernel
theorem dX12_hand_27 : decode cX12_hand 27 = .ok (.ifCond .ne 5, 3) := by decide +kernel
theorem dX12_hand_30 : decode cX12_hand 30 = .ok (.iconst (-1), 1) := by decide +kernel
theorem dX12_hand_31 : decode cX12_hand 31 = .ok (.ireturn, 1) := by decide +kernel
theorem dX12_hand_32 : decode cX12_hand 32 = .ok (.aload_n 0, 1) := by decide +kernel
theorem dX12_hand_33 : decode cX12_hand 33 = .ok (.getfield 135, 3) := by decide +kernel
theorem dX12_hand_36 : decode cX12_hand 36 = .ok (.iconst 5, 1) := by decide +kernel
theorem dX12_hand_37 : decode cX12_hand 37 = .ok (.if_icmp .ne 6, 3) := by decide +kernel
theorem dX12_hand_40 : decode cX12_hand 40 = .ok (.bipush (-2), 2) := by decide +kernel
theorem dX12_hand_42 : decode cX12_hand 42 = .ok (.ireturn, 1) := by decide +kernel
theorem dX12_hand_43 : decode cX12_hand 43 = .ok (.aload_n 0, 1) := by decide +kernel
theorem dX12_hand_44 : decode cX12_hand 44 = .ok (.getfield 49, 3) := by decide +kernel
theorem dX12_hand_47 : decode cX12_hand 47 = .ok (.aload_n 0, 1) := by decide +kernel
theorem dX12_hand_48 : decode cX12_hand 48 = .ok (.getfield 135, 3) := by decide +kernel
theorem dX12_hand_51 : decode cX12_hand 51 = .ok (.iload_n 1, 1) := by decide +kernel
theorem dX12_hand_52 : decode cX12_hand 52 = .ok (.iastore, 1) := by decide +kernel
theorem dX12_hand_53 : decode cX12_hand 53 = .ok (.aload_n 0, 1) := by decide +kernel
theorem dX12_hand_54 : decode cX12_hand 54 = .ok (.getfield 52, 3) := by decide +kernel
theorem dX12_hand_57 : decode cX12_hand 57 = .ok (.aload_n 0, 1) := by decide +kernel
theorem dX12_hand_58 : decode cX12_hand 58 = .ok (.getfield 135, 3) := by decide +kernel
theorem dX12_hand_61 : decode cX12_hand 61 = .ok (.iload_n 2, 1) := by decide +kernel
theorem dX12_hand_62 : decode cX12_hand 62 = .ok (.iastore, 1) := by decide +kernel
theorem dX12_hand_63 : decode cX12_hand 63 = .ok (.aload_n 0, 1) := by decide +kernel
theorem dX12_hand_64 : decode cX12_hand 64 = .ok (.getfield 55, 3) := by decide +kernel
theorem dX12_hand_67 : decode cX12_hand 67 = .ok (.aload_n 0, 1) := by decide +kernel
theorem dX12_hand_68 : decode cX12_hand 68 = .ok (.getfield 135, 3) := by decide +kernel
theorem dX12_hand_71 : decode cX12_hand 71 = .ok (.iload_n 3, 1) := by decide +kernel
theorem dX12_hand_72 : decode cX12_hand 72 = .ok (.iastore, 1) := by decide +kernel
theorem dX12_hand_73 : decode cX12_hand 73 = .ok (.aload_n 0, 1) := by decide +kernel
theorem dX12_hand_74 : decode cX12_hand 74 = .ok (.dup, 1) := by decide +kernel
theorem dX12_hand_75 : decode cX12_hand 75 = .ok (.getfield 135, 3) := by decide +kernel
theorem dX12_hand_78 : decode cX12_hand 78 = .ok (.iconst 1, 1) := by decide +kernel
theorem dX12_hand_79 : decode cX12_hand 79 = .ok (.iadd, 1) := by decide +kernel
theorem dX12_hand_80 : decode cX12_hand 80 = .ok (.putfield 135, 3) := by decide +kernel
theorem dX12_hand_83 : decode cX12_hand 83 = .ok (.aload_n 0, 1) := by decide +kernel
theorem dX12_hand_84 : decode cX12_hand 84 = .ok (.getfield 135, 3) := by decide +kernel
theorem dX12_hand_87 : decode cX12_hand 87 = .ok (.iconst 1, 1) := by decide +kernel
theorem dX12_hand_88 : decode cX12_hand 88 = .ok (.isub, 1) := by decide +kernel
theorem dX12_hand_89 : decode cX12_hand 89 = .ok (.ireturn, 1) := by decide +kernel
theorem dX12_hours_0 : decode cX12_hours 0 = .ok (.aload_n 0, 1) := by decide +kernel
theorem dX12_hours_1 : decode cX12_hours 1 = .ok (.iload_n 1, 1) := by decide +kernel
theorem dX12_hours_2 : decode cX12_hours 2 = .ok (.invokevirtual 181, 3) := by decide +kernel
theorem dX12_hours_5 : decode cX12_hours 5 = .ok (.ifCond .eq 13, 3) := by decide +kernel
theorem dX12_hours_8 : decode cX12_hours 8 = .ok (.iload_n 2, 1) := by decide +kernel
theorem dX12_hours_9 : decode cX12_hours 9 = .ok (.iconst 0, 1) := by decide +kernel
theorem dX12_hours_10 : decode cX12_hours 10 = .ok (.bipush 20, 2) := by decide +kernel
theorem dX12_hours_12 : decode cX12_hours 12 = .ok (.invokestatic 128, 3) := by decide +kernel
theorem dX12_hours_15 : decode cX12_hours 15 = .ok (.ifCond .ne 5, 3) := by decide +kernel
theorem dX12_hours_18 : decode cX12_hours 18 = .ok (.iconst (-1), 1) := by decide +kernel
theorem dX12_hours_19 : decode cX12_hours 19 = .ok (.ireturn, 1) := by decide +kernel
theorem dX12_hours_20 : decode cX12_hours 20 = .ok (.aload_n 0, 1) := by decide +kernel
theorem dX12_hours_21 : decode cX12_hours 21 = .ok (.getfield 52, 3) := by decide +kernel
theorem dX12_hours_24 : decode cX12_hours 24 = .ok (.iload_n 1, 1) := by decide +kernel
theorem dX12_hours_25 : decode cX12_hours 25 = .ok (.iaload, 1) := by decide +kernel
theorem dX12_hours_26 : decode cX12_hours 26 = .ok (.istore_n 3, 1) := by decide +kernel
theorem dX12_hours_27 : decode cX12_hours 27 = .ok (.aload_n 0, 1) := by decide +kernel
theorem dX12_hours_28 : decode cX12_hours 28 = .ok (.getfield 52, 3) := by decide +kernel
theorem dX12_hours_31 : decode cX12_hours 31 = .ok (.iload_n 1, 1) := by decide +kernel
theorem dX12_hours_32 : decode cX12_hours 32 = .ok (.iload_n 2, 1) := by decide +kernel
theorem dX12_hours_33 : decode cX12_hours 33 = .ok (.iastore, 1) := by decide +kernel
theorem dX12_hours_34 : decode cX12_hours 34 = .ok (.iload_n 3, 1) := by decide +kernel
theorem dX12_hours_35 : decode cX12_hours 35 = .ok (.ireturn, 1) := by decide +kernel
theorem dX12_termOf_0 : decode cX12_termOf 0 = .ok (.iconst (-1), 1) := by decide +kernel
theorem dX12_termOf_1 : decode cX12_termOf 1 = .ok (.istore_n 3, 1) := by decide +kernel
theorem dX12_termOf_2 : decode cX12_termOf 2 = .ok (.iconst 0, 1) := by decide +kernel
theorem dX12_termOf_3 : decode cX12_termOf 3 = .ok (.istore 4, 2) := by decide +kernel
theorem dX12_termOf_5 : decode cX12_termOf 5 = .ok (.iload 4, 2) := by decide +kernel
theorem dX12_termOf_7 : decode cX12_termOf 7 = .ok (.aload_n 0, 1) := by decide +kernel
theorem dX12_termOf_8 : decode cX12_termOf 8 = .ok (.getfield 184, 3) := by decide +kernel
theorem dX12_termOf_11 : decode cX12_termOf 11 = .ok (.if_icmp .ge 38, 3) := by decide +kernel
theorem dX12_termOf_14 : decode cX12_termOf 14 = .ok (.aload_n 0, 1) := by decide +kernel
theorem dX12_termOf_15 : decode cX12_termOf 15 = .ok (.getfield 58, 3) := by decide +kernel
theorem dX12_termOf_18 : decode cX12_termOf 18 = .ok (.iload 4, 2) := by decide +kernel
theorem dX12_termOf_20 : decode cX12_termOf 20 = .ok (.iaload, 1) := by decide +kernel
theorem dX12_termOf_21 : decode cX12_termOf 21 = .ok (.iload_n 1, 1) := by decide +kernel
theorem dX12_termOf_22 : decode cX12_termOf 22 = .ok (.if_icmp .ne 19, 3) := by decide +kernel
theorem dX12_termOf_25 : decode cX12_termOf 25 = .ok (.aload_n 0, 1) := by decide +kernel
theorem dX12_termOf_26 : decode cX12_termOf 26 = .ok (.getfield 61, 3) := by decide +kernel
theorem dX12_termOf_29 : decode cX12_termOf 29 = .ok (.iload 4, 2) := by decide +kernel
theorem dX12_termOf_31 : decode cX12_termOf 31 = .ok (.iaload, 1) := by decide +kernel
theorem dX12_termOf_32 : decode cX12_termOf 32 = .ok (.iload_n 2, 1) := by decide +kernel
theorem dX12_termOf_33 : decode cX12_termOf 33 = .ok (.if_icmp .ne 8, 3) := by decide +kernel
theorem dX12_termOf_36 : decode cX12_termOf 36 = .ok (.iload 4, 2) := by decide +kernel
theorem dX12_termOf_38 : decode cX12_termOf 38 = .ok (.goto 4, 3) := by decide +kernel
theorem dX12_termOf_41 : decode cX12_termOf 41 = .ok (.iload_n 3, 1) := by decide +kernel
theorem dX12_termOf_42 : decode cX12_termOf 42 = .ok (.istore_n 3, 1) := by decide +kernel
theorem dX12_termOf_43 : decode cX12_termOf 43 = .ok (.iinc 4 1, 3) := by decide +kernel
theorem dX12_termOf_46 : decode cX12_termOf 46 = .ok (.goto (-41), 3) := by decide +kernel
theorem dX12_termOf_49 : decode cX12_termOf 49 = .ok (.iload_n 3, 1) := by decide +kernel
theorem dX12_termOf_50 : decode cX12_termOf 50 = .ok (.ireturn, 1) := by decide +kernel
theorem dX12_term_0 : decode cX12_term 0 = .ok (.iload_n 1, 1) := by decide +kernel
theorem dX12_term_1 : decode cX12_term 1 = .ok (.invokestatic 138, 3) := by decide +kernel
theorem dX12_term_4 : decode cX12_term 4 = .ok (.ifCond .eq 17, 3) := by decide +kernel
theorem dX12_term_7 : decode cX12_term 7 = .ok (.iload_n 2, 1) := by decide +kernel
theorem dX12_term_8 : decode cX12_term 8 = .ok (.invokestatic 187, 3) := by decide +kernel
theorem dX12_term_11 : decode cX12_term 11 = .ok (.ifCond .eq 10, 3) := by decide +kernel
theorem dX12_term_14 : decode cX12_term 14 = .ok (.iload_n 3, 1) := by decide +kernel
theorem dX12_term_15 : decode cX12_term 15 = .ok (.invokestatic 145, 3) := by decide +kernel
theorem dX12_term_18 : decode cX12_term 18 = .ok (.ifCond .ne 5, 3) := by decide +kernel
theorem dX12_term_21 : decode cX12_term 21 = .ok (.iconst (-1), 1) := by decide +kernel
theorem dX12_term_22 : decode cX12_term 22 = .ok (.ireturn, 1) := by decide +kernel
theorem dX12_term_23 : decode cX12_term 23 = .ok (.aload_n 0, 1) := by decide +kernel
theorem dX12_term_24 : decode cX12_term 24 = .ok (.iload_n 1, 1) := by decide +kernel
theorem dX12_term_25 : decode cX12_term 25 = .ok (.iload_n 2, 1) := by decide +kernel
theorem dX12_term_26 : decode cX12_term 26 = .ok (.invokevirtual 190, 3) := by decide +kernel
theorem dX12_term_29 : decode cX12_term 29 = .ok (.istore 4, 2) := by decide +kernel
theorem dX12_term_31 : decode cX12_term 31 = .ok (.iload 4, 2) := by decide +kernel
theorem dX12_term_33 : decode cX12_term 33 = .ok (.ifCond .ge 31, 3) := by decide +kernel
theorem dX12_term_36 : decode cX12_term 36 = .ok (.aload_n 0, 1) := by decide +kernel
theorem dX12_term_37 : decode cX12_term 37 = .ok (.getfield 184, 3) := by decide +kernel
theorem dX12_term_40 : decode cX12_term 40 = .ok (.bipush 10, 2) := by decide +kernel
theorem dX12_term_42 : decode cX12_term 42 = .ok (.if_icmp .ne 6, 3) := by decide +kernel
theorem dX12_term_45 : decode cX12_term 45 = .ok (.bipush (-2), 2) := by decide +kernel
theorem dX12_term_47 : decode cX12_term 47 = .ok (.ireturn, 1) := by decide +kernel
theorem dX12_term_48 : decode cX12_term 48 = .ok (.aload_n 0, 1) := by decide +kernel
theorem dX12_term_49 : decode cX12_term 49 = .ok (.getfield 184, 3) := by decide +kernel
theorem dX12_term_52 : decode cX12_term 52 = .ok (.istore 4, 2) := by decide +kernel
theorem dX12_term_54 : decode cX12_term 54 = .ok (.aload_n 0, 1) := by decide +kernel
theorem dX12_term_55 : decode cX12_term 55 = .ok (.dup, 1) := by decide +kernel
theorem dX12_term_56 : decode cX12_term 56 = .ok (.getfield 184, 3) := by decide +kernel
theorem dX12_term_59 : decode cX12_term 59 = .ok (.iconst 1, 1) := by decide +kernel
theorem dX12_term_60 : decode cX12_term 60 = .ok (.iadd, 1) := by decide +kernel
theorem dX12_term_61 : decode cX12_term 61 = .ok (.putfield 184, 3) := by decide +kernel
theorem dX12_term_64 : decode cX12_term 64 = .ok (.aload_n 0, 1) := by decide +kernel
theorem dX12_term_65 : decode cX12_term 65 = .ok (.getfield 58, 3) := by decide +kernel
theorem dX12_term_68 : decode cX12_term 68 = .ok (.iload 4, 2) := by decide +kernel
theorem dX12_term_70 : decode cX12_term 70 = .ok (.iload_n 1, 1) := by decide +kernel
theorem dX12_term_71 : decode cX12_term 71 = .ok (.iastore, 1) := by decide +kernel
theorem dX12_term_72 : decode cX12_term 72 = .ok (.aload_n 0, 1) := by decide +kernel
theorem dX12_term_73 : decode cX12_term 73 = .ok (.getfield 61, 3) := by decide +kernel
theorem dX12_term_76 : decode cX12_term 76 = .ok (.iload 4, 2) := by decide +kernel
theorem dX12_term_78 : decode cX12_term 78 = .ok (.iload_n 2, 1) := by decide +kernel
theorem dX12_term_79 : decode cX12_term 79 = .ok (.iastore, 1) := by decide +kernel
theorem dX12_term_80 : decode cX12_term 80 = .ok (.aload_n 0, 1) := by decide +kernel
theorem dX12_term_81 : decode cX12_term 81 = .ok (.getfield 64, 3) := by decide +kernel
theorem dX12_term_84 : decode cX12_term 84 = .ok (.iload 4, 2) := by decide +kernel
