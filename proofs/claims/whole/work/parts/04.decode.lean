theorem dX6_solve_26 : decode cX6_solve 26 = .ok (.iconst 5, 1) := by decide +kernel
theorem dX6_solve_27 : decode cX6_solve 27 = .ok (.aload_n 0, 1) := by decide +kernel
theorem dX6_solve_28 : decode cX6_solve 28 = .ok (.getfield 18, 3) := by decide +kernel
theorem dX6_solve_31 : decode cX6_solve 31 = .ok (.iload_n 3, 1) := by decide +kernel
theorem dX6_solve_32 : decode cX6_solve 32 = .ok (.iaload, 1) := by decide +kernel
theorem dX6_solve_33 : decode cX6_solve 33 = .ok (.imul, 1) := by decide +kernel
theorem dX6_solve_34 : decode cX6_solve 34 = .ok (.i2l, 1) := by decide +kernel
theorem dX6_solve_35 : decode cX6_solve 35 = .ok (.ladd, 1) := by decide +kernel
theorem dX6_solve_36 : decode cX6_solve 36 = .ok (.lastore, 1) := by decide +kernel
theorem dX6_solve_37 : decode cX6_solve 37 = .ok (.iinc 3 1, 3) := by decide +kernel
theorem dX6_solve_40 : decode cX6_solve 40 = .ok (.goto (-34), 3) := by decide +kernel
theorem dX6_solve_43 : decode cX6_solve 43 = .ok (.iconst 0, 1) := by decide +kernel
theorem dX6_solve_44 : decode cX6_solve 44 = .ok (.istore_n 3, 1) := by decide +kernel
theorem dX6_solve_45 : decode cX6_solve 45 = .ok (.iload_n 3, 1) := by decide +kernel
theorem dX6_solve_46 : decode cX6_solve 46 = .ok (.aload_n 1, 1) := by decide +kernel
theorem dX6_solve_47 : decode cX6_solve 47 = .ok (.invokevirtual 37, 3) := by decide +kernel
theorem dX6_solve_50 : decode cX6_solve 50 = .ok (.if_icmp .ge 33, 3) := by decide +kernel
theorem dX6_solve_53 : decode cX6_solve 53 = .ok (.aload_n 1, 1) := by decide +kernel
theorem dX6_solve_54 : decode cX6_solve 54 = .ok (.iload_n 3, 1) := by decide +kernel
theorem dX6_solve_55 : decode cX6_solve 55 = .ok (.iload_n 2, 1) := by decide +kernel
theorem dX6_solve_56 : decode cX6_solve 56 = .ok (.invokevirtual 43, 3) := by decide +kernel
theorem dX6_solve_59 : decode cX6_solve 59 = .ok (.ifCond .eq 18, 3) := by decide +kernel
theorem dX6_solve_62 : decode cX6_solve 62 = .ok (.aload_n 0, 1) := by decide +kernel
theorem dX6_solve_63 : decode cX6_solve 63 = .ok (.iload_n 3, 1) := by decide +kernel
theorem dX6_solve_64 : decode cX6_solve 64 = .ok (.aload_n 1, 1) := by decide +kernel
theorem dX6_solve_65 : decode cX6_solve 65 = .ok (.iload_n 3, 1) := by decide +kernel
theorem dX6_solve_66 : decode cX6_solve 66 = .ok (.invokevirtual 47, 3) := by decide +kernel
theorem dX6_solve_69 : decode cX6_solve 69 = .ok (.aload_n 1, 1) := by decide +kernel
theorem dX6_solve_70 : decode cX6_solve 70 = .ok (.iload_n 3, 1) := by decide +kernel
theorem dX6_solve_71 : decode cX6_solve 71 = .ok (.invokevirtual 50, 3) := by decide +kernel
theorem dX6_solve_74 : decode cX6_solve 74 = .ok (.invokevirtual 53, 3) := by decide +kernel
theorem dX6_solve_77 : decode cX6_solve 77 = .ok (.iinc 3 1, 3) := by decide +kernel
theorem dX6_solve_80 : decode cX6_solve 80 = .ok (.goto (-35), 3) := by decide +kernel
theorem dX6_solve_83 : decode cX6_solve 83 = .ok (.aload_n 0, 1) := by decide +kernel
theorem dX6_solve_84 : decode cX6_solve 84 = .ok (.aload_n 0, 1) := by decide +kernel
theorem dX6_solve_85 : decode cX6_solve 85 = .ok (.getfield 21, 3) := by decide +kernel
theorem dX6_solve_88 : decode cX6_solve 88 = .ok (.aload_n 0, 1) := by decide +kernel
theorem dX6_solve_89 : decode cX6_solve 89 = .ok (.getfield 57, 3) := by decide +kernel
theorem dX6_solve_92 : decode cX6_solve 92 = .ok (.laload, 1) := by decide +kernel
theorem dX6_solve_93 : decode cX6_solve 93 = .ok (.putfield 61, 3) := by decide +kernel
theorem dX6_solve_96 : decode cX6_solve 96 = .ok (.return_, 1) := by decide +kernel
theorem dX6_needing_0 : decode cX6_needing 0 = .ok (.aload_n 0, 1) := by decide +kernel
theorem dX6_needing_1 : decode cX6_needing 1 = .ok (.getfield 57, 3) := by decide +kernel
theorem dX6_needing_4 : decode cX6_needing 4 = .ok (.invokestatic 32, 3) := by decide +kernel
theorem dX6_needing_7 : decode cX6_needing 7 = .ok (.ireturn, 1) := by decide +kernel
theorem dX6_withHand_0 : decode cX6_withHand 0 = .ok (.aload_n 0, 1) := by decide +kernel
theorem dX6_withHand_1 : decode cX6_withHand 1 = .ok (.invokevirtual 65, 3) := by decide +kernel
theorem dX6_withHand_4 : decode cX6_withHand 4 = .ok (.aload_n 0, 1) := by decide +kernel
theorem dX6_withHand_5 : decode cX6_withHand 5 = .ok (.getfield 61, 3) := by decide +kernel
theorem dX6_withHand_8 : decode cX6_withHand 8 = .ok (.bipush 40, 2) := by decide +kernel
theorem dX6_withHand_10 : decode cX6_withHand 10 = .ok (.lshr, 1) := by decide +kernel
theorem dX6_withHand_11 : decode cX6_withHand 11 = .ok (.l2i, 1) := by decide +kernel
theorem dX6_withHand_12 : decode cX6_withHand 12 = .ok (.isub, 1) := by decide +kernel
theorem dX6_withHand_13 : decode cX6_withHand 13 = .ok (.ireturn, 1) := by decide +kernel
theorem dX6_cost_0 : decode cX6_cost 0 = .ok (.aload_n 0, 1) := by decide +kernel
theorem dX6_cost_1 : decode cX6_cost 1 = .ok (.getfield 61, 3) := by decide +kernel
theorem dX6_cost_4 : decode cX6_cost 4 = .ok (.bipush 24, 2) := by decide +kernel
theorem dX6_cost_6 : decode cX6_cost 6 = .ok (.lshr, 1) := by decide +kernel
theorem dX6_cost_7 : decode cX6_cost 7 = .ok (.l2i, 1) := by decide +kernel
theorem dX6_cost_8 : decode cX6_cost 8 = .ok (.ldc 68, 2) := by decide +kernel
theorem dX6_cost_10 : decode cX6_cost 10 = .ok (.iand, 1) := by decide +kernel
theorem dX6_cost_11 : decode cX6_cost 11 = .ok (.ireturn, 1) := by decide +kernel
theorem dX6_handOf_0 : decode cX6_handOf 0 = .ok (.iload_n 1, 1) := by decide +kernel
theorem dX6_handOf_1 : decode cX6_handOf 1 = .ok (.ifCond .lt 20, 3) := by decide +kernel
theorem dX6_handOf_4 : decode cX6_handOf 4 = .ok (.iload_n 1, 1) := by decide +kernel
theorem dX6_handOf_5 : decode cX6_handOf 5 = .ok (.bipush 8, 2) := by decide +kernel
theorem dX6_handOf_7 : decode cX6_handOf 7 = .ok (.if_icmp .ge 14, 3) := by decide +kernel
theorem dX6_handOf_10 : decode cX6_handOf 10 = .ok (.aload_n 0, 1) := by decide +kernel
theorem dX6_handOf_11 : decode cX6_handOf 11 = .ok (.getfield 57, 3) := by decide +kernel
theorem dX6_handOf_14 : decode cX6_handOf 14 = .ok (.iload_n 1, 1) := by decide +kernel
theorem dX6_handOf_15 : decode cX6_handOf 15 = .ok (.ishr, 1) := by decide +kernel
theorem dX6_handOf_16 : decode cX6_handOf 16 = .ok (.iconst 1, 1) := by decide +kernel
theorem dX6_handOf_17 : decode cX6_handOf 17 = .ok (.iand, 1) := by decide +kernel
theorem dX6_handOf_18 : decode cX6_handOf 18 = .ok (.ifCond .ne 6, 3) := by decide +kernel
theorem dX6_handOf_21 : decode cX6_handOf 21 = .ok (.bipush (-5), 2) := by decide +kernel
theorem dX6_handOf_23 : decode cX6_handOf 23 = .ok (.ireturn, 1) := by decide +kernel
theorem dX6_handOf_24 : decode cX6_handOf 24 = .ok (.aload_n 0, 1) := by decide +kernel
theorem dX6_handOf_25 : decode cX6_handOf 25 = .ok (.getfield 61, 3) := by decide +kernel
theorem dX6_handOf_28 : decode cX6_handOf 28 = .ok (.iload_n 1, 1) := by decide +kernel
theorem dX6_handOf_29 : decode cX6_handOf 29 = .ok (.invokestatic 25, 3) := by decide +kernel
theorem dX6_handOf_32 : decode cX6_handOf 32 = .ok (.lshr, 1) := by decide +kernel
theorem dX6_handOf_33 : decode cX6_handOf 33 = .ok (.l2i, 1) := by decide +kernel
theorem dX6_handOf_34 : decode cX6_handOf 34 = .ok (.bipush 7, 2) := by decide +kernel
theorem dX6_handOf_36 : decode cX6_handOf 36 = .ok (.iand, 1) := by decide +kernel
theorem dX6_handOf_37 : decode cX6_handOf 37 = .ok (.istore_n 2, 1) := by decide +kernel
theorem dX6_handOf_38 : decode cX6_handOf 38 = .ok (.iload_n 2, 1) := by decide +kernel
theorem dX6_handOf_39 : decode cX6_handOf 39 = .ok (.iconst 5, 1) := by decide +kernel
theorem dX6_handOf_40 : decode cX6_handOf 40 = .ok (.if_icmp .ne 8, 3) := by decide +kernel
theorem dX6_handOf_43 : decode cX6_handOf 43 = .ok (.bipush (-5), 2) := by decide +kernel
theorem dX6_handOf_45 : decode cX6_handOf 45 = .ok (.goto 4, 3) := by decide +kernel
theorem dX6_handOf_48 : decode cX6_handOf 48 = .ok (.iload_n 2, 1) := by decide +kernel
theorem dX6_handOf_49 : decode cX6_handOf 49 = .ok (.ireturn, 1) := by decide +kernel
theorem dX6_measureSets_0 : decode cX6_measureSets 0 = .ok (.aload_n 0, 1) := by decide +kernel
theorem dX6_measureSets_1 : decode cX6_measureSets 1 = .ok (.iconst 0, 1) := by decide +kernel
theorem dX6_measureSets_2 : decode cX6_measureSets 2 = .ok (.putfield 57, 3) := by decide +kernel
theorem dX6_measureSets_5 : decode cX6_measureSets 5 = .ok (.iconst 0, 1) := by decide +kernel
theorem dX6_measureSets_6 : decode cX6_measureSets 6 = .ok (.istore_n 1, 1) := by decide +kernel
theorem dX6_measureSets_7 : decode cX6_measureSets 7 = .ok (.iload_n 1, 1) := by decide +kernel
theorem dX6_measureSets_8 : decode cX6_measureSets 8 = .ok (.bipush 8, 2) := by decide +kernel
theorem dX6_measureSets_10 : decode cX6_measureSets 10 = .ok (.if_icmp .ge 70, 3) := by decide +kernel
theorem dX6_measureSets_13 : decode cX6_measureSets 13 = .ok (.iconst 1, 1) := by decide +kernel
theorem dX6_measureSets_14 : decode cX6_measureSets 14 = .ok (.iload_n 1, 1) := by decide +kernel
theorem dX6_measureSets_15 : decode cX6_measureSets 15 = .ok (.ishl, 1) := by decide +kernel
theorem dX6_measureSets_16 : decode cX6_measureSets 16 = .ok (.istore_n 2, 1) := by decide +kernel
theorem dX6_measureSets_17 : decode cX6_measureSets 17 = .ok (.aload_n 0, 1) := by decide +kernel
theorem dX6_measureSets_18 : decode cX6_measureSets 18 = .ok (.dup, 1) := by decide +kernel
theorem dX6_measureSets_19 : decode cX6_measureSets 19 = .ok (.getfield 57, 3) := by decide +kernel
theorem dX6_measureSets_22 : decode cX6_measureSets 22 = .ok (.aload_n 0, 1) := by decide +kernel
theorem dX6_measureSets_23 : decode cX6_measureSets 23 = .ok (.getfield 9, 3) := by decide +kernel
theorem dX6_measureSets_26 : decode cX6_measureSets 26 = .ok (.iload_n 1, 1) := by decide +kernel
theorem dX6_measureSets_27 : decode cX6_measureSets 27 = .ok (.iaload, 1) := by decide +kernel
theorem dX6_measureSets_28 : decode cX6_measureSets 28 = .ok (.ifCond .le 7, 3) := by decide +kernel
theorem dX6_measureSets_31 : decode cX6_measureSets 31 = .ok (.iload_n 2, 1) := by decide +kernel
theorem dX6_measureSets_32 : decode cX6_measureSets 32 = .ok (.goto 4, 3) := by decide +kernel
theorem dX6_measureSets_35 : decode cX6_measureSets 35 = .ok (.iconst 0, 1) := by decide +kernel
theorem dX6_measureSets_36 : decode cX6_measureSets 36 = .ok (.iadd, 1) := by decide +kernel
theorem dX6_measureSets_37 : decode cX6_measureSets 37 = .ok (.putfield 57, 3) := by decide +kernel
theorem dX6_measureSets_40 : decode cX6_measureSets 40 = .ok (.iconst 0, 1) := by decide +kernel
theorem dX6_measureSets_41 : decode cX6_measureSets 41 = .ok (.istore_n 3, 1) := by decide +kernel
theorem dX6_measureSets_42 : decode cX6_measureSets 42 = .ok (.iload_n 3, 1) := by decide +kernel
theorem dX6_measureSets_43 : decode cX6_measureSets 43 = .ok (.iload_n 2, 1) := by decide +kernel
theorem dX6_measureSets_44 : decode cX6_measureSets 44 = .ok (.if_icmp .ge 30, 3) := by decide +kernel
theorem dX6_measureSets_47 : decode cX6_measureSets 47 = .ok (.aload_n 0, 1) := by decide +kernel
theorem dX6_measureSets_48 : decode cX6_measureSets 48 = .ok (.getfield 15, 3) := by decide +kernel
theorem dX6_measureSets_51 : decode cX6_measureSets 51 = .ok (.iload_n 2, 1) := by decide +kernel
theorem dX6_measureSets_52 : decode cX6_measureSets 52 = .ok (.iload_n 3, 1) := by decide +kernel
theorem dX6_measureSets_53 : decode cX6_measureSets 53 = .ok (.iadd, 1) := by decide +kernel
theorem dX6_measureSets_54 : decode cX6_measureSets 54 = .ok (.aload_n 0, 1) := by decide +kernel
theorem dX6_measureSets_55 : decode cX6_measureSets 55 = .ok (.getfield 15, 3) := by decide +kernel
theorem dX6_measureSets_58 : decode cX6_measureSets 58 = .ok (.iload_n 3, 1) := by decide +kernel
theorem dX6_measureSets_59 : decode cX6_measureSets 59 = .ok (.iaload, 1) := by decide +kernel
theorem dX6_measureSets_60 : decode cX6_measureSets 60 = .ok (.aload_n 0, 1) := by decide +kernel
theorem dX6_measureSets_61 : decode cX6_measureSets 61 = .ok (.getfield 9, 3) := by decide +kernel
theorem dX6_measureSets_64 : decode cX6_measureSets 64 = .ok (.iload_n 1, 1) := by decide +kernel
theorem dX6_measureSets_65 : decode cX6_measureSets 65 = .ok (.iaload, 1) := by decide +kernel
theorem dX6_measureSets_66 : decode cX6_measureSets 66 = .ok (.iadd, 1) := by decide +kernel
theorem dX6_measureSets_67 : decode cX6_measureSets 67 = .ok (.iastore, 1) := by decide +kernel
theorem dX6_measureSets_68 : decode cX6_measureSets 68 = .ok (.iinc 3 1, 3) := by decide +kernel
theorem dX6_measureSets_71 : decode cX6_measureSets 71 = .ok (.goto (-29), 3) := by decide +kernel
theorem dX6_measureSets_74 : decode cX6_measureSets 74 = .ok (.iinc 1 1, 3) := by decide +kernel
theorem dX6_measureSets_77 : decode cX6_measureSets 77 = .ok (.goto (-70), 3) := by decide +kernel
theorem dX6_measureSets_80 : decode cX6_measureSets 80 = .ok (.return_, 1) := by decide +kernel
theorem dX6_giveTo_0 : decode cX6_giveTo 0 = .ok (.aload_n 0, 1) := by decide +kernel
theorem dX6_giveTo_1 : decode cX6_giveTo 1 = .ok (.getfield 57, 3) := by decide +kernel
theorem dX6_giveTo_4 : decode cX6_giveTo 4 = .ok (.istore 4, 2) := by decide +kernel
theorem dX6_giveTo_6 : decode cX6_giveTo 6 = .ok (.iload 4, 2) := by decide +kernel
theorem dX6_giveTo_8 : decode cX6_giveTo 8 = .ok (.ifCond .le 113, 3) := by decide +kernel
theorem dX6_giveTo_11 : decode cX6_giveTo 11 = .ok (.aload_n 0, 1) := by decide +kernel
theorem dX6_giveTo_12 : decode cX6_giveTo 12 = .ok (.getfield 21, 3) := by decide +kernel
theorem dX6_giveTo_15 : decode cX6_giveTo 15 = .ok (.iload 4, 2) := by decide +kernel
theorem dX6_giveTo_17 : decode cX6_giveTo 17 = .ok (.laload, 1) := by decide +kernel
theorem dX6_giveTo_18 : decode cX6_giveTo 18 = .ok (.lstore 5, 2) := by decide +kernel
theorem dX6_giveTo_20 : decode cX6_giveTo 20 = .ok (.iload 4, 2) := by decide +kernel
theorem dX6_giveTo_22 : decode cX6_giveTo 22 = .ok (.istore 7, 2) := by decide +kernel
theorem dX6_giveTo_24 : decode cX6_giveTo 24 = .ok (.iload 7, 2) := by decide +kernel
theorem dX6_giveTo_26 : decode cX6_giveTo 26 = .ok (.ifCond .le 72, 3) := by decide +kernel
theorem dX6_giveTo_29 : decode cX6_giveTo 29 = .ok (.aload_n 0, 1) := by decide +kernel
theorem dX6_giveTo_30 : decode cX6_giveTo 30 = .ok (.getfield 15, 3) := by decide +kernel
theorem dX6_giveTo_33 : decode cX6_giveTo 33 = .ok (.iload 7, 2) := by decide +kernel
theorem dX6_giveTo_35 : decode cX6_giveTo 35 = .ok (.iaload, 1) := by decide +kernel
theorem dX6_giveTo_36 : decode cX6_giveTo 36 = .ok (.iload_n 2, 1) := by decide +kernel
theorem dX6_giveTo_37 : decode cX6_giveTo 37 = .ok (.if_icmp .gt 49, 3) := by decide +kernel
theorem dX6_giveTo_40 : decode cX6_giveTo 40 = .ok (.aload_n 0, 1) := by decide +kernel
theorem dX6_giveTo_41 : decode cX6_giveTo 41 = .ok (.getfield 15, 3) := by decide +kernel
theorem dX6_giveTo_44 : decode cX6_giveTo 44 = .ok (.iload 7, 2) := by decide +kernel
theorem dX6_giveTo_46 : decode cX6_giveTo 46 = .ok (.iaload, 1) := by decide +kernel
theorem dX6_giveTo_47 : decode cX6_giveTo 47 = .ok (.iload_n 3, 1) := by decide +kernel
theorem dX6_giveTo_48 : decode cX6_giveTo 48 = .ok (.imul, 1) := by decide +kernel
theorem dX6_giveTo_49 : decode cX6_giveTo 49 = .ok (.i2l, 1) := by decide +kernel
theorem dX6_giveTo_50 : decode cX6_giveTo 50 = .ok (.bipush 24, 2) := by decide +kernel
theorem dX6_giveTo_52 : decode cX6_giveTo 52 = .ok (.lshl, 1) := by decide +kernel
theorem dX6_giveTo_53 : decode cX6_giveTo 53 = .ok (.iload_n 1, 1) := by decide +kernel
theorem dX6_giveTo_54 : decode cX6_giveTo 54 = .ok (.aload_n 0, 1) := by decide +kernel
theorem dX6_giveTo_55 : decode cX6_giveTo 55 = .ok (.getfield 18, 3) := by decide +kernel
theorem dX6_giveTo_58 : decode cX6_giveTo 58 = .ok (.iload 7, 2) := by decide +kernel
theorem dX6_giveTo_60 : decode cX6_giveTo 60 = .ok (.iaload, 1) := by decide +kernel
theorem dX6_giveTo_61 : decode cX6_giveTo 61 = .ok (.imul, 1) := by decide +kernel
theorem dX6_giveTo_62 : decode cX6_giveTo 62 = .ok (.i2l, 1) := by decide +kernel
theorem dX6_giveTo_63 : decode cX6_giveTo 63 = .ok (.ladd, 1) := by decide +kernel
theorem dX6_giveTo_64 : decode cX6_giveTo 64 = .ok (.lstore 8, 2) := by decide +kernel
theorem dX6_giveTo_66 : decode cX6_giveTo 66 = .ok (.lload 5, 2) := by decide +kernel
theorem dX6_giveTo_68 : decode cX6_giveTo 68 = .ok (.aload_n 0, 1) := by decide +kernel
theorem dX6_giveTo_69 : decode cX6_giveTo 69 = .ok (.getfield 21, 3) := by decide +kernel
theorem dX6_giveTo_72 : decode cX6_giveTo 72 = .ok (.iload 4, 2) := by decide +kernel
theorem dX6_giveTo_74 : decode cX6_giveTo 74 = .ok (.iload 7, 2) := by decide +kernel
theorem dX6_giveTo_76 : decode cX6_giveTo 76 = .ok (.ixor, 1) := by decide +kernel
theorem dX6_giveTo_77 : decode cX6_giveTo 77 = .ok (.laload, 1) := by decide +kernel
theorem dX6_giveTo_78 : decode cX6_giveTo 78 = .ok (.lload 8, 2) := by decide +kernel
theorem dX6_giveTo_80 : decode cX6_giveTo 80 = .ok (.ladd, 1) := by decide +kernel
theorem dX6_giveTo_81 : decode cX6_giveTo 81 = .ok (.invokestatic 69, 3) := by decide +kernel
theorem dX6_giveTo_84 : decode cX6_giveTo 84 = .ok (.lstore 5, 2) := by decide +kernel
theorem dX6_giveTo_86 : decode cX6_giveTo 86 = .ok (.iload 7, 2) := by decide +kernel
theorem dX6_giveTo_88 : decode cX6_giveTo 88 = .ok (.iconst 1, 1) := by decide +kernel
theorem dX6_giveTo_89 : decode cX6_giveTo 89 = .ok (.isub, 1) := by decide +kernel
theorem dX6_giveTo_90 : decode cX6_giveTo 90 = .ok (.iload 4, 2) := by decide +kernel
theorem dX6_giveTo_92 : decode cX6_giveTo 92 = .ok (.iand, 1) := by decide +kernel
theorem dX6_giveTo_93 : decode cX6_giveTo 93 = .ok (.istore 7, 2) := by decide +kernel
theorem dX6_giveTo_95 : decode cX6_giveTo 95 = .ok (.goto (-71), 3) := by decide +kernel
theorem dX6_giveTo_98 : decode cX6_giveTo 98 = .ok (.aload_n 0, 1) := by decide +kernel
theorem dX6_giveTo_99 : decode cX6_giveTo 99 = .ok (.getfield 21, 3) := by decide +kernel
theorem dX6_giveTo_102 : decode cX6_giveTo 102 = .ok (.iload 4, 2) := by decide +kernel
theorem dX6_giveTo_104 : decode cX6_giveTo 104 = .ok (.lload 5, 2) := by decide +kernel
theorem dX6_giveTo_106 : decode cX6_giveTo 106 = .ok (.lastore, 1) := by decide +kernel
theorem dX6_giveTo_107 : decode cX6_giveTo 107 = .ok (.iload 4, 2) := by decide +kernel
theorem dX6_giveTo_109 : decode cX6_giveTo 109 = .ok (.iconst 1, 1) := by decide +kernel
theorem dX6_giveTo_110 : decode cX6_giveTo 110 = .ok (.isub, 1) := by decide +kernel
theorem dX6_giveTo_111 : decode cX6_giveTo 111 = .ok (.aload_n 0, 1) := by decide +kernel
theorem dX6_giveTo_112 : decode cX6_giveTo 112 = .ok (.getfield 57, 3) := by decide +kernel
theorem dX6_giveTo_115 : decode cX6_giveTo 115 = .ok (.iand, 1) := by decide +kernel
theorem dX6_giveTo_116 : decode cX6_giveTo 116 = .ok (.istore 4, 2) := by decide +kernel
theorem dX6_giveTo_118 : decode cX6_giveTo 118 = .ok (.goto (-112), 3) := by decide +kernel
theorem dX6_giveTo_121 : decode cX6_giveTo 121 = .ok (.return_, 1) := by decide +kernel
theorem dX6_shiftOf_0 : decode cX6_shiftOf 0 = .ok (.iconst 3, 1) := by decide +kernel
theorem dX6_shiftOf_1 : decode cX6_shiftOf 1 = .ok (.bipush 7, 2) := by decide +kernel
theorem dX6_shiftOf_3 : decode cX6_shiftOf 3 = .ok (.iload_n 0, 1) := by decide +kernel
theorem dX6_shiftOf_4 : decode cX6_shiftOf 4 = .ok (.isub, 1) := by decide +kernel
theorem dX6_shiftOf_5 : decode cX6_shiftOf 5 = .ok (.imul, 1) := by decide +kernel
theorem dX6_shiftOf_6 : decode cX6_shiftOf 6 = .ok (.ireturn, 1) := by decide +kernel
theorem dX7_init_0 : decode cX7_init 0 = .ok (.aload_n 0, 1) := by decide +kernel
theorem dX7_init_1 : decode cX7_init 1 = .ok (.invokespecial 3, 3) := by decide +kernel
theorem dX7_init_4 : decode cX7_init 4 = .ok (.aload_n 0, 1) := by decide +kernel
theorem dX7_init_5 : decode cX7_init 5 = .ok (.bipush 10, 2) := by decide +kernel
theorem dX7_init_7 : decode cX7_init 7 = .ok (.newarray .int, 2) := by decide +kernel
theorem dX7_init_9 : decode cX7_init 9 = .ok (.putfield 9, 3) := by decide +kernel
theorem dX7_init_12 : decode cX7_init 12 = .ok (.return_, 1) := by decide +kernel
theorem dX7_size_0 : decode cX7_size 0 = .ok (.aload_n 0, 1) := by decide +kernel
theorem dX7_size_1 : decode cX7_size 1 = .ok (.getfield 15, 3) := by decide +kernel
theorem dX7_size_4 : decode cX7_size 4 = .ok (.ireturn, 1) := by decide +kernel
theorem dX7_isFull_0 : decode cX7_isFull 0 = .ok (.aload_n 0, 1) := by decide +kernel
theorem dX7_isFull_1 : decode cX7_isFull 1 = .ok (.getfield 15, 3) := by decide +kernel
theorem dX7_isFull_4 : decode cX7_isFull 4 = .ok (.bipush 10, 2) := by decide +kernel
theorem dX7_isFull_6 : decode cX7_isFull 6 = .ok (.if_icmp .lt 7, 3) := by decide +kernel
theorem dX7_isFull_9 : decode cX7_isFull 9 = .ok (.iconst 1, 1) := by decide +kernel
theorem dX7_isFull_10 : decode cX7_isFull 10 = .ok (.goto 4, 3) := by decide +kernel
theorem dX7_isFull_13 : decode cX7_isFull 13 = .ok (.iconst 0, 1) := by decide +kernel
theorem dX7_isFull_14 : decode cX7_isFull 14 = .ok (.ireturn, 1) := by decide +kernel
theorem dX7_at_0 : decode cX7_at 0 = .ok (.iload_n 1, 1) := by decide +kernel
theorem dX7_at_1 : decode cX7_at 1 = .ok (.ifCond .lt 20, 3) := by decide +kernel
theorem dX7_at_4 : decode cX7_at 4 = .ok (.iload_n 1, 1) := by decide +kernel
theorem dX7_at_5 : decode cX7_at 5 = .ok (.aload_n 0, 1) := by decide +kernel
theorem dX7_at_6 : decode cX7_at 6 = .ok (.getfield 15, 3) := by decide +kernel
theorem dX7_at_9 : decode cX7_at 9 = .ok (.if_icmp .ge 12, 3) := by decide +kernel
theorem dX7_at_12 : decode cX7_at 12 = .ok (.aload_n 0, 1) := by decide +kernel
theorem dX7_at_13 : decode cX7_at 13 = .ok (.getfield 9, 3) := by decide +kernel
theorem dX7_at_16 : decode cX7_at 16 = .ok (.iload_n 1, 1) := by decide +kernel
theorem dX7_at_17 : decode cX7_at 17 = .ok (.iaload, 1) := by decide +kernel
theorem dX7_at_18 : decode cX7_at 18 = .ok (.goto 4, 3) := by decide +kernel
theorem dX7_at_21 : decode cX7_at 21 = .ok (.iconst (-1), 1) := by decide +kernel
theorem dX7_at_22 : decode cX7_at 22 = .ok (.ireturn, 1) := by decide +kernel
theorem dX7_askedFor_0 : decode cX7_askedFor 0 = .ok (.iload_n 1, 1) := by decide +kernel
theorem dX7_askedFor_1 : decode cX7_askedFor 1 = .ok (.iload_n 2, 1) := by decide +kernel
theorem dX7_askedFor_2 : decode cX7_askedFor 2 = .ok (.if_icmp .ge 7, 3) := by decide +kernel
theorem dX7_askedFor_5 : decode cX7_askedFor 5 = .ok (.iconst (-1), 1) := by decide +kernel
theorem dX7_askedFor_6 : decode cX7_askedFor 6 = .ok (.goto 10, 3) := by decide +kernel
theorem dX7_askedFor_9 : decode cX7_askedFor 9 = .ok (.aload_n 0, 1) := by decide +kernel
theorem dX7_askedFor_10 : decode cX7_askedFor 10 = .ok (.iload_n 1, 1) := by decide +kernel
theorem dX7_askedFor_11 : decode cX7_askedFor 11 = .ok (.iload_n 2, 1) := by decide +kernel
theorem dX7_askedFor_12 : decode cX7_askedFor 12 = .ok (.isub, 1) := by decide +kernel
theorem dX7_askedFor_13 : decode cX7_askedFor 13 = .ok (.invokevirtual 19, 3) := by decide +kernel
theorem dX7_askedFor_16 : decode cX7_askedFor 16 = .ok (.ireturn, 1) := by decide +kernel
theorem dX7_add_0 : decode cX7_add 0 = .ok (.aload_n 0, 1) := by decide +kernel
theorem dX7_add_1 : decode cX7_add 1 = .ok (.invokevirtual 23, 3) := by decide +kernel
theorem dX7_add_4 : decode cX7_add 4 = .ok (.ifCond .ne 23, 3) := by decide +kernel
theorem dX7_add_7 : decode cX7_add 7 = .ok (.aload_n 0, 1) := by decide +kernel
theorem dX7_add_8 : decode cX7_add 8 = .ok (.getfield 9, 3) := by decide +kernel
theorem dX7_add_11 : decode cX7_add 11 = .ok (.aload_n 0, 1) := by decide +kernel
theorem dX7_add_12 : decode cX7_add 12 = .ok (.getfield 15, 3) := by decide +kernel
theorem dX7_add_15 : decode cX7_add 15 = .ok (.iload_n 1, 1) := by decide +kernel
theorem dX7_add_16 : decode cX7_add 16 = .ok (.iastore, 1) := by decide +kernel
theorem dX7_add_17 : decode cX7_add 17 = .ok (.aload_n 0, 1) := by decide +kernel
theorem dX7_add_18 : decode cX7_add 18 = .ok (.dup, 1) := by decide +kernel
theorem dX7_add_19 : decode cX7_add 19 = .ok (.getfield 15, 3) := by decide +kernel
theorem dX7_add_22 : decode cX7_add 22 = .ok (.iconst 1, 1) := by decide +kernel
theorem dX7_add_23 : decode cX7_add 23 = .ok (.iadd, 1) := by decide +kernel
theorem dX7_add_24 : decode cX7_add 24 = .ok (.putfield 15, 3) := by decide +kernel
theorem dX7_add_27 : decode cX7_add 27 = .ok (.return_, 1) := by decide +kernel
theorem dX7_clear_0 : decode cX7_clear 0 = .ok (.aload_n 0, 1) := by decide +kernel
theorem dX7_clear_1 : decode cX7_clear 1 = .ok (.iconst 0, 1) := by decide +kernel
theorem dX7_clear_2 : decode cX7_clear 2 = .ok (.putfield 15, 3) := by decide +kernel
theorem dX7_clear_5 : decode cX7_clear 5 = .ok (.return_, 1) := by decide +kernel
theorem dX7_copy_0 : decode cX7_copy 0 = .ok (.aload_n 0, 1) := by decide +kernel
theorem dX7_copy_1 : decode cX7_copy 1 = .ok (.aload_n 1, 1) := by decide +kernel
theorem dX7_copy_2 : decode cX7_copy 2 = .ok (.getfield 15, 3) := by decide +kernel
theorem dX7_copy_5 : decode cX7_copy 5 = .ok (.putfield 15, 3) := by decide +kernel
theorem dX7_copy_8 : decode cX7_copy 8 = .ok (.iconst 0, 1) := by decide +kernel
theorem dX7_copy_9 : decode cX7_copy 9 = .ok (.istore_n 2, 1) := by decide +kernel
theorem dX7_copy_10 : decode cX7_copy 10 = .ok (.iload_n 2, 1) := by decide +kernel
theorem dX7_copy_11 : decode cX7_copy 11 = .ok (.aload_n 0, 1) := by decide +kernel
theorem dX7_copy_12 : decode cX7_copy 12 = .ok (.getfield 15, 3) := by decide +kernel
theorem dX7_copy_15 : decode cX7_copy 15 = .ok (.if_icmp .ge 21, 3) := by decide +kernel
theorem dX7_copy_18 : decode cX7_copy 18 = .ok (.aload_n 0, 1) := by decide +kernel
theorem dX7_copy_19 : decode cX7_copy 19 = .ok (.getfield 9, 3) := by decide +kernel
theorem dX7_copy_22 : decode cX7_copy 22 = .ok (.iload_n 2, 1) := by decide +kernel
theorem dX7_copy_23 : decode cX7_copy 23 = .ok (.aload_n 1, 1) := by decide +kernel
theorem dX7_copy_24 : decode cX7_copy 24 = .ok (.getfield 9, 3) := by decide +kernel
theorem dX7_copy_27 : decode cX7_copy 27 = .ok (.iload_n 2, 1) := by decide +kernel
theorem dX7_copy_28 : decode cX7_copy 28 = .ok (.iaload, 1) := by decide +kernel
theorem dX7_copy_29 : decode cX7_copy 29 = .ok (.iastore, 1) := by decide +kernel
theorem dX7_copy_30 : decode cX7_copy 30 = .ok (.iinc 2 1, 3) := by decide +kernel
theorem dX7_copy_33 : decode cX7_copy 33 = .ok (.goto (-23), 3) := by decide +kernel
theorem dX7_copy_36 : decode cX7_copy 36 = .ok (.return_, 1) := by decide +kernel
theorem dX7_isSameAs_0 : decode cX7_isSameAs 0 = .ok (.aload_n 0, 1) := by decide +kernel
theorem dX7_isSameAs_1 : decode cX7_isSameAs 1 = .ok (.getfield 15, 3) := by decide +kernel
theorem dX7_isSameAs_4 : decode cX7_isSameAs 4 = .ok (.aload_n 1, 1) := by decide +kernel
theorem dX7_isSameAs_5 : decode cX7_isSameAs 5 = .ok (.getfield 15, 3) := by decide +kernel
theorem dX7_isSameAs_8 : decode cX7_isSameAs 8 = .ok (.if_icmp .eq 5, 3) := by decide +kernel
theorem dX7_isSameAs_11 : decode cX7_isSameAs 11 = .ok (.iconst 0, 1) := by decide +kernel
theorem dX7_isSameAs_12 : decode cX7_isSameAs 12 = .ok (.ireturn, 1) := by decide +kernel
theorem dX7_isSameAs_13 : decode cX7_isSameAs 13 = .ok (.iconst 0, 1) := by decide +kernel
theorem dX7_isSameAs_14 : decode cX7_isSameAs 14 = .ok (.istore_n 2, 1) := by decide +kernel
theorem dX7_isSameAs_15 : decode cX7_isSameAs 15 = .ok (.iload_n 2, 1) := by decide +kernel
theorem dX7_isSameAs_16 : decode cX7_isSameAs 16 = .ok (.aload_n 0, 1) := by decide +kernel
theorem dX7_isSameAs_17 : decode cX7_isSameAs 17 = .ok (.getfield 15, 3) := by decide +kernel
theorem dX7_isSameAs_20 : decode cX7_isSameAs 20 = .ok (.if_icmp .ge 26, 3) := by decide +kernel
theorem dX7_isSameAs_23 : decode cX7_isSameAs 23 = .ok (.aload_n 0, 1) := by decide +kernel
theorem dX7_isSameAs_24 : decode cX7_isSameAs 24 = .ok (.getfield 9, 3) := by decide +kernel
theorem dX7_isSameAs_27 : decode cX7_isSameAs 27 = .ok (.iload_n 2, 1) := by decide +kernel
theorem dX7_isSameAs_28 : decode cX7_isSameAs 28 = .ok (.iaload, 1) := by decide +kernel
theorem dX7_isSameAs_29 : decode cX7_isSameAs 29 = .ok (.aload_n 1, 1) := by decide +kernel
theorem dX7_isSameAs_30 : decode cX7_isSameAs 30 = .ok (.getfield 9, 3) := by decide +kernel
theorem dX7_isSameAs_33 : decode cX7_isSameAs 33 = .ok (.iload_n 2, 1) := by decide +kernel
theorem dX7_isSameAs_34 : decode cX7_isSameAs 34 = .ok (.iaload, 1) := by decide +kernel
theorem dX7_isSameAs_35 : decode cX7_isSameAs 35 = .ok (.if_icmp .eq 5, 3) := by decide +kernel
theorem dX7_isSameAs_38 : decode cX7_isSameAs 38 = .ok (.iconst 0, 1) := by decide +kernel
theorem dX7_isSameAs_39 : decode cX7_isSameAs 39 = .ok (.ireturn, 1) := by decide +kernel
theorem dX7_isSameAs_40 : decode cX7_isSameAs 40 = .ok (.iinc 2 1, 3) := by decide +kernel
theorem dX7_isSameAs_43 : decode cX7_isSameAs 43 = .ok (.goto (-28), 3) := by decide +kernel
theorem dX7_isSameAs_46 : decode cX7_isSameAs 46 = .ok (.iconst 1, 1) := by decide +kernel
theorem dX7_isSameAs_47 : decode cX7_isSameAs 47 = .ok (.ireturn, 1) := by decide +kernel
theorem dX7_timesOf_0 : decode cX7_timesOf 0 = .ok (.iconst 0, 1) := by decide +kernel
theorem dX7_timesOf_1 : decode cX7_timesOf 1 = .ok (.istore_n 2, 1) := by decide +kernel
theorem dX7_timesOf_2 : decode cX7_timesOf 2 = .ok (.iconst 0, 1) := by decide +kernel
theorem dX7_timesOf_3 : decode cX7_timesOf 3 = .ok (.istore_n 3, 1) := by decide +kernel
theorem dX7_timesOf_4 : decode cX7_timesOf 4 = .ok (.iload_n 3, 1) := by decide +kernel
theorem dX7_timesOf_5 : decode cX7_timesOf 5 = .ok (.aload_n 0, 1) := by decide +kernel
theorem dX7_timesOf_6 : decode cX7_timesOf 6 = .ok (.getfield 15, 3) := by decide +kernel
theorem dX7_timesOf_9 : decode cX7_timesOf 9 = .ok (.if_icmp .ge 22, 3) := by decide +kernel
theorem dX7_timesOf_12 : decode cX7_timesOf 12 = .ok (.aload_n 0, 1) := by decide +kernel
theorem dX7_timesOf_13 : decode cX7_timesOf 13 = .ok (.getfield 9, 3) := by decide +kernel
theorem dX7_timesOf_16 : decode cX7_timesOf 16 = .ok (.iload_n 3, 1) := by decide +kernel
theorem dX7_timesOf_17 : decode cX7_timesOf 17 = .ok (.iaload, 1) := by decide +kernel
theorem dX7_timesOf_18 : decode cX7_timesOf 18 = .ok (.iload_n 1, 1) := by decide +kernel
theorem dX7_timesOf_19 : decode cX7_timesOf 19 = .ok (.if_icmp .ne 6, 3) := by decide +kernel
theorem dX7_timesOf_22 : decode cX7_timesOf 22 = .ok (.iinc 2 1, 3) := by decide +kernel
theorem dX7_timesOf_25 : decode cX7_timesOf 25 = .ok (.iinc 3 1, 3) := by decide +kernel
theorem dX7_timesOf_28 : decode cX7_timesOf 28 = .ok (.goto (-24), 3) := by decide +kernel
theorem dX7_timesOf_31 : decode cX7_timesOf 31 = .ok (.iload_n 2, 1) := by decide +kernel
theorem dX7_timesOf_32 : decode cX7_timesOf 32 = .ok (.ireturn, 1) := by decide +kernel
theorem dX7_holdsAny_0 : decode cX7_holdsAny 0 = .ok (.iconst 0, 1) := by decide +kernel
theorem dX7_holdsAny_1 : decode cX7_holdsAny 1 = .ok (.istore_n 3, 1) := by decide +kernel
theorem dX7_holdsAny_2 : decode cX7_holdsAny 2 = .ok (.iload_n 3, 1) := by decide +kernel
theorem dX7_holdsAny_3 : decode cX7_holdsAny 3 = .ok (.aload_n 0, 1) := by decide +kernel
theorem dX7_holdsAny_4 : decode cX7_holdsAny 4 = .ok (.getfield 15, 3) := by decide +kernel
theorem dX7_holdsAny_7 : decode cX7_holdsAny 7 = .ok (.if_icmp .ge 29, 3) := by decide +kernel
theorem dX7_holdsAny_10 : decode cX7_holdsAny 10 = .ok (.aload_n 0, 1) := by decide +kernel
theorem dX7_holdsAny_11 : decode cX7_holdsAny 11 = .ok (.getfield 9, 3) := by decide +kernel
theorem dX7_holdsAny_14 : decode cX7_holdsAny 14 = .ok (.iload_n 3, 1) := by decide +kernel
theorem dX7_holdsAny_15 : decode cX7_holdsAny 15 = .ok (.iaload, 1) := by decide +kernel
theorem dX7_holdsAny_16 : decode cX7_holdsAny 16 = .ok (.iload_n 1, 1) := by decide +kernel
theorem dX7_holdsAny_17 : decode cX7_holdsAny 17 = .ok (.iload_n 1, 1) := by decide +kernel
theorem dX7_holdsAny_18 : decode cX7_holdsAny 18 = .ok (.iload_n 2, 1) := by decide +kernel
theorem dX7_holdsAny_19 : decode cX7_holdsAny 19 = .ok (.iadd, 1) := by decide +kernel
theorem dX7_holdsAny_20 : decode cX7_holdsAny 20 = .ok (.iconst 1, 1) := by decide +kernel
theorem dX7_holdsAny_21 : decode cX7_holdsAny 21 = .ok (.isub, 1) := by decide +kernel
theorem dX7_holdsAny_22 : decode cX7_holdsAny 22 = .ok (.invokestatic 27, 3) := by decide +kernel
theorem dX7_holdsAny_25 : decode cX7_holdsAny 25 = .ok (.ifCond .eq 5, 3) := by decide +kernel
theorem dX7_holdsAny_28 : decode cX7_holdsAny 28 = .ok (.iconst 1, 1) := by decide +kernel
theorem dX7_holdsAny_29 : decode cX7_holdsAny 29 = .ok (.ireturn, 1) := by decide +kernel
theorem dX7_holdsAny_30 : decode cX7_holdsAny 30 = .ok (.iinc 3 1, 3) := by decide +kernel
theorem dX7_holdsAny_33 : decode cX7_holdsAny 33 = .ok (.goto (-31), 3) := by decide +kernel
theorem dX7_holdsAny_36 : decode cX7_holdsAny 36 = .ok (.iconst 0, 1) := by decide +kernel
theorem dX7_holdsAny_37 : decode cX7_holdsAny 37 = .ok (.ireturn, 1) := by decide +kernel
theorem dX8_init_0 : decode cX8_init 0 = .ok (.aload_n 0, 1) := by decide +kernel
theorem dX8_init_1 : decode cX8_init 1 = .ok (.invokespecial 3, 3) := by decide +kernel
theorem dX8_init_4 : decode cX8_init 4 = .ok (.aload_n 0, 1) := by decide +kernel
theorem dX8_init_5 : decode cX8_init 5 = .ok (.bipush 11, 2) := by decide +kernel
theorem dX8_init_7 : decode cX8_init 7 = .ok (.newarray .int, 2) := by decide +kernel
theorem dX8_init_9 : decode cX8_init 9 = .ok (.putfield 9, 3) := by decide +kernel
theorem dX8_init_12 : decode cX8_init 12 = .ok (.return_, 1) := by decide +kernel
theorem dX8_between_0 : decode cX8_between 0 = .ok (.iconst 0, 1) := by decide +kernel
theorem dX8_between_1 : decode cX8_between 1 = .ok (.istore_n 3, 1) := by decide +kernel
theorem dX8_between_2 : decode cX8_between 2 = .ok (.iload_n 3, 1) := by decide +kernel
theorem dX8_between_3 : decode cX8_between 3 = .ok (.aload_n 2, 1) := by decide +kernel
theorem dX8_between_4 : decode cX8_between 4 = .ok (.invokevirtual 15, 3) := by decide +kernel
theorem dX8_between_7 : decode cX8_between 7 = .ok (.if_icmp .gt 16, 3) := by decide +kernel
theorem dX8_between_10 : decode cX8_between 10 = .ok (.aload_n 0, 1) := by decide +kernel
theorem dX8_between_11 : decode cX8_between 11 = .ok (.getfield 9, 3) := by decide +kernel
theorem dX8_between_14 : decode cX8_between 14 = .ok (.iload_n 3, 1) := by decide +kernel
theorem dX8_between_15 : decode cX8_between 15 = .ok (.iload_n 3, 1) := by decide +kernel
theorem dX8_between_16 : decode cX8_between 16 = .ok (.iastore, 1) := by decide +kernel
theorem dX8_between_17 : decode cX8_between 17 = .ok (.iinc 3 1, 3) := by decide +kernel
theorem dX8_between_20 : decode cX8_between 20 = .ok (.goto (-18), 3) := by decide +kernel
theorem dX8_between_23 : decode cX8_between 23 = .ok (.iconst 1, 1) := by decide +kernel
theorem dX8_between_24 : decode cX8_between 24 = .ok (.istore_n 3, 1) := by decide +kernel
theorem dX8_between_25 : decode cX8_between 25 = .ok (.iload_n 3, 1) := by decide +kernel
theorem dX8_between_26 : decode cX8_between 26 = .ok (.aload_n 1, 1) := by decide +kernel
theorem dX8_between_27 : decode cX8_between 27 = .ok (.invokevirtual 15, 3) := by decide +kernel
theorem dX8_between_30 : decode cX8_between 30 = .ok (.if_icmp .gt 112, 3) := by decide +kernel
theorem dX8_between_33 : decode cX8_between 33 = .ok (.aload_n 0, 1) := by decide +kernel
theorem dX8_between_34 : decode cX8_between 34 = .ok (.getfield 9, 3) := by decide +kernel
theorem dX8_between_37 : decode cX8_between 37 = .ok (.iconst 0, 1) := by decide +kernel
theorem dX8_between_38 : decode cX8_between 38 = .ok (.iaload, 1) := by decide +kernel
theorem dX8_between_39 : decode cX8_between 39 = .ok (.istore 4, 2) := by decide +kernel
theorem dX8_between_41 : decode cX8_between 41 = .ok (.aload_n 0, 1) := by decide +kernel
theorem dX8_between_42 : decode cX8_between 42 = .ok (.getfield 9, 3) := by decide +kernel
theorem dX8_between_45 : decode cX8_between 45 = .ok (.iconst 0, 1) := by decide +kernel
theorem dX8_between_46 : decode cX8_between 46 = .ok (.iload_n 3, 1) := by decide +kernel
theorem dX8_between_47 : decode cX8_between 47 = .ok (.iastore, 1) := by decide +kernel
theorem dX8_between_48 : decode cX8_between 48 = .ok (.iconst 1, 1) := by decide +kernel
theorem dX8_between_49 : decode cX8_between 49 = .ok (.istore 5, 2) := by decide +kernel
theorem dX8_between_51 : decode cX8_between 51 = .ok (.iload 5, 2) := by decide +kernel
theorem dX8_between_53 : decode cX8_between 53 = .ok (.aload_n 2, 1) := by decide +kernel
theorem dX8_between_54 : decode cX8_between 54 = .ok (.invokevirtual 15, 3) := by decide +kernel
theorem dX8_between_57 : decode cX8_between 57 = .ok (.if_icmp .gt 79, 3) := by decide +kernel
theorem dX8_between_60 : decode cX8_between 60 = .ok (.aload_n 0, 1) := by decide +kernel
theorem dX8_between_61 : decode cX8_between 61 = .ok (.getfield 9, 3) := by decide +kernel
theorem dX8_between_64 : decode cX8_between 64 = .ok (.iload 5, 2) := by decide +kernel
theorem dX8_between_66 : decode cX8_between 66 = .ok (.iaload, 1) := by decide +kernel
theorem dX8_between_67 : decode cX8_between 67 = .ok (.istore 6, 2) := by decide +kernel
theorem dX8_between_69 : decode cX8_between 69 = .ok (.aload_n 1, 1) := by decide +kernel
theorem dX8_between_70 : decode cX8_between 70 = .ok (.iload_n 3, 1) := by decide +kernel
theorem dX8_between_71 : decode cX8_between 71 = .ok (.iconst 1, 1) := by decide +kernel
theorem dX8_between_72 : decode cX8_between 72 = .ok (.isub, 1) := by decide +kernel
theorem dX8_between_73 : decode cX8_between 73 = .ok (.invokevirtual 21, 3) := by decide +kernel
theorem dX8_between_76 : decode cX8_between 76 = .ok (.aload_n 2, 1) := by decide +kernel
theorem dX8_between_77 : decode cX8_between 77 = .ok (.iload 5, 2) := by decide +kernel
theorem dX8_between_79 : decode cX8_between 79 = .ok (.iconst 1, 1) := by decide +kernel
theorem dX8_between_80 : decode cX8_between 80 = .ok (.isub, 1) := by decide +kernel
theorem dX8_between_81 : decode cX8_between 81 = .ok (.invokevirtual 21, 3) := by decide +kernel
theorem dX8_between_84 : decode cX8_between 84 = .ok (.if_icmp .ne 8, 3) := by decide +kernel
theorem dX8_between_87 : decode cX8_between 87 = .ok (.iload 4, 2) := by decide +kernel
theorem dX8_between_89 : decode cX8_between 89 = .ok (.goto 7, 3) := by decide +kernel
theorem dX8_between_92 : decode cX8_between 92 = .ok (.iload 4, 2) := by decide +kernel
theorem dX8_between_94 : decode cX8_between 94 = .ok (.iconst 1, 1) := by decide +kernel
theorem dX8_between_95 : decode cX8_between 95 = .ok (.iadd, 1) := by decide +kernel
theorem dX8_between_96 : decode cX8_between 96 = .ok (.istore 7, 2) := by decide +kernel
theorem dX8_between_98 : decode cX8_between 98 = .ok (.aload_n 0, 1) := by decide +kernel
theorem dX8_between_99 : decode cX8_between 99 = .ok (.getfield 9, 3) := by decide +kernel
theorem dX8_between_102 : decode cX8_between 102 = .ok (.iload 5, 2) := by decide +kernel
theorem dX8_between_104 : decode cX8_between 104 = .ok (.iload 7, 2) := by decide +kernel
theorem dX8_between_106 : decode cX8_between 106 = .ok (.iload 6, 2) := by decide +kernel
theorem dX8_between_108 : decode cX8_between 108 = .ok (.aload_n 0, 1) := by decide +kernel
theorem dX8_between_109 : decode cX8_between 109 = .ok (.getfield 9, 3) := by decide +kernel
theorem dX8_between_112 : decode cX8_between 112 = .ok (.iload 5, 2) := by decide +kernel
theorem dX8_between_114 : decode cX8_between 114 = .ok (.iconst 1, 1) := by decide +kernel
theorem dX8_between_115 : decode cX8_between 115 = .ok (.isub, 1) := by decide +kernel
theorem dX8_between_116 : decode cX8_between 116 = .ok (.iaload, 1) := by decide +kernel
theorem dX8_between_117 : decode cX8_between 117 = .ok (.invokestatic 25, 3) := by decide +kernel
theorem dX8_between_120 : decode cX8_between 120 = .ok (.iconst 1, 1) := by decide +kernel
theorem dX8_between_121 : decode cX8_between 121 = .ok (.iadd, 1) := by decide +kernel
theorem dX8_between_122 : decode cX8_between 122 = .ok (.invokestatic 25, 3) := by decide +kernel
theorem dX8_between_125 : decode cX8_between 125 = .ok (.iastore, 1) := by decide +kernel
theorem dX8_between_126 : decode cX8_between 126 = .ok (.iload 6, 2) := by decide +kernel
theorem dX8_between_128 : decode cX8_between 128 = .ok (.istore 4, 2) := by decide +kernel
theorem dX8_between_130 : decode cX8_between 130 = .ok (.iinc 5 1, 3) := by decide +kernel
theorem dX8_between_133 : decode cX8_between 133 = .ok (.goto (-82), 3) := by decide +kernel
theorem dX8_between_136 : decode cX8_between 136 = .ok (.iinc 3 1, 3) := by decide +kernel
theorem dX8_between_139 : decode cX8_between 139 = .ok (.goto (-114), 3) := by decide +kernel
theorem dX8_between_142 : decode cX8_between 142 = .ok (.aload_n 0, 1) := by decide +kernel
theorem dX8_between_143 : decode cX8_between 143 = .ok (.getfield 9, 3) := by decide +kernel
theorem dX8_between_146 : decode cX8_between 146 = .ok (.aload_n 2, 1) := by decide +kernel
theorem dX8_between_147 : decode cX8_between 147 = .ok (.invokevirtual 15, 3) := by decide +kernel
theorem dX8_between_150 : decode cX8_between 150 = .ok (.iaload, 1) := by decide +kernel
theorem dX8_between_151 : decode cX8_between 151 = .ok (.ireturn, 1) := by decide +kernel
theorem dX9_init_0 : decode cX9_init 0 = .ok (.aload_n 0, 1) := by decide +kernel
theorem dX9_init_1 : decode cX9_init 1 = .ok (.invokespecial 3, 3) := by decide +kernel
theorem dX9_init_4 : decode cX9_init 4 = .ok (.aload_n 0, 1) := by decide +kernel
theorem dX9_init_5 : decode cX9_init 5 = .ok (.iconst 3, 1) := by decide +kernel
theorem dX9_init_6 : decode cX9_init 6 = .ok (.bipush 100, 2) := by decide +kernel
theorem dX9_init_8 : decode cX9_init 8 = .ok (.multianewarray 9 2, 4) := by decide +kernel
theorem dX9_init_12 : decode cX9_init 12 = .ok (.putfield 11, 3) := by decide +kernel
theorem dX9_init_15 : decode cX9_init 15 = .ok (.return_, 1) := by decide +kernel
theorem dX9_count_0 : decode cX9_count 0 = .ok (.aload_n 0, 1) := by decide +kernel
theorem dX9_count_1 : decode cX9_count 1 = .ok (.getfield 16, 3) := by decide +kernel
theorem dX9_count_4 : decode cX9_count 4 = .ok (.ireturn, 1) := by decide +kernel
theorem dX9_isFull_0 : decode cX9_isFull 0 = .ok (.aload_n 0, 1) := by decide +kernel
theorem dX9_isFull_1 : decode cX9_isFull 1 = .ok (.getfield 16, 3) := by decide +kernel
theorem dX9_isFull_4 : decode cX9_isFull 4 = .ok (.bipush 10, 2) := by decide +kernel
theorem dX9_isFull_6 : decode cX9_isFull 6 = .ok (.if_icmp .lt 7, 3) := by decide +kernel
theorem dX9_isFull_9 : decode cX9_isFull 9 = .ok (.iconst 1, 1) := by decide +kernel
theorem dX9_isFull_10 : decode cX9_isFull 10 = .ok (.goto 4, 3) := by decide +kernel
theorem dX9_isFull_13 : decode cX9_isFull 13 = .ok (.iconst 0, 1) := by decide +kernel
theorem dX9_isFull_14 : decode cX9_isFull 14 = .ok (.ireturn, 1) := by decide +kernel
theorem dX9_ownWordOf_0 : decode cX9_ownWordOf 0 = .ok (.iload_n 1, 1) := by decide +kernel
theorem dX9_ownWordOf_1 : decode cX9_ownWordOf 1 = .ok (.invokestatic 20, 3) := by decide +kernel
theorem dX9_ownWordOf_4 : decode cX9_ownWordOf 4 = .ok (.ifCond .eq 21, 3) := by decide +kernel
theorem dX9_ownWordOf_7 : decode cX9_ownWordOf 7 = .ok (.iload_n 2, 1) := by decide +kernel
theorem dX9_ownWordOf_8 : decode cX9_ownWordOf 8 = .ok (.invokestatic 24, 3) := by decide +kernel
theorem dX9_ownWordOf_11 : decode cX9_ownWordOf 11 = .ok (.ifCond .eq 14, 3) := by decide +kernel
theorem dX9_ownWordOf_14 : decode cX9_ownWordOf 14 = .ok (.aload_n 0, 1) := by decide +kernel
theorem dX9_ownWordOf_15 : decode cX9_ownWordOf 15 = .ok (.getfield 11, 3) := by decide +kernel
theorem dX9_ownWordOf_18 : decode cX9_ownWordOf 18 = .ok (.iload_n 2, 1) := by decide +kernel
theorem dX9_ownWordOf_19 : decode cX9_ownWordOf 19 = .ok (.aaload, 1) := by decide +kernel
theorem dX9_ownWordOf_20 : decode cX9_ownWordOf 20 = .ok (.iload_n 1, 1) := by decide +kernel
theorem dX9_ownWordOf_21 : decode cX9_ownWordOf 21 = .ok (.iaload, 1) := by decide +kernel
theorem dX9_ownWordOf_22 : decode cX9_ownWordOf 22 = .ok (.goto 4, 3) := by decide +kernel
theorem dX9_ownWordOf_25 : decode cX9_ownWordOf 25 = .ok (.iconst 0, 1) := by decide +kernel
theorem dX9_ownWordOf_26 : decode cX9_ownWordOf 26 = .ok (.ireturn, 1) := by decide +kernel
theorem dX9_has_0 : decode cX9_has 0 = .ok (.aload_n 0, 1) := by decide +kernel
theorem dX9_has_1 : decode cX9_has 1 = .ok (.iload_n 1, 1) := by decide +kernel
theorem dX9_has_2 : decode cX9_has 2 = .ok (.iload_n 2, 1) := by decide +kernel
theorem dX9_has_3 : decode cX9_has 3 = .ok (.invokevirtual 27, 3) := by decide +kernel
theorem dX9_has_6 : decode cX9_has 6 = .ok (.ifCond .eq 7, 3) := by decide +kernel
theorem dX9_has_9 : decode cX9_has 9 = .ok (.iconst 1, 1) := by decide +kernel
theorem dX9_has_10 : decode cX9_has 10 = .ok (.goto 4, 3) := by decide +kernel
theorem dX9_has_13 : decode cX9_has 13 = .ok (.iconst 0, 1) := by decide +kernel
theorem dX9_has_14 : decode cX9_has 14 = .ok (.ireturn, 1) := by decide +kernel
theorem dX9_put_0 : decode cX9_put 0 = .ok (.iload_n 1, 1) := by decide +kernel
theorem dX9_put_1 : decode cX9_put 1 = .ok (.invokestatic 20, 3) := by decide +kernel
theorem dX9_put_4 : decode cX9_put 4 = .ok (.ifCond .eq 42, 3) := by decide +kernel
theorem dX9_put_7 : decode cX9_put 7 = .ok (.iload_n 2, 1) := by decide +kernel
theorem dX9_put_8 : decode cX9_put 8 = .ok (.invokestatic 24, 3) := by decide +kernel
theorem dX9_put_11 : decode cX9_put 11 = .ok (.ifCond .eq 35, 3) := by decide +kernel
theorem dX9_put_14 : decode cX9_put 14 = .ok (.aload_n 0, 1) := by decide +kernel
theorem dX9_put_15 : decode cX9_put 15 = .ok (.dup, 1) := by decide +kernel
theorem dX9_put_16 : decode cX9_put 16 = .ok (.getfield 16, 3) := by decide +kernel
theorem dX9_put_19 : decode cX9_put 19 = .ok (.aload_n 0, 1) := by decide +kernel
theorem dX9_put_20 : decode cX9_put 20 = .ok (.iload_n 1, 1) := by decide +kernel
theorem dX9_put_21 : decode cX9_put 21 = .ok (.iload_n 2, 1) := by decide +kernel
theorem dX9_put_22 : decode cX9_put 22 = .ok (.invokevirtual 31, 3) := by decide +kernel
theorem dX9_put_25 : decode cX9_put 25 = .ok (.ifCond .eq 7, 3) := by decide +kernel
theorem dX9_put_28 : decode cX9_put 28 = .ok (.iconst 0, 1) := by decide +kernel
theorem dX9_put_29 : decode cX9_put 29 = .ok (.goto 4, 3) := by decide +kernel
theorem dX9_put_32 : decode cX9_put 32 = .ok (.iconst 1, 1) := by decide +kernel
theorem dX9_put_33 : decode cX9_put 33 = .ok (.iadd, 1) := by decide +kernel
theorem dX9_put_34 : decode cX9_put 34 = .ok (.putfield 16, 3) := by decide +kernel
theorem dX9_put_37 : decode cX9_put 37 = .ok (.aload_n 0, 1) := by decide +kernel
theorem dX9_put_38 : decode cX9_put 38 = .ok (.getfield 11, 3) := by decide +kernel
theorem dX9_put_41 : decode cX9_put 41 = .ok (.iload_n 2, 1) := by decide +kernel
theorem dX9_put_42 : decode cX9_put 42 = .ok (.aaload, 1) := by decide +kernel
theorem dX9_put_43 : decode cX9_put 43 = .ok (.iload_n 1, 1) := by decide +kernel
theorem dX9_put_44 : decode cX9_put 44 = .ok (.iload_n 3, 1) := by decide +kernel
theorem dX9_put_45 : decode cX9_put 45 = .ok (.iastore, 1) := by decide +kernel
theorem dX9_put_46 : decode cX9_put 46 = .ok (.return_, 1) := by decide +kernel
theorem dX9_remove_0 : decode cX9_remove 0 = .ok (.aload_n 0, 1) := by decide +kernel
theorem dX9_remove_1 : decode cX9_remove 1 = .ok (.iload_n 1, 1) := by decide +kernel
theorem dX9_remove_2 : decode cX9_remove 2 = .ok (.iload_n 2, 1) := by decide +kernel
theorem dX9_remove_3 : decode cX9_remove 3 = .ok (.invokevirtual 31, 3) := by decide +kernel
theorem dX9_remove_6 : decode cX9_remove 6 = .ok (.ifCond .eq 22, 3) := by decide +kernel
theorem dX9_remove_9 : decode cX9_remove 9 = .ok (.aload_n 0, 1) := by decide +kernel
theorem dX9_remove_10 : decode cX9_remove 10 = .ok (.getfield 11, 3) := by decide +kernel
theorem dX9_remove_13 : decode cX9_remove 13 = .ok (.iload_n 2, 1) := by decide +kernel
theorem dX9_remove_14 : decode cX9_remove 14 = .ok (.aaload, 1) := by decide +kernel
theorem dX9_remove_15 : decode cX9_remove 15 = .ok (.iload_n 1, 1) := by decide +kernel
theorem dX9_remove_16 : decode cX9_remove 16 = .ok (.iconst 0, 1) := by decide +kernel
theorem dX9_remove_17 : decode cX9_remove 17 = .ok (.iastore, 1) := by decide +kernel
theorem dX9_remove_18 : decode cX9_remove 18 = .ok (.aload_n 0, 1) := by decide +kernel
theorem dX9_remove_19 : decode cX9_remove 19 = .ok (.dup, 1) := by decide +kernel
theorem dX9_remove_20 : decode cX9_remove 20 = .ok (.getfield 16, 3) := by decide +kernel
theorem dX9_remove_23 : decode cX9_remove 23 = .ok (.iconst 1, 1) := by decide +kernel
theorem dX9_remove_24 : decode cX9_remove 24 = .ok (.isub, 1) := by decide +kernel
theorem dX9_remove_25 : decode cX9_remove 25 = .ok (.putfield 16, 3) := by decide +kernel
theorem dX9_remove_28 : decode cX9_remove 28 = .ok (.return_, 1) := by decide +kernel
theorem dX10_init_0 : decode cX10_init 0 = .ok (.aload_n 0, 1) := by decide +kernel
theorem dX10_init_1 : decode cX10_init 1 = .ok (.invokespecial 3, 3) := by decide +kernel
theorem dX10_init_4 : decode cX10_init 4 = .ok (.aload_n 0, 1) := by decide +kernel
theorem dX10_init_5 : decode cX10_init 5 = .ok (.new 9, 3) := by decide +kernel
theorem dX10_init_8 : decode cX10_init 8 = .ok (.dup, 1) := by decide +kernel
theorem dX10_init_9 : decode cX10_init 9 = .ok (.invokespecial 11, 3) := by decide +kernel
theorem dX10_init_12 : decode cX10_init 12 = .ok (.putfield 12, 3) := by decide +kernel
theorem dX10_init_15 : decode cX10_init 15 = .ok (.aload_n 0, 1) := by decide +kernel
theorem dX10_init_16 : decode cX10_init 16 = .ok (.iconst 0, 1) := by decide +kernel
theorem dX10_init_17 : decode cX10_init 17 = .ok (.putfield 18, 3) := by decide +kernel
theorem dX10_init_20 : decode cX10_init 20 = .ok (.aload_n 0, 1) := by decide +kernel
theorem dX10_init_21 : decode cX10_init 21 = .ok (.bipush (-5), 2) := by decide +kernel
theorem dX10_init_23 : decode cX10_init 23 = .ok (.putfield 22, 3) := by decide +kernel
theorem dX10_init_26 : decode cX10_init 26 = .ok (.return_, 1) := by decide +kernel
theorem dX10_signs_0 : decode cX10_signs 0 = .ok (.aload_n 0, 1) := by decide +kernel
theorem dX10_signs_1 : decode cX10_signs 1 = .ok (.getfield 12, 3) := by decide +kernel
theorem dX10_signs_4 : decode cX10_signs 4 = .ok (.areturn, 1) := by decide +kernel
theorem dX10_state_0 : decode cX10_state 0 = .ok (.aload_n 0, 1) := by decide +kernel
theorem dX10_state_1 : decode cX10_state 1 = .ok (.getfield 18, 3) := by decide +kernel
theorem dX10_state_4 : decode cX10_state 4 = .ok (.ireturn, 1) := by decide +kernel
theorem dX10_writer_0 : decode cX10_writer 0 = .ok (.aload_n 0, 1) := by decide +kernel
theorem dX10_writer_1 : decode cX10_writer 1 = .ok (.getfield 22, 3) := by decide +kernel
theorem dX10_writer_4 : decode cX10_writer 4 = .ok (.ireturn, 1) := by decide +kernel
theorem dX10_waitsForReview_0 : decode cX10_waitsForReview 0 = .ok (.aload_n 0, 1) := by decide +kernel
theorem dX10_waitsForReview_1 : decode cX10_waitsForReview 1 = .ok (.getfield 18, 3) := by decide +kernel
theorem dX10_waitsForReview_4 : decode cX10_waitsForReview 4 = .ok (.iconst 1, 1) := by decide +kernel
theorem dX10_waitsForReview_5 : decode cX10_waitsForReview 5 = .ok (.if_icmp .eq 11, 3) := by decide +kernel
theorem dX10_waitsForReview_8 : decode cX10_waitsForReview 8 = .ok (.aload_n 0, 1) := by decide +kernel
theorem dX10_waitsForReview_9 : decode cX10_waitsForReview 9 = .ok (.getfield 18, 3) := by decide +kernel
theorem dX10_waitsForReview_12 : decode cX10_waitsForReview 12 = .ok (.iconst 3, 1) := by decide +kernel
theorem dX10_waitsForReview_13 : decode cX10_waitsForReview 13 = .ok (.if_icmp .ne 7, 3) := by decide +kernel
theorem dX10_waitsForReview_16 : decode cX10_waitsForReview 16 = .ok (.iconst 1, 1) := by decide +kernel
theorem dX10_waitsForReview_17 : decode cX10_waitsForReview 17 = .ok (.goto 4, 3) := by decide +kernel
theorem dX10_waitsForReview_20 : decode cX10_waitsForReview 20 = .ok (.iconst 0, 1) := by decide +kernel
theorem dX10_waitsForReview_21 : decode cX10_waitsForReview 21 = .ok (.ireturn, 1) := by decide +kernel
theorem dX10_becomeDraft_0 : decode cX10_becomeDraft 0 = .ok (.aload_n 0, 1) := by decide +kernel
theorem dX10_becomeDraft_1 : decode cX10_becomeDraft 1 = .ok (.getfield 12, 3) := by decide +kernel
theorem dX10_becomeDraft_4 : decode cX10_becomeDraft 4 = .ok (.aload_n 1, 1) := by decide +kernel
theorem dX10_becomeDraft_5 : decode cX10_becomeDraft 5 = .ok (.invokevirtual 25, 3) := by decide +kernel
theorem dX10_becomeDraft_8 : decode cX10_becomeDraft 8 = .ok (.aload_n 0, 1) := by decide +kernel
theorem dX10_becomeDraft_9 : decode cX10_becomeDraft 9 = .ok (.iload_n 2, 1) := by decide +kernel
theorem dX10_becomeDraft_10 : decode cX10_becomeDraft 10 = .ok (.putfield 22, 3) := by decide +kernel
theorem dX10_becomeDraft_13 : decode cX10_becomeDraft 13 = .ok (.aload_n 0, 1) := by decide +kernel
theorem dX10_becomeDraft_14 : decode cX10_becomeDraft 14 = .ok (.iconst 1, 1) := by decide +kernel
theorem dX10_becomeDraft_15 : decode cX10_becomeDraft 15 = .ok (.putfield 18, 3) := by decide +kernel
theorem dX10_becomeDraft_18 : decode cX10_becomeDraft 18 = .ok (.return_, 1) := by decide +kernel
theorem dX10_becomeReviewed_0 : decode cX10_becomeReviewed 0 = .ok (.aload_n 0, 1) := by decide +kernel
theorem dX10_becomeReviewed_1 : decode cX10_becomeReviewed 1 = .ok (.iconst 2, 1) := by decide +kernel
theorem dX10_becomeReviewed_2 : decode cX10_becomeReviewed 2 = .ok (.putfield 18, 3) := by decide +kernel
theorem dX10_becomeReviewed_5 : decode cX10_becomeReviewed 5 = .ok (.return_, 1) := by decide +kernel
theorem dX10_becomeDoubtful_0 : decode cX10_becomeDoubtful 0 = .ok (.aload_n 0, 1) := by decide +kernel
theorem dX10_becomeDoubtful_1 : decode cX10_becomeDoubtful 1 = .ok (.getfield 18, 3) := by decide +kernel
theorem dX10_becomeDoubtful_4 : decode cX10_becomeDoubtful 4 = .ok (.ifCond .eq 8, 3) := by decide +kernel
theorem dX10_becomeDoubtful_7 : decode cX10_becomeDoubtful 7 = .ok (.aload_n 0, 1) := by decide +kernel
theorem dX10_becomeDoubtful_8 : decode cX10_becomeDoubtful 8 = .ok (.iconst 3, 1) := by decide +kernel
theorem dX10_becomeDoubtful_9 : decode cX10_becomeDoubtful 9 = .ok (.putfield 18, 3) := by decide +kernel
theorem dX10_becomeDoubtful_12 : decode cX10_becomeDoubtful 12 = .ok (.return_, 1) := by decide +kernel
theorem dX10_clear_0 : decode cX10_clear 0 = .ok (.aload_n 0, 1) := by decide +kernel
theorem dX10_clear_1 : decode cX10_clear 1 = .ok (.getfield 12, 3) := by decide +kernel
theorem dX10_clear_4 : decode cX10_clear 4 = .ok (.invokevirtual 29, 3) := by decide +kernel
theorem dX10_clear_7 : decode cX10_clear 7 = .ok (.aload_n 0, 1) := by decide +kernel
theorem dX10_clear_8 : decode cX10_clear 8 = .ok (.bipush (-5), 2) := by decide +kernel
theorem dX10_clear_10 : decode cX10_clear 10 = .ok (.putfield 22, 3) := by decide +kernel
theorem dX10_clear_13 : decode cX10_clear 13 = .ok (.aload_n 0, 1) := by decide +kernel
theorem dX10_clear_14 : decode cX10_clear 14 = .ok (.iconst 0, 1) := by decide +kernel
theorem dX10_clear_15 : decode cX10_clear 15 = .ok (.putfield 18, 3) := by decide +kernel
theorem dX10_clear_18 : decode cX10_clear 18 = .ok (.return_, 1) := by decide +kernel
theorem dX10_copy_0 : decode cX10_copy 0 = .ok (.aload_n 0, 1) := by decide +kernel
theorem dX10_copy_1 : decode cX10_copy 1 = .ok (.getfield 12, 3) := by decide +kernel
theorem dX10_copy_4 : decode cX10_copy 4 = .ok (.aload_n 1, 1) := by decide +kernel
theorem dX10_copy_5 : decode cX10_copy 5 = .ok (.getfield 12, 3) := by decide +kernel
theorem dX10_copy_8 : decode cX10_copy 8 = .ok (.invokevirtual 25, 3) := by decide +kernel
theorem dX10_copy_11 : decode cX10_copy 11 = .ok (.aload_n 0, 1) := by decide +kernel
theorem dX10_copy_12 : decode cX10_copy 12 = .ok (.aload_n 1, 1) := by decide +kernel
theorem dX10_copy_13 : decode cX10_copy 13 = .ok (.getfield 22, 3) := by decide +kernel
theorem dX10_copy_16 : decode cX10_copy 16 = .ok (.putfield 22, 3) := by decide +kernel
theorem dX10_copy_19 : decode cX10_copy 19 = .ok (.aload_n 0, 1) := by decide +kernel
theorem dX10_copy_20 : decode cX10_copy 20 = .ok (.aload_n 1, 1) := by decide +kernel
theorem dX10_copy_21 : decode cX10_copy 21 = .ok (.getfield 18, 3) := by decide +kernel
theorem dX10_copy_24 : decode cX10_copy 24 = .ok (.putfield 18, 3) := by decide +kernel
theorem dX10_copy_27 : decode cX10_copy 27 = .ok (.return_, 1) := by decide +kernel
theorem dX11_init_0 : decode cX11_init 0 = .ok (.aload_n 0, 1) := by decide +kernel
theorem dX11_init_1 : decode cX11_init 1 = .ok (.invokespecial 3, 3) := by decide +kernel
theorem dX11_init_4 : decode cX11_init 4 = .ok (.aload_n 0, 1) := by decide +kernel
theorem dX11_init_5 : decode cX11_init 5 = .ok (.new 9, 3) := by decide +kernel
theorem dX11_init_8 : decode cX11_init 8 = .ok (.dup, 1) := by decide +kernel
theorem dX11_init_9 : decode cX11_init 9 = .ok (.invokespecial 11, 3) := by decide +kernel
theorem dX11_init_12 : decode cX11_init 12 = .ok (.putfield 12, 3) := by decide +kernel
theorem dX11_init_15 : decode cX11_init 15 = .ok (.aload_n 0, 1) := by decide +kernel
theorem dX11_init_16 : decode cX11_init 16 = .ok (.new 16, 3) := by decide +kernel
theorem dX11_init_19 : decode cX11_init 19 = .ok (.dup, 1) := by decide +kernel
theorem dX11_init_20 : decode cX11_init 20 = .ok (.invokespecial 18, 3) := by decide +kernel
theorem dX11_init_23 : decode cX11_init 23 = .ok (.putfield 19, 3) := by decide +kernel
theorem dX11_init_26 : decode cX11_init 26 = .ok (.aload_n 0, 1) := by decide +kernel
theorem dX11_init_27 : decode cX11_init 27 = .ok (.new 23, 3) := by decide +kernel
theorem dX11_init_30 : decode cX11_init 30 = .ok (.dup, 1) := by decide +kernel
theorem dX11_init_31 : decode cX11_init 31 = .ok (.invokespecial 25, 3) := by decide +kernel
theorem dX11_init_34 : decode cX11_init 34 = .ok (.putfield 26, 3) := by decide +kernel
theorem dX11_init_37 : decode cX11_init 37 = .ok (.aload_n 0, 1) := by decide +kernel
theorem dX11_init_38 : decode cX11_init 38 = .ok (.new 30, 3) := by decide +kernel
theorem dX11_init_41 : decode cX11_init 41 = .ok (.dup, 1) := by decide +kernel
theorem dX11_init_42 : decode cX11_init 42 = .ok (.invokespecial 32, 3) := by decide +kernel
theorem dX11_init_45 : decode cX11_init 45 = .ok (.putfield 33, 3) := by decide +kernel
theorem dX11_init_48 : decode cX11_init 48 = .ok (.aload_n 0, 1) := by decide +kernel
theorem dX11_init_49 : decode cX11_init 49 = .ok (.new 37, 3) := by decide +kernel
theorem dX11_init_52 : decode cX11_init 52 = .ok (.dup, 1) := by decide +kernel
theorem dX11_init_53 : decode cX11_init 53 = .ok (.invokespecial 39, 3) := by decide +kernel
theorem dX11_init_56 : decode cX11_init 56 = .ok (.putfield 40, 3) := by decide +kernel
theorem dX11_init_59 : decode cX11_init 59 = .ok (.aload_n 0, 1) := by decide +kernel
theorem dX11_init_60 : decode cX11_init 60 = .ok (.new 44, 3) := by decide +kernel
theorem dX11_init_63 : decode cX11_init 63 = .ok (.dup, 1) := by decide +kernel
theorem dX11_init_64 : decode cX11_init 64 = .ok (.invokespecial 46, 3) := by decide +kernel
theorem dX11_init_67 : decode cX11_init 67 = .ok (.putfield 47, 3) := by decide +kernel
theorem dX11_init_70 : decode cX11_init 70 = .ok (.aload_n 0, 1) := by decide +kernel
theorem dX11_init_71 : decode cX11_init 71 = .ok (.new 51, 3) := by decide +kernel
theorem dX11_init_74 : decode cX11_init 74 = .ok (.dup, 1) := by decide +kernel
theorem dX11_init_75 : decode cX11_init 75 = .ok (.invokespecial 53, 3) := by decide +kernel
theorem dX11_init_78 : decode cX11_init 78 = .ok (.putfield 54, 3) := by decide +kernel
theorem dX11_init_81 : decode cX11_init 81 = .ok (.aload_n 0, 1) := by decide +kernel
theorem dX11_init_82 : decode cX11_init 82 = .ok (.new 51, 3) := by decide +kernel
theorem dX11_init_85 : decode cX11_init 85 = .ok (.dup, 1) := by decide +kernel
theorem dX11_init_86 : decode cX11_init 86 = .ok (.invokespecial 53, 3) := by decide +kernel
theorem dX11_init_89 : decode cX11_init 89 = .ok (.putfield 58, 3) := by decide +kernel
theorem dX11_init_92 : decode cX11_init 92 = .ok (.aload_n 0, 1) := by decide +kernel
theorem dX11_init_93 : decode cX11_init 93 = .ok (.new 61, 3) := by decide +kernel
theorem dX11_init_96 : decode cX11_init 96 = .ok (.dup, 1) := by decide +kernel
theorem dX11_init_97 : decode cX11_init 97 = .ok (.invokespecial 63, 3) := by decide +kernel
theorem dX11_init_100 : decode cX11_init 100 = .ok (.putfield 64, 3) := by decide +kernel
theorem dX11_init_103 : decode cX11_init 103 = .ok (.aload_n 0, 1) := by decide +kernel
theorem dX11_init_104 : decode cX11_init 104 = .ok (.new 61, 3) := by decide +kernel
theorem dX11_init_107 : decode cX11_init 107 = .ok (.dup, 1) := by decide +kernel
theorem dX11_init_108 : decode cX11_init 108 = .ok (.invokespecial 63, 3) := by decide +kernel
theorem dX11_init_111 : decode cX11_init 111 = .ok (.putfield 68, 3) := by decide +kernel
theorem dX11_init_114 : decode cX11_init 114 = .ok (.aload_n 0, 1) := by decide +kernel
theorem dX11_init_115 : decode cX11_init 115 = .ok (.new 61, 3) := by decide +kernel
theorem dX11_init_118 : decode cX11_init 118 = .ok (.dup, 1) := by decide +kernel
theorem dX11_init_119 : decode cX11_init 119 = .ok (.invokespecial 63, 3) := by decide +kernel
theorem dX11_init_122 : decode cX11_init 122 = .ok (.putfield 71, 3) := by decide +kernel
theorem dX11_init_125 : decode cX11_init 125 = .ok (.aload_n 0, 1) := by decide +kernel
theorem dX11_init_126 : decode cX11_init 126 = .ok (.bipush 6, 2) := by decide +kernel
theorem dX11_init_128 : decode cX11_init 128 = .ok (.putfield 74, 3) := by decide +kernel
theorem dX11_init_131 : decode cX11_init 131 = .ok (.aload_n 0, 1) := by decide +kernel
theorem dX11_init_132 : decode cX11_init 132 = .ok (.iconst 0, 1) := by decide +kernel
theorem dX11_init_133 : decode cX11_init 133 = .ok (.putfield 78, 3) := by decide +kernel
theorem dX11_init_136 : decode cX11_init 136 = .ok (.return_, 1) := by decide +kernel
theorem dX11_sign_0 : decode cX11_sign 0 = .ok (.iload_n 1, 1) := by decide +kernel
theorem dX11_sign_1 : decode cX11_sign 1 = .ok (.invokestatic 82, 3) := by decide +kernel
theorem dX11_sign_4 : decode cX11_sign 4 = .ok (.ifCond .ne 5, 3) := by decide +kernel
theorem dX11_sign_7 : decode cX11_sign 7 = .ok (.iconst (-1), 1) := by decide +kernel
theorem dX11_sign_8 : decode cX11_sign 8 = .ok (.ireturn, 1) := by decide +kernel
theorem dX11_sign_9 : decode cX11_sign 9 = .ok (.aload_n 0, 1) := by decide +kernel
theorem dX11_sign_10 : decode cX11_sign 10 = .ok (.getfield 12, 3) := by decide +kernel
theorem dX11_sign_13 : decode cX11_sign 13 = .ok (.invokevirtual 86, 3) := by decide +kernel
theorem dX11_sign_16 : decode cX11_sign 16 = .ok (.ifCond .eq 6, 3) := by decide +kernel
theorem dX11_sign_19 : decode cX11_sign 19 = .ok (.bipush (-2), 2) := by decide +kernel
theorem dX11_sign_21 : decode cX11_sign 21 = .ok (.ireturn, 1) := by decide +kernel
theorem dX11_sign_22 : decode cX11_sign 22 = .ok (.aload_n 0, 1) := by decide +kernel
theorem dX11_sign_23 : decode cX11_sign 23 = .ok (.getfield 12, 3) := by decide +kernel
theorem dX11_sign_26 : decode cX11_sign 26 = .ok (.iload_n 1, 1) := by decide +kernel
theorem dX11_sign_27 : decode cX11_sign 27 = .ok (.invokevirtual 90, 3) := by decide +kernel
theorem dX11_sign_30 : decode cX11_sign 30 = .ok (.aload_n 0, 1) := by decide +kernel
theorem dX11_sign_31 : decode cX11_sign 31 = .ok (.getfield 12, 3) := by decide +kernel
theorem dX11_sign_34 : decode cX11_sign 34 = .ok (.invokevirtual 94, 3) := by decide +kernel
theorem dX11_sign_37 : decode cX11_sign 37 = .ok (.ireturn, 1) := by decide +kernel
theorem dX11_scrap_0 : decode cX11_scrap 0 = .ok (.aload_n 0, 1) := by decide +kernel
theorem dX11_scrap_1 : decode cX11_scrap 1 = .ok (.getfield 12, 3) := by decide +kernel
theorem dX11_scrap_4 : decode cX11_scrap 4 = .ok (.invokevirtual 94, 3) := by decide +kernel
theorem dX11_scrap_7 : decode cX11_scrap 7 = .ok (.istore_n 1, 1) := by decide +kernel
theorem dX11_scrap_8 : decode cX11_scrap 8 = .ok (.aload_n 0, 1) := by decide +kernel
theorem dX11_scrap_9 : decode cX11_scrap 9 = .ok (.getfield 12, 3) := by decide +kernel
theorem dX11_scrap_12 : decode cX11_scrap 12 = .ok (.invokevirtual 98, 3) := by decide +kernel
theorem dX11_scrap_15 : decode cX11_scrap 15 = .ok (.iload_n 1, 1) := by decide +kernel
theorem dX11_scrap_16 : decode cX11_scrap 16 = .ok (.ireturn, 1) := by decide +kernel
theorem dX11_piece_0 : decode cX11_piece 0 = .ok (.iload_n 1, 1) := by decide +kernel
theorem dX11_piece_1 : decode cX11_piece 1 = .ok (.iconst 0, 1) := by decide +kernel
theorem dX11_piece_2 : decode cX11_piece 2 = .ok (.iconst 2, 1) := by decide +kernel
theorem dX11_piece_3 : decode cX11_piece 3 = .ok (.invokestatic 101, 3) := by decide +kernel
theorem dX11_piece_6 : decode cX11_piece 6 = .ok (.ifCond .ne 5, 3) := by decide +kernel
theorem dX11_piece_9 : decode cX11_piece 9 = .ok (.iconst (-1), 1) := by decide +kernel
theorem dX11_piece_10 : decode cX11_piece 10 = .ok (.ireturn, 1) := by decide +kernel
theorem dX11_piece_11 : decode cX11_piece 11 = .ok (.aload_n 0, 1) := by decide +kernel
theorem dX11_piece_12 : decode cX11_piece 12 = .ok (.getfield 12, 3) := by decide +kernel
theorem dX11_piece_15 : decode cX11_piece 15 = .ok (.invokevirtual 94, 3) := by decide +kernel
theorem dX11_piece_18 : decode cX11_piece 18 = .ok (.iconst 1, 1) := by decide +kernel
theorem dX11_piece_19 : decode cX11_piece 19 = .ok (.bipush 8, 2) := by decide +kernel
theorem dX11_piece_21 : decode cX11_piece 21 = .ok (.invokestatic 101, 3) := by decide +kernel
theorem dX11_piece_24 : decode cX11_piece 24 = .ok (.ifCond .ne 6, 3) := by decide +kernel
theorem dX11_piece_27 : decode cX11_piece 27 = .ok (.bipush (-6), 2) := by decide +kernel
theorem dX11_piece_29 : decode cX11_piece 29 = .ok (.ireturn, 1) := by decide +kernel
theorem dX11_piece_30 : decode cX11_piece 30 = .ok (.aload_n 0, 1) := by decide +kernel
theorem dX11_piece_31 : decode cX11_piece 31 = .ok (.getfield 12, 3) := by decide +kernel
theorem dX11_piece_34 : decode cX11_piece 34 = .ok (.sipush 200, 3) := by decide +kernel
theorem dX11_piece_37 : decode cX11_piece 37 = .ok (.bipush 100, 2) := by decide +kernel
theorem dX11_piece_39 : decode cX11_piece 39 = .ok (.invokevirtual 105, 3) := by decide +kernel
theorem dX11_piece_42 : decode cX11_piece 42 = .ok (.ifCond .eq 6, 3) := by decide +kernel
theorem dX11_piece_45 : decode cX11_piece 45 = .ok (.bipush (-3), 2) := by decide +kernel
theorem dX11_piece_47 : decode cX11_piece 47 = .ok (.ireturn, 1) := by decide +kernel
theorem dX11_piece_48 : decode cX11_piece 48 = .ok (.aload_n 0, 1) := by decide +kernel
theorem dX11_piece_49 : decode cX11_piece 49 = .ok (.getfield 71, 3) := by decide +kernel
theorem dX11_piece_52 : decode cX11_piece 52 = .ok (.invokevirtual 109, 3) := by decide +kernel
theorem dX11_piece_55 : decode cX11_piece 55 = .ok (.ifCond .eq 6, 3) := by decide +kernel
theorem dX11_piece_58 : decode cX11_piece 58 = .ok (.bipush (-2), 2) := by decide +kernel
theorem dX11_piece_60 : decode cX11_piece 60 = .ok (.ireturn, 1) := by decide +kernel
theorem dX11_piece_61 : decode cX11_piece 61 = .ok (.aload_n 0, 1) := by decide +kernel
theorem dX11_piece_62 : decode cX11_piece 62 = .ok (.getfield 71, 3) := by decide +kernel
theorem dX11_piece_65 : decode cX11_piece 65 = .ok (.iload_n 1, 1) := by decide +kernel
theorem dX11_piece_66 : decode cX11_piece 66 = .ok (.aload_n 0, 1) := by decide +kernel
theorem dX11_piece_67 : decode cX11_piece 67 = .ok (.getfield 12, 3) := by decide +kernel
theorem dX11_piece_70 : decode cX11_piece 70 = .ok (.invokevirtual 110, 3) := by decide +kernel
theorem dX11_piece_73 : decode cX11_piece 73 = .ok (.aload_n 0, 1) := by decide +kernel
theorem dX11_piece_74 : decode cX11_piece 74 = .ok (.getfield 12, 3) := by decide +kernel
theorem dX11_piece_77 : decode cX11_piece 77 = .ok (.invokevirtual 98, 3) := by decide +kernel
theorem dX11_piece_80 : decode cX11_piece 80 = .ok (.aload_n 0, 1) := by decide +kernel
theorem dX11_piece_81 : decode cX11_piece 81 = .ok (.getfield 71, 3) := by decide +kernel
theorem dX11_piece_84 : decode cX11_piece 84 = .ok (.invokevirtual 113, 3) := by decide +kernel
theorem dX11_piece_87 : decode cX11_piece 87 = .ok (.iconst 1, 1) := by decide +kernel
theorem dX11_piece_88 : decode cX11_piece 88 = .ok (.isub, 1) := by decide +kernel
theorem dX11_piece_89 : decode cX11_piece 89 = .ok (.ireturn, 1) := by decide +kernel
theorem dX11_drop_0 : decode cX11_drop 0 = .ok (.aload_n 0, 1) := by decide +kernel
theorem dX11_drop_1 : decode cX11_drop 1 = .ok (.getfield 71, 3) := by decide +kernel
theorem dX11_drop_4 : decode cX11_drop 4 = .ok (.invokevirtual 113, 3) := by decide +kernel
theorem dX11_drop_7 : decode cX11_drop 7 = .ok (.istore_n 1, 1) := by decide +kernel
theorem dX11_drop_8 : decode cX11_drop 8 = .ok (.aload_n 0, 1) := by decide +kernel
theorem dX11_drop_9 : decode cX11_drop 9 = .ok (.getfield 71, 3) := by decide +kernel
theorem dX11_drop_12 : decode cX11_drop 12 = .ok (.invokevirtual 116, 3) := by decide +kernel
theorem dX11_drop_15 : decode cX11_drop 15 = .ok (.iload_n 1, 1) := by decide +kernel
theorem dX11_drop_16 : decode cX11_drop 16 = .ok (.ireturn, 1) := by decide +kernel
theorem dX11_turn_0 : decode cX11_turn 0 = .ok (.aload_n 0, 1) := by decide +kernel
theorem dX11_turn_1 : decode cX11_turn 1 = .ok (.getfield 71, 3) := by decide +kernel
theorem dX11_turn_4 : decode cX11_turn 4 = .ok (.invokevirtual 113, 3) := by decide +kernel
theorem dX11_turn_7 : decode cX11_turn 7 = .ok (.ifCond .ne 6, 3) := by decide +kernel
theorem dX11_turn_10 : decode cX11_turn 10 = .ok (.bipush (-5), 2) := by decide +kernel
theorem dX11_turn_12 : decode cX11_turn 12 = .ok (.ireturn, 1) := by decide +kernel
theorem dX11_turn_13 : decode cX11_turn 13 = .ok (.aload_n 0, 1) := by decide +kernel
theorem dX11_turn_14 : decode cX11_turn 14 = .ok (.getfield 26, 3) := by decide +kernel
theorem dX11_turn_17 : decode cX11_turn 17 = .ok (.aload_n 0, 1) := by decide +kernel
theorem dX11_turn_18 : decode cX11_turn 18 = .ok (.getfield 68, 3) := by decide +kernel
theorem dX11_turn_21 : decode cX11_turn 21 = .ok (.aload_n 0, 1) := by decide +kernel
theorem dX11_turn_22 : decode cX11_turn 22 = .ok (.getfield 71, 3) := by decide +kernel
theorem dX11_turn_25 : decode cX11_turn 25 = .ok (.aload_n 0, 1) := by decide +kernel
theorem dX11_turn_26 : decode cX11_turn 26 = .ok (.getfield 19, 3) := by decide +kernel
theorem dX11_turn_29 : decode cX11_turn 29 = .ok (.invokevirtual 117, 3) := by decide +kernel
theorem dX11_turn_32 : decode cX11_turn 32 = .ok (.istore_n 1, 1) := by decide +kernel
theorem dX11_turn_33 : decode cX11_turn 33 = .ok (.iconst 0, 1) := by decide +kernel
theorem dX11_turn_34 : decode cX11_turn 34 = .ok (.istore_n 2, 1) := by decide +kernel
theorem dX11_turn_35 : decode cX11_turn 35 = .ok (.iload_n 2, 1) := by decide +kernel
theorem dX11_turn_36 : decode cX11_turn 36 = .ok (.aload_n 0, 1) := by decide +kernel
theorem dX11_turn_37 : decode cX11_turn 37 = .ok (.getfield 71, 3) := by decide +kernel
theorem dX11_turn_40 : decode cX11_turn 40 = .ok (.invokevirtual 113, 3) := by decide +kernel
theorem dX11_turn_43 : decode cX11_turn 43 = .ok (.if_icmp .ge 29, 3) := by decide +kernel
theorem dX11_turn_46 : decode cX11_turn 46 = .ok (.aload_n 0, 1) := by decide +kernel
theorem dX11_turn_47 : decode cX11_turn 47 = .ok (.aload_n 0, 1) := by decide +kernel
theorem dX11_turn_48 : decode cX11_turn 48 = .ok (.getfield 71, 3) := by decide +kernel
theorem dX11_turn_51 : decode cX11_turn 51 = .ok (.iload_n 2, 1) := by decide +kernel
theorem dX11_turn_52 : decode cX11_turn 52 = .ok (.invokevirtual 121, 3) := by decide +kernel
theorem dX11_turn_55 : decode cX11_turn 55 = .ok (.aload_n 0, 1) := by decide +kernel
theorem dX11_turn_56 : decode cX11_turn 56 = .ok (.getfield 26, 3) := by decide +kernel
theorem dX11_turn_59 : decode cX11_turn 59 = .ok (.iload_n 2, 1) := by decide +kernel
theorem dX11_turn_60 : decode cX11_turn 60 = .ok (.invokevirtual 125, 3) := by decide +kernel
theorem dX11_turn_63 : decode cX11_turn 63 = .ok (.invokevirtual 129, 3) := by decide +kernel
theorem dX11_turn_66 : decode cX11_turn 66 = .ok (.iinc 2 1, 3) := by decide +kernel
theorem dX11_turn_69 : decode cX11_turn 69 = .ok (.goto (-34), 3) := by decide +kernel
theorem dX11_turn_72 : decode cX11_turn 72 = .ok (.aload_n 0, 1) := by decide +kernel
theorem dX11_turn_73 : decode cX11_turn 73 = .ok (.getfield 68, 3) := by decide +kernel
theorem dX11_turn_76 : decode cX11_turn 76 = .ok (.astore_n 2, 1) := by decide +kernel
theorem dX11_turn_77 : decode cX11_turn 77 = .ok (.aload_n 0, 1) := by decide +kernel
theorem dX11_turn_78 : decode cX11_turn 78 = .ok (.aload_n 0, 1) := by decide +kernel
theorem dX11_turn_79 : decode cX11_turn 79 = .ok (.getfield 71, 3) := by decide +kernel
theorem dX11_turn_82 : decode cX11_turn 82 = .ok (.putfield 68, 3) := by decide +kernel
theorem dX11_turn_85 : decode cX11_turn 85 = .ok (.aload_n 0, 1) := by decide +kernel
theorem dX11_turn_86 : decode cX11_turn 86 = .ok (.aload_n 2, 1) := by decide +kernel
theorem dX11_turn_87 : decode cX11_turn 87 = .ok (.putfield 71, 3) := by decide +kernel
theorem dX11_turn_90 : decode cX11_turn 90 = .ok (.aload_n 0, 1) := by decide +kernel
theorem dX11_turn_91 : decode cX11_turn 91 = .ok (.getfield 71, 3) := by decide +kernel
theorem dX11_turn_94 : decode cX11_turn 94 = .ok (.invokevirtual 116, 3) := by decide +kernel
theorem dX11_turn_97 : decode cX11_turn 97 = .ok (.iload_n 1, 1) := by decide +kernel
theorem dX11_turn_98 : decode cX11_turn 98 = .ok (.ireturn, 1) := by decide +kernel
theorem dX11_of_0 : decode cX11_of 0 = .ok (.aload_n 0, 1) := by decide +kernel
theorem dX11_of_1 : decode cX11_of 1 = .ok (.getfield 68, 3) := by decide +kernel
theorem dX11_of_4 : decode cX11_of 4 = .ok (.iload_n 1, 1) := by decide +kernel
theorem dX11_of_5 : decode cX11_of 5 = .ok (.invokevirtual 121, 3) := by decide +kernel
theorem dX11_of_8 : decode cX11_of 8 = .ok (.astore_n 3, 1) := by decide +kernel
theorem dX11_of_9 : decode cX11_of 9 = .ok (.aload_n 3, 1) := by decide +kernel
theorem dX11_of_10 : decode cX11_of 10 = .ok (.ifnonnull 5, 3) := by decide +kernel
theorem dX11_of_13 : decode cX11_of 13 = .ok (.iconst (-1), 1) := by decide +kernel
theorem dX11_of_14 : decode cX11_of 14 = .ok (.ireturn, 1) := by decide +kernel
theorem dX11_of_15 : decode cX11_of 15 = .ok (.iload_n 2, 1) := by decide +kernel
theorem dX11_of_16 : decode cX11_of 16 = .ok (.ifCond .ne 8, 3) := by decide +kernel
theorem dX11_of_19 : decode cX11_of 19 = .ok (.aload_n 3, 1) := by decide +kernel
theorem dX11_of_20 : decode cX11_of 20 = .ok (.invokevirtual 133, 3) := by decide +kernel
theorem dX11_of_23 : decode cX11_of 23 = .ok (.ireturn, 1) := by decide +kernel
theorem dX11_of_24 : decode cX11_of 24 = .ok (.iload_n 2, 1) := by decide +kernel
theorem dX11_of_25 : decode cX11_of 25 = .ok (.iconst 1, 1) := by decide +kernel
theorem dX11_of_26 : decode cX11_of 26 = .ok (.if_icmp .ne 13, 3) := by decide +kernel
theorem dX11_of_29 : decode cX11_of 29 = .ok (.aload_n 3, 1) := by decide +kernel
theorem dX11_of_30 : decode cX11_of 30 = .ok (.invokevirtual 138, 3) := by decide +kernel
theorem dX11_of_33 : decode cX11_of 33 = .ok (.invokevirtual 94, 3) := by decide +kernel
theorem dX11_of_36 : decode cX11_of 36 = .ok (.goto 13, 3) := by decide +kernel
theorem dX11_of_39 : decode cX11_of 39 = .ok (.aload_n 3, 1) := by decide +kernel
theorem dX11_of_40 : decode cX11_of 40 = .ok (.invokevirtual 138, 3) := by decide +kernel
theorem dX11_of_43 : decode cX11_of 43 = .ok (.iload_n 2, 1) := by decide +kernel
theorem dX11_of_44 : decode cX11_of 44 = .ok (.bipush 10, 2) := by decide +kernel
theorem dX11_of_46 : decode cX11_of 46 = .ok (.invokevirtual 142, 3) := by decide +kernel
theorem dX11_of_49 : decode cX11_of 49 = .ok (.ireturn, 1) := by decide +kernel
theorem dX11_far_0 : decode cX11_far 0 = .ok (.aload_n 0, 1) := by decide +kernel
theorem dX11_far_1 : decode cX11_far 1 = .ok (.getfield 68, 3) := by decide +kernel
theorem dX11_far_4 : decode cX11_far 4 = .ok (.iload_n 1, 1) := by decide +kernel
theorem dX11_far_5 : decode cX11_far 5 = .ok (.invokevirtual 121, 3) := by decide +kernel
theorem dX11_far_8 : decode cX11_far 8 = .ok (.astore_n 3, 1) := by decide +kernel
theorem dX11_far_9 : decode cX11_far 9 = .ok (.aload_n 0, 1) := by decide +kernel
theorem dX11_far_10 : decode cX11_far 10 = .ok (.getfield 68, 3) := by decide +kernel
theorem dX11_far_13 : decode cX11_far 13 = .ok (.iload_n 2, 1) := by decide +kernel
theorem dX11_far_14 : decode cX11_far 14 = .ok (.invokevirtual 121, 3) := by decide +kernel
theorem dX11_far_17 : decode cX11_far 17 = .ok (.astore 4, 2) := by decide +kernel
theorem dX11_far_19 : decode cX11_far 19 = .ok (.aload_n 3, 1) := by decide +kernel
theorem dX11_far_20 : decode cX11_far 20 = .ok (.ifnull 8, 3) := by decide +kernel
theorem dX11_far_23 : decode cX11_far 23 = .ok (.aload 4, 2) := by decide +kernel
theorem dX11_far_25 : decode cX11_far 25 = .ok (.ifnonnull 5, 3) := by decide +kernel
theorem dX11_far_28 : decode cX11_far 28 = .ok (.iconst (-1), 1) := by decide +kernel
theorem dX11_far_29 : decode cX11_far 29 = .ok (.ireturn, 1) := by decide +kernel
theorem dX11_far_30 : decode cX11_far 30 = .ok (.aload_n 0, 1) := by decide +kernel
theorem dX11_far_31 : decode cX11_far 31 = .ok (.getfield 19, 3) := by decide +kernel
theorem dX11_far_34 : decode cX11_far 34 = .ok (.aload_n 3, 1) := by decide +kernel
theorem dX11_far_35 : decode cX11_far 35 = .ok (.invokevirtual 138, 3) := by decide +kernel
theorem dX11_far_38 : decode cX11_far 38 = .ok (.aload 4, 2) := by decide +kernel
theorem dX11_far_40 : decode cX11_far 40 = .ok (.invokevirtual 138, 3) := by decide +kernel
theorem dX11_far_43 : decode cX11_far 43 = .ok (.invokevirtual 146, 3) := by decide +kernel
theorem dX11_far_46 : decode cX11_far 46 = .ok (.ireturn, 1) := by decide +kernel
theorem dX11_from_0 : decode cX11_from 0 = .ok (.aload_n 0, 1) := by decide +kernel
theorem dX11_from_1 : decode cX11_from 1 = .ok (.getfield 68, 3) := by decide +kernel
theorem dX11_from_4 : decode cX11_from 4 = .ok (.iload_n 1, 1) := by decide +kernel
theorem dX11_from_5 : decode cX11_from 5 = .ok (.invokevirtual 121, 3) := by decide +kernel
theorem dX11_from_8 : decode cX11_from 8 = .ok (.astore_n 2, 1) := by decide +kernel
theorem dX11_from_9 : decode cX11_from 9 = .ok (.aload_n 2, 1) := by decide +kernel
theorem dX11_from_10 : decode cX11_from 10 = .ok (.ifnonnull 7, 3) := by decide +kernel
theorem dX11_from_13 : decode cX11_from 13 = .ok (.iconst (-1), 1) := by decide +kernel
theorem dX11_from_14 : decode cX11_from 14 = .ok (.goto 7, 3) := by decide +kernel
theorem dX11_from_17 : decode cX11_from 17 = .ok (.aload_n 2, 1) := by decide +kernel
theorem dX11_from_18 : decode cX11_from 18 = .ok (.invokevirtual 150, 3) := by decide +kernel
theorem dX11_from_21 : decode cX11_from 21 = .ok (.ireturn, 1) := by decide +kernel
theorem dX11_story_0 : decode cX11_story 0 = .ok (.aload_n 0, 1) := by decide +kernel
theorem dX11_story_1 : decode cX11_story 1 = .ok (.getfield 68, 3) := by decide +kernel
theorem dX11_story_4 : decode cX11_story 4 = .ok (.iload_n 1, 1) := by decide +kernel
theorem dX11_story_5 : decode cX11_story 5 = .ok (.invokevirtual 121, 3) := by decide +kernel
theorem dX11_story_8 : decode cX11_story 8 = .ok (.astore_n 2, 1) := by decide +kernel
theorem dX11_story_9 : decode cX11_story 9 = .ok (.aload_n 2, 1) := by decide +kernel
theorem dX11_story_10 : decode cX11_story 10 = .ok (.ifnonnull 7, 3) := by decide +kernel
theorem dX11_story_13 : decode cX11_story 13 = .ok (.iconst (-1), 1) := by decide +kernel
theorem dX11_story_14 : decode cX11_story 14 = .ok (.goto 8, 3) := by decide +kernel
theorem dX11_story_17 : decode cX11_story 17 = .ok (.aload_n 2, 1) := by decide +kernel
theorem dX11_story_18 : decode cX11_story 18 = .ok (.iload_n 1, 1) := by decide +kernel
theorem dX11_story_19 : decode cX11_story 19 = .ok (.invokevirtual 153, 3) := by decide +kernel
theorem dX11_story_22 : decode cX11_story 22 = .ok (.ireturn, 1) := by decide +kernel
theorem dX11_hand_0 : decode cX11_hand 0 = .ok (.iload_n 1, 1) := by decide +kernel
theorem dX11_hand_1 : decode cX11_hand 1 = .ok (.iconst 1, 1) := by decide +kernel
theorem dX11_hand_2 : decode cX11_hand 2 = .ok (.bipush 7, 2) := by decide +kernel
theorem dX11_hand_4 : decode cX11_hand 4 = .ok (.invokestatic 101, 3) := by decide +kernel
theorem dX11_hand_7 : decode cX11_hand 7 = .ok (.ifCond .eq 23, 3) := by decide +kernel
theorem dX11_hand_10 : decode cX11_hand 10 = .ok (.iload_n 2, 1) := by decide +kernel
theorem dX11_hand_11 : decode cX11_hand 11 = .ok (.iconst 0, 1) := by decide +kernel
theorem dX11_hand_12 : decode cX11_hand 12 = .ok (.bipush 20, 2) := by decide +kernel
theorem dX11_hand_14 : decode cX11_hand 14 = .ok (.invokestatic 101, 3) := by decide +kernel
theorem dX11_hand_17 : decode cX11_hand 17 = .ok (.ifCond .eq 13, 3) := by decide +kernel
theorem dX11_hand_20 : decode cX11_hand 20 = .ok (.iload_n 3, 1) := by decide +kernel
theorem dX11_hand_21 : decode cX11_hand 21 = .ok (.iconst 1, 1) := by decide +kernel
theorem dX11_hand_22 : decode cX11_hand 22 = .ok (.bipush 9, 2) := by decide +kernel
theorem dX11_hand_24 : decode cX11_hand 24 = .ok (.invokestatic 101, 3) := by decide +kernel
theorem dX11_hand_27 : decode cX11_hand 27 = .ok (.ifCond .ne 5, 3) := by decide +kernel
theorem dX11_hand_30 : decode cX11_hand 30 = .ok (.iconst (-1), 1) := by decide +kernel
theorem dX11_hand_31 : decode cX11_hand 31 = .ok (.ireturn, 1) := by decide +kernel
theorem dX11_hand_32 : decode cX11_hand 32 = .ok (.aload_n 0, 1) := by decide +kernel
theorem dX11_hand_33 : decode cX11_hand 33 = .ok (.getfield 40, 3) := by decide +kernel
theorem dX11_hand_36 : decode cX11_hand 36 = .ok (.invokevirtual 156, 3) := by decide +kernel
theorem dX11_hand_39 : decode cX11_hand 39 = .ok (.ifCond .eq 6, 3) := by decide +kernel
theorem dX11_hand_42 : decode cX11_hand 42 = .ok (.bipush (-2), 2) := by decide +kernel
theorem dX11_hand_44 : decode cX11_hand 44 = .ok (.ireturn, 1) := by decide +kernel
theorem dX11_hand_45 : decode cX11_hand 45 = .ok (.aload_n 0, 1) := by decide +kernel
theorem dX11_hand_46 : decode cX11_hand 46 = .ok (.getfield 40, 3) := by decide +kernel
theorem dX11_hand_49 : decode cX11_hand 49 = .ok (.iload_n 1, 1) := by decide +kernel
theorem dX11_hand_50 : decode cX11_hand 50 = .ok (.iload_n 2, 1) := by decide +kernel
theorem dX11_hand_51 : decode cX11_hand 51 = .ok (.iload_n 3, 1) := by decide +kernel
theorem dX11_hand_52 : decode cX11_hand 52 = .ok (.invokevirtual 157, 3) := by decide +kernel
theorem dX11_hand_55 : decode cX11_hand 55 = .ok (.aload_n 0, 1) := by decide +kernel
theorem dX11_hand_56 : decode cX11_hand 56 = .ok (.getfield 40, 3) := by decide +kernel
theorem dX11_hand_59 : decode cX11_hand 59 = .ok (.invokevirtual 160, 3) := by decide +kernel
theorem dX11_hand_62 : decode cX11_hand 62 = .ok (.iconst 1, 1) := by decide +kernel
theorem dX11_hand_63 : decode cX11_hand 63 = .ok (.isub, 1) := by decide +kernel
theorem dX11_hand_64 : decode cX11_hand 64 = .ok (.ireturn, 1) := by decide +kernel
theorem dX11_hours_0 : decode cX11_hours 0 = .ok (.aload_n 0, 1) := by decide +kernel
theorem dX11_hours_1 : decode cX11_hours 1 = .ok (.getfield 40, 3) := by decide +kernel
theorem dX11_hours_4 : decode cX11_hours 4 = .ok (.iload_n 1, 1) := by decide +kernel
theorem dX11_hours_5 : decode cX11_hours 5 = .ok (.invokevirtual 161, 3) := by decide +kernel
theorem dX11_hours_8 : decode cX11_hours 8 = .ok (.ifCond .eq 13, 3) := by decide +kernel
theorem dX11_hours_11 : decode cX11_hours 11 = .ok (.iload_n 2, 1) := by decide +kernel
theorem dX11_hours_12 : decode cX11_hours 12 = .ok (.iconst 0, 1) := by decide +kernel
theorem dX11_hours_13 : decode cX11_hours 13 = .ok (.bipush 20, 2) := by decide +kernel
theorem dX11_hours_15 : decode cX11_hours 15 = .ok (.invokestatic 101, 3) := by decide +kernel
theorem dX11_hours_18 : decode cX11_hours 18 = .ok (.ifCond .ne 5, 3) := by decide +kernel
theorem dX11_hours_21 : decode cX11_hours 21 = .ok (.iconst (-1), 1) := by decide +kernel
theorem dX11_hours_22 : decode cX11_hours 22 = .ok (.ireturn, 1) := by decide +kernel
theorem dX11_hours_23 : decode cX11_hours 23 = .ok (.aload_n 0, 1) := by decide +kernel
theorem dX11_hours_24 : decode cX11_hours 24 = .ok (.getfield 40, 3) := by decide +kernel
theorem dX11_hours_27 : decode cX11_hours 27 = .ok (.iload_n 1, 1) := by decide +kernel
theorem dX11_hours_28 : decode cX11_hours 28 = .ok (.invokevirtual 164, 3) := by decide +kernel
theorem dX11_hours_31 : decode cX11_hours 31 = .ok (.istore_n 3, 1) := by decide +kernel
theorem dX11_hours_32 : decode cX11_hours 32 = .ok (.aload_n 0, 1) := by decide +kernel
theorem dX11_hours_33 : decode cX11_hours 33 = .ok (.getfield 40, 3) := by decide +kernel
theorem dX11_hours_36 : decode cX11_hours 36 = .ok (.iload_n 1, 1) := by decide +kernel
theorem dX11_hours_37 : decode cX11_hours 37 = .ok (.iload_n 2, 1) := by decide +kernel
theorem dX11_hours_38 : decode cX11_hours 38 = .ok (.invokevirtual 167, 3) := by decide +kernel
theorem dX11_hours_41 : decode cX11_hours 41 = .ok (.iload_n 3, 1) := by decide +kernel
theorem dX11_hours_42 : decode cX11_hours 42 = .ok (.ireturn, 1) := by decide +kernel
theorem dX11_term_0 : decode cX11_term 0 = .ok (.iload_n 1, 1) := by decide +kernel
theorem dX11_term_1 : decode cX11_term 1 = .ok (.invokestatic 171, 3) := by decide +kernel
theorem dX11_term_4 : decode cX11_term 4 = .ok (.ifCond .eq 17, 3) := by decide +kernel
theorem dX11_term_7 : decode cX11_term 7 = .ok (.iload_n 2, 1) := by decide +kernel
theorem dX11_term_8 : decode cX11_term 8 = .ok (.invokestatic 174, 3) := by decide +kernel
theorem dX11_term_11 : decode cX11_term 11 = .ok (.ifCond .eq 10, 3) := by decide +kernel
theorem dX11_term_14 : decode cX11_term 14 = .ok (.iload_n 3, 1) := by decide +kernel
theorem dX11_term_15 : decode cX11_term 15 = .ok (.invokestatic 177, 3) := by decide +kernel
theorem dX11_term_18 : decode cX11_term 18 = .ok (.ifCond .ne 5, 3) := by decide +kernel
theorem dX11_term_21 : decode cX11_term 21 = .ok (.iconst (-1), 1) := by decide +kernel
theorem dX11_term_22 : decode cX11_term 22 = .ok (.ireturn, 1) := by decide +kernel
theorem dX11_term_23 : decode cX11_term 23 = .ok (.aload_n 0, 1) := by decide +kernel
theorem dX11_term_24 : decode cX11_term 24 = .ok (.getfield 47, 3) := by decide +kernel
theorem dX11_term_27 : decode cX11_term 27 = .ok (.invokevirtual 180, 3) := by decide +kernel
theorem dX11_term_30 : decode cX11_term 30 = .ok (.ifCond .eq 18, 3) := by decide +kernel
theorem dX11_term_33 : decode cX11_term 33 = .ok (.aload_n 0, 1) := by decide +kernel
theorem dX11_term_34 : decode cX11_term 34 = .ok (.getfield 47, 3) := by decide +kernel
theorem dX11_term_37 : decode cX11_term 37 = .ok (.iload_n 1, 1) := by decide +kernel
theorem dX11_term_38 : decode cX11_term 38 = .ok (.iload_n 2, 1) := by decide +kernel
theorem dX11_term_39 : decode cX11_term 39 = .ok (.invokevirtual 181, 3) := by decide +kernel
theorem dX11_term_42 : decode cX11_term 42 = .ok (.ifCond .ne 6, 3) := by decide +kernel
theorem dX11_term_45 : decode cX11_term 45 = .ok (.bipush (-2), 2) := by decide +kernel
theorem dX11_term_47 : decode cX11_term 47 = .ok (.ireturn, 1) := by decide +kernel
theorem dX11_term_48 : decode cX11_term 48 = .ok (.aload_n 0, 1) := by decide +kernel
theorem dX11_term_49 : decode cX11_term 49 = .ok (.getfield 47, 3) := by decide +kernel
theorem dX11_term_52 : decode cX11_term 52 = .ok (.iload_n 1, 1) := by decide +kernel
theorem dX11_term_53 : decode cX11_term 53 = .ok (.iload_n 2, 1) := by decide +kernel
theorem dX11_term_54 : decode cX11_term 54 = .ok (.iload_n 3, 1) := by decide +kernel
theorem dX11_term_55 : decode cX11_term 55 = .ok (.invokevirtual 183, 3) := by decide +kernel
theorem dX11_term_58 : decode cX11_term 58 = .ok (.aload_n 0, 1) := by decide +kernel
theorem dX11_term_59 : decode cX11_term 59 = .ok (.getfield 47, 3) := by decide +kernel
theorem dX11_term_62 : decode cX11_term 62 = .ok (.invokevirtual 186, 3) := by decide +kernel
theorem dX11_term_65 : decode cX11_term 65 = .ok (.ireturn, 1) := by decide +kernel
theorem dX11_forget_0 : decode cX11_forget 0 = .ok (.iload_n 1, 1) := by decide +kernel
theorem dX11_forget_1 : decode cX11_forget 1 = .ok (.invokestatic 171, 3) := by decide +kernel
