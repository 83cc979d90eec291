theorem dX12_term_86 : decode cX12_term 86 = .ok (.iload_n 3, 1) := by decide +kernel
theorem dX12_term_87 : decode cX12_term 87 = .ok (.iastore, 1) := by decide +kernel
theorem dX12_term_88 : decode cX12_term 88 = .ok (.aload_n 0, 1) := by decide +kernel
theorem dX12_term_89 : decode cX12_term 89 = .ok (.getfield 184, 3) := by decide +kernel
theorem dX12_term_92 : decode cX12_term 92 = .ok (.ireturn, 1) := by decide +kernel
theorem dX12_forget_0 : decode cX12_forget 0 = .ok (.iload_n 1, 1) := by decide +kernel
theorem dX12_forget_1 : decode cX12_forget 1 = .ok (.invokestatic 138, 3) := by decide +kernel
theorem dX12_forget_4 : decode cX12_forget 4 = .ok (.ifCond .eq 10, 3) := by decide +kernel
theorem dX12_forget_7 : decode cX12_forget 7 = .ok (.iload_n 2, 1) := by decide +kernel
theorem dX12_forget_8 : decode cX12_forget 8 = .ok (.invokestatic 187, 3) := by decide +kernel
theorem dX12_forget_11 : decode cX12_forget 11 = .ok (.ifCond .ne 5, 3) := by decide +kernel
theorem dX12_forget_14 : decode cX12_forget 14 = .ok (.iconst (-1), 1) := by decide +kernel
theorem dX12_forget_15 : decode cX12_forget 15 = .ok (.ireturn, 1) := by decide +kernel
theorem dX12_forget_16 : decode cX12_forget 16 = .ok (.aload_n 0, 1) := by decide +kernel
theorem dX12_forget_17 : decode cX12_forget 17 = .ok (.iload_n 1, 1) := by decide +kernel
theorem dX12_forget_18 : decode cX12_forget 18 = .ok (.iload_n 2, 1) := by decide +kernel
theorem dX12_forget_19 : decode cX12_forget 19 = .ok (.invokevirtual 190, 3) := by decide +kernel
theorem dX12_forget_22 : decode cX12_forget 22 = .ok (.istore_n 3, 1) := by decide +kernel
theorem dX12_forget_23 : decode cX12_forget 23 = .ok (.iload_n 3, 1) := by decide +kernel
theorem dX12_forget_24 : decode cX12_forget 24 = .ok (.ifCond .ge 6, 3) := by decide +kernel
theorem dX12_forget_27 : decode cX12_forget 27 = .ok (.bipush (-5), 2) := by decide +kernel
theorem dX12_forget_29 : decode cX12_forget 29 = .ok (.ireturn, 1) := by decide +kernel
theorem dX12_forget_30 : decode cX12_forget 30 = .ok (.aload_n 0, 1) := by decide +kernel
theorem dX12_forget_31 : decode cX12_forget 31 = .ok (.dup, 1) := by decide +kernel
theorem dX12_forget_32 : decode cX12_forget 32 = .ok (.getfield 184, 3) := by decide +kernel
theorem dX12_forget_35 : decode cX12_forget 35 = .ok (.iconst 1, 1) := by decide +kernel
theorem dX12_forget_36 : decode cX12_forget 36 = .ok (.isub, 1) := by decide +kernel
theorem dX12_forget_37 : decode cX12_forget 37 = .ok (.putfield 184, 3) := by decide +kernel
theorem dX12_forget_40 : decode cX12_forget 40 = .ok (.aload_n 0, 1) := by decide +kernel
theorem dX12_forget_41 : decode cX12_forget 41 = .ok (.getfield 58, 3) := by decide +kernel
theorem dX12_forget_44 : decode cX12_forget 44 = .ok (.iload_n 3, 1) := by decide +kernel
theorem dX12_forget_45 : decode cX12_forget 45 = .ok (.aload_n 0, 1) := by decide +kernel
theorem dX12_forget_46 : decode cX12_forget 46 = .ok (.getfield 58, 3) := by decide +kernel
theorem dX12_forget_49 : decode cX12_forget 49 = .ok (.aload_n 0, 1) := by decide +kernel
theorem dX12_forget_50 : decode cX12_forget 50 = .ok (.getfield 184, 3) := by decide +kernel
theorem dX12_forget_53 : decode cX12_forget 53 = .ok (.iaload, 1) := by decide +kernel
theorem dX12_forget_54 : decode cX12_forget 54 = .ok (.iastore, 1) := by decide +kernel
theorem dX12_forget_55 : decode cX12_forget 55 = .ok (.aload_n 0, 1) := by decide +kernel
theorem dX12_forget_56 : decode cX12_forget 56 = .ok (.getfield 61, 3) := by decide +kernel
theorem dX12_forget_59 : decode cX12_forget 59 = .ok (.iload_n 3, 1) := by decide +kernel
theorem dX12_forget_60 : decode cX12_forget 60 = .ok (.aload_n 0, 1) := by decide +kernel
theorem dX12_forget_61 : decode cX12_forget 61 = .ok (.getfield 61, 3) := by decide +kernel
theorem dX12_forget_64 : decode cX12_forget 64 = .ok (.aload_n 0, 1) := by decide +kernel
theorem dX12_forget_65 : decode cX12_forget 65 = .ok (.getfield 184, 3) := by decide +kernel
theorem dX12_forget_68 : decode cX12_forget 68 = .ok (.iaload, 1) := by decide +kernel
theorem dX12_forget_69 : decode cX12_forget 69 = .ok (.iastore, 1) := by decide +kernel
theorem dX12_forget_70 : decode cX12_forget 70 = .ok (.aload_n 0, 1) := by decide +kernel
theorem dX12_forget_71 : decode cX12_forget 71 = .ok (.getfield 64, 3) := by decide +kernel
theorem dX12_forget_74 : decode cX12_forget 74 = .ok (.iload_n 3, 1) := by decide +kernel
theorem dX12_forget_75 : decode cX12_forget 75 = .ok (.aload_n 0, 1) := by decide +kernel
theorem dX12_forget_76 : decode cX12_forget 76 = .ok (.getfield 64, 3) := by decide +kernel
theorem dX12_forget_79 : decode cX12_forget 79 = .ok (.aload_n 0, 1) := by decide +kernel
theorem dX12_forget_80 : decode cX12_forget 80 = .ok (.getfield 184, 3) := by decide +kernel
theorem dX12_forget_83 : decode cX12_forget 83 = .ok (.iaload, 1) := by decide +kernel
theorem dX12_forget_84 : decode cX12_forget 84 = .ok (.iastore, 1) := by decide +kernel
theorem dX12_forget_85 : decode cX12_forget 85 = .ok (.aload_n 0, 1) := by decide +kernel
theorem dX12_forget_86 : decode cX12_forget 86 = .ok (.getfield 184, 3) := by decide +kernel
theorem dX12_forget_89 : decode cX12_forget 89 = .ok (.ireturn, 1) := by decide +kernel
theorem dX12_areThree_0 : decode cX12_areThree 0 = .ok (.aload_n 0, 1) := by decide +kernel
theorem dX12_areThree_1 : decode cX12_areThree 1 = .ok (.iload_n 1, 1) := by decide +kernel
theorem dX12_areThree_2 : decode cX12_areThree 2 = .ok (.invokevirtual 178, 3) := by decide +kernel
theorem dX12_areThree_5 : decode cX12_areThree 5 = .ok (.ifCond .eq 22, 3) := by decide +kernel
theorem dX12_areThree_8 : decode cX12_areThree 8 = .ok (.iload_n 2, 1) := by decide +kernel
theorem dX12_areThree_9 : decode cX12_areThree 9 = .ok (.invokestatic 187, 3) := by decide +kernel
theorem dX12_areThree_12 : decode cX12_areThree 12 = .ok (.ifCond .eq 15, 3) := by decide +kernel
theorem dX12_areThree_15 : decode cX12_areThree 15 = .ok (.aload_n 0, 1) := by decide +kernel
theorem dX12_areThree_16 : decode cX12_areThree 16 = .ok (.iload_n 3, 1) := by decide +kernel
theorem dX12_areThree_17 : decode cX12_areThree 17 = .ok (.invokevirtual 181, 3) := by decide +kernel
theorem dX12_areThree_20 : decode cX12_areThree 20 = .ok (.ifCond .eq 7, 3) := by decide +kernel
theorem dX12_areThree_23 : decode cX12_areThree 23 = .ok (.iconst 1, 1) := by decide +kernel
theorem dX12_areThree_24 : decode cX12_areThree 24 = .ok (.goto 4, 3) := by decide +kernel
theorem dX12_areThree_27 : decode cX12_areThree 27 = .ok (.iconst 0, 1) := by decide +kernel
theorem dX12_areThree_28 : decode cX12_areThree 28 = .ok (.ireturn, 1) := by decide +kernel
theorem dX12_write_0 : decode cX12_write 0 = .ok (.aload_n 0, 1) := by decide +kernel
theorem dX12_write_1 : decode cX12_write 1 = .ok (.iload_n 1, 1) := by decide +kernel
theorem dX12_write_2 : decode cX12_write 2 = .ok (.iload_n 2, 1) := by decide +kernel
theorem dX12_write_3 : decode cX12_write 3 = .ok (.iload_n 3, 1) := by decide +kernel
theorem dX12_write_4 : decode cX12_write 4 = .ok (.invokevirtual 193, 3) := by decide +kernel
theorem dX12_write_7 : decode cX12_write 7 = .ok (.ifCond .ne 5, 3) := by decide +kernel
theorem dX12_write_10 : decode cX12_write 10 = .ok (.iconst (-1), 1) := by decide +kernel
theorem dX12_write_11 : decode cX12_write 11 = .ok (.ireturn, 1) := by decide +kernel
theorem dX12_write_12 : decode cX12_write 12 = .ok (.aload_n 0, 1) := by decide +kernel
theorem dX12_write_13 : decode cX12_write 13 = .ok (.getfield 13, 3) := by decide +kernel
theorem dX12_write_16 : decode cX12_write 16 = .ok (.iload_n 1, 1) := by decide +kernel
theorem dX12_write_17 : decode cX12_write 17 = .ok (.iaload, 1) := by decide +kernel
theorem dX12_write_18 : decode cX12_write 18 = .ok (.iconst 1, 1) := by decide +kernel
theorem dX12_write_19 : decode cX12_write 19 = .ok (.if_icmp .eq 12, 3) := by decide +kernel
theorem dX12_write_22 : decode cX12_write 22 = .ok (.aload_n 0, 1) := by decide +kernel
theorem dX12_write_23 : decode cX12_write 23 = .ok (.iload_n 3, 1) := by decide +kernel
theorem dX12_write_24 : decode cX12_write 24 = .ok (.iload_n 2, 1) := by decide +kernel
theorem dX12_write_25 : decode cX12_write 25 = .ok (.invokevirtual 196, 3) := by decide +kernel
theorem dX12_write_28 : decode cX12_write 28 = .ok (.ifCond .ne 6, 3) := by decide +kernel
theorem dX12_write_31 : decode cX12_write 31 = .ok (.bipush (-3), 2) := by decide +kernel
theorem dX12_write_33 : decode cX12_write 33 = .ok (.ireturn, 1) := by decide +kernel
theorem dX12_write_34 : decode cX12_write 34 = .ok (.aload_n 0, 1) := by decide +kernel
theorem dX12_write_35 : decode cX12_write 35 = .ok (.getfield 148, 3) := by decide +kernel
theorem dX12_write_38 : decode cX12_write 38 = .ok (.ifCond .ne 6, 3) := by decide +kernel
theorem dX12_write_41 : decode cX12_write 41 = .ok (.bipush (-6), 2) := by decide +kernel
theorem dX12_write_43 : decode cX12_write 43 = .ok (.ireturn, 1) := by decide +kernel
theorem dX12_write_44 : decode cX12_write 44 = .ok (.aload_n 0, 1) := by decide +kernel
theorem dX12_write_45 : decode cX12_write 45 = .ok (.invokevirtual 200, 3) := by decide +kernel
theorem dX12_write_48 : decode cX12_write 48 = .ok (.ifCond .eq 6, 3) := by decide +kernel
theorem dX12_write_51 : decode cX12_write 51 = .ok (.bipush (-3), 2) := by decide +kernel
theorem dX12_write_53 : decode cX12_write 53 = .ok (.ireturn, 1) := by decide +kernel
theorem dX12_write_54 : decode cX12_write 54 = .ok (.iconst 3, 1) := by decide +kernel
theorem dX12_write_55 : decode cX12_write 55 = .ok (.iload_n 1, 1) := by decide +kernel
theorem dX12_write_56 : decode cX12_write 56 = .ok (.imul, 1) := by decide +kernel
theorem dX12_write_57 : decode cX12_write 57 = .ok (.iload_n 2, 1) := by decide +kernel
theorem dX12_write_58 : decode cX12_write 58 = .ok (.iadd, 1) := by decide +kernel
theorem dX12_write_59 : decode cX12_write 59 = .ok (.istore 4, 2) := by decide +kernel
theorem dX12_write_61 : decode cX12_write 61 = .ok (.aload_n 0, 1) := by decide +kernel
theorem dX12_write_62 : decode cX12_write 62 = .ok (.getfield 148, 3) := by decide +kernel
theorem dX12_write_65 : decode cX12_write 65 = .ok (.istore 5, 2) := by decide +kernel
theorem dX12_write_67 : decode cX12_write 67 = .ok (.aload_n 0, 1) := by decide +kernel
theorem dX12_write_68 : decode cX12_write 68 = .ok (.getfield 37, 3) := by decide +kernel
theorem dX12_write_71 : decode cX12_write 71 = .ok (.iload 4, 2) := by decide +kernel
theorem dX12_write_73 : decode cX12_write 73 = .ok (.iconst 1, 1) := by decide +kernel
theorem dX12_write_74 : decode cX12_write 74 = .ok (.iastore, 1) := by decide +kernel
theorem dX12_write_75 : decode cX12_write 75 = .ok (.aload_n 0, 1) := by decide +kernel
theorem dX12_write_76 : decode cX12_write 76 = .ok (.getfield 40, 3) := by decide +kernel
theorem dX12_write_79 : decode cX12_write 79 = .ok (.iload 4, 2) := by decide +kernel
theorem dX12_write_81 : decode cX12_write 81 = .ok (.iload_n 3, 1) := by decide +kernel
theorem dX12_write_82 : decode cX12_write 82 = .ok (.iastore, 1) := by decide +kernel
theorem dX12_write_83 : decode cX12_write 83 = .ok (.aload_n 0, 1) := by decide +kernel
theorem dX12_write_84 : decode cX12_write 84 = .ok (.getfield 43, 3) := by decide +kernel
theorem dX12_write_87 : decode cX12_write 87 = .ok (.iload 4, 2) := by decide +kernel
theorem dX12_write_89 : decode cX12_write 89 = .ok (.iload 5, 2) := by decide +kernel
theorem dX12_write_91 : decode cX12_write 91 = .ok (.iastore, 1) := by decide +kernel
theorem dX12_write_92 : decode cX12_write 92 = .ok (.iconst 0, 1) := by decide +kernel
theorem dX12_write_93 : decode cX12_write 93 = .ok (.istore 6, 2) := by decide +kernel
theorem dX12_write_95 : decode cX12_write 95 = .ok (.iload 6, 2) := by decide +kernel
theorem dX12_write_97 : decode cX12_write 97 = .ok (.iload 5, 2) := by decide +kernel
theorem dX12_write_99 : decode cX12_write 99 = .ok (.if_icmp .ge 29, 3) := by decide +kernel
theorem dX12_write_102 : decode cX12_write 102 = .ok (.aload_n 0, 1) := by decide +kernel
theorem dX12_write_103 : decode cX12_write 103 = .ok (.getfield 46, 3) := by decide +kernel
theorem dX12_write_106 : decode cX12_write 106 = .ok (.bipush 10, 2) := by decide +kernel
theorem dX12_write_108 : decode cX12_write 108 = .ok (.iload 4, 2) := by decide +kernel
theorem dX12_write_110 : decode cX12_write 110 = .ok (.imul, 1) := by decide +kernel
theorem dX12_write_111 : decode cX12_write 111 = .ok (.iload 6, 2) := by decide +kernel
theorem dX12_write_113 : decode cX12_write 113 = .ok (.iadd, 1) := by decide +kernel
theorem dX12_write_114 : decode cX12_write 114 = .ok (.aload_n 0, 1) := by decide +kernel
theorem dX12_write_115 : decode cX12_write 115 = .ok (.getfield 7, 3) := by decide +kernel
theorem dX12_write_118 : decode cX12_write 118 = .ok (.iload 6, 2) := by decide +kernel
theorem dX12_write_120 : decode cX12_write 120 = .ok (.iaload, 1) := by decide +kernel
theorem dX12_write_121 : decode cX12_write 121 = .ok (.iastore, 1) := by decide +kernel
theorem dX12_write_122 : decode cX12_write 122 = .ok (.iinc 6 1, 3) := by decide +kernel
theorem dX12_write_125 : decode cX12_write 125 = .ok (.goto (-30), 3) := by decide +kernel
theorem dX12_write_128 : decode cX12_write 128 = .ok (.aload_n 0, 1) := by decide +kernel
theorem dX12_write_129 : decode cX12_write 129 = .ok (.iconst 0, 1) := by decide +kernel
theorem dX12_write_130 : decode cX12_write 130 = .ok (.putfield 148, 3) := by decide +kernel
theorem dX12_write_133 : decode cX12_write 133 = .ok (.iload 5, 2) := by decide +kernel
theorem dX12_write_135 : decode cX12_write 135 = .ok (.ireturn, 1) := by decide +kernel
theorem dX12_often_0 : decode cX12_often 0 = .ok (.iconst 0, 1) := by decide +kernel
theorem dX12_often_1 : decode cX12_often 1 = .ok (.istore 4, 2) := by decide +kernel
theorem dX12_often_3 : decode cX12_often 3 = .ok (.iconst 0, 1) := by decide +kernel
theorem dX12_often_4 : decode cX12_often 4 = .ok (.istore 5, 2) := by decide +kernel
theorem dX12_often_6 : decode cX12_often 6 = .ok (.iload 5, 2) := by decide +kernel
theorem dX12_often_8 : decode cX12_often 8 = .ok (.iload_n 2, 1) := by decide +kernel
theorem dX12_often_9 : decode cX12_often 9 = .ok (.if_icmp .ge 29, 3) := by decide +kernel
theorem dX12_often_12 : decode cX12_often 12 = .ok (.iload 4, 2) := by decide +kernel
theorem dX12_often_14 : decode cX12_often 14 = .ok (.aload_n 0, 1) := by decide +kernel
theorem dX12_often_15 : decode cX12_often 15 = .ok (.iload_n 1, 1) := by decide +kernel
theorem dX12_often_16 : decode cX12_often 16 = .ok (.iload 5, 2) := by decide +kernel
theorem dX12_often_18 : decode cX12_often 18 = .ok (.iadd, 1) := by decide +kernel
theorem dX12_often_19 : decode cX12_often 19 = .ok (.iaload, 1) := by decide +kernel
theorem dX12_often_20 : decode cX12_often 20 = .ok (.iload_n 3, 1) := by decide +kernel
theorem dX12_often_21 : decode cX12_often 21 = .ok (.if_icmp .ne 7, 3) := by decide +kernel
theorem dX12_often_24 : decode cX12_often 24 = .ok (.iconst 1, 1) := by decide +kernel
theorem dX12_often_25 : decode cX12_often 25 = .ok (.goto 4, 3) := by decide +kernel
theorem dX12_often_28 : decode cX12_often 28 = .ok (.iconst 0, 1) := by decide +kernel
theorem dX12_often_29 : decode cX12_often 29 = .ok (.iadd, 1) := by decide +kernel
theorem dX12_often_30 : decode cX12_often 30 = .ok (.istore 4, 2) := by decide +kernel
theorem dX12_often_32 : decode cX12_often 32 = .ok (.iinc 5 1, 3) := by decide +kernel
theorem dX12_often_35 : decode cX12_often 35 = .ok (.goto (-29), 3) := by decide +kernel
theorem dX12_often_38 : decode cX12_often 38 = .ok (.iload 4, 2) := by decide +kernel
theorem dX12_often_40 : decode cX12_often 40 = .ok (.ireturn, 1) := by decide +kernel
theorem dX12_faultOf_0 : decode cX12_faultOf 0 = .ok (.iconst 3, 1) := by decide +kernel
theorem dX12_faultOf_1 : decode cX12_faultOf 1 = .ok (.iload_n 1, 1) := by decide +kernel
theorem dX12_faultOf_2 : decode cX12_faultOf 2 = .ok (.imul, 1) := by decide +kernel
theorem dX12_faultOf_3 : decode cX12_faultOf 3 = .ok (.iload_n 2, 1) := by decide +kernel
theorem dX12_faultOf_4 : decode cX12_faultOf 4 = .ok (.iadd, 1) := by decide +kernel
theorem dX12_faultOf_5 : decode cX12_faultOf 5 = .ok (.istore_n 3, 1) := by decide +kernel
theorem dX12_faultOf_6 : decode cX12_faultOf 6 = .ok (.bipush 100, 2) := by decide +kernel
theorem dX12_faultOf_8 : decode cX12_faultOf 8 = .ok (.istore 4, 2) := by decide +kernel
theorem dX12_faultOf_10 : decode cX12_faultOf 10 = .ok (.iload 4, 2) := by decide +kernel
theorem dX12_faultOf_12 : decode cX12_faultOf 12 = .ok (.bipush 104, 2) := by decide +kernel
theorem dX12_faultOf_14 : decode cX12_faultOf 14 = .ok (.if_icmp .ge 52, 3) := by decide +kernel
theorem dX12_faultOf_17 : decode cX12_faultOf 17 = .ok (.aload_n 0, 1) := by decide +kernel
theorem dX12_faultOf_18 : decode cX12_faultOf 18 = .ok (.getfield 46, 3) := by decide +kernel
theorem dX12_faultOf_21 : decode cX12_faultOf 21 = .ok (.bipush 10, 2) := by decide +kernel
theorem dX12_faultOf_23 : decode cX12_faultOf 23 = .ok (.iload_n 3, 1) := by decide +kernel
theorem dX12_faultOf_24 : decode cX12_faultOf 24 = .ok (.imul, 1) := by decide +kernel
theorem dX12_faultOf_25 : decode cX12_faultOf 25 = .ok (.aload_n 0, 1) := by decide +kernel
theorem dX12_faultOf_26 : decode cX12_faultOf 26 = .ok (.getfield 43, 3) := by decide +kernel
theorem dX12_faultOf_29 : decode cX12_faultOf 29 = .ok (.iload_n 3, 1) := by decide +kernel
theorem dX12_faultOf_30 : decode cX12_faultOf 30 = .ok (.iaload, 1) := by decide +kernel
theorem dX12_faultOf_31 : decode cX12_faultOf 31 = .ok (.iload 4, 2) := by decide +kernel
theorem dX12_faultOf_33 : decode cX12_faultOf 33 = .ok (.invokestatic 203, 3) := by decide +kernel
theorem dX12_faultOf_36 : decode cX12_faultOf 36 = .ok (.aload_n 0, 1) := by decide +kernel
theorem dX12_faultOf_37 : decode cX12_faultOf 37 = .ok (.getfield 19, 3) := by decide +kernel
theorem dX12_faultOf_40 : decode cX12_faultOf 40 = .ok (.bipush 8, 2) := by decide +kernel
theorem dX12_faultOf_42 : decode cX12_faultOf 42 = .ok (.iload_n 1, 1) := by decide +kernel
theorem dX12_faultOf_43 : decode cX12_faultOf 43 = .ok (.imul, 1) := by decide +kernel
theorem dX12_faultOf_44 : decode cX12_faultOf 44 = .ok (.aload_n 0, 1) := by decide +kernel
theorem dX12_faultOf_45 : decode cX12_faultOf 45 = .ok (.getfield 16, 3) := by decide +kernel
theorem dX12_faultOf_48 : decode cX12_faultOf 48 = .ok (.iload_n 1, 1) := by decide +kernel
theorem dX12_faultOf_49 : decode cX12_faultOf 49 = .ok (.iaload, 1) := by decide +kernel
theorem dX12_faultOf_50 : decode cX12_faultOf 50 = .ok (.iload 4, 2) := by decide +kernel
theorem dX12_faultOf_52 : decode cX12_faultOf 52 = .ok (.invokestatic 203, 3) := by decide +kernel
theorem dX12_faultOf_55 : decode cX12_faultOf 55 = .ok (.if_icmp .eq 5, 3) := by decide +kernel
theorem dX12_faultOf_58 : decode cX12_faultOf 58 = .ok (.iconst 1, 1) := by decide +kernel
theorem dX12_faultOf_59 : decode cX12_faultOf 59 = .ok (.ireturn, 1) := by decide +kernel
theorem dX12_faultOf_60 : decode cX12_faultOf 60 = .ok (.iinc 4 1, 3) := by decide +kernel
theorem dX12_faultOf_63 : decode cX12_faultOf 63 = .ok (.goto (-53), 3) := by decide +kernel
theorem dX12_faultOf_66 : decode cX12_faultOf 66 = .ok (.iconst 0, 1) := by decide +kernel
theorem dX12_faultOf_67 : decode cX12_faultOf 67 = .ok (.istore 4, 2) := by decide +kernel
theorem dX12_faultOf_69 : decode cX12_faultOf 69 = .ok (.iload 4, 2) := by decide +kernel
theorem dX12_faultOf_71 : decode cX12_faultOf 71 = .ok (.aload_n 0, 1) := by decide +kernel
theorem dX12_faultOf_72 : decode cX12_faultOf 72 = .ok (.getfield 16, 3) := by decide +kernel
theorem dX12_faultOf_75 : decode cX12_faultOf 75 = .ok (.iload_n 1, 1) := by decide +kernel
theorem dX12_faultOf_76 : decode cX12_faultOf 76 = .ok (.iaload, 1) := by decide +kernel
theorem dX12_faultOf_77 : decode cX12_faultOf 77 = .ok (.if_icmp .ge 84, 3) := by decide +kernel
theorem dX12_faultOf_80 : decode cX12_faultOf 80 = .ok (.aload_n 0, 1) := by decide +kernel
theorem dX12_faultOf_81 : decode cX12_faultOf 81 = .ok (.getfield 19, 3) := by decide +kernel
theorem dX12_faultOf_84 : decode cX12_faultOf 84 = .ok (.bipush 8, 2) := by decide +kernel
theorem dX12_faultOf_86 : decode cX12_faultOf 86 = .ok (.iload_n 1, 1) := by decide +kernel
theorem dX12_faultOf_87 : decode cX12_faultOf 87 = .ok (.imul, 1) := by decide +kernel
theorem dX12_faultOf_88 : decode cX12_faultOf 88 = .ok (.iload 4, 2) := by decide +kernel
theorem dX12_faultOf_90 : decode cX12_faultOf 90 = .ok (.iadd, 1) := by decide +kernel
theorem dX12_faultOf_91 : decode cX12_faultOf 91 = .ok (.iaload, 1) := by decide +kernel
theorem dX12_faultOf_92 : decode cX12_faultOf 92 = .ok (.invokestatic 138, 3) := by decide +kernel
theorem dX12_faultOf_95 : decode cX12_faultOf 95 = .ok (.ifCond .eq 23, 3) := by decide +kernel
theorem dX12_faultOf_98 : decode cX12_faultOf 98 = .ok (.aload_n 0, 1) := by decide +kernel
theorem dX12_faultOf_99 : decode cX12_faultOf 99 = .ok (.aload_n 0, 1) := by decide +kernel
theorem dX12_faultOf_100 : decode cX12_faultOf 100 = .ok (.getfield 19, 3) := by decide +kernel
theorem dX12_faultOf_103 : decode cX12_faultOf 103 = .ok (.bipush 8, 2) := by decide +kernel
theorem dX12_faultOf_105 : decode cX12_faultOf 105 = .ok (.iload_n 1, 1) := by decide +kernel
theorem dX12_faultOf_106 : decode cX12_faultOf 106 = .ok (.imul, 1) := by decide +kernel
theorem dX12_faultOf_107 : decode cX12_faultOf 107 = .ok (.iload 4, 2) := by decide +kernel
theorem dX12_faultOf_109 : decode cX12_faultOf 109 = .ok (.iadd, 1) := by decide +kernel
theorem dX12_faultOf_110 : decode cX12_faultOf 110 = .ok (.iaload, 1) := by decide +kernel
theorem dX12_faultOf_111 : decode cX12_faultOf 111 = .ok (.iload_n 2, 1) := by decide +kernel
theorem dX12_faultOf_112 : decode cX12_faultOf 112 = .ok (.invokevirtual 190, 3) := by decide +kernel
theorem dX12_faultOf_115 : decode cX12_faultOf 115 = .ok (.goto 4, 3) := by decide +kernel
theorem dX12_faultOf_118 : decode cX12_faultOf 118 = .ok (.iconst (-1), 1) := by decide +kernel
theorem dX12_faultOf_119 : decode cX12_faultOf 119 = .ok (.istore 5, 2) := by decide +kernel
theorem dX12_faultOf_121 : decode cX12_faultOf 121 = .ok (.iload 5, 2) := by decide +kernel
theorem dX12_faultOf_123 : decode cX12_faultOf 123 = .ok (.ifCond .lt 32, 3) := by decide +kernel
theorem dX12_faultOf_126 : decode cX12_faultOf 126 = .ok (.aload_n 0, 1) := by decide +kernel
theorem dX12_faultOf_127 : decode cX12_faultOf 127 = .ok (.getfield 46, 3) := by decide +kernel
theorem dX12_faultOf_130 : decode cX12_faultOf 130 = .ok (.bipush 10, 2) := by decide +kernel
theorem dX12_faultOf_132 : decode cX12_faultOf 132 = .ok (.iload_n 3, 1) := by decide +kernel
theorem dX12_faultOf_133 : decode cX12_faultOf 133 = .ok (.imul, 1) := by decide +kernel
theorem dX12_faultOf_134 : decode cX12_faultOf 134 = .ok (.aload_n 0, 1) := by decide +kernel
theorem dX12_faultOf_135 : decode cX12_faultOf 135 = .ok (.getfield 43, 3) := by decide +kernel
theorem dX12_faultOf_138 : decode cX12_faultOf 138 = .ok (.iload_n 3, 1) := by decide +kernel
theorem dX12_faultOf_139 : decode cX12_faultOf 139 = .ok (.iaload, 1) := by decide +kernel
theorem dX12_faultOf_140 : decode cX12_faultOf 140 = .ok (.aload_n 0, 1) := by decide +kernel
theorem dX12_faultOf_141 : decode cX12_faultOf 141 = .ok (.getfield 64, 3) := by decide +kernel
theorem dX12_faultOf_144 : decode cX12_faultOf 144 = .ok (.iload 5, 2) := by decide +kernel
theorem dX12_faultOf_146 : decode cX12_faultOf 146 = .ok (.iaload, 1) := by decide +kernel
theorem dX12_faultOf_147 : decode cX12_faultOf 147 = .ok (.invokestatic 203, 3) := by decide +kernel
theorem dX12_faultOf_150 : decode cX12_faultOf 150 = .ok (.ifCond .ne 5, 3) := by decide +kernel
theorem dX12_faultOf_153 : decode cX12_faultOf 153 = .ok (.iconst 2, 1) := by decide +kernel
theorem dX12_faultOf_154 : decode cX12_faultOf 154 = .ok (.ireturn, 1) := by decide +kernel
theorem dX12_faultOf_155 : decode cX12_faultOf 155 = .ok (.iinc 4 1, 3) := by decide +kernel
theorem dX12_faultOf_158 : decode cX12_faultOf 158 = .ok (.goto (-89), 3) := by decide +kernel
theorem dX12_faultOf_161 : decode cX12_faultOf 161 = .ok (.aload_n 0, 1) := by decide +kernel
theorem dX12_faultOf_162 : decode cX12_faultOf 162 = .ok (.getfield 13, 3) := by decide +kernel
theorem dX12_faultOf_165 : decode cX12_faultOf 165 = .ok (.iload_n 1, 1) := by decide +kernel
theorem dX12_faultOf_166 : decode cX12_faultOf 166 = .ok (.iaload, 1) := by decide +kernel
theorem dX12_faultOf_167 : decode cX12_faultOf 167 = .ok (.iconst 2, 1) := by decide +kernel
theorem dX12_faultOf_168 : decode cX12_faultOf 168 = .ok (.if_icmp .ne 20, 3) := by decide +kernel
theorem dX12_faultOf_171 : decode cX12_faultOf 171 = .ok (.aload_n 0, 1) := by decide +kernel
theorem dX12_faultOf_172 : decode cX12_faultOf 172 = .ok (.getfield 43, 3) := by decide +kernel
theorem dX12_faultOf_175 : decode cX12_faultOf 175 = .ok (.iload_n 3, 1) := by decide +kernel
theorem dX12_faultOf_176 : decode cX12_faultOf 176 = .ok (.iaload, 1) := by decide +kernel
theorem dX12_faultOf_177 : decode cX12_faultOf 177 = .ok (.aload_n 0, 1) := by decide +kernel
theorem dX12_faultOf_178 : decode cX12_faultOf 178 = .ok (.getfield 67, 3) := by decide +kernel
theorem dX12_faultOf_181 : decode cX12_faultOf 181 = .ok (.if_icmp .le 7, 3) := by decide +kernel
theorem dX12_faultOf_184 : decode cX12_faultOf 184 = .ok (.iconst 3, 1) := by decide +kernel
theorem dX12_faultOf_185 : decode cX12_faultOf 185 = .ok (.goto 4, 3) := by decide +kernel
theorem dX12_faultOf_188 : decode cX12_faultOf 188 = .ok (.iconst 0, 1) := by decide +kernel
theorem dX12_faultOf_189 : decode cX12_faultOf 189 = .ok (.ireturn, 1) := by decide +kernel
theorem dX12_isRemembered_0 : decode cX12_isRemembered 0 = .ok (.iconst 3, 1) := by decide +kernel
theorem dX12_isRemembered_1 : decode cX12_isRemembered 1 = .ok (.iload_n 1, 1) := by decide +kernel
theorem dX12_isRemembered_2 : decode cX12_isRemembered 2 = .ok (.imul, 1) := by decide +kernel
theorem dX12_isRemembered_3 : decode cX12_isRemembered 3 = .ok (.iload_n 2, 1) := by decide +kernel
theorem dX12_isRemembered_4 : decode cX12_isRemembered 4 = .ok (.iadd, 1) := by decide +kernel
theorem dX12_isRemembered_5 : decode cX12_isRemembered 5 = .ok (.istore_n 3, 1) := by decide +kernel
theorem dX12_isRemembered_6 : decode cX12_isRemembered 6 = .ok (.iconst 0, 1) := by decide +kernel
theorem dX12_isRemembered_7 : decode cX12_isRemembered 7 = .ok (.istore 4, 2) := by decide +kernel
theorem dX12_isRemembered_9 : decode cX12_isRemembered 9 = .ok (.iconst 0, 1) := by decide +kernel
theorem dX12_isRemembered_10 : decode cX12_isRemembered 10 = .ok (.istore 5, 2) := by decide +kernel
theorem dX12_isRemembered_12 : decode cX12_isRemembered 12 = .ok (.iload 5, 2) := by decide +kernel
theorem dX12_isRemembered_14 : decode cX12_isRemembered 14 = .ok (.aload_n 0, 1) := by decide +kernel
theorem dX12_isRemembered_15 : decode cX12_isRemembered 15 = .ok (.getfield 207, 3) := by decide +kernel
theorem dX12_isRemembered_18 : decode cX12_isRemembered 18 = .ok (.if_icmp .ge 206, 3) := by decide +kernel
theorem dX12_isRemembered_21 : decode cX12_isRemembered 21 = .ok (.bipush 21, 2) := by decide +kernel
theorem dX12_isRemembered_23 : decode cX12_isRemembered 23 = .ok (.iload 5, 2) := by decide +kernel
theorem dX12_isRemembered_25 : decode cX12_isRemembered 25 = .ok (.imul, 1) := by decide +kernel
theorem dX12_isRemembered_26 : decode cX12_isRemembered 26 = .ok (.istore 6, 2) := by decide +kernel
theorem dX12_isRemembered_28 : decode cX12_isRemembered 28 = .ok (.aload_n 0, 1) := by decide +kernel
theorem dX12_isRemembered_29 : decode cX12_isRemembered 29 = .ok (.getfield 71, 3) := by decide +kernel
theorem dX12_isRemembered_32 : decode cX12_isRemembered 32 = .ok (.iload 6, 2) := by decide +kernel
theorem dX12_isRemembered_34 : decode cX12_isRemembered 34 = .ok (.iaload, 1) := by decide +kernel
theorem dX12_isRemembered_35 : decode cX12_isRemembered 35 = .ok (.iload_n 2, 1) := by decide +kernel
theorem dX12_isRemembered_36 : decode cX12_isRemembered 36 = .ok (.if_icmp .ne 43, 3) := by decide +kernel
theorem dX12_isRemembered_39 : decode cX12_isRemembered 39 = .ok (.aload_n 0, 1) := by decide +kernel
theorem dX12_isRemembered_40 : decode cX12_isRemembered 40 = .ok (.getfield 71, 3) := by decide +kernel
theorem dX12_isRemembered_43 : decode cX12_isRemembered 43 = .ok (.iload 6, 2) := by decide +kernel
theorem dX12_isRemembered_45 : decode cX12_isRemembered 45 = .ok (.iconst 1, 1) := by decide +kernel
theorem dX12_isRemembered_46 : decode cX12_isRemembered 46 = .ok (.iadd, 1) := by decide +kernel
theorem dX12_isRemembered_47 : decode cX12_isRemembered 47 = .ok (.iaload, 1) := by decide +kernel
theorem dX12_isRemembered_48 : decode cX12_isRemembered 48 = .ok (.aload_n 0, 1) := by decide +kernel
theorem dX12_isRemembered_49 : decode cX12_isRemembered 49 = .ok (.getfield 16, 3) := by decide +kernel
theorem dX12_isRemembered_52 : decode cX12_isRemembered 52 = .ok (.iload_n 1, 1) := by decide +kernel
theorem dX12_isRemembered_53 : decode cX12_isRemembered 53 = .ok (.iaload, 1) := by decide +kernel
theorem dX12_isRemembered_54 : decode cX12_isRemembered 54 = .ok (.if_icmp .ne 25, 3) := by decide +kernel
theorem dX12_isRemembered_57 : decode cX12_isRemembered 57 = .ok (.aload_n 0, 1) := by decide +kernel
theorem dX12_isRemembered_58 : decode cX12_isRemembered 58 = .ok (.getfield 71, 3) := by decide +kernel
theorem dX12_isRemembered_61 : decode cX12_isRemembered 61 = .ok (.iload 6, 2) := by decide +kernel
theorem dX12_isRemembered_63 : decode cX12_isRemembered 63 = .ok (.iconst 2, 1) := by decide +kernel
theorem dX12_isRemembered_64 : decode cX12_isRemembered 64 = .ok (.iadd, 1) := by decide +kernel
theorem dX12_isRemembered_65 : decode cX12_isRemembered 65 = .ok (.iaload, 1) := by decide +kernel
theorem dX12_isRemembered_66 : decode cX12_isRemembered 66 = .ok (.aload_n 0, 1) := by decide +kernel
theorem dX12_isRemembered_67 : decode cX12_isRemembered 67 = .ok (.getfield 43, 3) := by decide +kernel
theorem dX12_isRemembered_70 : decode cX12_isRemembered 70 = .ok (.iload_n 3, 1) := by decide +kernel
theorem dX12_isRemembered_71 : decode cX12_isRemembered 71 = .ok (.iaload, 1) := by decide +kernel
theorem dX12_isRemembered_72 : decode cX12_isRemembered 72 = .ok (.if_icmp .ne 7, 3) := by decide +kernel
theorem dX12_isRemembered_75 : decode cX12_isRemembered 75 = .ok (.iconst 1, 1) := by decide +kernel
theorem dX12_isRemembered_76 : decode cX12_isRemembered 76 = .ok (.goto 4, 3) := by decide +kernel
theorem dX12_isRemembered_79 : decode cX12_isRemembered 79 = .ok (.iconst 0, 1) := by decide +kernel
theorem dX12_isRemembered_80 : decode cX12_isRemembered 80 = .ok (.istore 7, 2) := by decide +kernel
theorem dX12_isRemembered_82 : decode cX12_isRemembered 82 = .ok (.iconst 0, 1) := by decide +kernel
theorem dX12_isRemembered_83 : decode cX12_isRemembered 83 = .ok (.istore 8, 2) := by decide +kernel
theorem dX12_isRemembered_85 : decode cX12_isRemembered 85 = .ok (.iload 8, 2) := by decide +kernel
theorem dX12_isRemembered_87 : decode cX12_isRemembered 87 = .ok (.aload_n 0, 1) := by decide +kernel
theorem dX12_isRemembered_88 : decode cX12_isRemembered 88 = .ok (.getfield 16, 3) := by decide +kernel
theorem dX12_isRemembered_91 : decode cX12_isRemembered 91 = .ok (.iload_n 1, 1) := by decide +kernel
theorem dX12_isRemembered_92 : decode cX12_isRemembered 92 = .ok (.iaload, 1) := by decide +kernel
theorem dX12_isRemembered_93 : decode cX12_isRemembered 93 = .ok (.if_icmp .ge 48, 3) := by decide +kernel
theorem dX12_isRemembered_96 : decode cX12_isRemembered 96 = .ok (.iload 7, 2) := by decide +kernel
theorem dX12_isRemembered_98 : decode cX12_isRemembered 98 = .ok (.ifCond .eq 34, 3) := by decide +kernel
theorem dX12_isRemembered_101 : decode cX12_isRemembered 101 = .ok (.aload_n 0, 1) := by decide +kernel
theorem dX12_isRemembered_102 : decode cX12_isRemembered 102 = .ok (.getfield 71, 3) := by decide +kernel
theorem dX12_isRemembered_105 : decode cX12_isRemembered 105 = .ok (.iload 6, 2) := by decide +kernel
theorem dX12_isRemembered_107 : decode cX12_isRemembered 107 = .ok (.iconst 3, 1) := by decide +kernel
theorem dX12_isRemembered_108 : decode cX12_isRemembered 108 = .ok (.iadd, 1) := by decide +kernel
theorem dX12_isRemembered_109 : decode cX12_isRemembered 109 = .ok (.iload 8, 2) := by decide +kernel
theorem dX12_isRemembered_111 : decode cX12_isRemembered 111 = .ok (.iadd, 1) := by decide +kernel
theorem dX12_isRemembered_112 : decode cX12_isRemembered 112 = .ok (.iaload, 1) := by decide +kernel
theorem dX12_isRemembered_113 : decode cX12_isRemembered 113 = .ok (.aload_n 0, 1) := by decide +kernel
theorem dX12_isRemembered_114 : decode cX12_isRemembered 114 = .ok (.getfield 19, 3) := by decide +kernel
theorem dX12_isRemembered_117 : decode cX12_isRemembered 117 = .ok (.bipush 8, 2) := by decide +kernel
theorem dX12_isRemembered_119 : decode cX12_isRemembered 119 = .ok (.iload_n 1, 1) := by decide +kernel
theorem dX12_isRemembered_120 : decode cX12_isRemembered 120 = .ok (.imul, 1) := by decide +kernel
theorem dX12_isRemembered_121 : decode cX12_isRemembered 121 = .ok (.iload 8, 2) := by decide +kernel
theorem dX12_isRemembered_123 : decode cX12_isRemembered 123 = .ok (.iadd, 1) := by decide +kernel
theorem dX12_isRemembered_124 : decode cX12_isRemembered 124 = .ok (.iaload, 1) := by decide +kernel
theorem dX12_isRemembered_125 : decode cX12_isRemembered 125 = .ok (.if_icmp .ne 7, 3) := by decide +kernel
theorem dX12_isRemembered_128 : decode cX12_isRemembered 128 = .ok (.iconst 1, 1) := by decide +kernel
theorem dX12_isRemembered_129 : decode cX12_isRemembered 129 = .ok (.goto 4, 3) := by decide +kernel
theorem dX12_isRemembered_132 : decode cX12_isRemembered 132 = .ok (.iconst 0, 1) := by decide +kernel
theorem dX12_isRemembered_133 : decode cX12_isRemembered 133 = .ok (.istore 7, 2) := by decide +kernel
theorem dX12_isRemembered_135 : decode cX12_isRemembered 135 = .ok (.iinc 8 1, 3) := by decide +kernel
theorem dX12_isRemembered_138 : decode cX12_isRemembered 138 = .ok (.goto (-53), 3) := by decide +kernel
theorem dX12_isRemembered_141 : decode cX12_isRemembered 141 = .ok (.iconst 0, 1) := by decide +kernel
theorem dX12_isRemembered_142 : decode cX12_isRemembered 142 = .ok (.istore 8, 2) := by decide +kernel
theorem dX12_isRemembered_144 : decode cX12_isRemembered 144 = .ok (.iload 8, 2) := by decide +kernel
theorem dX12_isRemembered_146 : decode cX12_isRemembered 146 = .ok (.aload_n 0, 1) := by decide +kernel
theorem dX12_isRemembered_147 : decode cX12_isRemembered 147 = .ok (.getfield 43, 3) := by decide +kernel
theorem dX12_isRemembered_150 : decode cX12_isRemembered 150 = .ok (.iload_n 3, 1) := by decide +kernel
theorem dX12_isRemembered_151 : decode cX12_isRemembered 151 = .ok (.iaload, 1) := by decide +kernel
theorem dX12_isRemembered_152 : decode cX12_isRemembered 152 = .ok (.if_icmp .ge 49, 3) := by decide +kernel
theorem dX12_isRemembered_155 : decode cX12_isRemembered 155 = .ok (.iload 7, 2) := by decide +kernel
theorem dX12_isRemembered_157 : decode cX12_isRemembered 157 = .ok (.ifCond .eq 35, 3) := by decide +kernel
theorem dX12_isRemembered_160 : decode cX12_isRemembered 160 = .ok (.aload_n 0, 1) := by decide +kernel
theorem dX12_isRemembered_161 : decode cX12_isRemembered 161 = .ok (.getfield 71, 3) := by decide +kernel
theorem dX12_isRemembered_164 : decode cX12_isRemembered 164 = .ok (.iload 6, 2) := by decide +kernel
theorem dX12_isRemembered_166 : decode cX12_isRemembered 166 = .ok (.bipush 11, 2) := by decide +kernel
theorem dX12_isRemembered_168 : decode cX12_isRemembered 168 = .ok (.iadd, 1) := by decide +kernel
theorem dX12_isRemembered_169 : decode cX12_isRemembered 169 = .ok (.iload 8, 2) := by decide +kernel
theorem dX12_isRemembered_171 : decode cX12_isRemembered 171 = .ok (.iadd, 1) := by decide +kernel
theorem dX12_isRemembered_172 : decode cX12_isRemembered 172 = .ok (.iaload, 1) := by decide +kernel
theorem dX12_isRemembered_173 : decode cX12_isRemembered 173 = .ok (.aload_n 0, 1) := by decide +kernel
theorem dX12_isRemembered_174 : decode cX12_isRemembered 174 = .ok (.getfield 46, 3) := by decide +kernel
theorem dX12_isRemembered_177 : decode cX12_isRemembered 177 = .ok (.bipush 10, 2) := by decide +kernel
theorem dX12_isRemembered_179 : decode cX12_isRemembered 179 = .ok (.iload_n 3, 1) := by decide +kernel
theorem dX12_isRemembered_180 : decode cX12_isRemembered 180 = .ok (.imul, 1) := by decide +kernel
theorem dX12_isRemembered_181 : decode cX12_isRemembered 181 = .ok (.iload 8, 2) := by decide +kernel
theorem dX12_isRemembered_183 : decode cX12_isRemembered 183 = .ok (.iadd, 1) := by decide +kernel
theorem dX12_isRemembered_184 : decode cX12_isRemembered 184 = .ok (.iaload, 1) := by decide +kernel
theorem dX12_isRemembered_185 : decode cX12_isRemembered 185 = .ok (.if_icmp .ne 7, 3) := by decide +kernel
theorem dX12_isRemembered_188 : decode cX12_isRemembered 188 = .ok (.iconst 1, 1) := by decide +kernel
theorem dX12_isRemembered_189 : decode cX12_isRemembered 189 = .ok (.goto 4, 3) := by decide +kernel
theorem dX12_isRemembered_192 : decode cX12_isRemembered 192 = .ok (.iconst 0, 1) := by decide +kernel
theorem dX12_isRemembered_193 : decode cX12_isRemembered 193 = .ok (.istore 7, 2) := by decide +kernel
theorem dX12_isRemembered_195 : decode cX12_isRemembered 195 = .ok (.iinc 8 1, 3) := by decide +kernel
theorem dX12_isRemembered_198 : decode cX12_isRemembered 198 = .ok (.goto (-54), 3) := by decide +kernel
theorem dX12_isRemembered_201 : decode cX12_isRemembered 201 = .ok (.iload 4, 2) := by decide +kernel
theorem dX12_isRemembered_203 : decode cX12_isRemembered 203 = .ok (.ifCond .ne 8, 3) := by decide +kernel
theorem dX12_isRemembered_206 : decode cX12_isRemembered 206 = .ok (.iload 7, 2) := by decide +kernel
theorem dX12_isRemembered_208 : decode cX12_isRemembered 208 = .ok (.ifCond .eq 7, 3) := by decide +kernel
theorem dX12_isRemembered_211 : decode cX12_isRemembered 211 = .ok (.iconst 1, 1) := by decide +kernel
theorem dX12_isRemembered_212 : decode cX12_isRemembered 212 = .ok (.goto 4, 3) := by decide +kernel
theorem dX12_isRemembered_215 : decode cX12_isRemembered 215 = .ok (.iconst 0, 1) := by decide +kernel
theorem dX12_isRemembered_216 : decode cX12_isRemembered 216 = .ok (.istore 4, 2) := by decide +kernel
theorem dX12_isRemembered_218 : decode cX12_isRemembered 218 = .ok (.iinc 5 1, 3) := by decide +kernel
theorem dX12_isRemembered_221 : decode cX12_isRemembered 221 = .ok (.goto (-209), 3) := by decide +kernel
theorem dX12_isRemembered_224 : decode cX12_isRemembered 224 = .ok (.iload 4, 2) := by decide +kernel
theorem dX12_isRemembered_226 : decode cX12_isRemembered 226 = .ok (.ireturn, 1) := by decide +kernel
theorem dX12_remember_0 : decode cX12_remember 0 = .ok (.aload_n 0, 1) := by decide +kernel
theorem dX12_remember_1 : decode cX12_remember 1 = .ok (.iload_n 1, 1) := by decide +kernel
theorem dX12_remember_2 : decode cX12_remember 2 = .ok (.iload_n 2, 1) := by decide +kernel
theorem dX12_remember_3 : decode cX12_remember 3 = .ok (.invokevirtual 210, 3) := by decide +kernel
theorem dX12_remember_6 : decode cX12_remember 6 = .ok (.ifCond .eq 4, 3) := by decide +kernel
theorem dX12_remember_9 : decode cX12_remember 9 = .ok (.return_, 1) := by decide +kernel
theorem dX12_remember_10 : decode cX12_remember 10 = .ok (.aload_n 0, 1) := by decide +kernel
theorem dX12_remember_11 : decode cX12_remember 11 = .ok (.getfield 207, 3) := by decide +kernel
theorem dX12_remember_14 : decode cX12_remember 14 = .ok (.bipush 20, 2) := by decide +kernel
theorem dX12_remember_16 : decode cX12_remember 16 = .ok (.if_icmp .ne 43, 3) := by decide +kernel
theorem dX12_remember_19 : decode cX12_remember 19 = .ok (.iconst 0, 1) := by decide +kernel
theorem dX12_remember_20 : decode cX12_remember 20 = .ok (.istore_n 3, 1) := by decide +kernel
theorem dX12_remember_21 : decode cX12_remember 21 = .ok (.iload_n 3, 1) := by decide +kernel
theorem dX12_remember_22 : decode cX12_remember 22 = .ok (.sipush 399, 3) := by decide +kernel
theorem dX12_remember_25 : decode cX12_remember 25 = .ok (.if_icmp .ge 24, 3) := by decide +kernel
theorem dX12_remember_28 : decode cX12_remember 28 = .ok (.aload_n 0, 1) := by decide +kernel
theorem dX12_remember_29 : decode cX12_remember 29 = .ok (.getfield 71, 3) := by decide +kernel
theorem dX12_remember_32 : decode cX12_remember 32 = .ok (.iload_n 3, 1) := by decide +kernel
theorem dX12_remember_33 : decode cX12_remember 33 = .ok (.aload_n 0, 1) := by decide +kernel
theorem dX12_remember_34 : decode cX12_remember 34 = .ok (.getfield 71, 3) := by decide +kernel
theorem dX12_remember_37 : decode cX12_remember 37 = .ok (.iload_n 3, 1) := by decide +kernel
theorem dX12_remember_38 : decode cX12_remember 38 = .ok (.bipush 21, 2) := by decide +kernel
theorem dX12_remember_40 : decode cX12_remember 40 = .ok (.iadd, 1) := by decide +kernel
theorem dX12_remember_41 : decode cX12_remember 41 = .ok (.iaload, 1) := by decide +kernel
theorem dX12_remember_42 : decode cX12_remember 42 = .ok (.iastore, 1) := by decide +kernel
theorem dX12_remember_43 : decode cX12_remember 43 = .ok (.iinc 3 1, 3) := by decide +kernel
theorem dX12_remember_46 : decode cX12_remember 46 = .ok (.goto (-25), 3) := by decide +kernel
theorem dX12_remember_49 : decode cX12_remember 49 = .ok (.aload_n 0, 1) := by decide +kernel
theorem dX12_remember_50 : decode cX12_remember 50 = .ok (.dup, 1) := by decide +kernel
theorem dX12_remember_51 : decode cX12_remember 51 = .ok (.getfield 207, 3) := by decide +kernel
theorem dX12_remember_54 : decode cX12_remember 54 = .ok (.iconst 1, 1) := by decide +kernel
theorem dX12_remember_55 : decode cX12_remember 55 = .ok (.isub, 1) := by decide +kernel
theorem dX12_remember_56 : decode cX12_remember 56 = .ok (.putfield 207, 3) := by decide +kernel
theorem dX12_remember_59 : decode cX12_remember 59 = .ok (.bipush 21, 2) := by decide +kernel
theorem dX12_remember_61 : decode cX12_remember 61 = .ok (.aload_n 0, 1) := by decide +kernel
theorem dX12_remember_62 : decode cX12_remember 62 = .ok (.getfield 207, 3) := by decide +kernel
theorem dX12_remember_65 : decode cX12_remember 65 = .ok (.imul, 1) := by decide +kernel
theorem dX12_remember_66 : decode cX12_remember 66 = .ok (.istore_n 3, 1) := by decide +kernel
theorem dX12_remember_67 : decode cX12_remember 67 = .ok (.iconst 3, 1) := by decide +kernel
theorem dX12_remember_68 : decode cX12_remember 68 = .ok (.iload_n 1, 1) := by decide +kernel
theorem dX12_remember_69 : decode cX12_remember 69 = .ok (.imul, 1) := by decide +kernel
theorem dX12_remember_70 : decode cX12_remember 70 = .ok (.iload_n 2, 1) := by decide +kernel
theorem dX12_remember_71 : decode cX12_remember 71 = .ok (.iadd, 1) := by decide +kernel
theorem dX12_remember_72 : decode cX12_remember 72 = .ok (.istore 4, 2) := by decide +kernel
theorem dX12_remember_74 : decode cX12_remember 74 = .ok (.aload_n 0, 1) := by decide +kernel
theorem dX12_remember_75 : decode cX12_remember 75 = .ok (.getfield 71, 3) := by decide +kernel
theorem dX12_remember_78 : decode cX12_remember 78 = .ok (.iload_n 3, 1) := by decide +kernel
theorem dX12_remember_79 : decode cX12_remember 79 = .ok (.iload_n 2, 1) := by decide +kernel
theorem dX12_remember_80 : decode cX12_remember 80 = .ok (.iastore, 1) := by decide +kernel
theorem dX12_remember_81 : decode cX12_remember 81 = .ok (.aload_n 0, 1) := by decide +kernel
theorem dX12_remember_82 : decode cX12_remember 82 = .ok (.getfield 71, 3) := by decide +kernel
theorem dX12_remember_85 : decode cX12_remember 85 = .ok (.iload_n 3, 1) := by decide +kernel
theorem dX12_remember_86 : decode cX12_remember 86 = .ok (.iconst 1, 1) := by decide +kernel
theorem dX12_remember_87 : decode cX12_remember 87 = .ok (.iadd, 1) := by decide +kernel
theorem dX12_remember_88 : decode cX12_remember 88 = .ok (.aload_n 0, 1) := by decide +kernel
theorem dX12_remember_89 : decode cX12_remember 89 = .ok (.getfield 16, 3) := by decide +kernel
theorem dX12_remember_92 : decode cX12_remember 92 = .ok (.iload_n 1, 1) := by decide +kernel
theorem dX12_remember_93 : decode cX12_remember 93 = .ok (.iaload, 1) := by decide +kernel
theorem dX12_remember_94 : decode cX12_remember 94 = .ok (.iastore, 1) := by decide +kernel
theorem dX12_remember_95 : decode cX12_remember 95 = .ok (.aload_n 0, 1) := by decide +kernel
theorem dX12_remember_96 : decode cX12_remember 96 = .ok (.getfield 71, 3) := by decide +kernel
theorem dX12_remember_99 : decode cX12_remember 99 = .ok (.iload_n 3, 1) := by decide +kernel
theorem dX12_remember_100 : decode cX12_remember 100 = .ok (.iconst 2, 1) := by decide +kernel
theorem dX12_remember_101 : decode cX12_remember 101 = .ok (.iadd, 1) := by decide +kernel
theorem dX12_remember_102 : decode cX12_remember 102 = .ok (.aload_n 0, 1) := by decide +kernel
theorem dX12_remember_103 : decode cX12_remember 103 = .ok (.getfield 43, 3) := by decide +kernel
theorem dX12_remember_106 : decode cX12_remember 106 = .ok (.iload 4, 2) := by decide +kernel
theorem dX12_remember_108 : decode cX12_remember 108 = .ok (.iaload, 1) := by decide +kernel
theorem dX12_remember_109 : decode cX12_remember 109 = .ok (.iastore, 1) := by decide +kernel
theorem dX12_remember_110 : decode cX12_remember 110 = .ok (.iconst 0, 1) := by decide +kernel
theorem dX12_remember_111 : decode cX12_remember 111 = .ok (.istore 5, 2) := by decide +kernel
theorem dX12_remember_113 : decode cX12_remember 113 = .ok (.iload 5, 2) := by decide +kernel
theorem dX12_remember_115 : decode cX12_remember 115 = .ok (.bipush 8, 2) := by decide +kernel
theorem dX12_remember_117 : decode cX12_remember 117 = .ok (.if_icmp .ge 32, 3) := by decide +kernel
theorem dX12_remember_120 : decode cX12_remember 120 = .ok (.aload_n 0, 1) := by decide +kernel
theorem dX12_remember_121 : decode cX12_remember 121 = .ok (.getfield 71, 3) := by decide +kernel
theorem dX12_remember_124 : decode cX12_remember 124 = .ok (.iload_n 3, 1) := by decide +kernel
theorem dX12_remember_125 : decode cX12_remember 125 = .ok (.iconst 3, 1) := by decide +kernel
theorem dX12_remember_126 : decode cX12_remember 126 = .ok (.iadd, 1) := by decide +kernel
theorem dX12_remember_127 : decode cX12_remember 127 = .ok (.iload 5, 2) := by decide +kernel
theorem dX12_remember_129 : decode cX12_remember 129 = .ok (.iadd, 1) := by decide +kernel
theorem dX12_remember_130 : decode cX12_remember 130 = .ok (.aload_n 0, 1) := by decide +kernel
theorem dX12_remember_131 : decode cX12_remember 131 = .ok (.getfield 19, 3) := by decide +kernel
theorem dX12_remember_134 : decode cX12_remember 134 = .ok (.bipush 8, 2) := by decide +kernel
theorem dX12_remember_136 : decode cX12_remember 136 = .ok (.iload_n 1, 1) := by decide +kernel
theorem dX12_remember_137 : decode cX12_remember 137 = .ok (.imul, 1) := by decide +kernel
theorem dX12_remember_138 : decode cX12_remember 138 = .ok (.iload 5, 2) := by decide +kernel
theorem dX12_remember_140 : decode cX12_remember 140 = .ok (.iadd, 1) := by decide +kernel
theorem dX12_remember_141 : decode cX12_remember 141 = .ok (.iaload, 1) := by decide +kernel
theorem dX12_remember_142 : decode cX12_remember 142 = .ok (.iastore, 1) := by decide +kernel
theorem dX12_remember_143 : decode cX12_remember 143 = .ok (.iinc 5 1, 3) := by decide +kernel
theorem dX12_remember_146 : decode cX12_remember 146 = .ok (.goto (-33), 3) := by decide +kernel
theorem dX12_remember_149 : decode cX12_remember 149 = .ok (.iconst 0, 1) := by decide +kernel
theorem dX12_remember_150 : decode cX12_remember 150 = .ok (.istore 5, 2) := by decide +kernel
theorem dX12_remember_152 : decode cX12_remember 152 = .ok (.iload 5, 2) := by decide +kernel
theorem dX12_remember_154 : decode cX12_remember 154 = .ok (.bipush 10, 2) := by decide +kernel
theorem dX12_remember_156 : decode cX12_remember 156 = .ok (.if_icmp .ge 34, 3) := by decide +kernel
theorem dX12_remember_159 : decode cX12_remember 159 = .ok (.aload_n 0, 1) := by decide +kernel
theorem dX12_remember_160 : decode cX12_remember 160 = .ok (.getfield 71, 3) := by decide +kernel
theorem dX12_remember_163 : decode cX12_remember 163 = .ok (.iload_n 3, 1) := by decide +kernel
theorem dX12_remember_164 : decode cX12_remember 164 = .ok (.bipush 11, 2) := by decide +kernel
theorem dX12_remember_166 : decode cX12_remember 166 = .ok (.iadd, 1) := by decide +kernel
theorem dX12_remember_167 : decode cX12_remember 167 = .ok (.iload 5, 2) := by decide +kernel
theorem dX12_remember_169 : decode cX12_remember 169 = .ok (.iadd, 1) := by decide +kernel
theorem dX12_remember_170 : decode cX12_remember 170 = .ok (.aload_n 0, 1) := by decide +kernel
theorem dX12_remember_171 : decode cX12_remember 171 = .ok (.getfield 46, 3) := by decide +kernel
theorem dX12_remember_174 : decode cX12_remember 174 = .ok (.bipush 10, 2) := by decide +kernel
theorem dX12_remember_176 : decode cX12_remember 176 = .ok (.iload 4, 2) := by decide +kernel
theorem dX12_remember_178 : decode cX12_remember 178 = .ok (.imul, 1) := by decide +kernel
theorem dX12_remember_179 : decode cX12_remember 179 = .ok (.iload 5, 2) := by decide +kernel
theorem dX12_remember_181 : decode cX12_remember 181 = .ok (.iadd, 1) := by decide +kernel
theorem dX12_remember_182 : decode cX12_remember 182 = .ok (.iaload, 1) := by decide +kernel
theorem dX12_remember_183 : decode cX12_remember 183 = .ok (.iastore, 1) := by decide +kernel
theorem dX12_remember_184 : decode cX12_remember 184 = .ok (.iinc 5 1, 3) := by decide +kernel
theorem dX12_remember_187 : decode cX12_remember 187 = .ok (.goto (-35), 3) := by decide +kernel
theorem dX12_remember_190 : decode cX12_remember 190 = .ok (.aload_n 0, 1) := by decide +kernel
theorem dX12_remember_191 : decode cX12_remember 191 = .ok (.dup, 1) := by decide +kernel
theorem dX12_remember_192 : decode cX12_remember 192 = .ok (.getfield 207, 3) := by decide +kernel
theorem dX12_remember_195 : decode cX12_remember 195 = .ok (.iconst 1, 1) := by decide +kernel
theorem dX12_remember_196 : decode cX12_remember 196 = .ok (.iadd, 1) := by decide +kernel
theorem dX12_remember_197 : decode cX12_remember 197 = .ok (.putfield 207, 3) := by decide +kernel
theorem dX12_remember_200 : decode cX12_remember 200 = .ok (.return_, 1) := by decide +kernel
theorem dX12_review_0 : decode cX12_review 0 = .ok (.aload_n 0, 1) := by decide +kernel
theorem dX12_review_1 : decode cX12_review 1 = .ok (.iload_n 1, 1) := by decide +kernel
theorem dX12_review_2 : decode cX12_review 2 = .ok (.iload_n 2, 1) := by decide +kernel
theorem dX12_review_3 : decode cX12_review 3 = .ok (.iload_n 3, 1) := by decide +kernel
theorem dX12_review_4 : decode cX12_review 4 = .ok (.invokevirtual 193, 3) := by decide +kernel
theorem dX12_review_7 : decode cX12_review 7 = .ok (.ifCond .ne 5, 3) := by decide +kernel
theorem dX12_review_10 : decode cX12_review 10 = .ok (.iconst (-1), 1) := by decide +kernel
theorem dX12_review_11 : decode cX12_review 11 = .ok (.ireturn, 1) := by decide +kernel
theorem dX12_review_12 : decode cX12_review 12 = .ok (.iconst 3, 1) := by decide +kernel
theorem dX12_review_13 : decode cX12_review 13 = .ok (.iload_n 1, 1) := by decide +kernel
theorem dX12_review_14 : decode cX12_review 14 = .ok (.imul, 1) := by decide +kernel
theorem dX12_review_15 : decode cX12_review 15 = .ok (.iload_n 2, 1) := by decide +kernel
theorem dX12_review_16 : decode cX12_review 16 = .ok (.iadd, 1) := by decide +kernel
theorem dX12_review_17 : decode cX12_review 17 = .ok (.istore 4, 2) := by decide +kernel
theorem dX12_review_19 : decode cX12_review 19 = .ok (.aload_n 0, 1) := by decide +kernel
theorem dX12_review_20 : decode cX12_review 20 = .ok (.getfield 37, 3) := by decide +kernel
theorem dX12_review_23 : decode cX12_review 23 = .ok (.iload 4, 2) := by decide +kernel
theorem dX12_review_25 : decode cX12_review 25 = .ok (.iaload, 1) := by decide +kernel
theorem dX12_review_26 : decode cX12_review 26 = .ok (.iconst 1, 1) := by decide +kernel
theorem dX12_review_27 : decode cX12_review 27 = .ok (.if_icmp .eq 17, 3) := by decide +kernel
theorem dX12_review_30 : decode cX12_review 30 = .ok (.aload_n 0, 1) := by decide +kernel
theorem dX12_review_31 : decode cX12_review 31 = .ok (.getfield 37, 3) := by decide +kernel
theorem dX12_review_34 : decode cX12_review 34 = .ok (.iload 4, 2) := by decide +kernel
theorem dX12_review_36 : decode cX12_review 36 = .ok (.iaload, 1) := by decide +kernel
theorem dX12_review_37 : decode cX12_review 37 = .ok (.iconst 3, 1) := by decide +kernel
theorem dX12_review_38 : decode cX12_review 38 = .ok (.if_icmp .eq 6, 3) := by decide +kernel
theorem dX12_review_41 : decode cX12_review 41 = .ok (.bipush (-4), 2) := by decide +kernel
theorem dX12_review_43 : decode cX12_review 43 = .ok (.ireturn, 1) := by decide +kernel
theorem dX12_review_44 : decode cX12_review 44 = .ok (.aload_n 0, 1) := by decide +kernel
theorem dX12_review_45 : decode cX12_review 45 = .ok (.iload_n 3, 1) := by decide +kernel
theorem dX12_review_46 : decode cX12_review 46 = .ok (.iload_n 2, 1) := by decide +kernel
theorem dX12_review_47 : decode cX12_review 47 = .ok (.invokevirtual 196, 3) := by decide +kernel
theorem dX12_review_50 : decode cX12_review 50 = .ok (.ifCond .ne 6, 3) := by decide +kernel
theorem dX12_review_53 : decode cX12_review 53 = .ok (.bipush (-3), 2) := by decide +kernel
theorem dX12_review_55 : decode cX12_review 55 = .ok (.ireturn, 1) := by decide +kernel
theorem dX12_review_56 : decode cX12_review 56 = .ok (.aload_n 0, 1) := by decide +kernel
theorem dX12_review_57 : decode cX12_review 57 = .ok (.getfield 40, 3) := by decide +kernel
theorem dX12_review_60 : decode cX12_review 60 = .ok (.iload 4, 2) := by decide +kernel
theorem dX12_review_62 : decode cX12_review 62 = .ok (.iaload, 1) := by decide +kernel
theorem dX12_review_63 : decode cX12_review 63 = .ok (.iload_n 3, 1) := by decide +kernel
theorem dX12_review_64 : decode cX12_review 64 = .ok (.if_icmp .ne 6, 3) := by decide +kernel
theorem dX12_review_67 : decode cX12_review 67 = .ok (.bipush (-7), 2) := by decide +kernel
theorem dX12_review_69 : decode cX12_review 69 = .ok (.ireturn, 1) := by decide +kernel
theorem dX12_review_70 : decode cX12_review 70 = .ok (.aload_n 0, 1) := by decide +kernel
theorem dX12_review_71 : decode cX12_review 71 = .ok (.iload_n 1, 1) := by decide +kernel
theorem dX12_review_72 : decode cX12_review 72 = .ok (.iload_n 2, 1) := by decide +kernel
theorem dX12_review_73 : decode cX12_review 73 = .ok (.invokevirtual 213, 3) := by decide +kernel
theorem dX12_review_76 : decode cX12_review 76 = .ok (.istore 5, 2) := by decide +kernel
theorem dX12_review_78 : decode cX12_review 78 = .ok (.iload 5, 2) := by decide +kernel
theorem dX12_review_80 : decode cX12_review 80 = .ok (.ifCond .le 9, 3) := by decide +kernel
theorem dX12_review_83 : decode cX12_review 83 = .ok (.bipush (-10), 2) := by decide +kernel
theorem dX12_review_85 : decode cX12_review 85 = .ok (.iload 5, 2) := by decide +kernel
theorem dX12_review_87 : decode cX12_review 87 = .ok (.isub, 1) := by decide +kernel
theorem dX12_review_88 : decode cX12_review 88 = .ok (.ireturn, 1) := by decide +kernel
theorem dX12_review_89 : decode cX12_review 89 = .ok (.aload_n 0, 1) := by decide +kernel
theorem dX12_review_90 : decode cX12_review 90 = .ok (.getfield 37, 3) := by decide +kernel
theorem dX12_review_93 : decode cX12_review 93 = .ok (.iload 4, 2) := by decide +kernel
theorem dX12_review_95 : decode cX12_review 95 = .ok (.iconst 2, 1) := by decide +kernel
theorem dX12_review_96 : decode cX12_review 96 = .ok (.iastore, 1) := by decide +kernel
theorem dX12_review_97 : decode cX12_review 97 = .ok (.aload_n 0, 1) := by decide +kernel
theorem dX12_review_98 : decode cX12_review 98 = .ok (.iload_n 1, 1) := by decide +kernel
theorem dX12_review_99 : decode cX12_review 99 = .ok (.iload_n 2, 1) := by decide +kernel
theorem dX12_review_100 : decode cX12_review 100 = .ok (.invokevirtual 216, 3) := by decide +kernel
theorem dX12_review_103 : decode cX12_review 103 = .ok (.aload_n 0, 1) := by decide +kernel
theorem dX12_review_104 : decode cX12_review 104 = .ok (.getfield 207, 3) := by decide +kernel
theorem dX12_review_107 : decode cX12_review 107 = .ok (.ireturn, 1) := by decide +kernel
theorem dX12_findNearest_0 : decode cX12_findNearest 0 = .ok (.aload_n 0, 1) := by decide +kernel
theorem dX12_findNearest_1 : decode cX12_findNearest 1 = .ok (.iconst (-1), 1) := by decide +kernel
theorem dX12_findNearest_2 : decode cX12_findNearest 2 = .ok (.putfield 220, 3) := by decide +kernel
theorem dX12_findNearest_5 : decode cX12_findNearest 5 = .ok (.aload_n 0, 1) := by decide +kernel
theorem dX12_findNearest_6 : decode cX12_findNearest 6 = .ok (.ldc 223, 2) := by decide +kernel
theorem dX12_findNearest_8 : decode cX12_findNearest 8 = .ok (.putfield 224, 3) := by decide +kernel
theorem dX12_findNearest_11 : decode cX12_findNearest 11 = .ok (.iconst 0, 1) := by decide +kernel
theorem dX12_findNearest_12 : decode cX12_findNearest 12 = .ok (.istore_n 3, 1) := by decide +kernel
theorem dX12_findNearest_13 : decode cX12_findNearest 13 = .ok (.iload_n 3, 1) := by decide +kernel
theorem dX12_findNearest_14 : decode cX12_findNearest 14 = .ok (.aload_n 0, 1) := by decide +kernel
theorem dX12_findNearest_15 : decode cX12_findNearest 15 = .ok (.getfield 207, 3) := by decide +kernel
theorem dX12_findNearest_18 : decode cX12_findNearest 18 = .ok (.if_icmp .ge 95, 3) := by decide +kernel
theorem dX12_findNearest_21 : decode cX12_findNearest 21 = .ok (.aload_n 0, 1) := by decide +kernel
theorem dX12_findNearest_22 : decode cX12_findNearest 22 = .ok (.getfield 71, 3) := by decide +kernel
theorem dX12_findNearest_25 : decode cX12_findNearest 25 = .ok (.bipush 21, 2) := by decide +kernel
theorem dX12_findNearest_27 : decode cX12_findNearest 27 = .ok (.iload_n 3, 1) := by decide +kernel
theorem dX12_findNearest_28 : decode cX12_findNearest 28 = .ok (.imul, 1) := by decide +kernel
theorem dX12_findNearest_29 : decode cX12_findNearest 29 = .ok (.iaload, 1) := by decide +kernel
theorem dX12_findNearest_30 : decode cX12_findNearest 30 = .ok (.iload_n 2, 1) := by decide +kernel
theorem dX12_findNearest_31 : decode cX12_findNearest 31 = .ok (.if_icmp .ne 45, 3) := by decide +kernel
theorem dX12_findNearest_34 : decode cX12_findNearest 34 = .ok (.aload_n 0, 1) := by decide +kernel
theorem dX12_findNearest_35 : decode cX12_findNearest 35 = .ok (.aload_n 0, 1) := by decide +kernel
theorem dX12_findNearest_36 : decode cX12_findNearest 36 = .ok (.getfield 19, 3) := by decide +kernel
theorem dX12_findNearest_39 : decode cX12_findNearest 39 = .ok (.bipush 8, 2) := by decide +kernel
theorem dX12_findNearest_41 : decode cX12_findNearest 41 = .ok (.iload_n 1, 1) := by decide +kernel
theorem dX12_findNearest_42 : decode cX12_findNearest 42 = .ok (.imul, 1) := by decide +kernel
theorem dX12_findNearest_43 : decode cX12_findNearest 43 = .ok (.aload_n 0, 1) := by decide +kernel
theorem dX12_findNearest_44 : decode cX12_findNearest 44 = .ok (.getfield 16, 3) := by decide +kernel
theorem dX12_findNearest_47 : decode cX12_findNearest 47 = .ok (.iload_n 1, 1) := by decide +kernel
theorem dX12_findNearest_48 : decode cX12_findNearest 48 = .ok (.iaload, 1) := by decide +kernel
theorem dX12_findNearest_49 : decode cX12_findNearest 49 = .ok (.aload_n 0, 1) := by decide +kernel
theorem dX12_findNearest_50 : decode cX12_findNearest 50 = .ok (.getfield 71, 3) := by decide +kernel
theorem dX12_findNearest_53 : decode cX12_findNearest 53 = .ok (.bipush 21, 2) := by decide +kernel
theorem dX12_findNearest_55 : decode cX12_findNearest 55 = .ok (.iload_n 3, 1) := by decide +kernel
theorem dX12_findNearest_56 : decode cX12_findNearest 56 = .ok (.imul, 1) := by decide +kernel
theorem dX12_findNearest_57 : decode cX12_findNearest 57 = .ok (.iconst 3, 1) := by decide +kernel
theorem dX12_findNearest_58 : decode cX12_findNearest 58 = .ok (.iadd, 1) := by decide +kernel
theorem dX12_findNearest_59 : decode cX12_findNearest 59 = .ok (.aload_n 0, 1) := by decide +kernel
theorem dX12_findNearest_60 : decode cX12_findNearest 60 = .ok (.getfield 71, 3) := by decide +kernel
theorem dX12_findNearest_63 : decode cX12_findNearest 63 = .ok (.bipush 21, 2) := by decide +kernel
theorem dX12_findNearest_65 : decode cX12_findNearest 65 = .ok (.iload_n 3, 1) := by decide +kernel
theorem dX12_findNearest_66 : decode cX12_findNearest 66 = .ok (.imul, 1) := by decide +kernel
theorem dX12_findNearest_67 : decode cX12_findNearest 67 = .ok (.iconst 1, 1) := by decide +kernel
theorem dX12_findNearest_68 : decode cX12_findNearest 68 = .ok (.iadd, 1) := by decide +kernel
theorem dX12_findNearest_69 : decode cX12_findNearest 69 = .ok (.iaload, 1) := by decide +kernel
theorem dX12_findNearest_70 : decode cX12_findNearest 70 = .ok (.invokevirtual 162, 3) := by decide +kernel
theorem dX12_findNearest_73 : decode cX12_findNearest 73 = .ok (.goto 5, 3) := by decide +kernel
theorem dX12_findNearest_76 : decode cX12_findNearest 76 = .ok (.ldc 223, 2) := by decide +kernel
theorem dX12_findNearest_78 : decode cX12_findNearest 78 = .ok (.istore 4, 2) := by decide +kernel
theorem dX12_findNearest_80 : decode cX12_findNearest 80 = .ok (.iload 4, 2) := by decide +kernel
theorem dX12_findNearest_82 : decode cX12_findNearest 82 = .ok (.ldc 223, 2) := by decide +kernel
theorem dX12_findNearest_84 : decode cX12_findNearest 84 = .ok (.if_icmp .ge 23, 3) := by decide +kernel
theorem dX12_findNearest_87 : decode cX12_findNearest 87 = .ok (.iload 4, 2) := by decide +kernel
theorem dX12_findNearest_89 : decode cX12_findNearest 89 = .ok (.aload_n 0, 1) := by decide +kernel
theorem dX12_findNearest_90 : decode cX12_findNearest 90 = .ok (.getfield 224, 3) := by decide +kernel
theorem dX12_findNearest_93 : decode cX12_findNearest 93 = .ok (.if_icmp .gt 14, 3) := by decide +kernel
theorem dX12_findNearest_96 : decode cX12_findNearest 96 = .ok (.aload_n 0, 1) := by decide +kernel
theorem dX12_findNearest_97 : decode cX12_findNearest 97 = .ok (.iload_n 3, 1) := by decide +kernel
theorem dX12_findNearest_98 : decode cX12_findNearest 98 = .ok (.putfield 220, 3) := by decide +kernel
theorem dX12_findNearest_101 : decode cX12_findNearest 101 = .ok (.aload_n 0, 1) := by decide +kernel
theorem dX12_findNearest_102 : decode cX12_findNearest 102 = .ok (.iload 4, 2) := by decide +kernel
theorem dX12_findNearest_104 : decode cX12_findNearest 104 = .ok (.putfield 224, 3) := by decide +kernel
theorem dX12_findNearest_107 : decode cX12_findNearest 107 = .ok (.iinc 3 1, 3) := by decide +kernel
theorem dX12_findNearest_110 : decode cX12_findNearest 110 = .ok (.goto (-97), 3) := by decide +kernel
theorem dX12_findNearest_113 : decode cX12_findNearest 113 = .ok (.return_, 1) := by decide +kernel
theorem dX12_reuse_0 : decode cX12_reuse 0 = .ok (.aload_n 0, 1) := by decide +kernel
theorem dX12_reuse_1 : decode cX12_reuse 1 = .ok (.iload_n 1, 1) := by decide +kernel
theorem dX12_reuse_2 : decode cX12_reuse 2 = .ok (.iload_n 2, 1) := by decide +kernel
theorem dX12_reuse_3 : decode cX12_reuse 3 = .ok (.iload_n 3, 1) := by decide +kernel
theorem dX12_reuse_4 : decode cX12_reuse 4 = .ok (.invokevirtual 193, 3) := by decide +kernel
theorem dX12_reuse_7 : decode cX12_reuse 7 = .ok (.ifCond .ne 5, 3) := by decide +kernel
theorem dX12_reuse_10 : decode cX12_reuse 10 = .ok (.iconst (-1), 1) := by decide +kernel
theorem dX12_reuse_11 : decode cX12_reuse 11 = .ok (.ireturn, 1) := by decide +kernel
theorem dX12_reuse_12 : decode cX12_reuse 12 = .ok (.aload_n 0, 1) := by decide +kernel
theorem dX12_reuse_13 : decode cX12_reuse 13 = .ok (.getfield 13, 3) := by decide +kernel
theorem dX12_reuse_16 : decode cX12_reuse 16 = .ok (.iload_n 1, 1) := by decide +kernel
theorem dX12_reuse_17 : decode cX12_reuse 17 = .ok (.iaload, 1) := by decide +kernel
theorem dX12_reuse_18 : decode cX12_reuse 18 = .ok (.iconst 1, 1) := by decide +kernel
theorem dX12_reuse_19 : decode cX12_reuse 19 = .ok (.if_icmp .eq 12, 3) := by decide +kernel
theorem dX12_reuse_22 : decode cX12_reuse 22 = .ok (.aload_n 0, 1) := by decide +kernel
theorem dX12_reuse_23 : decode cX12_reuse 23 = .ok (.iload_n 3, 1) := by decide +kernel
theorem dX12_reuse_24 : decode cX12_reuse 24 = .ok (.iload_n 2, 1) := by decide +kernel
theorem dX12_reuse_25 : decode cX12_reuse 25 = .ok (.invokevirtual 196, 3) := by decide +kernel
theorem dX12_reuse_28 : decode cX12_reuse 28 = .ok (.ifCond .ne 6, 3) := by decide +kernel
theorem dX12_reuse_31 : decode cX12_reuse 31 = .ok (.bipush (-3), 2) := by decide +kernel
theorem dX12_reuse_33 : decode cX12_reuse 33 = .ok (.ireturn, 1) := by decide +kernel
theorem dX12_reuse_34 : decode cX12_reuse 34 = .ok (.aload_n 0, 1) := by decide +kernel
theorem dX12_reuse_35 : decode cX12_reuse 35 = .ok (.iload_n 1, 1) := by decide +kernel
theorem dX12_reuse_36 : decode cX12_reuse 36 = .ok (.iload_n 2, 1) := by decide +kernel
theorem dX12_reuse_37 : decode cX12_reuse 37 = .ok (.invokevirtual 227, 3) := by decide +kernel
theorem dX12_reuse_40 : decode cX12_reuse 40 = .ok (.aload_n 0, 1) := by decide +kernel
theorem dX12_reuse_41 : decode cX12_reuse 41 = .ok (.getfield 220, 3) := by decide +kernel
theorem dX12_reuse_44 : decode cX12_reuse 44 = .ok (.ifCond .ge 6, 3) := by decide +kernel
theorem dX12_reuse_47 : decode cX12_reuse 47 = .ok (.bipush (-5), 2) := by decide +kernel
theorem dX12_reuse_49 : decode cX12_reuse 49 = .ok (.ireturn, 1) := by decide +kernel
theorem dX12_reuse_50 : decode cX12_reuse 50 = .ok (.iconst 3, 1) := by decide +kernel
theorem dX12_reuse_51 : decode cX12_reuse 51 = .ok (.iload_n 1, 1) := by decide +kernel
theorem dX12_reuse_52 : decode cX12_reuse 52 = .ok (.imul, 1) := by decide +kernel
theorem dX12_reuse_53 : decode cX12_reuse 53 = .ok (.iload_n 2, 1) := by decide +kernel
theorem dX12_reuse_54 : decode cX12_reuse 54 = .ok (.iadd, 1) := by decide +kernel
theorem dX12_reuse_55 : decode cX12_reuse 55 = .ok (.istore 4, 2) := by decide +kernel
theorem dX12_reuse_57 : decode cX12_reuse 57 = .ok (.aload_n 0, 1) := by decide +kernel
theorem dX12_reuse_58 : decode cX12_reuse 58 = .ok (.getfield 37, 3) := by decide +kernel
theorem dX12_reuse_61 : decode cX12_reuse 61 = .ok (.iload 4, 2) := by decide +kernel
theorem dX12_reuse_63 : decode cX12_reuse 63 = .ok (.iconst 1, 1) := by decide +kernel
theorem dX12_reuse_64 : decode cX12_reuse 64 = .ok (.iastore, 1) := by decide +kernel
theorem dX12_reuse_65 : decode cX12_reuse 65 = .ok (.aload_n 0, 1) := by decide +kernel
theorem dX12_reuse_66 : decode cX12_reuse 66 = .ok (.getfield 40, 3) := by decide +kernel
theorem dX12_reuse_69 : decode cX12_reuse 69 = .ok (.iload 4, 2) := by decide +kernel
theorem dX12_reuse_71 : decode cX12_reuse 71 = .ok (.iload_n 3, 1) := by decide +kernel
theorem dX12_reuse_72 : decode cX12_reuse 72 = .ok (.iastore, 1) := by decide +kernel
theorem dX12_reuse_73 : decode cX12_reuse 73 = .ok (.aload_n 0, 1) := by decide +kernel
theorem dX12_reuse_74 : decode cX12_reuse 74 = .ok (.getfield 43, 3) := by decide +kernel
theorem dX12_reuse_77 : decode cX12_reuse 77 = .ok (.iload 4, 2) := by decide +kernel
theorem dX12_reuse_79 : decode cX12_reuse 79 = .ok (.aload_n 0, 1) := by decide +kernel
theorem dX12_reuse_80 : decode cX12_reuse 80 = .ok (.getfield 71, 3) := by decide +kernel
theorem dX12_reuse_83 : decode cX12_reuse 83 = .ok (.bipush 21, 2) := by decide +kernel
theorem dX12_reuse_85 : decode cX12_reuse 85 = .ok (.aload_n 0, 1) := by decide +kernel
theorem dX12_reuse_86 : decode cX12_reuse 86 = .ok (.getfield 220, 3) := by decide +kernel
theorem dX12_reuse_89 : decode cX12_reuse 89 = .ok (.imul, 1) := by decide +kernel
theorem dX12_reuse_90 : decode cX12_reuse 90 = .ok (.iconst 2, 1) := by decide +kernel
theorem dX12_reuse_91 : decode cX12_reuse 91 = .ok (.iadd, 1) := by decide +kernel
theorem dX12_reuse_92 : decode cX12_reuse 92 = .ok (.iaload, 1) := by decide +kernel
theorem dX12_reuse_93 : decode cX12_reuse 93 = .ok (.iastore, 1) := by decide +kernel
theorem dX12_reuse_94 : decode cX12_reuse 94 = .ok (.iconst 0, 1) := by decide +kernel
theorem dX12_reuse_95 : decode cX12_reuse 95 = .ok (.istore 5, 2) := by decide +kernel
theorem dX12_reuse_97 : decode cX12_reuse 97 = .ok (.iload 5, 2) := by decide +kernel
theorem dX12_reuse_99 : decode cX12_reuse 99 = .ok (.aload_n 0, 1) := by decide +kernel
theorem dX12_reuse_100 : decode cX12_reuse 100 = .ok (.getfield 43, 3) := by decide +kernel
theorem dX12_reuse_103 : decode cX12_reuse 103 = .ok (.iload 4, 2) := by decide +kernel
theorem dX12_reuse_105 : decode cX12_reuse 105 = .ok (.iaload, 1) := by decide +kernel
theorem dX12_reuse_106 : decode cX12_reuse 106 = .ok (.if_icmp .ge 40, 3) := by decide +kernel
theorem dX12_reuse_109 : decode cX12_reuse 109 = .ok (.aload_n 0, 1) := by decide +kernel
theorem dX12_reuse_110 : decode cX12_reuse 110 = .ok (.getfield 46, 3) := by decide +kernel
theorem dX12_reuse_113 : decode cX12_reuse 113 = .ok (.bipush 10, 2) := by decide +kernel
theorem dX12_reuse_115 : decode cX12_reuse 115 = .ok (.iload 4, 2) := by decide +kernel
theorem dX12_reuse_117 : decode cX12_reuse 117 = .ok (.imul, 1) := by decide +kernel
theorem dX12_reuse_118 : decode cX12_reuse 118 = .ok (.iload 5, 2) := by decide +kernel
theorem dX12_reuse_120 : decode cX12_reuse 120 = .ok (.iadd, 1) := by decide +kernel
theorem dX12_reuse_121 : decode cX12_reuse 121 = .ok (.aload_n 0, 1) := by decide +kernel
theorem dX12_reuse_122 : decode cX12_reuse 122 = .ok (.getfield 71, 3) := by decide +kernel
theorem dX12_reuse_125 : decode cX12_reuse 125 = .ok (.bipush 21, 2) := by decide +kernel
theorem dX12_reuse_127 : decode cX12_reuse 127 = .ok (.aload_n 0, 1) := by decide +kernel
theorem dX12_reuse_128 : decode cX12_reuse 128 = .ok (.getfield 220, 3) := by decide +kernel
theorem dX12_reuse_131 : decode cX12_reuse 131 = .ok (.imul, 1) := by decide +kernel
theorem dX12_reuse_132 : decode cX12_reuse 132 = .ok (.bipush 11, 2) := by decide +kernel
theorem dX12_reuse_134 : decode cX12_reuse 134 = .ok (.iadd, 1) := by decide +kernel
theorem dX12_reuse_135 : decode cX12_reuse 135 = .ok (.iload 5, 2) := by decide +kernel
theorem dX12_reuse_137 : decode cX12_reuse 137 = .ok (.iadd, 1) := by decide +kernel
theorem dX12_reuse_138 : decode cX12_reuse 138 = .ok (.iaload, 1) := by decide +kernel
theorem dX12_reuse_139 : decode cX12_reuse 139 = .ok (.iastore, 1) := by decide +kernel
theorem dX12_reuse_140 : decode cX12_reuse 140 = .ok (.iinc 5 1, 3) := by decide +kernel
theorem dX12_reuse_143 : decode cX12_reuse 143 = .ok (.goto (-46), 3) := by decide +kernel
theorem dX12_reuse_146 : decode cX12_reuse 146 = .ok (.aload_n 0, 1) := by decide +kernel
theorem dX12_reuse_147 : decode cX12_reuse 147 = .ok (.getfield 43, 3) := by decide +kernel
theorem dX12_reuse_150 : decode cX12_reuse 150 = .ok (.iload 4, 2) := by decide +kernel
theorem dX12_reuse_152 : decode cX12_reuse 152 = .ok (.iaload, 1) := by decide +kernel
theorem dX12_reuse_153 : decode cX12_reuse 153 = .ok (.ireturn, 1) := by decide +kernel
theorem dX12_text_0 : decode cX12_text 0 = .ok (.aload_n 0, 1) := by decide +kernel
theorem dX12_text_1 : decode cX12_text 1 = .ok (.iload_n 1, 1) := by decide +kernel
theorem dX12_text_2 : decode cX12_text 2 = .ok (.invokevirtual 178, 3) := by decide +kernel
theorem dX12_text_5 : decode cX12_text 5 = .ok (.ifCond .eq 10, 3) := by decide +kernel
theorem dX12_text_8 : decode cX12_text 8 = .ok (.iload_n 2, 1) := by decide +kernel
theorem dX12_text_9 : decode cX12_text 9 = .ok (.invokestatic 187, 3) := by decide +kernel
theorem dX12_text_12 : decode cX12_text 12 = .ok (.ifCond .ne 5, 3) := by decide +kernel
theorem dX12_text_15 : decode cX12_text 15 = .ok (.iconst (-1), 1) := by decide +kernel
theorem dX12_text_16 : decode cX12_text 16 = .ok (.ireturn, 1) := by decide +kernel
theorem dX12_text_17 : decode cX12_text 17 = .ok (.iconst 3, 1) := by decide +kernel
theorem dX12_text_18 : decode cX12_text 18 = .ok (.iload_n 1, 1) := by decide +kernel
theorem dX12_text_19 : decode cX12_text 19 = .ok (.imul, 1) := by decide +kernel
theorem dX12_text_20 : decode cX12_text 20 = .ok (.iload_n 2, 1) := by decide +kernel
theorem dX12_text_21 : decode cX12_text 21 = .ok (.iadd, 1) := by decide +kernel
theorem dX12_text_22 : decode cX12_text 22 = .ok (.istore 4, 2) := by decide +kernel
theorem dX12_text_24 : decode cX12_text 24 = .ok (.aload_n 0, 1) := by decide +kernel
theorem dX12_text_25 : decode cX12_text 25 = .ok (.getfield 37, 3) := by decide +kernel
theorem dX12_text_28 : decode cX12_text 28 = .ok (.iload 4, 2) := by decide +kernel
theorem dX12_text_30 : decode cX12_text 30 = .ok (.iaload, 1) := by decide +kernel
theorem dX12_text_31 : decode cX12_text 31 = .ok (.ifCond .le 7, 3) := by decide +kernel
theorem dX12_text_34 : decode cX12_text 34 = .ok (.iconst 1, 1) := by decide +kernel
theorem dX12_text_35 : decode cX12_text 35 = .ok (.goto 4, 3) := by decide +kernel
theorem dX12_text_38 : decode cX12_text 38 = .ok (.iconst 0, 1) := by decide +kernel
theorem dX12_text_39 : decode cX12_text 39 = .ok (.istore 5, 2) := by decide +kernel
theorem dX12_text_41 : decode cX12_text 41 = .ok (.iload_n 3, 1) := by decide +kernel
theorem dX12_text_42 : decode cX12_text 42 = .ok (.ifCond .ne 11, 3) := by decide +kernel
theorem dX12_text_45 : decode cX12_text 45 = .ok (.aload_n 0, 1) := by decide +kernel
theorem dX12_text_46 : decode cX12_text 46 = .ok (.getfield 37, 3) := by decide +kernel
theorem dX12_text_49 : decode cX12_text 49 = .ok (.iload 4, 2) := by decide +kernel
theorem dX12_text_51 : decode cX12_text 51 = .ok (.iaload, 1) := by decide +kernel
theorem dX12_text_52 : decode cX12_text 52 = .ok (.ireturn, 1) := by decide +kernel
theorem dX12_text_53 : decode cX12_text 53 = .ok (.iload_n 3, 1) := by decide +kernel
theorem dX12_text_54 : decode cX12_text 54 = .ok (.iconst 1, 1) := by decide +kernel
theorem dX12_text_55 : decode cX12_text 55 = .ok (.if_icmp .ne 21, 3) := by decide +kernel
theorem dX12_text_58 : decode cX12_text 58 = .ok (.iload 5, 2) := by decide +kernel
theorem dX12_text_60 : decode cX12_text 60 = .ok (.ifCond .eq 13, 3) := by decide +kernel
theorem dX12_text_63 : decode cX12_text 63 = .ok (.aload_n 0, 1) := by decide +kernel
theorem dX12_text_64 : decode cX12_text 64 = .ok (.getfield 40, 3) := by decide +kernel
theorem dX12_text_67 : decode cX12_text 67 = .ok (.iload 4, 2) := by decide +kernel
theorem dX12_text_69 : decode cX12_text 69 = .ok (.iaload, 1) := by decide +kernel
theorem dX12_text_70 : decode cX12_text 70 = .ok (.goto 5, 3) := by decide +kernel
theorem dX12_text_73 : decode cX12_text 73 = .ok (.bipush (-5), 2) := by decide +kernel
theorem dX12_text_75 : decode cX12_text 75 = .ok (.ireturn, 1) := by decide +kernel
theorem dX12_text_76 : decode cX12_text 76 = .ok (.iload_n 3, 1) := by decide +kernel
theorem dX12_text_77 : decode cX12_text 77 = .ok (.iconst 2, 1) := by decide +kernel
theorem dX12_text_78 : decode cX12_text 78 = .ok (.if_icmp .ne 20, 3) := by decide +kernel
theorem dX12_text_81 : decode cX12_text 81 = .ok (.iload 5, 2) := by decide +kernel
theorem dX12_text_83 : decode cX12_text 83 = .ok (.ifCond .eq 13, 3) := by decide +kernel
theorem dX12_text_86 : decode cX12_text 86 = .ok (.aload_n 0, 1) := by decide +kernel
theorem dX12_text_87 : decode cX12_text 87 = .ok (.getfield 43, 3) := by decide +kernel
theorem dX12_text_90 : decode cX12_text 90 = .ok (.iload 4, 2) := by decide +kernel
theorem dX12_text_92 : decode cX12_text 92 = .ok (.iaload, 1) := by decide +kernel
theorem dX12_text_93 : decode cX12_text 93 = .ok (.goto 4, 3) := by decide +kernel
theorem dX12_text_96 : decode cX12_text 96 = .ok (.iconst 0, 1) := by decide +kernel
theorem dX12_text_97 : decode cX12_text 97 = .ok (.ireturn, 1) := by decide +kernel
theorem dX12_text_98 : decode cX12_text 98 = .ok (.iload 5, 2) := by decide +kernel
theorem dX12_text_100 : decode cX12_text 100 = .ok (.ifCond .eq 40, 3) := by decide +kernel
theorem dX12_text_103 : decode cX12_text 103 = .ok (.iload_n 3, 1) := by decide +kernel
theorem dX12_text_104 : decode cX12_text 104 = .ok (.bipush 10, 2) := by decide +kernel
theorem dX12_text_106 : decode cX12_text 106 = .ok (.bipush 9, 2) := by decide +kernel
theorem dX12_text_108 : decode cX12_text 108 = .ok (.aload_n 0, 1) := by decide +kernel
theorem dX12_text_109 : decode cX12_text 109 = .ok (.getfield 43, 3) := by decide +kernel
theorem dX12_text_112 : decode cX12_text 112 = .ok (.iload 4, 2) := by decide +kernel
theorem dX12_text_114 : decode cX12_text 114 = .ok (.iaload, 1) := by decide +kernel
theorem dX12_text_115 : decode cX12_text 115 = .ok (.iadd, 1) := by decide +kernel
theorem dX12_text_116 : decode cX12_text 116 = .ok (.invokestatic 128, 3) := by decide +kernel
theorem dX12_text_119 : decode cX12_text 119 = .ok (.ifCond .eq 21, 3) := by decide +kernel
theorem dX12_text_122 : decode cX12_text 122 = .ok (.aload_n 0, 1) := by decide +kernel
theorem dX12_text_123 : decode cX12_text 123 = .ok (.getfield 46, 3) := by decide +kernel
theorem dX12_text_126 : decode cX12_text 126 = .ok (.bipush 10, 2) := by decide +kernel
theorem dX12_text_128 : decode cX12_text 128 = .ok (.iload 4, 2) := by decide +kernel
theorem dX12_text_130 : decode cX12_text 130 = .ok (.imul, 1) := by decide +kernel
theorem dX12_text_131 : decode cX12_text 131 = .ok (.iload_n 3, 1) := by decide +kernel
theorem dX12_text_132 : decode cX12_text 132 = .ok (.iadd, 1) := by decide +kernel
theorem dX12_text_133 : decode cX12_text 133 = .ok (.bipush 10, 2) := by decide +kernel
theorem dX12_text_135 : decode cX12_text 135 = .ok (.isub, 1) := by decide +kernel
theorem dX12_text_136 : decode cX12_text 136 = .ok (.iaload, 1) := by decide +kernel
theorem dX12_text_137 : decode cX12_text 137 = .ok (.goto 4, 3) := by decide +kernel
theorem dX12_text_140 : decode cX12_text 140 = .ok (.iconst (-1), 1) := by decide +kernel
theorem dX12_text_141 : decode cX12_text 141 = .ok (.ireturn, 1) := by decide +kernel
theorem dX12_fault_0 : decode cX12_fault 0 = .ok (.aload_n 0, 1) := by decide +kernel
theorem dX12_fault_1 : decode cX12_fault 1 = .ok (.iload_n 1, 1) := by decide +kernel
theorem dX12_fault_2 : decode cX12_fault 2 = .ok (.invokevirtual 178, 3) := by decide +kernel
theorem dX12_fault_5 : decode cX12_fault 5 = .ok (.ifCond .eq 10, 3) := by decide +kernel
theorem dX12_fault_8 : decode cX12_fault 8 = .ok (.iload_n 2, 1) := by decide +kernel
theorem dX12_fault_9 : decode cX12_fault 9 = .ok (.invokestatic 187, 3) := by decide +kernel
theorem dX12_fault_12 : decode cX12_fault 12 = .ok (.ifCond .ne 5, 3) := by decide +kernel
theorem dX12_fault_15 : decode cX12_fault 15 = .ok (.iconst (-1), 1) := by decide +kernel
theorem dX12_fault_16 : decode cX12_fault 16 = .ok (.ireturn, 1) := by decide +kernel
theorem dX12_fault_17 : decode cX12_fault 17 = .ok (.aload_n 0, 1) := by decide +kernel
theorem dX12_fault_18 : decode cX12_fault 18 = .ok (.getfield 37, 3) := by decide +kernel
theorem dX12_fault_21 : decode cX12_fault 21 = .ok (.iconst 3, 1) := by decide +kernel
theorem dX12_fault_22 : decode cX12_fault 22 = .ok (.iload_n 1, 1) := by decide +kernel
theorem dX12_fault_23 : decode cX12_fault 23 = .ok (.imul, 1) := by decide +kernel
theorem dX12_fault_24 : decode cX12_fault 24 = .ok (.iload_n 2, 1) := by decide +kernel
theorem dX12_fault_25 : decode cX12_fault 25 = .ok (.iadd, 1) := by decide +kernel
theorem dX12_fault_26 : decode cX12_fault 26 = .ok (.iaload, 1) := by decide +kernel
theorem dX12_fault_27 : decode cX12_fault 27 = .ok (.ifCond .ne 8, 3) := by decide +kernel
theorem dX12_fault_30 : decode cX12_fault 30 = .ok (.bipush (-5), 2) := by decide +kernel
theorem dX12_fault_32 : decode cX12_fault 32 = .ok (.goto 9, 3) := by decide +kernel
theorem dX12_fault_35 : decode cX12_fault 35 = .ok (.aload_n 0, 1) := by decide +kernel
theorem dX12_fault_36 : decode cX12_fault 36 = .ok (.iload_n 1, 1) := by decide +kernel
theorem dX12_fault_37 : decode cX12_fault 37 = .ok (.iload_n 2, 1) := by decide +kernel
theorem dX12_fault_38 : decode cX12_fault 38 = .ok (.invokevirtual 213, 3) := by decide +kernel
theorem dX12_fault_41 : decode cX12_fault 41 = .ok (.ireturn, 1) := by decide +kernel
theorem dX12_limit_0 : decode cX12_limit 0 = .ok (.iload_n 1, 1) := by decide +kernel
theorem dX12_limit_1 : decode cX12_limit 1 = .ok (.iconst 1, 1) := by decide +kernel
theorem dX12_limit_2 : decode cX12_limit 2 = .ok (.bipush 10, 2) := by decide +kernel
theorem dX12_limit_4 : decode cX12_limit 4 = .ok (.invokestatic 128, 3) := by decide +kernel
theorem dX12_limit_7 : decode cX12_limit 7 = .ok (.ifCond .ne 5, 3) := by decide +kernel
theorem dX12_limit_10 : decode cX12_limit 10 = .ok (.iconst (-1), 1) := by decide +kernel
theorem dX12_limit_11 : decode cX12_limit 11 = .ok (.ireturn, 1) := by decide +kernel
theorem dX12_limit_12 : decode cX12_limit 12 = .ok (.aload_n 0, 1) := by decide +kernel
theorem dX12_limit_13 : decode cX12_limit 13 = .ok (.getfield 67, 3) := by decide +kernel
theorem dX12_limit_16 : decode cX12_limit 16 = .ok (.istore_n 2, 1) := by decide +kernel
theorem dX12_limit_17 : decode cX12_limit 17 = .ok (.aload_n 0, 1) := by decide +kernel
theorem dX12_limit_18 : decode cX12_limit 18 = .ok (.iload_n 1, 1) := by decide +kernel
theorem dX12_limit_19 : decode cX12_limit 19 = .ok (.putfield 67, 3) := by decide +kernel
theorem dX12_limit_22 : decode cX12_limit 22 = .ok (.iload_n 2, 1) := by decide +kernel
theorem dX12_limit_23 : decode cX12_limit 23 = .ok (.ireturn, 1) := by decide +kernel
theorem dX12_nearest_0 : decode cX12_nearest 0 = .ok (.aload_n 0, 1) := by decide +kernel
theorem dX12_nearest_1 : decode cX12_nearest 1 = .ok (.iload_n 1, 1) := by decide +kernel
theorem dX12_nearest_2 : decode cX12_nearest 2 = .ok (.invokevirtual 178, 3) := by decide +kernel
theorem dX12_nearest_5 : decode cX12_nearest 5 = .ok (.ifCond .eq 19, 3) := by decide +kernel
theorem dX12_nearest_8 : decode cX12_nearest 8 = .ok (.iload_n 2, 1) := by decide +kernel
theorem dX12_nearest_9 : decode cX12_nearest 9 = .ok (.invokestatic 187, 3) := by decide +kernel
theorem dX12_nearest_12 : decode cX12_nearest 12 = .ok (.ifCond .eq 12, 3) := by decide +kernel
theorem dX12_nearest_15 : decode cX12_nearest 15 = .ok (.iload_n 3, 1) := by decide +kernel
theorem dX12_nearest_16 : decode cX12_nearest 16 = .ok (.iconst 0, 1) := by decide +kernel
theorem dX12_nearest_17 : decode cX12_nearest 17 = .ok (.iconst 2, 1) := by decide +kernel
theorem dX12_nearest_18 : decode cX12_nearest 18 = .ok (.invokestatic 128, 3) := by decide +kernel
theorem dX12_nearest_21 : decode cX12_nearest 21 = .ok (.ifCond .ne 5, 3) := by decide +kernel
theorem dX12_nearest_24 : decode cX12_nearest 24 = .ok (.iconst (-1), 1) := by decide +kernel
theorem dX12_nearest_25 : decode cX12_nearest 25 = .ok (.ireturn, 1) := by decide +kernel
theorem dX12_nearest_26 : decode cX12_nearest 26 = .ok (.aload_n 0, 1) := by decide +kernel
theorem dX12_nearest_27 : decode cX12_nearest 27 = .ok (.iload_n 1, 1) := by decide +kernel
theorem dX12_nearest_28 : decode cX12_nearest 28 = .ok (.iload_n 2, 1) := by decide +kernel
theorem dX12_nearest_29 : decode cX12_nearest 29 = .ok (.invokevirtual 227, 3) := by decide +kernel
theorem dX12_nearest_32 : decode cX12_nearest 32 = .ok (.aload_n 0, 1) := by decide +kernel
theorem dX12_nearest_33 : decode cX12_nearest 33 = .ok (.getfield 220, 3) := by decide +kernel
theorem dX12_nearest_36 : decode cX12_nearest 36 = .ok (.ifCond .ge 6, 3) := by decide +kernel
theorem dX12_nearest_39 : decode cX12_nearest 39 = .ok (.bipush (-5), 2) := by decide +kernel
theorem dX12_nearest_41 : decode cX12_nearest 41 = .ok (.ireturn, 1) := by decide +kernel
theorem dX12_nearest_42 : decode cX12_nearest 42 = .ok (.iload_n 3, 1) := by decide +kernel
theorem dX12_nearest_43 : decode cX12_nearest 43 = .ok (.ifCond .ne 10, 3) := by decide +kernel
theorem dX12_nearest_46 : decode cX12_nearest 46 = .ok (.aload_n 0, 1) := by decide +kernel
theorem dX12_nearest_47 : decode cX12_nearest 47 = .ok (.getfield 220, 3) := by decide +kernel
theorem dX12_nearest_50 : decode cX12_nearest 50 = .ok (.goto 29, 3) := by decide +kernel
theorem dX12_nearest_53 : decode cX12_nearest 53 = .ok (.iload_n 3, 1) := by decide +kernel
theorem dX12_nearest_54 : decode cX12_nearest 54 = .ok (.iconst 1, 1) := by decide +kernel
theorem dX12_nearest_55 : decode cX12_nearest 55 = .ok (.if_icmp .ne 10, 3) := by decide +kernel
theorem dX12_nearest_58 : decode cX12_nearest 58 = .ok (.aload_n 0, 1) := by decide +kernel
theorem dX12_nearest_59 : decode cX12_nearest 59 = .ok (.getfield 224, 3) := by decide +kernel
theorem dX12_nearest_62 : decode cX12_nearest 62 = .ok (.goto 17, 3) := by decide +kernel
theorem dX12_nearest_65 : decode cX12_nearest 65 = .ok (.aload_n 0, 1) := by decide +kernel
theorem dX12_nearest_66 : decode cX12_nearest 66 = .ok (.getfield 71, 3) := by decide +kernel
theorem dX12_nearest_69 : decode cX12_nearest 69 = .ok (.bipush 21, 2) := by decide +kernel
theorem dX12_nearest_71 : decode cX12_nearest 71 = .ok (.aload_n 0, 1) := by decide +kernel
theorem dX12_nearest_72 : decode cX12_nearest 72 = .ok (.getfield 220, 3) := by decide +kernel
theorem dX12_nearest_75 : decode cX12_nearest 75 = .ok (.imul, 1) := by decide +kernel
theorem dX12_nearest_76 : decode cX12_nearest 76 = .ok (.iconst 2, 1) := by decide +kernel
theorem dX12_nearest_77 : decode cX12_nearest 77 = .ok (.iadd, 1) := by decide +kernel
theorem dX12_nearest_78 : decode cX12_nearest 78 = .ok (.iaload, 1) := by decide +kernel
theorem dX12_nearest_79 : decode cX12_nearest 79 = .ok (.ireturn, 1) := by decide +kernel
theorem dX12_memory_0 : decode cX12_memory 0 = .ok (.iload_n 1, 1) := by decide +kernel
theorem dX12_memory_1 : decode cX12_memory 1 = .ok (.iconst 0, 1) := by decide +kernel
theorem dX12_memory_2 : decode cX12_memory 2 = .ok (.aload_n 0, 1) := by decide +kernel
theorem dX12_memory_3 : decode cX12_memory 3 = .ok (.getfield 207, 3) := by decide +kernel
theorem dX12_memory_6 : decode cX12_memory 6 = .ok (.iconst 1, 1) := by decide +kernel
theorem dX12_memory_7 : decode cX12_memory 7 = .ok (.isub, 1) := by decide +kernel
theorem dX12_memory_8 : decode cX12_memory 8 = .ok (.invokestatic 128, 3) := by decide +kernel
theorem dX12_memory_11 : decode cX12_memory 11 = .ok (.ifCond .ne 5, 3) := by decide +kernel
theorem dX12_memory_14 : decode cX12_memory 14 = .ok (.iconst (-1), 1) := by decide +kernel
theorem dX12_memory_15 : decode cX12_memory 15 = .ok (.ireturn, 1) := by decide +kernel
theorem dX12_memory_16 : decode cX12_memory 16 = .ok (.bipush 21, 2) := by decide +kernel
theorem dX12_memory_18 : decode cX12_memory 18 = .ok (.iload_n 1, 1) := by decide +kernel
theorem dX12_memory_19 : decode cX12_memory 19 = .ok (.imul, 1) := by decide +kernel
theorem dX12_memory_20 : decode cX12_memory 20 = .ok (.istore_n 3, 1) := by decide +kernel
theorem dX12_memory_21 : decode cX12_memory 21 = .ok (.iload_n 2, 1) := by decide +kernel
theorem dX12_memory_22 : decode cX12_memory 22 = .ok (.iconst 0, 1) := by decide +kernel
theorem dX12_memory_23 : decode cX12_memory 23 = .ok (.iconst 2, 1) := by decide +kernel
theorem dX12_memory_24 : decode cX12_memory 24 = .ok (.invokestatic 128, 3) := by decide +kernel
theorem dX12_memory_27 : decode cX12_memory 27 = .ok (.ifCond .eq 12, 3) := by decide +kernel
theorem dX12_memory_30 : decode cX12_memory 30 = .ok (.aload_n 0, 1) := by decide +kernel
theorem dX12_memory_31 : decode cX12_memory 31 = .ok (.getfield 71, 3) := by decide +kernel
theorem dX12_memory_34 : decode cX12_memory 34 = .ok (.iload_n 3, 1) := by decide +kernel
theorem dX12_memory_35 : decode cX12_memory 35 = .ok (.iload_n 2, 1) := by decide +kernel
theorem dX12_memory_36 : decode cX12_memory 36 = .ok (.iadd, 1) := by decide +kernel
theorem dX12_memory_37 : decode cX12_memory 37 = .ok (.iaload, 1) := by decide +kernel
theorem dX12_memory_38 : decode cX12_memory 38 = .ok (.ireturn, 1) := by decide +kernel
theorem dX12_memory_39 : decode cX12_memory 39 = .ok (.iload_n 2, 1) := by decide +kernel
theorem dX12_memory_40 : decode cX12_memory 40 = .ok (.bipush 10, 2) := by decide +kernel
theorem dX12_memory_42 : decode cX12_memory 42 = .ok (.bipush 9, 2) := by decide +kernel
theorem dX12_memory_44 : decode cX12_memory 44 = .ok (.aload_n 0, 1) := by decide +kernel
theorem dX12_memory_45 : decode cX12_memory 45 = .ok (.getfield 71, 3) := by decide +kernel
theorem dX12_memory_48 : decode cX12_memory 48 = .ok (.iload_n 3, 1) := by decide +kernel
theorem dX12_memory_49 : decode cX12_memory 49 = .ok (.iconst 1, 1) := by decide +kernel
theorem dX12_memory_50 : decode cX12_memory 50 = .ok (.iadd, 1) := by decide +kernel
theorem dX12_memory_51 : decode cX12_memory 51 = .ok (.iaload, 1) := by decide +kernel
theorem dX12_memory_52 : decode cX12_memory 52 = .ok (.iadd, 1) := by decide +kernel
theorem dX12_memory_53 : decode cX12_memory 53 = .ok (.invokestatic 128, 3) := by decide +kernel
theorem dX12_memory_56 : decode cX12_memory 56 = .ok (.ifCond .eq 17, 3) := by decide +kernel
theorem dX12_memory_59 : decode cX12_memory 59 = .ok (.aload_n 0, 1) := by decide +kernel
theorem dX12_memory_60 : decode cX12_memory 60 = .ok (.getfield 71, 3) := by decide +kernel
theorem dX12_memory_63 : decode cX12_memory 63 = .ok (.iload_n 3, 1) := by decide +kernel
theorem dX12_memory_64 : decode cX12_memory 64 = .ok (.iconst 3, 1) := by decide +kernel
theorem dX12_memory_65 : decode cX12_memory 65 = .ok (.iadd, 1) := by decide +kernel
theorem dX12_memory_66 : decode cX12_memory 66 = .ok (.iload_n 2, 1) := by decide +kernel
theorem dX12_memory_67 : decode cX12_memory 67 = .ok (.iadd, 1) := by decide +kernel
theorem dX12_memory_68 : decode cX12_memory 68 = .ok (.bipush 10, 2) := by decide +kernel
theorem dX12_memory_70 : decode cX12_memory 70 = .ok (.isub, 1) := by decide +kernel
theorem dX12_memory_71 : decode cX12_memory 71 = .ok (.iaload, 1) := by decide +kernel
theorem dX12_memory_72 : decode cX12_memory 72 = .ok (.ireturn, 1) := by decide +kernel
theorem dX12_memory_73 : decode cX12_memory 73 = .ok (.iload_n 2, 1) := by decide +kernel
theorem dX12_memory_74 : decode cX12_memory 74 = .ok (.bipush 20, 2) := by decide +kernel
theorem dX12_memory_76 : decode cX12_memory 76 = .ok (.bipush 19, 2) := by decide +kernel
theorem dX12_memory_78 : decode cX12_memory 78 = .ok (.aload_n 0, 1) := by decide +kernel
theorem dX12_memory_79 : decode cX12_memory 79 = .ok (.getfield 71, 3) := by decide +kernel
theorem dX12_memory_82 : decode cX12_memory 82 = .ok (.iload_n 3, 1) := by decide +kernel
theorem dX12_memory_83 : decode cX12_memory 83 = .ok (.iconst 2, 1) := by decide +kernel
theorem dX12_memory_84 : decode cX12_memory 84 = .ok (.iadd, 1) := by decide +kernel
theorem dX12_memory_85 : decode cX12_memory 85 = .ok (.iaload, 1) := by decide +kernel
theorem dX12_memory_86 : decode cX12_memory 86 = .ok (.iadd, 1) := by decide +kernel
theorem dX12_memory_87 : decode cX12_memory 87 = .ok (.invokestatic 128, 3) := by decide +kernel
theorem dX12_memory_90 : decode cX12_memory 90 = .ok (.ifCond .eq 20, 3) := by decide +kernel
theorem dX12_memory_93 : decode cX12_memory 93 = .ok (.aload_n 0, 1) := by decide +kernel
theorem dX12_memory_94 : decode cX12_memory 94 = .ok (.getfield 71, 3) := by decide +kernel
theorem dX12_memory_97 : decode cX12_memory 97 = .ok (.iload_n 3, 1) := by decide +kernel
theorem dX12_memory_98 : decode cX12_memory 98 = .ok (.bipush 11, 2) := by decide +kernel
theorem dX12_memory_100 : decode cX12_memory 100 = .ok (.iadd, 1) := by decide +kernel
theorem dX12_memory_101 : decode cX12_memory 101 = .ok (.iload_n 2, 1) := by decide +kernel
theorem dX12_memory_102 : decode cX12_memory 102 = .ok (.iadd, 1) := by decide +kernel
theorem dX12_memory_103 : decode cX12_memory 103 = .ok (.bipush 20, 2) := by decide +kernel
theorem dX12_memory_105 : decode cX12_memory 105 = .ok (.isub, 1) := by decide +kernel
theorem dX12_memory_106 : decode cX12_memory 106 = .ok (.iaload, 1) := by decide +kernel
theorem dX12_memory_107 : decode cX12_memory 107 = .ok (.goto 4, 3) := by decide +kernel
theorem dX12_memory_110 : decode cX12_memory 110 = .ok (.iconst (-1), 1) := by decide +kernel
theorem dX12_memory_111 : decode cX12_memory 111 = .ok (.ireturn, 1) := by decide +kernel
theorem dX12_effortOf_0 : decode cX12_effortOf 0 = .ok (.aload_n 0, 1) := by decide +kernel
theorem dX12_effortOf_1 : decode cX12_effortOf 1 = .ok (.getfield 13, 3) := by decide +kernel
theorem dX12_effortOf_4 : decode cX12_effortOf 4 = .ok (.iload_n 1, 1) := by decide +kernel
theorem dX12_effortOf_5 : decode cX12_effortOf 5 = .ok (.iaload, 1) := by decide +kernel
