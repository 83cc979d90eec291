theorem dX11_forget_4 : decode cX11_forget 4 = .ok (.ifCond .eq 10, 3) := by decide +kernel
theorem dX11_forget_7 : decode cX11_forget 7 = .ok (.iload_n 2, 1) := by decide +kernel
theorem dX11_forget_8 : decode cX11_forget 8 = .ok (.invokestatic 174, 3) := by decide +kernel
theorem dX11_forget_11 : decode cX11_forget 11 = .ok (.ifCond .ne 5, 3) := by decide +kernel
theorem dX11_forget_14 : decode cX11_forget 14 = .ok (.iconst (-1), 1) := by decide +kernel
theorem dX11_forget_15 : decode cX11_forget 15 = .ok (.ireturn, 1) := by decide +kernel
theorem dX11_forget_16 : decode cX11_forget 16 = .ok (.aload_n 0, 1) := by decide +kernel
theorem dX11_forget_17 : decode cX11_forget 17 = .ok (.getfield 47, 3) := by decide +kernel
theorem dX11_forget_20 : decode cX11_forget 20 = .ok (.iload_n 1, 1) := by decide +kernel
theorem dX11_forget_21 : decode cX11_forget 21 = .ok (.iload_n 2, 1) := by decide +kernel
theorem dX11_forget_22 : decode cX11_forget 22 = .ok (.invokevirtual 181, 3) := by decide +kernel
theorem dX11_forget_25 : decode cX11_forget 25 = .ok (.ifCond .ne 6, 3) := by decide +kernel
theorem dX11_forget_28 : decode cX11_forget 28 = .ok (.bipush (-5), 2) := by decide +kernel
theorem dX11_forget_30 : decode cX11_forget 30 = .ok (.ireturn, 1) := by decide +kernel
theorem dX11_forget_31 : decode cX11_forget 31 = .ok (.aload_n 0, 1) := by decide +kernel
theorem dX11_forget_32 : decode cX11_forget 32 = .ok (.getfield 47, 3) := by decide +kernel
theorem dX11_forget_35 : decode cX11_forget 35 = .ok (.iload_n 1, 1) := by decide +kernel
theorem dX11_forget_36 : decode cX11_forget 36 = .ok (.iload_n 2, 1) := by decide +kernel
theorem dX11_forget_37 : decode cX11_forget 37 = .ok (.invokevirtual 187, 3) := by decide +kernel
theorem dX11_forget_40 : decode cX11_forget 40 = .ok (.aload_n 0, 1) := by decide +kernel
theorem dX11_forget_41 : decode cX11_forget 41 = .ok (.getfield 47, 3) := by decide +kernel
theorem dX11_forget_44 : decode cX11_forget 44 = .ok (.invokevirtual 186, 3) := by decide +kernel
theorem dX11_forget_47 : decode cX11_forget 47 = .ok (.ireturn, 1) := by decide +kernel
theorem dX11_write_0 : decode cX11_write 0 = .ok (.aload_n 0, 1) := by decide +kernel
theorem dX11_write_1 : decode cX11_write 1 = .ok (.iload_n 1, 1) := by decide +kernel
theorem dX11_write_2 : decode cX11_write 2 = .ok (.iload_n 2, 1) := by decide +kernel
theorem dX11_write_3 : decode cX11_write 3 = .ok (.iload_n 3, 1) := by decide +kernel
theorem dX11_write_4 : decode cX11_write 4 = .ok (.invokevirtual 190, 3) := by decide +kernel
theorem dX11_write_7 : decode cX11_write 7 = .ok (.istore 4, 2) := by decide +kernel
theorem dX11_write_9 : decode cX11_write 9 = .ok (.iload 4, 2) := by decide +kernel
theorem dX11_write_11 : decode cX11_write 11 = .ok (.ifCond .ge 6, 3) := by decide +kernel
theorem dX11_write_14 : decode cX11_write 14 = .ok (.iload 4, 2) := by decide +kernel
theorem dX11_write_16 : decode cX11_write 16 = .ok (.ireturn, 1) := by decide +kernel
theorem dX11_write_17 : decode cX11_write 17 = .ok (.aload_n 0, 1) := by decide +kernel
theorem dX11_write_18 : decode cX11_write 18 = .ok (.getfield 12, 3) := by decide +kernel
theorem dX11_write_21 : decode cX11_write 21 = .ok (.invokevirtual 94, 3) := by decide +kernel
theorem dX11_write_24 : decode cX11_write 24 = .ok (.ifCond .ne 6, 3) := by decide +kernel
theorem dX11_write_27 : decode cX11_write 27 = .ok (.bipush (-6), 2) := by decide +kernel
theorem dX11_write_29 : decode cX11_write 29 = .ok (.ireturn, 1) := by decide +kernel
theorem dX11_write_30 : decode cX11_write 30 = .ok (.aload_n 0, 1) := by decide +kernel
theorem dX11_write_31 : decode cX11_write 31 = .ok (.getfield 12, 3) := by decide +kernel
theorem dX11_write_34 : decode cX11_write 34 = .ok (.iconst 0, 1) := by decide +kernel
theorem dX11_write_35 : decode cX11_write 35 = .ok (.bipush 100, 2) := by decide +kernel
theorem dX11_write_37 : decode cX11_write 37 = .ok (.invokevirtual 105, 3) := by decide +kernel
theorem dX11_write_40 : decode cX11_write 40 = .ok (.ifCond .eq 6, 3) := by decide +kernel
theorem dX11_write_43 : decode cX11_write 43 = .ok (.bipush (-3), 2) := by decide +kernel
theorem dX11_write_45 : decode cX11_write 45 = .ok (.ireturn, 1) := by decide +kernel
theorem dX11_write_46 : decode cX11_write 46 = .ok (.aload_n 0, 1) := by decide +kernel
theorem dX11_write_47 : decode cX11_write 47 = .ok (.iload_n 1, 1) := by decide +kernel
theorem dX11_write_48 : decode cX11_write 48 = .ok (.iload_n 2, 1) := by decide +kernel
theorem dX11_write_49 : decode cX11_write 49 = .ok (.invokevirtual 194, 3) := by decide +kernel
theorem dX11_write_52 : decode cX11_write 52 = .ok (.astore 5, 2) := by decide +kernel
theorem dX11_write_54 : decode cX11_write 54 = .ok (.aload 5, 2) := by decide +kernel
theorem dX11_write_56 : decode cX11_write 56 = .ok (.ifnull 13, 3) := by decide +kernel
theorem dX11_write_59 : decode cX11_write 59 = .ok (.aload 5, 2) := by decide +kernel
theorem dX11_write_61 : decode cX11_write 61 = .ok (.aload_n 0, 1) := by decide +kernel
theorem dX11_write_62 : decode cX11_write 62 = .ok (.getfield 12, 3) := by decide +kernel
theorem dX11_write_65 : decode cX11_write 65 = .ok (.iload_n 3, 1) := by decide +kernel
theorem dX11_write_66 : decode cX11_write 66 = .ok (.invokevirtual 198, 3) := by decide +kernel
theorem dX11_write_69 : decode cX11_write 69 = .ok (.aload_n 0, 1) := by decide +kernel
theorem dX11_write_70 : decode cX11_write 70 = .ok (.getfield 12, 3) := by decide +kernel
theorem dX11_write_73 : decode cX11_write 73 = .ok (.invokevirtual 94, 3) := by decide +kernel
theorem dX11_write_76 : decode cX11_write 76 = .ok (.istore 6, 2) := by decide +kernel
theorem dX11_write_78 : decode cX11_write 78 = .ok (.aload_n 0, 1) := by decide +kernel
theorem dX11_write_79 : decode cX11_write 79 = .ok (.getfield 12, 3) := by decide +kernel
theorem dX11_write_82 : decode cX11_write 82 = .ok (.invokevirtual 98, 3) := by decide +kernel
theorem dX11_write_85 : decode cX11_write 85 = .ok (.iload 6, 2) := by decide +kernel
theorem dX11_write_87 : decode cX11_write 87 = .ok (.ireturn, 1) := by decide +kernel
theorem dX11_review_0 : decode cX11_review 0 = .ok (.aload_n 0, 1) := by decide +kernel
theorem dX11_review_1 : decode cX11_review 1 = .ok (.getfield 68, 3) := by decide +kernel
theorem dX11_review_4 : decode cX11_review 4 = .ok (.iload_n 1, 1) := by decide +kernel
theorem dX11_review_5 : decode cX11_review 5 = .ok (.invokevirtual 121, 3) := by decide +kernel
theorem dX11_review_8 : decode cX11_review 8 = .ok (.astore 4, 2) := by decide +kernel
theorem dX11_review_10 : decode cX11_review 10 = .ok (.aload_n 0, 1) := by decide +kernel
theorem dX11_review_11 : decode cX11_review 11 = .ok (.iload_n 1, 1) := by decide +kernel
theorem dX11_review_12 : decode cX11_review 12 = .ok (.iload_n 2, 1) := by decide +kernel
theorem dX11_review_13 : decode cX11_review 13 = .ok (.invokevirtual 194, 3) := by decide +kernel
theorem dX11_review_16 : decode cX11_review 16 = .ok (.astore 5, 2) := by decide +kernel
theorem dX11_review_18 : decode cX11_review 18 = .ok (.aload 4, 2) := by decide +kernel
theorem dX11_review_20 : decode cX11_review 20 = .ok (.ifnull 19, 3) := by decide +kernel
theorem dX11_review_23 : decode cX11_review 23 = .ok (.aload 5, 2) := by decide +kernel
theorem dX11_review_25 : decode cX11_review 25 = .ok (.ifnull 14, 3) := by decide +kernel
theorem dX11_review_28 : decode cX11_review 28 = .ok (.aload_n 0, 1) := by decide +kernel
theorem dX11_review_29 : decode cX11_review 29 = .ok (.getfield 40, 3) := by decide +kernel
theorem dX11_review_32 : decode cX11_review 32 = .ok (.iload_n 3, 1) := by decide +kernel
theorem dX11_review_33 : decode cX11_review 33 = .ok (.invokevirtual 161, 3) := by decide +kernel
theorem dX11_review_36 : decode cX11_review 36 = .ok (.ifCond .ne 5, 3) := by decide +kernel
theorem dX11_review_39 : decode cX11_review 39 = .ok (.iconst (-1), 1) := by decide +kernel
theorem dX11_review_40 : decode cX11_review 40 = .ok (.ireturn, 1) := by decide +kernel
theorem dX11_review_41 : decode cX11_review 41 = .ok (.aload 5, 2) := by decide +kernel
theorem dX11_review_43 : decode cX11_review 43 = .ok (.invokevirtual 204, 3) := by decide +kernel
theorem dX11_review_46 : decode cX11_review 46 = .ok (.ifCond .ne 6, 3) := by decide +kernel
theorem dX11_review_49 : decode cX11_review 49 = .ok (.bipush (-4), 2) := by decide +kernel
theorem dX11_review_51 : decode cX11_review 51 = .ok (.ireturn, 1) := by decide +kernel
theorem dX11_review_52 : decode cX11_review 52 = .ok (.aload_n 0, 1) := by decide +kernel
theorem dX11_review_53 : decode cX11_review 53 = .ok (.getfield 40, 3) := by decide +kernel
theorem dX11_review_56 : decode cX11_review 56 = .ok (.iload_n 3, 1) := by decide +kernel
theorem dX11_review_57 : decode cX11_review 57 = .ok (.iload_n 2, 1) := by decide +kernel
theorem dX11_review_58 : decode cX11_review 58 = .ok (.invokevirtual 207, 3) := by decide +kernel
theorem dX11_review_61 : decode cX11_review 61 = .ok (.ifCond .ne 6, 3) := by decide +kernel
theorem dX11_review_64 : decode cX11_review 64 = .ok (.bipush (-3), 2) := by decide +kernel
theorem dX11_review_66 : decode cX11_review 66 = .ok (.ireturn, 1) := by decide +kernel
theorem dX11_review_67 : decode cX11_review 67 = .ok (.aload 5, 2) := by decide +kernel
theorem dX11_review_69 : decode cX11_review 69 = .ok (.invokevirtual 210, 3) := by decide +kernel
theorem dX11_review_72 : decode cX11_review 72 = .ok (.iload_n 3, 1) := by decide +kernel
theorem dX11_review_73 : decode cX11_review 73 = .ok (.if_icmp .ne 6, 3) := by decide +kernel
theorem dX11_review_76 : decode cX11_review 76 = .ok (.bipush (-7), 2) := by decide +kernel
theorem dX11_review_78 : decode cX11_review 78 = .ok (.ireturn, 1) := by decide +kernel
theorem dX11_review_79 : decode cX11_review 79 = .ok (.aload_n 0, 1) := by decide +kernel
theorem dX11_review_80 : decode cX11_review 80 = .ok (.aload 4, 2) := by decide +kernel
theorem dX11_review_82 : decode cX11_review 82 = .ok (.aload 5, 2) := by decide +kernel
theorem dX11_review_84 : decode cX11_review 84 = .ok (.iload_n 2, 1) := by decide +kernel
theorem dX11_review_85 : decode cX11_review 85 = .ok (.invokevirtual 213, 3) := by decide +kernel
theorem dX11_review_88 : decode cX11_review 88 = .ok (.istore 6, 2) := by decide +kernel
theorem dX11_review_90 : decode cX11_review 90 = .ok (.iload 6, 2) := by decide +kernel
theorem dX11_review_92 : decode cX11_review 92 = .ok (.ifCond .le 9, 3) := by decide +kernel
theorem dX11_review_95 : decode cX11_review 95 = .ok (.bipush (-10), 2) := by decide +kernel
theorem dX11_review_97 : decode cX11_review 97 = .ok (.iload 6, 2) := by decide +kernel
theorem dX11_review_99 : decode cX11_review 99 = .ok (.isub, 1) := by decide +kernel
theorem dX11_review_100 : decode cX11_review 100 = .ok (.ireturn, 1) := by decide +kernel
theorem dX11_review_101 : decode cX11_review 101 = .ok (.aload 5, 2) := by decide +kernel
theorem dX11_review_103 : decode cX11_review 103 = .ok (.invokevirtual 217, 3) := by decide +kernel
theorem dX11_review_106 : decode cX11_review 106 = .ok (.aload_n 0, 1) := by decide +kernel
theorem dX11_review_107 : decode cX11_review 107 = .ok (.getfield 54, 3) := by decide +kernel
theorem dX11_review_110 : decode cX11_review 110 = .ok (.aload 4, 2) := by decide +kernel
theorem dX11_review_112 : decode cX11_review 112 = .ok (.invokevirtual 138, 3) := by decide +kernel
theorem dX11_review_115 : decode cX11_review 115 = .ok (.iload_n 2, 1) := by decide +kernel
theorem dX11_review_116 : decode cX11_review 116 = .ok (.aload 5, 2) := by decide +kernel
theorem dX11_review_118 : decode cX11_review 118 = .ok (.invokevirtual 220, 3) := by decide +kernel
theorem dX11_review_121 : decode cX11_review 121 = .ok (.invokevirtual 221, 3) := by decide +kernel
theorem dX11_review_124 : decode cX11_review 124 = .ok (.aload_n 0, 1) := by decide +kernel
theorem dX11_review_125 : decode cX11_review 125 = .ok (.getfield 54, 3) := by decide +kernel
theorem dX11_review_128 : decode cX11_review 128 = .ok (.invokevirtual 225, 3) := by decide +kernel
theorem dX11_review_131 : decode cX11_review 131 = .ok (.ireturn, 1) := by decide +kernel
theorem dX11_reuse_0 : decode cX11_reuse 0 = .ok (.aload_n 0, 1) := by decide +kernel
theorem dX11_reuse_1 : decode cX11_reuse 1 = .ok (.iload_n 1, 1) := by decide +kernel
theorem dX11_reuse_2 : decode cX11_reuse 2 = .ok (.iload_n 2, 1) := by decide +kernel
theorem dX11_reuse_3 : decode cX11_reuse 3 = .ok (.iload_n 3, 1) := by decide +kernel
theorem dX11_reuse_4 : decode cX11_reuse 4 = .ok (.invokevirtual 190, 3) := by decide +kernel
theorem dX11_reuse_7 : decode cX11_reuse 7 = .ok (.istore 4, 2) := by decide +kernel
theorem dX11_reuse_9 : decode cX11_reuse 9 = .ok (.iload 4, 2) := by decide +kernel
theorem dX11_reuse_11 : decode cX11_reuse 11 = .ok (.ifCond .ge 6, 3) := by decide +kernel
theorem dX11_reuse_14 : decode cX11_reuse 14 = .ok (.iload 4, 2) := by decide +kernel
theorem dX11_reuse_16 : decode cX11_reuse 16 = .ok (.ireturn, 1) := by decide +kernel
theorem dX11_reuse_17 : decode cX11_reuse 17 = .ok (.aload_n 0, 1) := by decide +kernel
theorem dX11_reuse_18 : decode cX11_reuse 18 = .ok (.aload_n 0, 1) := by decide +kernel
theorem dX11_reuse_19 : decode cX11_reuse 19 = .ok (.getfield 68, 3) := by decide +kernel
theorem dX11_reuse_22 : decode cX11_reuse 22 = .ok (.iload_n 1, 1) := by decide +kernel
theorem dX11_reuse_23 : decode cX11_reuse 23 = .ok (.invokevirtual 121, 3) := by decide +kernel
theorem dX11_reuse_26 : decode cX11_reuse 26 = .ok (.iload_n 2, 1) := by decide +kernel
theorem dX11_reuse_27 : decode cX11_reuse 27 = .ok (.invokevirtual 226, 3) := by decide +kernel
theorem dX11_reuse_30 : decode cX11_reuse 30 = .ok (.astore 5, 2) := by decide +kernel
theorem dX11_reuse_32 : decode cX11_reuse 32 = .ok (.aload_n 0, 1) := by decide +kernel
theorem dX11_reuse_33 : decode cX11_reuse 33 = .ok (.iload_n 1, 1) := by decide +kernel
theorem dX11_reuse_34 : decode cX11_reuse 34 = .ok (.iload_n 2, 1) := by decide +kernel
theorem dX11_reuse_35 : decode cX11_reuse 35 = .ok (.invokevirtual 194, 3) := by decide +kernel
theorem dX11_reuse_38 : decode cX11_reuse 38 = .ok (.astore 6, 2) := by decide +kernel
theorem dX11_reuse_40 : decode cX11_reuse 40 = .ok (.aload 5, 2) := by decide +kernel
theorem dX11_reuse_42 : decode cX11_reuse 42 = .ok (.ifnull 8, 3) := by decide +kernel
theorem dX11_reuse_45 : decode cX11_reuse 45 = .ok (.aload 6, 2) := by decide +kernel
theorem dX11_reuse_47 : decode cX11_reuse 47 = .ok (.ifnonnull 6, 3) := by decide +kernel
theorem dX11_reuse_50 : decode cX11_reuse 50 = .ok (.bipush (-5), 2) := by decide +kernel
theorem dX11_reuse_52 : decode cX11_reuse 52 = .ok (.ireturn, 1) := by decide +kernel
theorem dX11_reuse_53 : decode cX11_reuse 53 = .ok (.aload 6, 2) := by decide +kernel
theorem dX11_reuse_55 : decode cX11_reuse 55 = .ok (.aload 5, 2) := by decide +kernel
theorem dX11_reuse_57 : decode cX11_reuse 57 = .ok (.invokevirtual 230, 3) := by decide +kernel
theorem dX11_reuse_60 : decode cX11_reuse 60 = .ok (.iload_n 3, 1) := by decide +kernel
theorem dX11_reuse_61 : decode cX11_reuse 61 = .ok (.invokevirtual 198, 3) := by decide +kernel
theorem dX11_reuse_64 : decode cX11_reuse 64 = .ok (.aload 6, 2) := by decide +kernel
theorem dX11_reuse_66 : decode cX11_reuse 66 = .ok (.invokevirtual 220, 3) := by decide +kernel
theorem dX11_reuse_69 : decode cX11_reuse 69 = .ok (.invokevirtual 94, 3) := by decide +kernel
theorem dX11_reuse_72 : decode cX11_reuse 72 = .ok (.ireturn, 1) := by decide +kernel
theorem dX11_text_0 : decode cX11_text 0 = .ok (.aload_n 0, 1) := by decide +kernel
theorem dX11_text_1 : decode cX11_text 1 = .ok (.iload_n 1, 1) := by decide +kernel
theorem dX11_text_2 : decode cX11_text 2 = .ok (.iload_n 2, 1) := by decide +kernel
theorem dX11_text_3 : decode cX11_text 3 = .ok (.invokevirtual 194, 3) := by decide +kernel
theorem dX11_text_6 : decode cX11_text 6 = .ok (.astore 4, 2) := by decide +kernel
theorem dX11_text_8 : decode cX11_text 8 = .ok (.aload 4, 2) := by decide +kernel
theorem dX11_text_10 : decode cX11_text 10 = .ok (.ifnonnull 5, 3) := by decide +kernel
theorem dX11_text_13 : decode cX11_text 13 = .ok (.iconst (-1), 1) := by decide +kernel
theorem dX11_text_14 : decode cX11_text 14 = .ok (.ireturn, 1) := by decide +kernel
theorem dX11_text_15 : decode cX11_text 15 = .ok (.iload_n 3, 1) := by decide +kernel
theorem dX11_text_16 : decode cX11_text 16 = .ok (.ifCond .ne 9, 3) := by decide +kernel
theorem dX11_text_19 : decode cX11_text 19 = .ok (.aload 4, 2) := by decide +kernel
theorem dX11_text_21 : decode cX11_text 21 = .ok (.invokevirtual 235, 3) := by decide +kernel
theorem dX11_text_24 : decode cX11_text 24 = .ok (.ireturn, 1) := by decide +kernel
theorem dX11_text_25 : decode cX11_text 25 = .ok (.iload_n 3, 1) := by decide +kernel
theorem dX11_text_26 : decode cX11_text 26 = .ok (.iconst 1, 1) := by decide +kernel
theorem dX11_text_27 : decode cX11_text 27 = .ok (.if_icmp .ne 9, 3) := by decide +kernel
theorem dX11_text_30 : decode cX11_text 30 = .ok (.aload 4, 2) := by decide +kernel
theorem dX11_text_32 : decode cX11_text 32 = .ok (.invokevirtual 210, 3) := by decide +kernel
theorem dX11_text_35 : decode cX11_text 35 = .ok (.ireturn, 1) := by decide +kernel
theorem dX11_text_36 : decode cX11_text 36 = .ok (.iload_n 3, 1) := by decide +kernel
theorem dX11_text_37 : decode cX11_text 37 = .ok (.iconst 2, 1) := by decide +kernel
theorem dX11_text_38 : decode cX11_text 38 = .ok (.if_icmp .ne 14, 3) := by decide +kernel
theorem dX11_text_41 : decode cX11_text 41 = .ok (.aload 4, 2) := by decide +kernel
theorem dX11_text_43 : decode cX11_text 43 = .ok (.invokevirtual 220, 3) := by decide +kernel
theorem dX11_text_46 : decode cX11_text 46 = .ok (.invokevirtual 94, 3) := by decide +kernel
theorem dX11_text_49 : decode cX11_text 49 = .ok (.goto 14, 3) := by decide +kernel
theorem dX11_text_52 : decode cX11_text 52 = .ok (.aload 4, 2) := by decide +kernel
theorem dX11_text_54 : decode cX11_text 54 = .ok (.invokevirtual 220, 3) := by decide +kernel
theorem dX11_text_57 : decode cX11_text 57 = .ok (.iload_n 3, 1) := by decide +kernel
theorem dX11_text_58 : decode cX11_text 58 = .ok (.bipush 10, 2) := by decide +kernel
theorem dX11_text_60 : decode cX11_text 60 = .ok (.invokevirtual 142, 3) := by decide +kernel
theorem dX11_text_63 : decode cX11_text 63 = .ok (.ireturn, 1) := by decide +kernel
theorem dX11_fault_0 : decode cX11_fault 0 = .ok (.aload_n 0, 1) := by decide +kernel
theorem dX11_fault_1 : decode cX11_fault 1 = .ok (.getfield 68, 3) := by decide +kernel
theorem dX11_fault_4 : decode cX11_fault 4 = .ok (.iload_n 1, 1) := by decide +kernel
theorem dX11_fault_5 : decode cX11_fault 5 = .ok (.invokevirtual 121, 3) := by decide +kernel
theorem dX11_fault_8 : decode cX11_fault 8 = .ok (.astore_n 3, 1) := by decide +kernel
theorem dX11_fault_9 : decode cX11_fault 9 = .ok (.aload_n 0, 1) := by decide +kernel
theorem dX11_fault_10 : decode cX11_fault 10 = .ok (.iload_n 1, 1) := by decide +kernel
theorem dX11_fault_11 : decode cX11_fault 11 = .ok (.iload_n 2, 1) := by decide +kernel
theorem dX11_fault_12 : decode cX11_fault 12 = .ok (.invokevirtual 194, 3) := by decide +kernel
theorem dX11_fault_15 : decode cX11_fault 15 = .ok (.astore 4, 2) := by decide +kernel
theorem dX11_fault_17 : decode cX11_fault 17 = .ok (.aload_n 3, 1) := by decide +kernel
theorem dX11_fault_18 : decode cX11_fault 18 = .ok (.ifnull 8, 3) := by decide +kernel
theorem dX11_fault_21 : decode cX11_fault 21 = .ok (.aload 4, 2) := by decide +kernel
theorem dX11_fault_23 : decode cX11_fault 23 = .ok (.ifnonnull 5, 3) := by decide +kernel
theorem dX11_fault_26 : decode cX11_fault 26 = .ok (.iconst (-1), 1) := by decide +kernel
theorem dX11_fault_27 : decode cX11_fault 27 = .ok (.ireturn, 1) := by decide +kernel
theorem dX11_fault_28 : decode cX11_fault 28 = .ok (.aload 4, 2) := by decide +kernel
theorem dX11_fault_30 : decode cX11_fault 30 = .ok (.invokevirtual 235, 3) := by decide +kernel
theorem dX11_fault_33 : decode cX11_fault 33 = .ok (.ifCond .ne 8, 3) := by decide +kernel
theorem dX11_fault_36 : decode cX11_fault 36 = .ok (.bipush (-5), 2) := by decide +kernel
theorem dX11_fault_38 : decode cX11_fault 38 = .ok (.goto 11, 3) := by decide +kernel
theorem dX11_fault_41 : decode cX11_fault 41 = .ok (.aload_n 0, 1) := by decide +kernel
theorem dX11_fault_42 : decode cX11_fault 42 = .ok (.aload_n 3, 1) := by decide +kernel
theorem dX11_fault_43 : decode cX11_fault 43 = .ok (.aload 4, 2) := by decide +kernel
theorem dX11_fault_45 : decode cX11_fault 45 = .ok (.iload_n 2, 1) := by decide +kernel
theorem dX11_fault_46 : decode cX11_fault 46 = .ok (.invokevirtual 213, 3) := by decide +kernel
theorem dX11_fault_49 : decode cX11_fault 49 = .ok (.ireturn, 1) := by decide +kernel
theorem dX11_limit_0 : decode cX11_limit 0 = .ok (.iload_n 1, 1) := by decide +kernel
theorem dX11_limit_1 : decode cX11_limit 1 = .ok (.iconst 1, 1) := by decide +kernel
theorem dX11_limit_2 : decode cX11_limit 2 = .ok (.bipush 10, 2) := by decide +kernel
theorem dX11_limit_4 : decode cX11_limit 4 = .ok (.invokestatic 101, 3) := by decide +kernel
theorem dX11_limit_7 : decode cX11_limit 7 = .ok (.ifCond .ne 5, 3) := by decide +kernel
theorem dX11_limit_10 : decode cX11_limit 10 = .ok (.iconst (-1), 1) := by decide +kernel
theorem dX11_limit_11 : decode cX11_limit 11 = .ok (.ireturn, 1) := by decide +kernel
theorem dX11_limit_12 : decode cX11_limit 12 = .ok (.aload_n 0, 1) := by decide +kernel
theorem dX11_limit_13 : decode cX11_limit 13 = .ok (.getfield 74, 3) := by decide +kernel
theorem dX11_limit_16 : decode cX11_limit 16 = .ok (.istore_n 2, 1) := by decide +kernel
theorem dX11_limit_17 : decode cX11_limit 17 = .ok (.aload_n 0, 1) := by decide +kernel
theorem dX11_limit_18 : decode cX11_limit 18 = .ok (.iload_n 1, 1) := by decide +kernel
theorem dX11_limit_19 : decode cX11_limit 19 = .ok (.putfield 74, 3) := by decide +kernel
theorem dX11_limit_22 : decode cX11_limit 22 = .ok (.iload_n 2, 1) := by decide +kernel
theorem dX11_limit_23 : decode cX11_limit 23 = .ok (.ireturn, 1) := by decide +kernel
theorem dX11_nearest_0 : decode cX11_nearest 0 = .ok (.aload_n 0, 1) := by decide +kernel
theorem dX11_nearest_1 : decode cX11_nearest 1 = .ok (.getfield 68, 3) := by decide +kernel
theorem dX11_nearest_4 : decode cX11_nearest 4 = .ok (.iload_n 1, 1) := by decide +kernel
theorem dX11_nearest_5 : decode cX11_nearest 5 = .ok (.invokevirtual 121, 3) := by decide +kernel
theorem dX11_nearest_8 : decode cX11_nearest 8 = .ok (.astore 4, 2) := by decide +kernel
theorem dX11_nearest_10 : decode cX11_nearest 10 = .ok (.aload 4, 2) := by decide +kernel
theorem dX11_nearest_12 : decode cX11_nearest 12 = .ok (.ifnull 19, 3) := by decide +kernel
theorem dX11_nearest_15 : decode cX11_nearest 15 = .ok (.iload_n 2, 1) := by decide +kernel
theorem dX11_nearest_16 : decode cX11_nearest 16 = .ok (.invokestatic 174, 3) := by decide +kernel
theorem dX11_nearest_19 : decode cX11_nearest 19 = .ok (.ifCond .eq 12, 3) := by decide +kernel
theorem dX11_nearest_22 : decode cX11_nearest 22 = .ok (.iload_n 3, 1) := by decide +kernel
theorem dX11_nearest_23 : decode cX11_nearest 23 = .ok (.iconst 0, 1) := by decide +kernel
theorem dX11_nearest_24 : decode cX11_nearest 24 = .ok (.iconst 2, 1) := by decide +kernel
theorem dX11_nearest_25 : decode cX11_nearest 25 = .ok (.invokestatic 101, 3) := by decide +kernel
theorem dX11_nearest_28 : decode cX11_nearest 28 = .ok (.ifCond .ne 5, 3) := by decide +kernel
theorem dX11_nearest_31 : decode cX11_nearest 31 = .ok (.iconst (-1), 1) := by decide +kernel
theorem dX11_nearest_32 : decode cX11_nearest 32 = .ok (.ireturn, 1) := by decide +kernel
theorem dX11_nearest_33 : decode cX11_nearest 33 = .ok (.aload_n 0, 1) := by decide +kernel
theorem dX11_nearest_34 : decode cX11_nearest 34 = .ok (.getfield 54, 3) := by decide +kernel
theorem dX11_nearest_37 : decode cX11_nearest 37 = .ok (.aload 4, 2) := by decide +kernel
theorem dX11_nearest_39 : decode cX11_nearest 39 = .ok (.invokevirtual 138, 3) := by decide +kernel
theorem dX11_nearest_42 : decode cX11_nearest 42 = .ok (.iload_n 2, 1) := by decide +kernel
theorem dX11_nearest_43 : decode cX11_nearest 43 = .ok (.aload_n 0, 1) := by decide +kernel
theorem dX11_nearest_44 : decode cX11_nearest 44 = .ok (.getfield 19, 3) := by decide +kernel
theorem dX11_nearest_47 : decode cX11_nearest 47 = .ok (.invokevirtual 238, 3) := by decide +kernel
theorem dX11_nearest_50 : decode cX11_nearest 50 = .ok (.istore 5, 2) := by decide +kernel
theorem dX11_nearest_52 : decode cX11_nearest 52 = .ok (.aload_n 0, 1) := by decide +kernel
theorem dX11_nearest_53 : decode cX11_nearest 53 = .ok (.getfield 54, 3) := by decide +kernel
theorem dX11_nearest_56 : decode cX11_nearest 56 = .ok (.iload 5, 2) := by decide +kernel
theorem dX11_nearest_58 : decode cX11_nearest 58 = .ok (.invokevirtual 242, 3) := by decide +kernel
theorem dX11_nearest_61 : decode cX11_nearest 61 = .ok (.astore 6, 2) := by decide +kernel
theorem dX11_nearest_63 : decode cX11_nearest 63 = .ok (.aload 6, 2) := by decide +kernel
theorem dX11_nearest_65 : decode cX11_nearest 65 = .ok (.ifnonnull 6, 3) := by decide +kernel
theorem dX11_nearest_68 : decode cX11_nearest 68 = .ok (.bipush (-5), 2) := by decide +kernel
theorem dX11_nearest_70 : decode cX11_nearest 70 = .ok (.ireturn, 1) := by decide +kernel
theorem dX11_nearest_71 : decode cX11_nearest 71 = .ok (.iload_n 3, 1) := by decide +kernel
theorem dX11_nearest_72 : decode cX11_nearest 72 = .ok (.ifCond .ne 6, 3) := by decide +kernel
theorem dX11_nearest_75 : decode cX11_nearest 75 = .ok (.iload 5, 2) := by decide +kernel
theorem dX11_nearest_77 : decode cX11_nearest 77 = .ok (.ireturn, 1) := by decide +kernel
theorem dX11_nearest_78 : decode cX11_nearest 78 = .ok (.iload_n 3, 1) := by decide +kernel
theorem dX11_nearest_79 : decode cX11_nearest 79 = .ok (.iconst 1, 1) := by decide +kernel
theorem dX11_nearest_80 : decode cX11_nearest 80 = .ok (.if_icmp .ne 23, 3) := by decide +kernel
theorem dX11_nearest_83 : decode cX11_nearest 83 = .ok (.aload_n 0, 1) := by decide +kernel
theorem dX11_nearest_84 : decode cX11_nearest 84 = .ok (.getfield 19, 3) := by decide +kernel
theorem dX11_nearest_87 : decode cX11_nearest 87 = .ok (.aload 4, 2) := by decide +kernel
theorem dX11_nearest_89 : decode cX11_nearest 89 = .ok (.invokevirtual 138, 3) := by decide +kernel
theorem dX11_nearest_92 : decode cX11_nearest 92 = .ok (.aload 6, 2) := by decide +kernel
theorem dX11_nearest_94 : decode cX11_nearest 94 = .ok (.invokevirtual 245, 3) := by decide +kernel
theorem dX11_nearest_97 : decode cX11_nearest 97 = .ok (.invokevirtual 146, 3) := by decide +kernel
theorem dX11_nearest_100 : decode cX11_nearest 100 = .ok (.goto 11, 3) := by decide +kernel
theorem dX11_nearest_103 : decode cX11_nearest 103 = .ok (.aload 6, 2) := by decide +kernel
theorem dX11_nearest_105 : decode cX11_nearest 105 = .ok (.invokevirtual 230, 3) := by decide +kernel
theorem dX11_nearest_108 : decode cX11_nearest 108 = .ok (.invokevirtual 94, 3) := by decide +kernel
theorem dX11_nearest_111 : decode cX11_nearest 111 = .ok (.ireturn, 1) := by decide +kernel
theorem dX11_memory_0 : decode cX11_memory 0 = .ok (.aload_n 0, 1) := by decide +kernel
theorem dX11_memory_1 : decode cX11_memory 1 = .ok (.getfield 54, 3) := by decide +kernel
theorem dX11_memory_4 : decode cX11_memory 4 = .ok (.iload_n 1, 1) := by decide +kernel
theorem dX11_memory_5 : decode cX11_memory 5 = .ok (.invokevirtual 242, 3) := by decide +kernel
theorem dX11_memory_8 : decode cX11_memory 8 = .ok (.astore_n 3, 1) := by decide +kernel
theorem dX11_memory_9 : decode cX11_memory 9 = .ok (.aload_n 3, 1) := by decide +kernel
theorem dX11_memory_10 : decode cX11_memory 10 = .ok (.ifnonnull 5, 3) := by decide +kernel
theorem dX11_memory_13 : decode cX11_memory 13 = .ok (.iconst (-1), 1) := by decide +kernel
theorem dX11_memory_14 : decode cX11_memory 14 = .ok (.ireturn, 1) := by decide +kernel
theorem dX11_memory_15 : decode cX11_memory 15 = .ok (.iload_n 2, 1) := by decide +kernel
theorem dX11_memory_16 : decode cX11_memory 16 = .ok (.ifCond .ne 8, 3) := by decide +kernel
theorem dX11_memory_19 : decode cX11_memory 19 = .ok (.aload_n 3, 1) := by decide +kernel
theorem dX11_memory_20 : decode cX11_memory 20 = .ok (.invokevirtual 248, 3) := by decide +kernel
theorem dX11_memory_23 : decode cX11_memory 23 = .ok (.ireturn, 1) := by decide +kernel
theorem dX11_memory_24 : decode cX11_memory 24 = .ok (.iload_n 2, 1) := by decide +kernel
theorem dX11_memory_25 : decode cX11_memory 25 = .ok (.iconst 1, 1) := by decide +kernel
theorem dX11_memory_26 : decode cX11_memory 26 = .ok (.if_icmp .ne 11, 3) := by decide +kernel
theorem dX11_memory_29 : decode cX11_memory 29 = .ok (.aload_n 3, 1) := by decide +kernel
theorem dX11_memory_30 : decode cX11_memory 30 = .ok (.invokevirtual 245, 3) := by decide +kernel
theorem dX11_memory_33 : decode cX11_memory 33 = .ok (.invokevirtual 94, 3) := by decide +kernel
theorem dX11_memory_36 : decode cX11_memory 36 = .ok (.ireturn, 1) := by decide +kernel
theorem dX11_memory_37 : decode cX11_memory 37 = .ok (.iload_n 2, 1) := by decide +kernel
theorem dX11_memory_38 : decode cX11_memory 38 = .ok (.iconst 2, 1) := by decide +kernel
theorem dX11_memory_39 : decode cX11_memory 39 = .ok (.if_icmp .ne 11, 3) := by decide +kernel
theorem dX11_memory_42 : decode cX11_memory 42 = .ok (.aload_n 3, 1) := by decide +kernel
theorem dX11_memory_43 : decode cX11_memory 43 = .ok (.invokevirtual 230, 3) := by decide +kernel
theorem dX11_memory_46 : decode cX11_memory 46 = .ok (.invokevirtual 94, 3) := by decide +kernel
theorem dX11_memory_49 : decode cX11_memory 49 = .ok (.ireturn, 1) := by decide +kernel
theorem dX11_memory_50 : decode cX11_memory 50 = .ok (.iload_n 2, 1) := by decide +kernel
theorem dX11_memory_51 : decode cX11_memory 51 = .ok (.bipush 20, 2) := by decide +kernel
theorem dX11_memory_53 : decode cX11_memory 53 = .ok (.if_icmp .ge 16, 3) := by decide +kernel
theorem dX11_memory_56 : decode cX11_memory 56 = .ok (.aload_n 3, 1) := by decide +kernel
theorem dX11_memory_57 : decode cX11_memory 57 = .ok (.invokevirtual 245, 3) := by decide +kernel
theorem dX11_memory_60 : decode cX11_memory 60 = .ok (.iload_n 2, 1) := by decide +kernel
theorem dX11_memory_61 : decode cX11_memory 61 = .ok (.bipush 10, 2) := by decide +kernel
theorem dX11_memory_63 : decode cX11_memory 63 = .ok (.invokevirtual 142, 3) := by decide +kernel
theorem dX11_memory_66 : decode cX11_memory 66 = .ok (.goto 13, 3) := by decide +kernel
theorem dX11_memory_69 : decode cX11_memory 69 = .ok (.aload_n 3, 1) := by decide +kernel
theorem dX11_memory_70 : decode cX11_memory 70 = .ok (.invokevirtual 230, 3) := by decide +kernel
theorem dX11_memory_73 : decode cX11_memory 73 = .ok (.iload_n 2, 1) := by decide +kernel
theorem dX11_memory_74 : decode cX11_memory 74 = .ok (.bipush 20, 2) := by decide +kernel
theorem dX11_memory_76 : decode cX11_memory 76 = .ok (.invokevirtual 142, 3) := by decide +kernel
theorem dX11_memory_79 : decode cX11_memory 79 = .ok (.ireturn, 1) := by decide +kernel
theorem dX11_effort_0 : decode cX11_effort 0 = .ok (.aload_n 0, 1) := by decide +kernel
theorem dX11_effort_1 : decode cX11_effort 1 = .ok (.getfield 68, 3) := by decide +kernel
theorem dX11_effort_4 : decode cX11_effort 4 = .ok (.iload_n 1, 1) := by decide +kernel
theorem dX11_effort_5 : decode cX11_effort 5 = .ok (.invokevirtual 121, 3) := by decide +kernel
theorem dX11_effort_8 : decode cX11_effort 8 = .ok (.astore_n 3, 1) := by decide +kernel
theorem dX11_effort_9 : decode cX11_effort 9 = .ok (.aload_n 3, 1) := by decide +kernel
theorem dX11_effort_10 : decode cX11_effort 10 = .ok (.ifnull 10, 3) := by decide +kernel
theorem dX11_effort_13 : decode cX11_effort 13 = .ok (.iload_n 2, 1) := by decide +kernel
theorem dX11_effort_14 : decode cX11_effort 14 = .ok (.invokestatic 174, 3) := by decide +kernel
theorem dX11_effort_17 : decode cX11_effort 17 = .ok (.ifCond .ne 7, 3) := by decide +kernel
theorem dX11_effort_20 : decode cX11_effort 20 = .ok (.iconst (-1), 1) := by decide +kernel
theorem dX11_effort_21 : decode cX11_effort 21 = .ok (.goto 9, 3) := by decide +kernel
theorem dX11_effort_24 : decode cX11_effort 24 = .ok (.aload_n 0, 1) := by decide +kernel
theorem dX11_effort_25 : decode cX11_effort 25 = .ok (.aload_n 3, 1) := by decide +kernel
theorem dX11_effort_26 : decode cX11_effort 26 = .ok (.iload_n 2, 1) := by decide +kernel
theorem dX11_effort_27 : decode cX11_effort 27 = .ok (.invokevirtual 251, 3) := by decide +kernel
theorem dX11_effort_30 : decode cX11_effort 30 = .ok (.ireturn, 1) := by decide +kernel
theorem dX11_plan_0 : decode cX11_plan 0 = .ok (.iload_n 1, 1) := by decide +kernel
theorem dX11_plan_1 : decode cX11_plan 1 = .ok (.invokestatic 174, 3) := by decide +kernel
theorem dX11_plan_4 : decode cX11_plan 4 = .ok (.ifCond .eq 14, 3) := by decide +kernel
theorem dX11_plan_7 : decode cX11_plan 7 = .ok (.aload_n 0, 1) := by decide +kernel
theorem dX11_plan_8 : decode cX11_plan 8 = .ok (.getfield 68, 3) := by decide +kernel
theorem dX11_plan_11 : decode cX11_plan 11 = .ok (.iload_n 2, 1) := by decide +kernel
theorem dX11_plan_12 : decode cX11_plan 12 = .ok (.invokevirtual 121, 3) := by decide +kernel
theorem dX11_plan_15 : decode cX11_plan 15 = .ok (.ifnonnull 5, 3) := by decide +kernel
theorem dX11_plan_18 : decode cX11_plan 18 = .ok (.iconst (-1), 1) := by decide +kernel
theorem dX11_plan_19 : decode cX11_plan 19 = .ok (.ireturn, 1) := by decide +kernel
theorem dX11_plan_20 : decode cX11_plan 20 = .ok (.aload_n 0, 1) := by decide +kernel
theorem dX11_plan_21 : decode cX11_plan 21 = .ok (.iload_n 1, 1) := by decide +kernel
theorem dX11_plan_22 : decode cX11_plan 22 = .ok (.invokevirtual 255, 3) := by decide +kernel
theorem dX11_plan_25 : decode cX11_plan 25 = .ok (.aload_n 0, 1) := by decide +kernel
theorem dX11_plan_26 : decode cX11_plan 26 = .ok (.getfield 33, 3) := by decide +kernel
theorem dX11_plan_29 : decode cX11_plan 29 = .ok (.iload_n 2, 1) := by decide +kernel
theorem dX11_plan_30 : decode cX11_plan 30 = .ok (.invokevirtual 258, 3) := by decide +kernel
theorem dX11_plan_33 : decode cX11_plan 33 = .ok (.ireturn, 1) := by decide +kernel
theorem dX11_planned_0 : decode cX11_planned 0 = .ok (.iload_n 1, 1) := by decide +kernel
theorem dX11_planned_1 : decode cX11_planned 1 = .ok (.invokestatic 174, 3) := by decide +kernel
theorem dX11_planned_4 : decode cX11_planned 4 = .ok (.ifCond .eq 12, 3) := by decide +kernel
theorem dX11_planned_7 : decode cX11_planned 7 = .ok (.iload_n 2, 1) := by decide +kernel
theorem dX11_planned_8 : decode cX11_planned 8 = .ok (.iconst 0, 1) := by decide +kernel
theorem dX11_planned_9 : decode cX11_planned 9 = .ok (.iconst 2, 1) := by decide +kernel
theorem dX11_planned_10 : decode cX11_planned 10 = .ok (.invokestatic 101, 3) := by decide +kernel
theorem dX11_planned_13 : decode cX11_planned 13 = .ok (.ifCond .ne 5, 3) := by decide +kernel
theorem dX11_planned_16 : decode cX11_planned 16 = .ok (.iconst (-1), 1) := by decide +kernel
theorem dX11_planned_17 : decode cX11_planned 17 = .ok (.ireturn, 1) := by decide +kernel
theorem dX11_planned_18 : decode cX11_planned 18 = .ok (.aload_n 0, 1) := by decide +kernel
theorem dX11_planned_19 : decode cX11_planned 19 = .ok (.iload_n 1, 1) := by decide +kernel
theorem dX11_planned_20 : decode cX11_planned 20 = .ok (.invokevirtual 255, 3) := by decide +kernel
theorem dX11_planned_23 : decode cX11_planned 23 = .ok (.iload_n 2, 1) := by decide +kernel
theorem dX11_planned_24 : decode cX11_planned 24 = .ok (.ifCond .ne 11, 3) := by decide +kernel
theorem dX11_planned_27 : decode cX11_planned 27 = .ok (.aload_n 0, 1) := by decide +kernel
theorem dX11_planned_28 : decode cX11_planned 28 = .ok (.getfield 33, 3) := by decide +kernel
theorem dX11_planned_31 : decode cX11_planned 31 = .ok (.invokevirtual 261, 3) := by decide +kernel
theorem dX11_planned_34 : decode cX11_planned 34 = .ok (.ireturn, 1) := by decide +kernel
theorem dX11_planned_35 : decode cX11_planned 35 = .ok (.iload_n 2, 1) := by decide +kernel
theorem dX11_planned_36 : decode cX11_planned 36 = .ok (.iconst 1, 1) := by decide +kernel
theorem dX11_planned_37 : decode cX11_planned 37 = .ok (.if_icmp .ne 13, 3) := by decide +kernel
theorem dX11_planned_40 : decode cX11_planned 40 = .ok (.aload_n 0, 1) := by decide +kernel
theorem dX11_planned_41 : decode cX11_planned 41 = .ok (.getfield 33, 3) := by decide +kernel
theorem dX11_planned_44 : decode cX11_planned 44 = .ok (.invokevirtual 264, 3) := by decide +kernel
theorem dX11_planned_47 : decode cX11_planned 47 = .ok (.goto 10, 3) := by decide +kernel
theorem dX11_planned_50 : decode cX11_planned 50 = .ok (.aload_n 0, 1) := by decide +kernel
theorem dX11_planned_51 : decode cX11_planned 51 = .ok (.getfield 33, 3) := by decide +kernel
theorem dX11_planned_54 : decode cX11_planned 54 = .ok (.invokevirtual 267, 3) := by decide +kernel
theorem dX11_planned_57 : decode cX11_planned 57 = .ok (.ireturn, 1) := by decide +kernel
theorem dX11_release_0 : decode cX11_release 0 = .ok (.iload_n 1, 1) := by decide +kernel
theorem dX11_release_1 : decode cX11_release 1 = .ok (.invokestatic 174, 3) := by decide +kernel
theorem dX11_release_4 : decode cX11_release 4 = .ok (.ifCond .eq 15, 3) := by decide +kernel
theorem dX11_release_7 : decode cX11_release 7 = .ok (.aload_n 0, 1) := by decide +kernel
theorem dX11_release_8 : decode cX11_release 8 = .ok (.getfield 68, 3) := by decide +kernel
theorem dX11_release_11 : decode cX11_release 11 = .ok (.iload_n 1, 1) := by decide +kernel
theorem dX11_release_12 : decode cX11_release 12 = .ok (.iload_n 2, 1) := by decide +kernel
theorem dX11_release_13 : decode cX11_release 13 = .ok (.invokevirtual 270, 3) := by decide +kernel
theorem dX11_release_16 : decode cX11_release 16 = .ok (.goto 4, 3) := by decide +kernel
theorem dX11_release_19 : decode cX11_release 19 = .ok (.iconst (-1), 1) := by decide +kernel
theorem dX11_release_20 : decode cX11_release 20 = .ok (.ireturn, 1) := by decide +kernel
theorem dX11_many_0 : decode cX11_many 0 = .ok (.iload_n 1, 1) := by decide +kernel
theorem dX11_many_1 : decode cX11_many 1 = .ok (.tableswitch 126 0 8 #[51, 59, 67, 75, 83, 91, 99, 108, 117], 51) := by decide +kernel
theorem dX11_many_52 : decode cX11_many 52 = .ok (.aload_n 0, 1) := by decide +kernel
theorem dX11_many_53 : decode cX11_many 53 = .ok (.getfield 68, 3) := by decide +kernel
theorem dX11_many_56 : decode cX11_many 56 = .ok (.invokevirtual 113, 3) := by decide +kernel
theorem dX11_many_59 : decode cX11_many 59 = .ok (.ireturn, 1) := by decide +kernel
theorem dX11_many_60 : decode cX11_many 60 = .ok (.aload_n 0, 1) := by decide +kernel
theorem dX11_many_61 : decode cX11_many 61 = .ok (.getfield 71, 3) := by decide +kernel
theorem dX11_many_64 : decode cX11_many 64 = .ok (.invokevirtual 113, 3) := by decide +kernel
theorem dX11_many_67 : decode cX11_many 67 = .ok (.ireturn, 1) := by decide +kernel
theorem dX11_many_68 : decode cX11_many 68 = .ok (.aload_n 0, 1) := by decide +kernel
theorem dX11_many_69 : decode cX11_many 69 = .ok (.getfield 12, 3) := by decide +kernel
theorem dX11_many_72 : decode cX11_many 72 = .ok (.invokevirtual 94, 3) := by decide +kernel
theorem dX11_many_75 : decode cX11_many 75 = .ok (.ireturn, 1) := by decide +kernel
theorem dX11_many_76 : decode cX11_many 76 = .ok (.aload_n 0, 1) := by decide +kernel
theorem dX11_many_77 : decode cX11_many 77 = .ok (.getfield 40, 3) := by decide +kernel
theorem dX11_many_80 : decode cX11_many 80 = .ok (.invokevirtual 160, 3) := by decide +kernel
theorem dX11_many_83 : decode cX11_many 83 = .ok (.ireturn, 1) := by decide +kernel
theorem dX11_many_84 : decode cX11_many 84 = .ok (.aload_n 0, 1) := by decide +kernel
theorem dX11_many_85 : decode cX11_many 85 = .ok (.getfield 47, 3) := by decide +kernel
theorem dX11_many_88 : decode cX11_many 88 = .ok (.invokevirtual 186, 3) := by decide +kernel
theorem dX11_many_91 : decode cX11_many 91 = .ok (.ireturn, 1) := by decide +kernel
theorem dX11_many_92 : decode cX11_many 92 = .ok (.aload_n 0, 1) := by decide +kernel
theorem dX11_many_93 : decode cX11_many 93 = .ok (.getfield 54, 3) := by decide +kernel
theorem dX11_many_96 : decode cX11_many 96 = .ok (.invokevirtual 225, 3) := by decide +kernel
theorem dX11_many_99 : decode cX11_many 99 = .ok (.ireturn, 1) := by decide +kernel
theorem dX11_many_100 : decode cX11_many 100 = .ok (.aload_n 0, 1) := by decide +kernel
theorem dX11_many_101 : decode cX11_many 101 = .ok (.getfield 68, 3) := by decide +kernel
theorem dX11_many_104 : decode cX11_many 104 = .ok (.iconst 1, 1) := by decide +kernel
theorem dX11_many_105 : decode cX11_many 105 = .ok (.invokevirtual 273, 3) := by decide +kernel
theorem dX11_many_108 : decode cX11_many 108 = .ok (.ireturn, 1) := by decide +kernel
theorem dX11_many_109 : decode cX11_many 109 = .ok (.aload_n 0, 1) := by decide +kernel
theorem dX11_many_110 : decode cX11_many 110 = .ok (.getfield 68, 3) := by decide +kernel
theorem dX11_many_113 : decode cX11_many 113 = .ok (.iconst 2, 1) := by decide +kernel
theorem dX11_many_114 : decode cX11_many 114 = .ok (.invokevirtual 273, 3) := by decide +kernel
theorem dX11_many_117 : decode cX11_many 117 = .ok (.ireturn, 1) := by decide +kernel
theorem dX11_many_118 : decode cX11_many 118 = .ok (.aload_n 0, 1) := by decide +kernel
theorem dX11_many_119 : decode cX11_many 119 = .ok (.getfield 68, 3) := by decide +kernel
theorem dX11_many_122 : decode cX11_many 122 = .ok (.iconst 3, 1) := by decide +kernel
theorem dX11_many_123 : decode cX11_many 123 = .ok (.invokevirtual 273, 3) := by decide +kernel
theorem dX11_many_126 : decode cX11_many 126 = .ok (.ireturn, 1) := by decide +kernel
theorem dX11_many_127 : decode cX11_many 127 = .ok (.iload_n 1, 1) := by decide +kernel
theorem dX11_many_128 : decode cX11_many 128 = .ok (.bipush 9, 2) := by decide +kernel
theorem dX11_many_130 : decode cX11_many 130 = .ok (.bipush 11, 2) := by decide +kernel
theorem dX11_many_132 : decode cX11_many 132 = .ok (.invokestatic 101, 3) := by decide +kernel
theorem dX11_many_135 : decode cX11_many 135 = .ok (.ifCond .eq 17, 3) := by decide +kernel
theorem dX11_many_138 : decode cX11_many 138 = .ok (.aload_n 0, 1) := by decide +kernel
theorem dX11_many_139 : decode cX11_many 139 = .ok (.getfield 68, 3) := by decide +kernel
theorem dX11_many_142 : decode cX11_many 142 = .ok (.iload_n 1, 1) := by decide +kernel
theorem dX11_many_143 : decode cX11_many 143 = .ok (.bipush 9, 2) := by decide +kernel
theorem dX11_many_145 : decode cX11_many 145 = .ok (.isub, 1) := by decide +kernel
theorem dX11_many_146 : decode cX11_many 146 = .ok (.invokevirtual 276, 3) := by decide +kernel
theorem dX11_many_149 : decode cX11_many 149 = .ok (.goto 4, 3) := by decide +kernel
theorem dX11_many_152 : decode cX11_many 152 = .ok (.iconst (-1), 1) := by decide +kernel
theorem dX11_many_153 : decode cX11_many 153 = .ok (.ireturn, 1) := by decide +kernel
theorem dX11_keep_0 : decode cX11_keep 0 = .ok (.aload_n 0, 1) := by decide +kernel
theorem dX11_keep_1 : decode cX11_keep 1 = .ok (.getfield 64, 3) := by decide +kernel
theorem dX11_keep_4 : decode cX11_keep 4 = .ok (.aload_n 0, 1) := by decide +kernel
theorem dX11_keep_5 : decode cX11_keep 5 = .ok (.getfield 68, 3) := by decide +kernel
theorem dX11_keep_8 : decode cX11_keep 8 = .ok (.invokevirtual 279, 3) := by decide +kernel
theorem dX11_keep_11 : decode cX11_keep 11 = .ok (.aload_n 0, 1) := by decide +kernel
theorem dX11_keep_12 : decode cX11_keep 12 = .ok (.getfield 58, 3) := by decide +kernel
theorem dX11_keep_15 : decode cX11_keep 15 = .ok (.aload_n 0, 1) := by decide +kernel
theorem dX11_keep_16 : decode cX11_keep 16 = .ok (.getfield 54, 3) := by decide +kernel
theorem dX11_keep_19 : decode cX11_keep 19 = .ok (.invokevirtual 283, 3) := by decide +kernel
theorem dX11_keep_22 : decode cX11_keep 22 = .ok (.aload_n 0, 1) := by decide +kernel
theorem dX11_keep_23 : decode cX11_keep 23 = .ok (.iconst 1, 1) := by decide +kernel
theorem dX11_keep_24 : decode cX11_keep 24 = .ok (.putfield 78, 3) := by decide +kernel
theorem dX11_keep_27 : decode cX11_keep 27 = .ok (.iconst 1, 1) := by decide +kernel
theorem dX11_keep_28 : decode cX11_keep 28 = .ok (.ireturn, 1) := by decide +kernel
theorem dX11_back_0 : decode cX11_back 0 = .ok (.aload_n 0, 1) := by decide +kernel
theorem dX11_back_1 : decode cX11_back 1 = .ok (.getfield 78, 3) := by decide +kernel
theorem dX11_back_4 : decode cX11_back 4 = .ok (.ifCond .ne 6, 3) := by decide +kernel
theorem dX11_back_7 : decode cX11_back 7 = .ok (.bipush (-5), 2) := by decide +kernel
theorem dX11_back_9 : decode cX11_back 9 = .ok (.ireturn, 1) := by decide +kernel
theorem dX11_back_10 : decode cX11_back 10 = .ok (.aload_n 0, 1) := by decide +kernel
theorem dX11_back_11 : decode cX11_back 11 = .ok (.getfield 68, 3) := by decide +kernel
theorem dX11_back_14 : decode cX11_back 14 = .ok (.aload_n 0, 1) := by decide +kernel
theorem dX11_back_15 : decode cX11_back 15 = .ok (.getfield 64, 3) := by decide +kernel
theorem dX11_back_18 : decode cX11_back 18 = .ok (.invokevirtual 279, 3) := by decide +kernel
theorem dX11_back_21 : decode cX11_back 21 = .ok (.aload_n 0, 1) := by decide +kernel
theorem dX11_back_22 : decode cX11_back 22 = .ok (.getfield 54, 3) := by decide +kernel
theorem dX11_back_25 : decode cX11_back 25 = .ok (.aload_n 0, 1) := by decide +kernel
theorem dX11_back_26 : decode cX11_back 26 = .ok (.getfield 58, 3) := by decide +kernel
theorem dX11_back_29 : decode cX11_back 29 = .ok (.invokevirtual 283, 3) := by decide +kernel
theorem dX11_back_32 : decode cX11_back 32 = .ok (.iconst 1, 1) := by decide +kernel
theorem dX11_back_33 : decode cX11_back 33 = .ok (.ireturn, 1) := by decide +kernel
theorem dX11_isIn_0 : decode cX11_isIn 0 = .ok (.iload_n 0, 1) := by decide +kernel
theorem dX11_isIn_1 : decode cX11_isIn 1 = .ok (.iload_n 1, 1) := by decide +kernel
theorem dX11_isIn_2 : decode cX11_isIn 2 = .ok (.if_icmp .lt 12, 3) := by decide +kernel
theorem dX11_isIn_5 : decode cX11_isIn 5 = .ok (.iload_n 0, 1) := by decide +kernel
theorem dX11_isIn_6 : decode cX11_isIn 6 = .ok (.iload_n 2, 1) := by decide +kernel
theorem dX11_isIn_7 : decode cX11_isIn 7 = .ok (.if_icmp .gt 7, 3) := by decide +kernel
theorem dX11_isIn_10 : decode cX11_isIn 10 = .ok (.iconst 1, 1) := by decide +kernel
theorem dX11_isIn_11 : decode cX11_isIn 11 = .ok (.goto 4, 3) := by decide +kernel
theorem dX11_isIn_14 : decode cX11_isIn 14 = .ok (.iconst 0, 1) := by decide +kernel
theorem dX11_isIn_15 : decode cX11_isIn 15 = .ok (.ireturn, 1) := by decide +kernel
theorem dX11_isWord_0 : decode cX11_isWord 0 = .ok (.iload_n 0, 1) := by decide +kernel
theorem dX11_isWord_1 : decode cX11_isWord 1 = .ok (.iconst 0, 1) := by decide +kernel
theorem dX11_isWord_2 : decode cX11_isWord 2 = .ok (.bipush 99, 2) := by decide +kernel
theorem dX11_isWord_4 : decode cX11_isWord 4 = .ok (.invokestatic 101, 3) := by decide +kernel
theorem dX11_isWord_7 : decode cX11_isWord 7 = .ok (.ireturn, 1) := by decide +kernel
theorem dX11_isOwnWord_0 : decode cX11_isOwnWord 0 = .ok (.iload_n 0, 1) := by decide +kernel
theorem dX11_isOwnWord_1 : decode cX11_isOwnWord 1 = .ok (.sipush 200, 3) := by decide +kernel
theorem dX11_isOwnWord_4 : decode cX11_isOwnWord 4 = .ok (.sipush 299, 3) := by decide +kernel
theorem dX11_isOwnWord_7 : decode cX11_isOwnWord 7 = .ok (.invokestatic 101, 3) := by decide +kernel
theorem dX11_isOwnWord_10 : decode cX11_isOwnWord 10 = .ok (.ireturn, 1) := by decide +kernel
theorem dX11_isSign_0 : decode cX11_isSign 0 = .ok (.iload_n 0, 1) := by decide +kernel
theorem dX11_isSign_1 : decode cX11_isSign 1 = .ok (.invokestatic 171, 3) := by decide +kernel
theorem dX11_isSign_4 : decode cX11_isSign 4 = .ok (.ifCond .ne 21, 3) := by decide +kernel
theorem dX11_isSign_7 : decode cX11_isSign 7 = .ok (.iload_n 0, 1) := by decide +kernel
theorem dX11_isSign_8 : decode cX11_isSign 8 = .ok (.invokestatic 177, 3) := by decide +kernel
theorem dX11_isSign_11 : decode cX11_isSign 11 = .ok (.ifCond .ne 14, 3) := by decide +kernel
theorem dX11_isSign_14 : decode cX11_isSign 14 = .ok (.iload_n 0, 1) := by decide +kernel
theorem dX11_isSign_15 : decode cX11_isSign 15 = .ok (.bipush 100, 2) := by decide +kernel
theorem dX11_isSign_17 : decode cX11_isSign 17 = .ok (.bipush 103, 2) := by decide +kernel
theorem dX11_isSign_19 : decode cX11_isSign 19 = .ok (.invokestatic 101, 3) := by decide +kernel
theorem dX11_isSign_22 : decode cX11_isSign 22 = .ok (.ifCond .eq 7, 3) := by decide +kernel
theorem dX11_isSign_25 : decode cX11_isSign 25 = .ok (.iconst 1, 1) := by decide +kernel
theorem dX11_isSign_26 : decode cX11_isSign 26 = .ok (.goto 4, 3) := by decide +kernel
theorem dX11_isSign_29 : decode cX11_isSign 29 = .ok (.iconst 0, 1) := by decide +kernel
theorem dX11_isSign_30 : decode cX11_isSign 30 = .ok (.ireturn, 1) := by decide +kernel
theorem dX11_isTongue_0 : decode cX11_isTongue 0 = .ok (.iload_n 0, 1) := by decide +kernel
theorem dX11_isTongue_1 : decode cX11_isTongue 1 = .ok (.iconst 0, 1) := by decide +kernel
theorem dX11_isTongue_2 : decode cX11_isTongue 2 = .ok (.iconst 2, 1) := by decide +kernel
theorem dX11_isTongue_3 : decode cX11_isTongue 3 = .ok (.invokestatic 101, 3) := by decide +kernel
theorem dX11_isTongue_6 : decode cX11_isTongue 6 = .ok (.ireturn, 1) := by decide +kernel
theorem dX11_textAt_0 : decode cX11_textAt 0 = .ok (.aload_n 0, 1) := by decide +kernel
theorem dX11_textAt_1 : decode cX11_textAt 1 = .ok (.getfield 68, 3) := by decide +kernel
theorem dX11_textAt_4 : decode cX11_textAt 4 = .ok (.iload_n 1, 1) := by decide +kernel
theorem dX11_textAt_5 : decode cX11_textAt 5 = .ok (.invokevirtual 121, 3) := by decide +kernel
theorem dX11_textAt_8 : decode cX11_textAt 8 = .ok (.astore_n 3, 1) := by decide +kernel
theorem dX11_textAt_9 : decode cX11_textAt 9 = .ok (.aload_n 3, 1) := by decide +kernel
theorem dX11_textAt_10 : decode cX11_textAt 10 = .ok (.ifnonnull 7, 3) := by decide +kernel
theorem dX11_textAt_13 : decode cX11_textAt 13 = .ok (.aconst_null, 1) := by decide +kernel
theorem dX11_textAt_14 : decode cX11_textAt 14 = .ok (.goto 8, 3) := by decide +kernel
theorem dX11_textAt_17 : decode cX11_textAt 17 = .ok (.aload_n 3, 1) := by decide +kernel
theorem dX11_textAt_18 : decode cX11_textAt 18 = .ok (.iload_n 2, 1) := by decide +kernel
theorem dX11_textAt_19 : decode cX11_textAt 19 = .ok (.invokevirtual 286, 3) := by decide +kernel
theorem dX11_textAt_22 : decode cX11_textAt 22 = .ok (.areturn, 1) := by decide +kernel
theorem dX11_takeOver_0 : decode cX11_takeOver 0 = .ok (.aload_n 0, 1) := by decide +kernel
theorem dX11_takeOver_1 : decode cX11_takeOver 1 = .ok (.getfield 68, 3) := by decide +kernel
theorem dX11_takeOver_4 : decode cX11_takeOver 4 = .ok (.iload_n 2, 1) := by decide +kernel
theorem dX11_takeOver_5 : decode cX11_takeOver 5 = .ok (.invokevirtual 121, 3) := by decide +kernel
theorem dX11_takeOver_8 : decode cX11_takeOver 8 = .ok (.astore_n 3, 1) := by decide +kernel
theorem dX11_takeOver_9 : decode cX11_takeOver 9 = .ok (.aload_n 1, 1) := by decide +kernel
theorem dX11_takeOver_10 : decode cX11_takeOver 10 = .ok (.ifnull 28, 3) := by decide +kernel
theorem dX11_takeOver_13 : decode cX11_takeOver 13 = .ok (.aload_n 3, 1) := by decide +kernel
theorem dX11_takeOver_14 : decode cX11_takeOver 14 = .ok (.ifnull 24, 3) := by decide +kernel
theorem dX11_takeOver_17 : decode cX11_takeOver 17 = .ok (.aload_n 1, 1) := by decide +kernel
theorem dX11_takeOver_18 : decode cX11_takeOver 18 = .ok (.aload_n 3, 1) := by decide +kernel
theorem dX11_takeOver_19 : decode cX11_takeOver 19 = .ok (.iload_n 2, 1) := by decide +kernel
theorem dX11_takeOver_20 : decode cX11_takeOver 20 = .ok (.aload_n 0, 1) := by decide +kernel
theorem dX11_takeOver_21 : decode cX11_takeOver 21 = .ok (.getfield 19, 3) := by decide +kernel
theorem dX11_takeOver_24 : decode cX11_takeOver 24 = .ok (.aload_n 1, 1) := by decide +kernel
theorem dX11_takeOver_25 : decode cX11_takeOver 25 = .ok (.invokevirtual 138, 3) := by decide +kernel
theorem dX11_takeOver_28 : decode cX11_takeOver 28 = .ok (.aload_n 3, 1) := by decide +kernel
theorem dX11_takeOver_29 : decode cX11_takeOver 29 = .ok (.invokevirtual 138, 3) := by decide +kernel
theorem dX11_takeOver_32 : decode cX11_takeOver 32 = .ok (.invokevirtual 146, 3) := by decide +kernel
theorem dX11_takeOver_35 : decode cX11_takeOver 35 = .ok (.invokevirtual 290, 3) := by decide +kernel
theorem dX11_takeOver_38 : decode cX11_takeOver 38 = .ok (.return_, 1) := by decide +kernel
theorem dX11_whyNoWriting_0 : decode cX11_whyNoWriting 0 = .ok (.aload_n 0, 1) := by decide +kernel
theorem dX11_whyNoWriting_1 : decode cX11_whyNoWriting 1 = .ok (.getfield 68, 3) := by decide +kernel
theorem dX11_whyNoWriting_4 : decode cX11_whyNoWriting 4 = .ok (.iload_n 1, 1) := by decide +kernel
theorem dX11_whyNoWriting_5 : decode cX11_whyNoWriting 5 = .ok (.invokevirtual 121, 3) := by decide +kernel
theorem dX11_whyNoWriting_8 : decode cX11_whyNoWriting 8 = .ok (.astore 4, 2) := by decide +kernel
theorem dX11_whyNoWriting_10 : decode cX11_whyNoWriting 10 = .ok (.aload 4, 2) := by decide +kernel
theorem dX11_whyNoWriting_12 : decode cX11_whyNoWriting 12 = .ok (.ifnull 21, 3) := by decide +kernel
theorem dX11_whyNoWriting_15 : decode cX11_whyNoWriting 15 = .ok (.iload_n 2, 1) := by decide +kernel
theorem dX11_whyNoWriting_16 : decode cX11_whyNoWriting 16 = .ok (.invokestatic 174, 3) := by decide +kernel
theorem dX11_whyNoWriting_19 : decode cX11_whyNoWriting 19 = .ok (.ifCond .eq 14, 3) := by decide +kernel
theorem dX11_whyNoWriting_22 : decode cX11_whyNoWriting 22 = .ok (.aload_n 0, 1) := by decide +kernel
theorem dX11_whyNoWriting_23 : decode cX11_whyNoWriting 23 = .ok (.getfield 40, 3) := by decide +kernel
theorem dX11_whyNoWriting_26 : decode cX11_whyNoWriting 26 = .ok (.iload_n 3, 1) := by decide +kernel
theorem dX11_whyNoWriting_27 : decode cX11_whyNoWriting 27 = .ok (.invokevirtual 161, 3) := by decide +kernel
theorem dX11_whyNoWriting_30 : decode cX11_whyNoWriting 30 = .ok (.ifCond .ne 5, 3) := by decide +kernel
theorem dX11_whyNoWriting_33 : decode cX11_whyNoWriting 33 = .ok (.iconst (-1), 1) := by decide +kernel
theorem dX11_whyNoWriting_34 : decode cX11_whyNoWriting 34 = .ok (.ireturn, 1) := by decide +kernel
theorem dX11_whyNoWriting_35 : decode cX11_whyNoWriting 35 = .ok (.aload 4, 2) := by decide +kernel
theorem dX11_whyNoWriting_37 : decode cX11_whyNoWriting 37 = .ok (.invokevirtual 133, 3) := by decide +kernel
theorem dX11_whyNoWriting_40 : decode cX11_whyNoWriting 40 = .ok (.iconst 1, 1) := by decide +kernel
theorem dX11_whyNoWriting_41 : decode cX11_whyNoWriting 41 = .ok (.if_icmp .eq 15, 3) := by decide +kernel
theorem dX11_whyNoWriting_44 : decode cX11_whyNoWriting 44 = .ok (.aload_n 0, 1) := by decide +kernel
theorem dX11_whyNoWriting_45 : decode cX11_whyNoWriting 45 = .ok (.getfield 40, 3) := by decide +kernel
theorem dX11_whyNoWriting_48 : decode cX11_whyNoWriting 48 = .ok (.iload_n 3, 1) := by decide +kernel
theorem dX11_whyNoWriting_49 : decode cX11_whyNoWriting 49 = .ok (.iload_n 2, 1) := by decide +kernel
theorem dX11_whyNoWriting_50 : decode cX11_whyNoWriting 50 = .ok (.invokevirtual 207, 3) := by decide +kernel
theorem dX11_whyNoWriting_53 : decode cX11_whyNoWriting 53 = .ok (.ifCond .ne 8, 3) := by decide +kernel
theorem dX11_whyNoWriting_56 : decode cX11_whyNoWriting 56 = .ok (.bipush (-3), 2) := by decide +kernel
theorem dX11_whyNoWriting_58 : decode cX11_whyNoWriting 58 = .ok (.goto 4, 3) := by decide +kernel
theorem dX11_whyNoWriting_61 : decode cX11_whyNoWriting 61 = .ok (.iconst 0, 1) := by decide +kernel
theorem dX11_whyNoWriting_62 : decode cX11_whyNoWriting 62 = .ok (.ireturn, 1) := by decide +kernel
theorem dX11_faultOf_0 : decode cX11_faultOf 0 = .ok (.aload_n 1, 1) := by decide +kernel
theorem dX11_faultOf_1 : decode cX11_faultOf 1 = .ok (.invokevirtual 138, 3) := by decide +kernel
theorem dX11_faultOf_4 : decode cX11_faultOf 4 = .ok (.aload_n 2, 1) := by decide +kernel
theorem dX11_faultOf_5 : decode cX11_faultOf 5 = .ok (.invokevirtual 220, 3) := by decide +kernel
theorem dX11_faultOf_8 : decode cX11_faultOf 8 = .ok (.invokestatic 294, 3) := by decide +kernel
theorem dX11_faultOf_11 : decode cX11_faultOf 11 = .ok (.ifCond .eq 5, 3) := by decide +kernel
theorem dX11_faultOf_14 : decode cX11_faultOf 14 = .ok (.iconst 1, 1) := by decide +kernel
theorem dX11_faultOf_15 : decode cX11_faultOf 15 = .ok (.ireturn, 1) := by decide +kernel
theorem dX11_faultOf_16 : decode cX11_faultOf 16 = .ok (.aload_n 0, 1) := by decide +kernel
theorem dX11_faultOf_17 : decode cX11_faultOf 17 = .ok (.aload_n 1, 1) := by decide +kernel
theorem dX11_faultOf_18 : decode cX11_faultOf 18 = .ok (.invokevirtual 138, 3) := by decide +kernel
theorem dX11_faultOf_21 : decode cX11_faultOf 21 = .ok (.aload_n 2, 1) := by decide +kernel
theorem dX11_faultOf_22 : decode cX11_faultOf 22 = .ok (.invokevirtual 220, 3) := by decide +kernel
theorem dX11_faultOf_25 : decode cX11_faultOf 25 = .ok (.iload_n 3, 1) := by decide +kernel
theorem dX11_faultOf_26 : decode cX11_faultOf 26 = .ok (.invokevirtual 298, 3) := by decide +kernel
theorem dX11_faultOf_29 : decode cX11_faultOf 29 = .ok (.ifCond .eq 5, 3) := by decide +kernel
theorem dX11_faultOf_32 : decode cX11_faultOf 32 = .ok (.iconst 2, 1) := by decide +kernel
theorem dX11_faultOf_33 : decode cX11_faultOf 33 = .ok (.ireturn, 1) := by decide +kernel
theorem dX11_faultOf_34 : decode cX11_faultOf 34 = .ok (.aload_n 1, 1) := by decide +kernel
theorem dX11_faultOf_35 : decode cX11_faultOf 35 = .ok (.invokevirtual 133, 3) := by decide +kernel
theorem dX11_faultOf_38 : decode cX11_faultOf 38 = .ok (.iconst 2, 1) := by decide +kernel
theorem dX11_faultOf_39 : decode cX11_faultOf 39 = .ok (.if_icmp .ne 21, 3) := by decide +kernel
theorem dX11_faultOf_42 : decode cX11_faultOf 42 = .ok (.aload_n 2, 1) := by decide +kernel
theorem dX11_faultOf_43 : decode cX11_faultOf 43 = .ok (.invokevirtual 220, 3) := by decide +kernel
theorem dX11_faultOf_46 : decode cX11_faultOf 46 = .ok (.invokevirtual 94, 3) := by decide +kernel
theorem dX11_faultOf_49 : decode cX11_faultOf 49 = .ok (.aload_n 0, 1) := by decide +kernel
theorem dX11_faultOf_50 : decode cX11_faultOf 50 = .ok (.getfield 74, 3) := by decide +kernel
theorem dX11_faultOf_53 : decode cX11_faultOf 53 = .ok (.if_icmp .le 7, 3) := by decide +kernel
theorem dX11_faultOf_56 : decode cX11_faultOf 56 = .ok (.iconst 3, 1) := by decide +kernel
theorem dX11_faultOf_57 : decode cX11_faultOf 57 = .ok (.goto 4, 3) := by decide +kernel
theorem dX11_faultOf_60 : decode cX11_faultOf 60 = .ok (.iconst 0, 1) := by decide +kernel
theorem dX11_faultOf_61 : decode cX11_faultOf 61 = .ok (.ireturn, 1) := by decide +kernel
theorem dX11_hasOtherHoles_0 : decode cX11_hasOtherHoles 0 = .ok (.bipush 100, 2) := by decide +kernel
theorem dX11_hasOtherHoles_2 : decode cX11_hasOtherHoles 2 = .ok (.istore_n 2, 1) := by decide +kernel
theorem dX11_hasOtherHoles_3 : decode cX11_hasOtherHoles 3 = .ok (.iload_n 2, 1) := by decide +kernel
theorem dX11_hasOtherHoles_4 : decode cX11_hasOtherHoles 4 = .ok (.bipush 104, 2) := by decide +kernel
theorem dX11_hasOtherHoles_6 : decode cX11_hasOtherHoles 6 = .ok (.if_icmp .ge 24, 3) := by decide +kernel
theorem dX11_hasOtherHoles_9 : decode cX11_hasOtherHoles 9 = .ok (.aload_n 0, 1) := by decide +kernel
theorem dX11_hasOtherHoles_10 : decode cX11_hasOtherHoles 10 = .ok (.iload_n 2, 1) := by decide +kernel
theorem dX11_hasOtherHoles_11 : decode cX11_hasOtherHoles 11 = .ok (.invokevirtual 302, 3) := by decide +kernel
theorem dX11_hasOtherHoles_14 : decode cX11_hasOtherHoles 14 = .ok (.aload_n 1, 1) := by decide +kernel
theorem dX11_hasOtherHoles_15 : decode cX11_hasOtherHoles 15 = .ok (.iload_n 2, 1) := by decide +kernel
theorem dX11_hasOtherHoles_16 : decode cX11_hasOtherHoles 16 = .ok (.invokevirtual 302, 3) := by decide +kernel
theorem dX11_hasOtherHoles_19 : decode cX11_hasOtherHoles 19 = .ok (.if_icmp .eq 5, 3) := by decide +kernel
theorem dX11_hasOtherHoles_22 : decode cX11_hasOtherHoles 22 = .ok (.iconst 1, 1) := by decide +kernel
theorem dX11_hasOtherHoles_23 : decode cX11_hasOtherHoles 23 = .ok (.ireturn, 1) := by decide +kernel
theorem dX11_hasOtherHoles_24 : decode cX11_hasOtherHoles 24 = .ok (.iinc 2 1, 3) := by decide +kernel
theorem dX11_hasOtherHoles_27 : decode cX11_hasOtherHoles 27 = .ok (.goto (-24), 3) := by decide +kernel
theorem dX11_hasOtherHoles_30 : decode cX11_hasOtherHoles 30 = .ok (.iconst 0, 1) := by decide +kernel
theorem dX11_hasOtherHoles_31 : decode cX11_hasOtherHoles 31 = .ok (.ireturn, 1) := by decide +kernel
theorem dX11_lacksTerm_0 : decode cX11_lacksTerm 0 = .ok (.iconst 0, 1) := by decide +kernel
theorem dX11_lacksTerm_1 : decode cX11_lacksTerm 1 = .ok (.istore 4, 2) := by decide +kernel
theorem dX11_lacksTerm_3 : decode cX11_lacksTerm 3 = .ok (.iload 4, 2) := by decide +kernel
theorem dX11_lacksTerm_5 : decode cX11_lacksTerm 5 = .ok (.aload_n 1, 1) := by decide +kernel
theorem dX11_lacksTerm_6 : decode cX11_lacksTerm 6 = .ok (.invokevirtual 94, 3) := by decide +kernel
theorem dX11_lacksTerm_9 : decode cX11_lacksTerm 9 = .ok (.if_icmp .ge 49, 3) := by decide +kernel
theorem dX11_lacksTerm_12 : decode cX11_lacksTerm 12 = .ok (.aload_n 1, 1) := by decide +kernel
theorem dX11_lacksTerm_13 : decode cX11_lacksTerm 13 = .ok (.iload 4, 2) := by decide +kernel
theorem dX11_lacksTerm_15 : decode cX11_lacksTerm 15 = .ok (.invokevirtual 305, 3) := by decide +kernel
theorem dX11_lacksTerm_18 : decode cX11_lacksTerm 18 = .ok (.istore 5, 2) := by decide +kernel
theorem dX11_lacksTerm_20 : decode cX11_lacksTerm 20 = .ok (.aload_n 0, 1) := by decide +kernel
theorem dX11_lacksTerm_21 : decode cX11_lacksTerm 21 = .ok (.getfield 47, 3) := by decide +kernel
theorem dX11_lacksTerm_24 : decode cX11_lacksTerm 24 = .ok (.iload 5, 2) := by decide +kernel
theorem dX11_lacksTerm_26 : decode cX11_lacksTerm 26 = .ok (.iload_n 3, 1) := by decide +kernel
theorem dX11_lacksTerm_27 : decode cX11_lacksTerm 27 = .ok (.invokevirtual 181, 3) := by decide +kernel
theorem dX11_lacksTerm_30 : decode cX11_lacksTerm 30 = .ok (.ifCond .eq 22, 3) := by decide +kernel
theorem dX11_lacksTerm_33 : decode cX11_lacksTerm 33 = .ok (.aload_n 2, 1) := by decide +kernel
theorem dX11_lacksTerm_34 : decode cX11_lacksTerm 34 = .ok (.aload_n 0, 1) := by decide +kernel
theorem dX11_lacksTerm_35 : decode cX11_lacksTerm 35 = .ok (.getfield 47, 3) := by decide +kernel
theorem dX11_lacksTerm_38 : decode cX11_lacksTerm 38 = .ok (.iload 5, 2) := by decide +kernel
theorem dX11_lacksTerm_40 : decode cX11_lacksTerm 40 = .ok (.iload_n 3, 1) := by decide +kernel
theorem dX11_lacksTerm_41 : decode cX11_lacksTerm 41 = .ok (.invokevirtual 307, 3) := by decide +kernel
theorem dX11_lacksTerm_44 : decode cX11_lacksTerm 44 = .ok (.invokevirtual 302, 3) := by decide +kernel
theorem dX11_lacksTerm_47 : decode cX11_lacksTerm 47 = .ok (.ifCond .ne 5, 3) := by decide +kernel
theorem dX11_lacksTerm_50 : decode cX11_lacksTerm 50 = .ok (.iconst 1, 1) := by decide +kernel
theorem dX11_lacksTerm_51 : decode cX11_lacksTerm 51 = .ok (.ireturn, 1) := by decide +kernel
theorem dX11_lacksTerm_52 : decode cX11_lacksTerm 52 = .ok (.iinc 4 1, 3) := by decide +kernel
theorem dX11_lacksTerm_55 : decode cX11_lacksTerm 55 = .ok (.goto (-52), 3) := by decide +kernel
theorem dX11_lacksTerm_58 : decode cX11_lacksTerm 58 = .ok (.iconst 0, 1) := by decide +kernel
theorem dX11_lacksTerm_59 : decode cX11_lacksTerm 59 = .ok (.ireturn, 1) := by decide +kernel
theorem dX11_closestEntry_0 : decode cX11_closestEntry 0 = .ok (.aload_n 1, 1) := by decide +kernel
theorem dX11_closestEntry_1 : decode cX11_closestEntry 1 = .ok (.ifnonnull 7, 3) := by decide +kernel
theorem dX11_closestEntry_4 : decode cX11_closestEntry 4 = .ok (.aconst_null, 1) := by decide +kernel
theorem dX11_closestEntry_5 : decode cX11_closestEntry 5 = .ok (.goto 26, 3) := by decide +kernel
theorem dX11_closestEntry_8 : decode cX11_closestEntry 8 = .ok (.aload_n 0, 1) := by decide +kernel
theorem dX11_closestEntry_9 : decode cX11_closestEntry 9 = .ok (.getfield 54, 3) := by decide +kernel
theorem dX11_closestEntry_12 : decode cX11_closestEntry 12 = .ok (.aload_n 0, 1) := by decide +kernel
theorem dX11_closestEntry_13 : decode cX11_closestEntry 13 = .ok (.getfield 54, 3) := by decide +kernel
theorem dX11_closestEntry_16 : decode cX11_closestEntry 16 = .ok (.aload_n 1, 1) := by decide +kernel
theorem dX11_closestEntry_17 : decode cX11_closestEntry 17 = .ok (.invokevirtual 138, 3) := by decide +kernel
theorem dX11_closestEntry_20 : decode cX11_closestEntry 20 = .ok (.iload_n 2, 1) := by decide +kernel
theorem dX11_closestEntry_21 : decode cX11_closestEntry 21 = .ok (.aload_n 0, 1) := by decide +kernel
theorem dX11_closestEntry_22 : decode cX11_closestEntry 22 = .ok (.getfield 19, 3) := by decide +kernel
theorem dX11_closestEntry_25 : decode cX11_closestEntry 25 = .ok (.invokevirtual 238, 3) := by decide +kernel
theorem dX11_closestEntry_28 : decode cX11_closestEntry 28 = .ok (.invokevirtual 242, 3) := by decide +kernel
theorem dX11_closestEntry_31 : decode cX11_closestEntry 31 = .ok (.areturn, 1) := by decide +kernel
theorem dX11_effortFor_0 : decode cX11_effortFor 0 = .ok (.aload_n 1, 1) := by decide +kernel
theorem dX11_effortFor_1 : decode cX11_effortFor 1 = .ok (.iload_n 2, 1) := by decide +kernel
theorem dX11_effortFor_2 : decode cX11_effortFor 2 = .ok (.invokevirtual 310, 3) := by decide +kernel
theorem dX11_effortFor_5 : decode cX11_effortFor 5 = .ok (.ifCond .ne 5, 3) := by decide +kernel
theorem dX11_effortFor_8 : decode cX11_effortFor 8 = .ok (.iconst 0, 1) := by decide +kernel
theorem dX11_effortFor_9 : decode cX11_effortFor 9 = .ok (.ireturn, 1) := by decide +kernel
theorem dX11_effortFor_10 : decode cX11_effortFor 10 = .ok (.aload_n 0, 1) := by decide +kernel
theorem dX11_effortFor_11 : decode cX11_effortFor 11 = .ok (.aload_n 1, 1) := by decide +kernel
theorem dX11_effortFor_12 : decode cX11_effortFor 12 = .ok (.iload_n 2, 1) := by decide +kernel
theorem dX11_effortFor_13 : decode cX11_effortFor 13 = .ok (.invokevirtual 226, 3) := by decide +kernel
theorem dX11_effortFor_16 : decode cX11_effortFor 16 = .ok (.astore_n 3, 1) := by decide +kernel
theorem dX11_effortFor_17 : decode cX11_effortFor 17 = .ok (.aload_n 3, 1) := by decide +kernel
theorem dX11_effortFor_18 : decode cX11_effortFor 18 = .ok (.ifnonnull 11, 3) := by decide +kernel
theorem dX11_effortFor_21 : decode cX11_effortFor 21 = .ok (.aload_n 1, 1) := by decide +kernel
theorem dX11_effortFor_22 : decode cX11_effortFor 22 = .ok (.invokevirtual 138, 3) := by decide +kernel
theorem dX11_effortFor_25 : decode cX11_effortFor 25 = .ok (.invokevirtual 94, 3) := by decide +kernel
theorem dX11_effortFor_28 : decode cX11_effortFor 28 = .ok (.ireturn, 1) := by decide +kernel
theorem dX11_effortFor_29 : decode cX11_effortFor 29 = .ok (.aload_n 0, 1) := by decide +kernel
theorem dX11_effortFor_30 : decode cX11_effortFor 30 = .ok (.getfield 19, 3) := by decide +kernel
theorem dX11_effortFor_33 : decode cX11_effortFor 33 = .ok (.aload_n 1, 1) := by decide +kernel
theorem dX11_effortFor_34 : decode cX11_effortFor 34 = .ok (.invokevirtual 138, 3) := by decide +kernel
theorem dX11_effortFor_37 : decode cX11_effortFor 37 = .ok (.aload_n 3, 1) := by decide +kernel
theorem dX11_effortFor_38 : decode cX11_effortFor 38 = .ok (.invokevirtual 245, 3) := by decide +kernel
theorem dX11_effortFor_41 : decode cX11_effortFor 41 = .ok (.invokevirtual 146, 3) := by decide +kernel
theorem dX11_effortFor_44 : decode cX11_effortFor 44 = .ok (.istore 4, 2) := by decide +kernel
theorem dX11_effortFor_46 : decode cX11_effortFor 46 = .ok (.iload 4, 2) := by decide +kernel
theorem dX11_effortFor_48 : decode cX11_effortFor 48 = .ok (.ifCond .ne 5, 3) := by decide +kernel
theorem dX11_effortFor_51 : decode cX11_effortFor 51 = .ok (.iconst 1, 1) := by decide +kernel
theorem dX11_effortFor_52 : decode cX11_effortFor 52 = .ok (.ireturn, 1) := by decide +kernel
theorem dX11_effortFor_53 : decode cX11_effortFor 53 = .ok (.iload 4, 2) := by decide +kernel
theorem dX11_effortFor_55 : decode cX11_effortFor 55 = .ok (.iconst 2, 1) := by decide +kernel
theorem dX11_effortFor_56 : decode cX11_effortFor 56 = .ok (.if_icmp .gt 7, 3) := by decide +kernel
theorem dX11_effortFor_59 : decode cX11_effortFor 59 = .ok (.iconst 2, 1) := by decide +kernel
theorem dX11_effortFor_60 : decode cX11_effortFor 60 = .ok (.goto 10, 3) := by decide +kernel
theorem dX11_effortFor_63 : decode cX11_effortFor 63 = .ok (.aload_n 1, 1) := by decide +kernel
theorem dX11_effortFor_64 : decode cX11_effortFor 64 = .ok (.invokevirtual 138, 3) := by decide +kernel
theorem dX11_effortFor_67 : decode cX11_effortFor 67 = .ok (.invokevirtual 94, 3) := by decide +kernel
theorem dX11_effortFor_70 : decode cX11_effortFor 70 = .ok (.ireturn, 1) := by decide +kernel
theorem dX11_makePlan_0 : decode cX11_makePlan 0 = .ok (.iconst 0, 1) := by decide +kernel
theorem dX11_makePlan_1 : decode cX11_makePlan 1 = .ok (.istore_n 2, 1) := by decide +kernel
theorem dX11_makePlan_2 : decode cX11_makePlan 2 = .ok (.iload_n 2, 1) := by decide +kernel
theorem dX11_makePlan_3 : decode cX11_makePlan 3 = .ok (.bipush 8, 2) := by decide +kernel
theorem dX11_makePlan_5 : decode cX11_makePlan 5 = .ok (.if_icmp .ge 40, 3) := by decide +kernel
theorem dX11_makePlan_8 : decode cX11_makePlan 8 = .ok (.aload_n 0, 1) := by decide +kernel
theorem dX11_makePlan_9 : decode cX11_makePlan 9 = .ok (.getfield 68, 3) := by decide +kernel
theorem dX11_makePlan_12 : decode cX11_makePlan 12 = .ok (.iload_n 2, 1) := by decide +kernel
theorem dX11_makePlan_13 : decode cX11_makePlan 13 = .ok (.invokevirtual 121, 3) := by decide +kernel
theorem dX11_makePlan_16 : decode cX11_makePlan 16 = .ok (.astore_n 3, 1) := by decide +kernel
theorem dX11_makePlan_17 : decode cX11_makePlan 17 = .ok (.aload_n 0, 1) := by decide +kernel
theorem dX11_makePlan_18 : decode cX11_makePlan 18 = .ok (.getfield 33, 3) := by decide +kernel
theorem dX11_makePlan_21 : decode cX11_makePlan 21 = .ok (.iload_n 2, 1) := by decide +kernel
theorem dX11_makePlan_22 : decode cX11_makePlan 22 = .ok (.aload_n 3, 1) := by decide +kernel
theorem dX11_makePlan_23 : decode cX11_makePlan 23 = .ok (.ifnonnull 7, 3) := by decide +kernel
theorem dX11_makePlan_26 : decode cX11_makePlan 26 = .ok (.iconst 0, 1) := by decide +kernel
theorem dX11_makePlan_27 : decode cX11_makePlan 27 = .ok (.goto 9, 3) := by decide +kernel
theorem dX11_makePlan_30 : decode cX11_makePlan 30 = .ok (.aload_n 0, 1) := by decide +kernel
theorem dX11_makePlan_31 : decode cX11_makePlan 31 = .ok (.aload_n 3, 1) := by decide +kernel
theorem dX11_makePlan_32 : decode cX11_makePlan 32 = .ok (.iload_n 1, 1) := by decide +kernel
theorem dX11_makePlan_33 : decode cX11_makePlan 33 = .ok (.invokevirtual 251, 3) := by decide +kernel
theorem dX11_makePlan_36 : decode cX11_makePlan 36 = .ok (.invokevirtual 313, 3) := by decide +kernel
theorem dX11_makePlan_39 : decode cX11_makePlan 39 = .ok (.iinc 2 1, 3) := by decide +kernel
theorem dX11_makePlan_42 : decode cX11_makePlan 42 = .ok (.goto (-40), 3) := by decide +kernel
theorem dX11_makePlan_45 : decode cX11_makePlan 45 = .ok (.aload_n 0, 1) := by decide +kernel
theorem dX11_makePlan_46 : decode cX11_makePlan 46 = .ok (.getfield 33, 3) := by decide +kernel
theorem dX11_makePlan_49 : decode cX11_makePlan 49 = .ok (.aload_n 0, 1) := by decide +kernel
theorem dX11_makePlan_50 : decode cX11_makePlan 50 = .ok (.getfield 40, 3) := by decide +kernel
theorem dX11_makePlan_53 : decode cX11_makePlan 53 = .ok (.iload_n 1, 1) := by decide +kernel
theorem dX11_makePlan_54 : decode cX11_makePlan 54 = .ok (.invokevirtual 316, 3) := by decide +kernel
theorem dX11_makePlan_57 : decode cX11_makePlan 57 = .ok (.return_, 1) := by decide +kernel
theorem dX12_init_0 : decode cX12_init 0 = .ok (.aload_n 0, 1) := by decide +kernel
theorem dX12_init_1 : decode cX12_init 1 = .ok (.invokespecial 1, 3) := by decide +kernel
theorem dX12_init_4 : decode cX12_init 4 = .ok (.aload_n 0, 1) := by decide +kernel
theorem dX12_init_5 : decode cX12_init 5 = .ok (.bipush 10, 2) := by decide +kernel
theorem dX12_init_7 : decode cX12_init 7 = .ok (.newarray .int, 2) := by decide +kernel
theorem dX12_init_9 : decode cX12_init 9 = .ok (.putfield 7, 3) := by decide +kernel
theorem dX12_init_12 : decode cX12_init 12 = .ok (.aload_n 0, 1) := by decide +kernel
theorem dX12_init_13 : decode cX12_init 13 = .ok (.bipush 8, 2) := by decide +kernel
theorem dX12_init_15 : decode cX12_init 15 = .ok (.newarray .int, 2) := by decide +kernel
theorem dX12_init_17 : decode cX12_init 17 = .ok (.putfield 13, 3) := by decide +kernel
theorem dX12_init_20 : decode cX12_init 20 = .ok (.aload_n 0, 1) := by decide +kernel
theorem dX12_init_21 : decode cX12_init 21 = .ok (.bipush 8, 2) := by decide +kernel
theorem dX12_init_23 : decode cX12_init 23 = .ok (.newarray .int, 2) := by decide +kernel
theorem dX12_init_25 : decode cX12_init 25 = .ok (.putfield 16, 3) := by decide +kernel
theorem dX12_init_28 : decode cX12_init 28 = .ok (.aload_n 0, 1) := by decide +kernel
theorem dX12_init_29 : decode cX12_init 29 = .ok (.bipush 64, 2) := by decide +kernel
theorem dX12_init_31 : decode cX12_init 31 = .ok (.newarray .int, 2) := by decide +kernel
theorem dX12_init_33 : decode cX12_init 33 = .ok (.putfield 19, 3) := by decide +kernel
theorem dX12_init_36 : decode cX12_init 36 = .ok (.aload_n 0, 1) := by decide +kernel
theorem dX12_init_37 : decode cX12_init 37 = .ok (.bipush 8, 2) := by decide +kernel
theorem dX12_init_39 : decode cX12_init 39 = .ok (.newarray .int, 2) := by decide +kernel
theorem dX12_init_41 : decode cX12_init 41 = .ok (.putfield 22, 3) := by decide +kernel
theorem dX12_init_44 : decode cX12_init 44 = .ok (.aload_n 0, 1) := by decide +kernel
theorem dX12_init_45 : decode cX12_init 45 = .ok (.bipush 8, 2) := by decide +kernel
theorem dX12_init_47 : decode cX12_init 47 = .ok (.newarray .int, 2) := by decide +kernel
theorem dX12_init_49 : decode cX12_init 49 = .ok (.putfield 25, 3) := by decide +kernel
theorem dX12_init_52 : decode cX12_init 52 = .ok (.aload_n 0, 1) := by decide +kernel
theorem dX12_init_53 : decode cX12_init 53 = .ok (.bipush 8, 2) := by decide +kernel
theorem dX12_init_55 : decode cX12_init 55 = .ok (.newarray .int, 2) := by decide +kernel
theorem dX12_init_57 : decode cX12_init 57 = .ok (.putfield 28, 3) := by decide +kernel
theorem dX12_init_60 : decode cX12_init 60 = .ok (.aload_n 0, 1) := by decide +kernel
theorem dX12_init_61 : decode cX12_init 61 = .ok (.bipush 8, 2) := by decide +kernel
theorem dX12_init_63 : decode cX12_init 63 = .ok (.newarray .int, 2) := by decide +kernel
theorem dX12_init_65 : decode cX12_init 65 = .ok (.putfield 31, 3) := by decide +kernel
theorem dX12_init_68 : decode cX12_init 68 = .ok (.aload_n 0, 1) := by decide +kernel
theorem dX12_init_69 : decode cX12_init 69 = .ok (.bipush 64, 2) := by decide +kernel
theorem dX12_init_71 : decode cX12_init 71 = .ok (.newarray .int, 2) := by decide +kernel
theorem dX12_init_73 : decode cX12_init 73 = .ok (.putfield 34, 3) := by decide +kernel
theorem dX12_init_76 : decode cX12_init 76 = .ok (.aload_n 0, 1) := by decide +kernel
theorem dX12_init_77 : decode cX12_init 77 = .ok (.bipush 24, 2) := by decide +kernel
theorem dX12_init_79 : decode cX12_init 79 = .ok (.newarray .int, 2) := by decide +kernel
theorem dX12_init_81 : decode cX12_init 81 = .ok (.putfield 37, 3) := by decide +kernel
theorem dX12_init_84 : decode cX12_init 84 = .ok (.aload_n 0, 1) := by decide +kernel
theorem dX12_init_85 : decode cX12_init 85 = .ok (.bipush 24, 2) := by decide +kernel
theorem dX12_init_87 : decode cX12_init 87 = .ok (.newarray .int, 2) := by decide +kernel
theorem dX12_init_89 : decode cX12_init 89 = .ok (.putfield 40, 3) := by decide +kernel
theorem dX12_init_92 : decode cX12_init 92 = .ok (.aload_n 0, 1) := by decide +kernel
theorem dX12_init_93 : decode cX12_init 93 = .ok (.bipush 24, 2) := by decide +kernel
theorem dX12_init_95 : decode cX12_init 95 = .ok (.newarray .int, 2) := by decide +kernel
theorem dX12_init_97 : decode cX12_init 97 = .ok (.putfield 43, 3) := by decide +kernel
theorem dX12_init_100 : decode cX12_init 100 = .ok (.aload_n 0, 1) := by decide +kernel
theorem dX12_init_101 : decode cX12_init 101 = .ok (.sipush 240, 3) := by decide +kernel
theorem dX12_init_104 : decode cX12_init 104 = .ok (.newarray .int, 2) := by decide +kernel
theorem dX12_init_106 : decode cX12_init 106 = .ok (.putfield 46, 3) := by decide +kernel
theorem dX12_init_109 : decode cX12_init 109 = .ok (.aload_n 0, 1) := by decide +kernel
theorem dX12_init_110 : decode cX12_init 110 = .ok (.iconst 5, 1) := by decide +kernel
theorem dX12_init_111 : decode cX12_init 111 = .ok (.newarray .int, 2) := by decide +kernel
theorem dX12_init_113 : decode cX12_init 113 = .ok (.putfield 49, 3) := by decide +kernel
theorem dX12_init_116 : decode cX12_init 116 = .ok (.aload_n 0, 1) := by decide +kernel
theorem dX12_init_117 : decode cX12_init 117 = .ok (.iconst 5, 1) := by decide +kernel
theorem dX12_init_118 : decode cX12_init 118 = .ok (.newarray .int, 2) := by decide +kernel
theorem dX12_init_120 : decode cX12_init 120 = .ok (.putfield 52, 3) := by decide +kernel
theorem dX12_init_123 : decode cX12_init 123 = .ok (.aload_n 0, 1) := by decide +kernel
theorem dX12_init_124 : decode cX12_init 124 = .ok (.iconst 5, 1) := by decide +kernel
theorem dX12_init_125 : decode cX12_init 125 = .ok (.newarray .int, 2) := by decide +kernel
theorem dX12_init_127 : decode cX12_init 127 = .ok (.putfield 55, 3) := by decide +kernel
theorem dX12_init_130 : decode cX12_init 130 = .ok (.aload_n 0, 1) := by decide +kernel
theorem dX12_init_131 : decode cX12_init 131 = .ok (.bipush 10, 2) := by decide +kernel
theorem dX12_init_133 : decode cX12_init 133 = .ok (.newarray .int, 2) := by decide +kernel
theorem dX12_init_135 : decode cX12_init 135 = .ok (.putfield 58, 3) := by decide +kernel
theorem dX12_init_138 : decode cX12_init 138 = .ok (.aload_n 0, 1) := by decide +kernel
theorem dX12_init_139 : decode cX12_init 139 = .ok (.bipush 10, 2) := by decide +kernel
theorem dX12_init_141 : decode cX12_init 141 = .ok (.newarray .int, 2) := by decide +kernel
theorem dX12_init_143 : decode cX12_init 143 = .ok (.putfield 61, 3) := by decide +kernel
theorem dX12_init_146 : decode cX12_init 146 = .ok (.aload_n 0, 1) := by decide +kernel
theorem dX12_init_147 : decode cX12_init 147 = .ok (.bipush 10, 2) := by decide +kernel
theorem dX12_init_149 : decode cX12_init 149 = .ok (.newarray .int, 2) := by decide +kernel
theorem dX12_init_151 : decode cX12_init 151 = .ok (.putfield 64, 3) := by decide +kernel
theorem dX12_init_154 : decode cX12_init 154 = .ok (.aload_n 0, 1) := by decide +kernel
theorem dX12_init_155 : decode cX12_init 155 = .ok (.bipush 6, 2) := by decide +kernel
theorem dX12_init_157 : decode cX12_init 157 = .ok (.putfield 67, 3) := by decide +kernel
theorem dX12_init_160 : decode cX12_init 160 = .ok (.aload_n 0, 1) := by decide +kernel
theorem dX12_init_161 : decode cX12_init 161 = .ok (.sipush 420, 3) := by decide +kernel
theorem dX12_init_164 : decode cX12_init 164 = .ok (.newarray .int, 2) := by decide +kernel
theorem dX12_init_166 : decode cX12_init 166 = .ok (.putfield 71, 3) := by decide +kernel
theorem dX12_init_169 : decode cX12_init 169 = .ok (.aload_n 0, 1) := by decide +kernel
theorem dX12_init_170 : decode cX12_init 170 = .ok (.iconst 2, 1) := by decide +kernel
theorem dX12_init_171 : decode cX12_init 171 = .ok (.newarray .int, 2) := by decide +kernel
theorem dX12_init_173 : decode cX12_init 173 = .ok (.putfield 74, 3) := by decide +kernel
theorem dX12_init_176 : decode cX12_init 176 = .ok (.aload_n 0, 1) := by decide +kernel
theorem dX12_init_177 : decode cX12_init 177 = .ok (.bipush 96, 2) := by decide +kernel
theorem dX12_init_179 : decode cX12_init 179 = .ok (.newarray .int, 2) := by decide +kernel
theorem dX12_init_181 : decode cX12_init 181 = .ok (.putfield 77, 3) := by decide +kernel
theorem dX12_init_184 : decode cX12_init 184 = .ok (.aload_n 0, 1) := by decide +kernel
theorem dX12_init_185 : decode cX12_init 185 = .ok (.sipush 312, 3) := by decide +kernel
theorem dX12_init_188 : decode cX12_init 188 = .ok (.newarray .int, 2) := by decide +kernel
theorem dX12_init_190 : decode cX12_init 190 = .ok (.putfield 80, 3) := by decide +kernel
theorem dX12_init_193 : decode cX12_init 193 = .ok (.aload_n 0, 1) := by decide +kernel
theorem dX12_init_194 : decode cX12_init 194 = .ok (.sipush 420, 3) := by decide +kernel
theorem dX12_init_197 : decode cX12_init 197 = .ok (.newarray .int, 2) := by decide +kernel
theorem dX12_init_199 : decode cX12_init 199 = .ok (.putfield 83, 3) := by decide +kernel
theorem dX12_init_202 : decode cX12_init 202 = .ok (.aload_n 0, 1) := by decide +kernel
theorem dX12_init_203 : decode cX12_init 203 = .ok (.bipush 9, 2) := by decide +kernel
theorem dX12_init_205 : decode cX12_init 205 = .ok (.newarray .int, 2) := by decide +kernel
theorem dX12_init_207 : decode cX12_init 207 = .ok (.putfield 86, 3) := by decide +kernel
theorem dX12_init_210 : decode cX12_init 210 = .ok (.aload_n 0, 1) := by decide +kernel
theorem dX12_init_211 : decode cX12_init 211 = .ok (.bipush 9, 2) := by decide +kernel
theorem dX12_init_213 : decode cX12_init 213 = .ok (.newarray .int, 2) := by decide +kernel
theorem dX12_init_215 : decode cX12_init 215 = .ok (.putfield 89, 3) := by decide +kernel
theorem dX12_init_218 : decode cX12_init 218 = .ok (.aload_n 0, 1) := by decide +kernel
theorem dX12_init_219 : decode cX12_init 219 = .ok (.bipush 64, 2) := by decide +kernel
theorem dX12_init_221 : decode cX12_init 221 = .ok (.newarray .int, 2) := by decide +kernel
theorem dX12_init_223 : decode cX12_init 223 = .ok (.putfield 92, 3) := by decide +kernel
theorem dX12_init_226 : decode cX12_init 226 = .ok (.aload_n 0, 1) := by decide +kernel
theorem dX12_init_227 : decode cX12_init 227 = .ok (.sipush 2304, 3) := by decide +kernel
theorem dX12_init_230 : decode cX12_init 230 = .ok (.newarray .int, 2) := by decide +kernel
theorem dX12_init_232 : decode cX12_init 232 = .ok (.putfield 95, 3) := by decide +kernel
theorem dX12_init_235 : decode cX12_init 235 = .ok (.aload_n 0, 1) := by decide +kernel
theorem dX12_init_236 : decode cX12_init 236 = .ok (.bipush 8, 2) := by decide +kernel
theorem dX12_init_238 : decode cX12_init 238 = .ok (.newarray .int, 2) := by decide +kernel
theorem dX12_init_240 : decode cX12_init 240 = .ok (.putfield 98, 3) := by decide +kernel
theorem dX12_init_243 : decode cX12_init 243 = .ok (.aload_n 0, 1) := by decide +kernel
theorem dX12_init_244 : decode cX12_init 244 = .ok (.bipush 24, 2) := by decide +kernel
theorem dX12_init_246 : decode cX12_init 246 = .ok (.newarray .int, 2) := by decide +kernel
theorem dX12_init_248 : decode cX12_init 248 = .ok (.putfield 101, 3) := by decide +kernel
theorem dX12_init_251 : decode cX12_init 251 = .ok (.aload_n 0, 1) := by decide +kernel
theorem dX12_init_252 : decode cX12_init 252 = .ok (.bipush 24, 2) := by decide +kernel
theorem dX12_init_254 : decode cX12_init 254 = .ok (.newarray .int, 2) := by decide +kernel
theorem dX12_init_256 : decode cX12_init 256 = .ok (.putfield 104, 3) := by decide +kernel
theorem dX12_init_259 : decode cX12_init 259 = .ok (.aload_n 0, 1) := by decide +kernel
theorem dX12_init_260 : decode cX12_init 260 = .ok (.bipush 24, 2) := by decide +kernel
theorem dX12_init_262 : decode cX12_init 262 = .ok (.newarray .int, 2) := by decide +kernel
theorem dX12_init_264 : decode cX12_init 264 = .ok (.putfield 107, 3) := by decide +kernel
theorem dX12_init_267 : decode cX12_init 267 = .ok (.aload_n 0, 1) := by decide +kernel
theorem dX12_init_268 : decode cX12_init 268 = .ok (.sipush 240, 3) := by decide +kernel
theorem dX12_init_271 : decode cX12_init 271 = .ok (.newarray .int, 2) := by decide +kernel
theorem dX12_init_273 : decode cX12_init 273 = .ok (.putfield 110, 3) := by decide +kernel
theorem dX12_init_276 : decode cX12_init 276 = .ok (.aload_n 0, 1) := by decide +kernel
theorem dX12_init_277 : decode cX12_init 277 = .ok (.bipush 8, 2) := by decide +kernel
theorem dX12_init_279 : decode cX12_init 279 = .ok (.newarray .int, 2) := by decide +kernel
theorem dX12_init_281 : decode cX12_init 281 = .ok (.putfield 113, 3) := by decide +kernel
theorem dX12_init_284 : decode cX12_init 284 = .ok (.aload_n 0, 1) := by decide +kernel
theorem dX12_init_285 : decode cX12_init 285 = .ok (.bipush 8, 2) := by decide +kernel
theorem dX12_init_287 : decode cX12_init 287 = .ok (.newarray .int, 2) := by decide +kernel
theorem dX12_init_289 : decode cX12_init 289 = .ok (.putfield 116, 3) := by decide +kernel
theorem dX12_init_292 : decode cX12_init 292 = .ok (.aload_n 0, 1) := by decide +kernel
theorem dX12_init_293 : decode cX12_init 293 = .ok (.bipush 8, 2) := by decide +kernel
theorem dX12_init_295 : decode cX12_init 295 = .ok (.newarray .int, 2) := by decide +kernel
theorem dX12_init_297 : decode cX12_init 297 = .ok (.putfield 119, 3) := by decide +kernel
theorem dX12_init_300 : decode cX12_init 300 = .ok (.aload_n 0, 1) := by decide +kernel
theorem dX12_init_301 : decode cX12_init 301 = .ok (.iconst 5, 1) := by decide +kernel
theorem dX12_init_302 : decode cX12_init 302 = .ok (.newarray .int, 2) := by decide +kernel
theorem dX12_init_304 : decode cX12_init 304 = .ok (.putfield 122, 3) := by decide +kernel
theorem dX12_init_307 : decode cX12_init 307 = .ok (.aload_n 0, 1) := by decide +kernel
theorem dX12_init_308 : decode cX12_init 308 = .ok (.bipush 8, 2) := by decide +kernel
theorem dX12_init_310 : decode cX12_init 310 = .ok (.newarray .int, 2) := by decide +kernel
theorem dX12_init_312 : decode cX12_init 312 = .ok (.putfield 125, 3) := by decide +kernel
theorem dX12_init_315 : decode cX12_init 315 = .ok (.return_, 1) := by decide +kernel
theorem dX12_in_0 : decode cX12_in 0 = .ok (.iload_n 0, 1) := by decide +kernel
theorem dX12_in_1 : decode cX12_in 1 = .ok (.iload_n 1, 1) := by decide +kernel
theorem dX12_in_2 : decode cX12_in 2 = .ok (.if_icmp .lt 12, 3) := by decide +kernel
theorem dX12_in_5 : decode cX12_in 5 = .ok (.iload_n 0, 1) := by decide +kernel
theorem dX12_in_6 : decode cX12_in 6 = .ok (.iload_n 2, 1) := by decide +kernel
theorem dX12_in_7 : decode cX12_in 7 = .ok (.if_icmp .gt 7, 3) := by decide +kernel
theorem dX12_in_10 : decode cX12_in 10 = .ok (.iconst 1, 1) := by decide +kernel
theorem dX12_in_11 : decode cX12_in 11 = .ok (.goto 4, 3) := by decide +kernel
theorem dX12_in_14 : decode cX12_in 14 = .ok (.iconst 0, 1) := by decide +kernel
theorem dX12_in_15 : decode cX12_in 15 = .ok (.ireturn, 1) := by decide +kernel
theorem dX12_isWord_0 : decode cX12_isWord 0 = .ok (.iload_n 0, 1) := by decide +kernel
theorem dX12_isWord_1 : decode cX12_isWord 1 = .ok (.iconst 0, 1) := by decide +kernel
theorem dX12_isWord_2 : decode cX12_isWord 2 = .ok (.bipush 99, 2) := by decide +kernel
theorem dX12_isWord_4 : decode cX12_isWord 4 = .ok (.invokestatic 128, 3) := by decide +kernel
theorem dX12_isWord_7 : decode cX12_isWord 7 = .ok (.ireturn, 1) := by decide +kernel
theorem dX12_isHole_0 : decode cX12_isHole 0 = .ok (.iload_n 0, 1) := by decide +kernel
theorem dX12_isHole_1 : decode cX12_isHole 1 = .ok (.bipush 100, 2) := by decide +kernel
theorem dX12_isHole_3 : decode cX12_isHole 3 = .ok (.bipush 103, 2) := by decide +kernel
theorem dX12_isHole_5 : decode cX12_isHole 5 = .ok (.invokestatic 128, 3) := by decide +kernel
theorem dX12_isHole_8 : decode cX12_isHole 8 = .ok (.ireturn, 1) := by decide +kernel
theorem dX12_isOwn_0 : decode cX12_isOwn 0 = .ok (.iload_n 0, 1) := by decide +kernel
theorem dX12_isOwn_1 : decode cX12_isOwn 1 = .ok (.sipush 200, 3) := by decide +kernel
theorem dX12_isOwn_4 : decode cX12_isOwn 4 = .ok (.sipush 299, 3) := by decide +kernel
theorem dX12_isOwn_7 : decode cX12_isOwn 7 = .ok (.invokestatic 128, 3) := by decide +kernel
theorem dX12_isOwn_10 : decode cX12_isOwn 10 = .ok (.ireturn, 1) := by decide +kernel
theorem dX12_isTongue_0 : decode cX12_isTongue 0 = .ok (.iload_n 0, 1) := by decide +kernel
theorem dX12_isTongue_1 : decode cX12_isTongue 1 = .ok (.iconst 0, 1) := by decide +kernel
theorem dX12_isTongue_2 : decode cX12_isTongue 2 = .ok (.iconst 2, 1) := by decide +kernel
theorem dX12_isTongue_3 : decode cX12_isTongue 3 = .ok (.invokestatic 128, 3) := by decide +kernel
theorem dX12_isTongue_6 : decode cX12_isTongue 6 = .ok (.ireturn, 1) := by decide +kernel
theorem dX12_isPiece_0 : decode cX12_isPiece 0 = .ok (.iload_n 1, 1) := by decide +kernel
theorem dX12_isPiece_1 : decode cX12_isPiece 1 = .ok (.iconst 0, 1) := by decide +kernel
theorem dX12_isPiece_2 : decode cX12_isPiece 2 = .ok (.aload_n 0, 1) := by decide +kernel
theorem dX12_isPiece_3 : decode cX12_isPiece 3 = .ok (.getfield 132, 3) := by decide +kernel
theorem dX12_isPiece_6 : decode cX12_isPiece 6 = .ok (.iconst 1, 1) := by decide +kernel
theorem dX12_isPiece_7 : decode cX12_isPiece 7 = .ok (.isub, 1) := by decide +kernel
theorem dX12_isPiece_8 : decode cX12_isPiece 8 = .ok (.invokestatic 128, 3) := by decide +kernel
theorem dX12_isPiece_11 : decode cX12_isPiece 11 = .ok (.ireturn, 1) := by decide +kernel
theorem dX12_isHand_0 : decode cX12_isHand 0 = .ok (.iload_n 1, 1) := by decide +kernel
theorem dX12_isHand_1 : decode cX12_isHand 1 = .ok (.iconst 0, 1) := by decide +kernel
theorem dX12_isHand_2 : decode cX12_isHand 2 = .ok (.aload_n 0, 1) := by decide +kernel
theorem dX12_isHand_3 : decode cX12_isHand 3 = .ok (.getfield 135, 3) := by decide +kernel
theorem dX12_isHand_6 : decode cX12_isHand 6 = .ok (.iconst 1, 1) := by decide +kernel
theorem dX12_isHand_7 : decode cX12_isHand 7 = .ok (.isub, 1) := by decide +kernel
theorem dX12_isHand_8 : decode cX12_isHand 8 = .ok (.invokestatic 128, 3) := by decide +kernel
theorem dX12_isHand_11 : decode cX12_isHand 11 = .ok (.ireturn, 1) := by decide +kernel
theorem dX12_knows_0 : decode cX12_knows 0 = .ok (.aload_n 0, 1) := by decide +kernel
theorem dX12_knows_1 : decode cX12_knows 1 = .ok (.getfield 49, 3) := by decide +kernel
theorem dX12_knows_4 : decode cX12_knows 4 = .ok (.iload_n 1, 1) := by decide +kernel
theorem dX12_knows_5 : decode cX12_knows 5 = .ok (.iaload, 1) := by decide +kernel
theorem dX12_knows_6 : decode cX12_knows 6 = .ok (.iload_n 2, 1) := by decide +kernel
theorem dX12_knows_7 : decode cX12_knows 7 = .ok (.ishr, 1) := by decide +kernel
theorem dX12_knows_8 : decode cX12_knows 8 = .ok (.iconst 1, 1) := by decide +kernel
theorem dX12_knows_9 : decode cX12_knows 9 = .ok (.iand, 1) := by decide +kernel
theorem dX12_knows_10 : decode cX12_knows 10 = .ok (.iconst 1, 1) := by decide +kernel
theorem dX12_knows_11 : decode cX12_knows 11 = .ok (.if_icmp .ne 7, 3) := by decide +kernel
theorem dX12_knows_14 : decode cX12_knows 14 = .ok (.iconst 1, 1) := by decide +kernel
theorem dX12_knows_15 : decode cX12_knows 15 = .ok (.goto 4, 3) := by decide +kernel
theorem dX12_knows_18 : decode cX12_knows 18 = .ok (.iconst 0, 1) := by decide +kernel
theorem dX12_knows_19 : decode cX12_knows 19 = .ok (.ireturn, 1) := by decide +kernel
theorem dX12_sign_0 : decode cX12_sign 0 = .ok (.iload_n 1, 1) := by decide +kernel
theorem dX12_sign_1 : decode cX12_sign 1 = .ok (.invokestatic 138, 3) := by decide +kernel
theorem dX12_sign_4 : decode cX12_sign 4 = .ok (.ifCond .ne 19, 3) := by decide +kernel
theorem dX12_sign_7 : decode cX12_sign 7 = .ok (.iload_n 1, 1) := by decide +kernel
theorem dX12_sign_8 : decode cX12_sign 8 = .ok (.invokestatic 142, 3) := by decide +kernel
