theorem dX12_effortOf_6 : decode cX12_effortOf 6 = .ok (.iconst 1, 1) := by decide +kernel
theorem dX12_effortOf_7 : decode cX12_effortOf 7 = .ok (.if_icmp .eq 17, 3) := by decide +kernel
theorem dX12_effortOf_10 : decode cX12_effortOf 10 = .ok (.aload_n 0, 1) := by decide +kernel
theorem dX12_effortOf_11 : decode cX12_effortOf 11 = .ok (.getfield 37, 3) := by decide +kernel
theorem dX12_effortOf_14 : decode cX12_effortOf 14 = .ok (.iconst 3, 1) := by decide +kernel
theorem dX12_effortOf_15 : decode cX12_effortOf 15 = .ok (.iload_n 1, 1) := by decide +kernel
theorem dX12_effortOf_16 : decode cX12_effortOf 16 = .ok (.imul, 1) := by decide +kernel
theorem dX12_effortOf_17 : decode cX12_effortOf 17 = .ok (.iload_n 2, 1) := by decide +kernel
theorem dX12_effortOf_18 : decode cX12_effortOf 18 = .ok (.iadd, 1) := by decide +kernel
theorem dX12_effortOf_19 : decode cX12_effortOf 19 = .ok (.iaload, 1) := by decide +kernel
theorem dX12_effortOf_20 : decode cX12_effortOf 20 = .ok (.iconst 2, 1) := by decide +kernel
theorem dX12_effortOf_21 : decode cX12_effortOf 21 = .ok (.if_icmp .ne 5, 3) := by decide +kernel
theorem dX12_effortOf_24 : decode cX12_effortOf 24 = .ok (.iconst 0, 1) := by decide +kernel
theorem dX12_effortOf_25 : decode cX12_effortOf 25 = .ok (.ireturn, 1) := by decide +kernel
theorem dX12_effortOf_26 : decode cX12_effortOf 26 = .ok (.aload_n 0, 1) := by decide +kernel
theorem dX12_effortOf_27 : decode cX12_effortOf 27 = .ok (.iload_n 1, 1) := by decide +kernel
theorem dX12_effortOf_28 : decode cX12_effortOf 28 = .ok (.iload_n 2, 1) := by decide +kernel
theorem dX12_effortOf_29 : decode cX12_effortOf 29 = .ok (.invokevirtual 227, 3) := by decide +kernel
theorem dX12_effortOf_32 : decode cX12_effortOf 32 = .ok (.aload_n 0, 1) := by decide +kernel
theorem dX12_effortOf_33 : decode cX12_effortOf 33 = .ok (.getfield 220, 3) := by decide +kernel
theorem dX12_effortOf_36 : decode cX12_effortOf 36 = .ok (.ifCond .lt 14, 3) := by decide +kernel
theorem dX12_effortOf_39 : decode cX12_effortOf 39 = .ok (.aload_n 0, 1) := by decide +kernel
theorem dX12_effortOf_40 : decode cX12_effortOf 40 = .ok (.getfield 224, 3) := by decide +kernel
theorem dX12_effortOf_43 : decode cX12_effortOf 43 = .ok (.ifCond .ne 7, 3) := by decide +kernel
theorem dX12_effortOf_46 : decode cX12_effortOf 46 = .ok (.iconst 1, 1) := by decide +kernel
theorem dX12_effortOf_47 : decode cX12_effortOf 47 = .ok (.goto 28, 3) := by decide +kernel
theorem dX12_effortOf_50 : decode cX12_effortOf 50 = .ok (.aload_n 0, 1) := by decide +kernel
theorem dX12_effortOf_51 : decode cX12_effortOf 51 = .ok (.getfield 220, 3) := by decide +kernel
theorem dX12_effortOf_54 : decode cX12_effortOf 54 = .ok (.ifCond .lt 15, 3) := by decide +kernel
theorem dX12_effortOf_57 : decode cX12_effortOf 57 = .ok (.aload_n 0, 1) := by decide +kernel
theorem dX12_effortOf_58 : decode cX12_effortOf 58 = .ok (.getfield 224, 3) := by decide +kernel
theorem dX12_effortOf_61 : decode cX12_effortOf 61 = .ok (.iconst 3, 1) := by decide +kernel
theorem dX12_effortOf_62 : decode cX12_effortOf 62 = .ok (.if_icmp .ge 7, 3) := by decide +kernel
theorem dX12_effortOf_65 : decode cX12_effortOf 65 = .ok (.iconst 2, 1) := by decide +kernel
theorem dX12_effortOf_66 : decode cX12_effortOf 66 = .ok (.goto 9, 3) := by decide +kernel
theorem dX12_effortOf_69 : decode cX12_effortOf 69 = .ok (.aload_n 0, 1) := by decide +kernel
theorem dX12_effortOf_70 : decode cX12_effortOf 70 = .ok (.getfield 16, 3) := by decide +kernel
theorem dX12_effortOf_73 : decode cX12_effortOf 73 = .ok (.iload_n 1, 1) := by decide +kernel
theorem dX12_effortOf_74 : decode cX12_effortOf 74 = .ok (.iaload, 1) := by decide +kernel
theorem dX12_effortOf_75 : decode cX12_effortOf 75 = .ok (.ireturn, 1) := by decide +kernel
theorem dX12_effort_0 : decode cX12_effort 0 = .ok (.aload_n 0, 1) := by decide +kernel
theorem dX12_effort_1 : decode cX12_effort 1 = .ok (.iload_n 1, 1) := by decide +kernel
theorem dX12_effort_2 : decode cX12_effort 2 = .ok (.invokevirtual 178, 3) := by decide +kernel
theorem dX12_effort_5 : decode cX12_effort 5 = .ok (.ifCond .eq 19, 3) := by decide +kernel
theorem dX12_effort_8 : decode cX12_effort 8 = .ok (.iload_n 2, 1) := by decide +kernel
theorem dX12_effort_9 : decode cX12_effort 9 = .ok (.invokestatic 187, 3) := by decide +kernel
theorem dX12_effort_12 : decode cX12_effort 12 = .ok (.ifCond .eq 12, 3) := by decide +kernel
theorem dX12_effort_15 : decode cX12_effort 15 = .ok (.aload_n 0, 1) := by decide +kernel
theorem dX12_effort_16 : decode cX12_effort 16 = .ok (.iload_n 1, 1) := by decide +kernel
theorem dX12_effort_17 : decode cX12_effort 17 = .ok (.iload_n 2, 1) := by decide +kernel
theorem dX12_effort_18 : decode cX12_effort 18 = .ok (.invokevirtual 230, 3) := by decide +kernel
theorem dX12_effort_21 : decode cX12_effort 21 = .ok (.goto 4, 3) := by decide +kernel
theorem dX12_effort_24 : decode cX12_effort 24 = .ok (.iconst (-1), 1) := by decide +kernel
theorem dX12_effort_25 : decode cX12_effort 25 = .ok (.ireturn, 1) := by decide +kernel
theorem dX12_prepare_0 : decode cX12_prepare 0 = .ok (.aload_n 0, 1) := by decide +kernel
theorem dX12_prepare_1 : decode cX12_prepare 1 = .ok (.iconst 0, 1) := by decide +kernel
theorem dX12_prepare_2 : decode cX12_prepare 2 = .ok (.putfield 233, 3) := by decide +kernel
theorem dX12_prepare_5 : decode cX12_prepare 5 = .ok (.iconst 0, 1) := by decide +kernel
theorem dX12_prepare_6 : decode cX12_prepare 6 = .ok (.istore_n 2, 1) := by decide +kernel
theorem dX12_prepare_7 : decode cX12_prepare 7 = .ok (.iload_n 2, 1) := by decide +kernel
theorem dX12_prepare_8 : decode cX12_prepare 8 = .ok (.aload_n 0, 1) := by decide +kernel
theorem dX12_prepare_9 : decode cX12_prepare 9 = .ok (.getfield 135, 3) := by decide +kernel
theorem dX12_prepare_12 : decode cX12_prepare 12 = .ok (.if_icmp .ge 21, 3) := by decide +kernel
theorem dX12_prepare_15 : decode cX12_prepare 15 = .ok (.aload_n 0, 1) := by decide +kernel
theorem dX12_prepare_16 : decode cX12_prepare 16 = .ok (.getfield 122, 3) := by decide +kernel
theorem dX12_prepare_19 : decode cX12_prepare 19 = .ok (.iload_n 2, 1) := by decide +kernel
theorem dX12_prepare_20 : decode cX12_prepare 20 = .ok (.aload_n 0, 1) := by decide +kernel
theorem dX12_prepare_21 : decode cX12_prepare 21 = .ok (.getfield 52, 3) := by decide +kernel
theorem dX12_prepare_24 : decode cX12_prepare 24 = .ok (.iload_n 2, 1) := by decide +kernel
theorem dX12_prepare_25 : decode cX12_prepare 25 = .ok (.iaload, 1) := by decide +kernel
theorem dX12_prepare_26 : decode cX12_prepare 26 = .ok (.iastore, 1) := by decide +kernel
theorem dX12_prepare_27 : decode cX12_prepare 27 = .ok (.iinc 2 1, 3) := by decide +kernel
theorem dX12_prepare_30 : decode cX12_prepare 30 = .ok (.goto (-23), 3) := by decide +kernel
theorem dX12_prepare_33 : decode cX12_prepare 33 = .ok (.iconst 0, 1) := by decide +kernel
theorem dX12_prepare_34 : decode cX12_prepare 34 = .ok (.istore_n 2, 1) := by decide +kernel
theorem dX12_prepare_35 : decode cX12_prepare 35 = .ok (.iload_n 2, 1) := by decide +kernel
theorem dX12_prepare_36 : decode cX12_prepare 36 = .ok (.aload_n 0, 1) := by decide +kernel
theorem dX12_prepare_37 : decode cX12_prepare 37 = .ok (.getfield 132, 3) := by decide +kernel
theorem dX12_prepare_40 : decode cX12_prepare 40 = .ok (.if_icmp .ge 164, 3) := by decide +kernel
theorem dX12_prepare_43 : decode cX12_prepare 43 = .ok (.aload_n 0, 1) := by decide +kernel
theorem dX12_prepare_44 : decode cX12_prepare 44 = .ok (.getfield 113, 3) := by decide +kernel
theorem dX12_prepare_47 : decode cX12_prepare 47 = .ok (.iload_n 2, 1) := by decide +kernel
theorem dX12_prepare_48 : decode cX12_prepare 48 = .ok (.aload_n 0, 1) := by decide +kernel
theorem dX12_prepare_49 : decode cX12_prepare 49 = .ok (.iload_n 2, 1) := by decide +kernel
theorem dX12_prepare_50 : decode cX12_prepare 50 = .ok (.iload_n 1, 1) := by decide +kernel
theorem dX12_prepare_51 : decode cX12_prepare 51 = .ok (.invokevirtual 230, 3) := by decide +kernel
theorem dX12_prepare_54 : decode cX12_prepare 54 = .ok (.iastore, 1) := by decide +kernel
theorem dX12_prepare_55 : decode cX12_prepare 55 = .ok (.aload_n 0, 1) := by decide +kernel
theorem dX12_prepare_56 : decode cX12_prepare 56 = .ok (.dup, 1) := by decide +kernel
theorem dX12_prepare_57 : decode cX12_prepare 57 = .ok (.getfield 233, 3) := by decide +kernel
theorem dX12_prepare_60 : decode cX12_prepare 60 = .ok (.aload_n 0, 1) := by decide +kernel
theorem dX12_prepare_61 : decode cX12_prepare 61 = .ok (.getfield 113, 3) := by decide +kernel
theorem dX12_prepare_64 : decode cX12_prepare 64 = .ok (.iload_n 2, 1) := by decide +kernel
theorem dX12_prepare_65 : decode cX12_prepare 65 = .ok (.iaload, 1) := by decide +kernel
theorem dX12_prepare_66 : decode cX12_prepare 66 = .ok (.ifCond .le 7, 3) := by decide +kernel
theorem dX12_prepare_69 : decode cX12_prepare 69 = .ok (.iconst 1, 1) := by decide +kernel
theorem dX12_prepare_70 : decode cX12_prepare 70 = .ok (.goto 4, 3) := by decide +kernel
theorem dX12_prepare_73 : decode cX12_prepare 73 = .ok (.iconst 0, 1) := by decide +kernel
theorem dX12_prepare_74 : decode cX12_prepare 74 = .ok (.iadd, 1) := by decide +kernel
theorem dX12_prepare_75 : decode cX12_prepare 75 = .ok (.putfield 233, 3) := by decide +kernel
theorem dX12_prepare_78 : decode cX12_prepare 78 = .ok (.aload_n 0, 1) := by decide +kernel
theorem dX12_prepare_79 : decode cX12_prepare 79 = .ok (.getfield 116, 3) := by decide +kernel
theorem dX12_prepare_82 : decode cX12_prepare 82 = .ok (.iload_n 2, 1) := by decide +kernel
theorem dX12_prepare_83 : decode cX12_prepare 83 = .ok (.iconst (-1), 1) := by decide +kernel
theorem dX12_prepare_84 : decode cX12_prepare 84 = .ok (.iastore, 1) := by decide +kernel
theorem dX12_prepare_85 : decode cX12_prepare 85 = .ok (.iconst 0, 1) := by decide +kernel
theorem dX12_prepare_86 : decode cX12_prepare 86 = .ok (.istore_n 3, 1) := by decide +kernel
theorem dX12_prepare_87 : decode cX12_prepare 87 = .ok (.iload_n 3, 1) := by decide +kernel
theorem dX12_prepare_88 : decode cX12_prepare 88 = .ok (.aload_n 0, 1) := by decide +kernel
theorem dX12_prepare_89 : decode cX12_prepare 89 = .ok (.getfield 135, 3) := by decide +kernel
theorem dX12_prepare_92 : decode cX12_prepare 92 = .ok (.if_icmp .ge 106, 3) := by decide +kernel
theorem dX12_prepare_95 : decode cX12_prepare 95 = .ok (.aload_n 0, 1) := by decide +kernel
theorem dX12_prepare_96 : decode cX12_prepare 96 = .ok (.getfield 113, 3) := by decide +kernel
theorem dX12_prepare_99 : decode cX12_prepare 99 = .ok (.iload_n 2, 1) := by decide +kernel
theorem dX12_prepare_100 : decode cX12_prepare 100 = .ok (.iaload, 1) := by decide +kernel
theorem dX12_prepare_101 : decode cX12_prepare 101 = .ok (.ifCond .le 31, 3) := by decide +kernel
theorem dX12_prepare_104 : decode cX12_prepare 104 = .ok (.aload_n 0, 1) := by decide +kernel
theorem dX12_prepare_105 : decode cX12_prepare 105 = .ok (.iload_n 3, 1) := by decide +kernel
theorem dX12_prepare_106 : decode cX12_prepare 106 = .ok (.iload_n 1, 1) := by decide +kernel
theorem dX12_prepare_107 : decode cX12_prepare 107 = .ok (.invokevirtual 196, 3) := by decide +kernel
theorem dX12_prepare_110 : decode cX12_prepare 110 = .ok (.ifCond .eq 22, 3) := by decide +kernel
theorem dX12_prepare_113 : decode cX12_prepare 113 = .ok (.aload_n 0, 1) := by decide +kernel
theorem dX12_prepare_114 : decode cX12_prepare 114 = .ok (.getfield 52, 3) := by decide +kernel
theorem dX12_prepare_117 : decode cX12_prepare 117 = .ok (.iload_n 3, 1) := by decide +kernel
theorem dX12_prepare_118 : decode cX12_prepare 118 = .ok (.iaload, 1) := by decide +kernel
theorem dX12_prepare_119 : decode cX12_prepare 119 = .ok (.aload_n 0, 1) := by decide +kernel
theorem dX12_prepare_120 : decode cX12_prepare 120 = .ok (.getfield 113, 3) := by decide +kernel
theorem dX12_prepare_123 : decode cX12_prepare 123 = .ok (.iload_n 2, 1) := by decide +kernel
theorem dX12_prepare_124 : decode cX12_prepare 124 = .ok (.iaload, 1) := by decide +kernel
theorem dX12_prepare_125 : decode cX12_prepare 125 = .ok (.if_icmp .lt 7, 3) := by decide +kernel
theorem dX12_prepare_128 : decode cX12_prepare 128 = .ok (.iconst 1, 1) := by decide +kernel
theorem dX12_prepare_129 : decode cX12_prepare 129 = .ok (.goto 4, 3) := by decide +kernel
theorem dX12_prepare_132 : decode cX12_prepare 132 = .ok (.iconst 0, 1) := by decide +kernel
theorem dX12_prepare_133 : decode cX12_prepare 133 = .ok (.istore 4, 2) := by decide +kernel
theorem dX12_prepare_135 : decode cX12_prepare 135 = .ok (.aload_n 0, 1) := by decide +kernel
theorem dX12_prepare_136 : decode cX12_prepare 136 = .ok (.getfield 113, 3) := by decide +kernel
theorem dX12_prepare_139 : decode cX12_prepare 139 = .ok (.iload_n 2, 1) := by decide +kernel
theorem dX12_prepare_140 : decode cX12_prepare 140 = .ok (.iaload, 1) := by decide +kernel
theorem dX12_prepare_141 : decode cX12_prepare 141 = .ok (.aload_n 0, 1) := by decide +kernel
theorem dX12_prepare_142 : decode cX12_prepare 142 = .ok (.getfield 55, 3) := by decide +kernel
theorem dX12_prepare_145 : decode cX12_prepare 145 = .ok (.iload_n 3, 1) := by decide +kernel
theorem dX12_prepare_146 : decode cX12_prepare 146 = .ok (.iaload, 1) := by decide +kernel
theorem dX12_prepare_147 : decode cX12_prepare 147 = .ok (.imul, 1) := by decide +kernel
theorem dX12_prepare_148 : decode cX12_prepare 148 = .ok (.istore 5, 2) := by decide +kernel
theorem dX12_prepare_150 : decode cX12_prepare 150 = .ok (.aload_n 0, 1) := by decide +kernel
theorem dX12_prepare_151 : decode cX12_prepare 151 = .ok (.getfield 116, 3) := by decide +kernel
theorem dX12_prepare_154 : decode cX12_prepare 154 = .ok (.iload_n 2, 1) := by decide +kernel
theorem dX12_prepare_155 : decode cX12_prepare 155 = .ok (.iload 4, 2) := by decide +kernel
theorem dX12_prepare_157 : decode cX12_prepare 157 = .ok (.ifCond .eq 28, 3) := by decide +kernel
theorem dX12_prepare_160 : decode cX12_prepare 160 = .ok (.aload_n 0, 1) := by decide +kernel
theorem dX12_prepare_161 : decode cX12_prepare 161 = .ok (.getfield 116, 3) := by decide +kernel
theorem dX12_prepare_164 : decode cX12_prepare 164 = .ok (.iload_n 2, 1) := by decide +kernel
theorem dX12_prepare_165 : decode cX12_prepare 165 = .ok (.iaload, 1) := by decide +kernel
theorem dX12_prepare_166 : decode cX12_prepare 166 = .ok (.ifCond .lt 14, 3) := by decide +kernel
theorem dX12_prepare_169 : decode cX12_prepare 169 = .ok (.iload 5, 2) := by decide +kernel
theorem dX12_prepare_171 : decode cX12_prepare 171 = .ok (.aload_n 0, 1) := by decide +kernel
theorem dX12_prepare_172 : decode cX12_prepare 172 = .ok (.getfield 116, 3) := by decide +kernel
theorem dX12_prepare_175 : decode cX12_prepare 175 = .ok (.iload_n 2, 1) := by decide +kernel
theorem dX12_prepare_176 : decode cX12_prepare 176 = .ok (.iaload, 1) := by decide +kernel
theorem dX12_prepare_177 : decode cX12_prepare 177 = .ok (.if_icmp .ge 8, 3) := by decide +kernel
theorem dX12_prepare_180 : decode cX12_prepare 180 = .ok (.iload 5, 2) := by decide +kernel
theorem dX12_prepare_182 : decode cX12_prepare 182 = .ok (.goto 9, 3) := by decide +kernel
theorem dX12_prepare_185 : decode cX12_prepare 185 = .ok (.aload_n 0, 1) := by decide +kernel
theorem dX12_prepare_186 : decode cX12_prepare 186 = .ok (.getfield 116, 3) := by decide +kernel
theorem dX12_prepare_189 : decode cX12_prepare 189 = .ok (.iload_n 2, 1) := by decide +kernel
theorem dX12_prepare_190 : decode cX12_prepare 190 = .ok (.iaload, 1) := by decide +kernel
theorem dX12_prepare_191 : decode cX12_prepare 191 = .ok (.iastore, 1) := by decide +kernel
theorem dX12_prepare_192 : decode cX12_prepare 192 = .ok (.iinc 3 1, 3) := by decide +kernel
theorem dX12_prepare_195 : decode cX12_prepare 195 = .ok (.goto (-108), 3) := by decide +kernel
theorem dX12_prepare_198 : decode cX12_prepare 198 = .ok (.iinc 2 1, 3) := by decide +kernel
theorem dX12_prepare_201 : decode cX12_prepare 201 = .ok (.goto (-166), 3) := by decide +kernel
theorem dX12_prepare_204 : decode cX12_prepare 204 = .ok (.return_, 1) := by decide +kernel
theorem dX12_canBeBetter_0 : decode cX12_canBeBetter 0 = .ok (.iload_n 2, 1) := by decide +kernel
theorem dX12_canBeBetter_1 : decode cX12_canBeBetter 1 = .ok (.istore 4, 2) := by decide +kernel
theorem dX12_canBeBetter_3 : decode cX12_canBeBetter 3 = .ok (.iload_n 3, 1) := by decide +kernel
theorem dX12_canBeBetter_4 : decode cX12_canBeBetter 4 = .ok (.istore 5, 2) := by decide +kernel
theorem dX12_canBeBetter_6 : decode cX12_canBeBetter 6 = .ok (.iload_n 1, 1) := by decide +kernel
theorem dX12_canBeBetter_7 : decode cX12_canBeBetter 7 = .ok (.istore 6, 2) := by decide +kernel
theorem dX12_canBeBetter_9 : decode cX12_canBeBetter 9 = .ok (.iload 6, 2) := by decide +kernel
theorem dX12_canBeBetter_11 : decode cX12_canBeBetter 11 = .ok (.aload_n 0, 1) := by decide +kernel
theorem dX12_canBeBetter_12 : decode cX12_canBeBetter 12 = .ok (.getfield 132, 3) := by decide +kernel
theorem dX12_canBeBetter_15 : decode cX12_canBeBetter 15 = .ok (.if_icmp .ge 55, 3) := by decide +kernel
theorem dX12_canBeBetter_18 : decode cX12_canBeBetter 18 = .ok (.iload 4, 2) := by decide +kernel
theorem dX12_canBeBetter_20 : decode cX12_canBeBetter 20 = .ok (.aload_n 0, 1) := by decide +kernel
theorem dX12_canBeBetter_21 : decode cX12_canBeBetter 21 = .ok (.getfield 116, 3) := by decide +kernel
theorem dX12_canBeBetter_24 : decode cX12_canBeBetter 24 = .ok (.iload 6, 2) := by decide +kernel
theorem dX12_canBeBetter_26 : decode cX12_canBeBetter 26 = .ok (.iaload, 1) := by decide +kernel
theorem dX12_canBeBetter_27 : decode cX12_canBeBetter 27 = .ok (.ifCond .ge 7, 3) := by decide +kernel
theorem dX12_canBeBetter_30 : decode cX12_canBeBetter 30 = .ok (.iconst 0, 1) := by decide +kernel
theorem dX12_canBeBetter_31 : decode cX12_canBeBetter 31 = .ok (.goto 4, 3) := by decide +kernel
theorem dX12_canBeBetter_34 : decode cX12_canBeBetter 34 = .ok (.iconst 1, 1) := by decide +kernel
theorem dX12_canBeBetter_35 : decode cX12_canBeBetter 35 = .ok (.iadd, 1) := by decide +kernel
theorem dX12_canBeBetter_36 : decode cX12_canBeBetter 36 = .ok (.istore 4, 2) := by decide +kernel
theorem dX12_canBeBetter_38 : decode cX12_canBeBetter 38 = .ok (.iload 5, 2) := by decide +kernel
theorem dX12_canBeBetter_40 : decode cX12_canBeBetter 40 = .ok (.aload_n 0, 1) := by decide +kernel
theorem dX12_canBeBetter_41 : decode cX12_canBeBetter 41 = .ok (.getfield 116, 3) := by decide +kernel
theorem dX12_canBeBetter_44 : decode cX12_canBeBetter 44 = .ok (.iload 6, 2) := by decide +kernel
theorem dX12_canBeBetter_46 : decode cX12_canBeBetter 46 = .ok (.iaload, 1) := by decide +kernel
theorem dX12_canBeBetter_47 : decode cX12_canBeBetter 47 = .ok (.ifCond .ge 7, 3) := by decide +kernel
theorem dX12_canBeBetter_50 : decode cX12_canBeBetter 50 = .ok (.iconst 0, 1) := by decide +kernel
theorem dX12_canBeBetter_51 : decode cX12_canBeBetter 51 = .ok (.goto 10, 3) := by decide +kernel
theorem dX12_canBeBetter_54 : decode cX12_canBeBetter 54 = .ok (.aload_n 0, 1) := by decide +kernel
theorem dX12_canBeBetter_55 : decode cX12_canBeBetter 55 = .ok (.getfield 116, 3) := by decide +kernel
theorem dX12_canBeBetter_58 : decode cX12_canBeBetter 58 = .ok (.iload 6, 2) := by decide +kernel
theorem dX12_canBeBetter_60 : decode cX12_canBeBetter 60 = .ok (.iaload, 1) := by decide +kernel
theorem dX12_canBeBetter_61 : decode cX12_canBeBetter 61 = .ok (.iadd, 1) := by decide +kernel
theorem dX12_canBeBetter_62 : decode cX12_canBeBetter 62 = .ok (.istore 5, 2) := by decide +kernel
theorem dX12_canBeBetter_64 : decode cX12_canBeBetter 64 = .ok (.iinc 6 1, 3) := by decide +kernel
theorem dX12_canBeBetter_67 : decode cX12_canBeBetter 67 = .ok (.goto (-58), 3) := by decide +kernel
theorem dX12_canBeBetter_70 : decode cX12_canBeBetter 70 = .ok (.iload 4, 2) := by decide +kernel
theorem dX12_canBeBetter_72 : decode cX12_canBeBetter 72 = .ok (.aload_n 0, 1) := by decide +kernel
theorem dX12_canBeBetter_73 : decode cX12_canBeBetter 73 = .ok (.getfield 236, 3) := by decide +kernel
theorem dX12_canBeBetter_76 : decode cX12_canBeBetter 76 = .ok (.if_icmp .gt 21, 3) := by decide +kernel
theorem dX12_canBeBetter_79 : decode cX12_canBeBetter 79 = .ok (.iload 4, 2) := by decide +kernel
theorem dX12_canBeBetter_81 : decode cX12_canBeBetter 81 = .ok (.aload_n 0, 1) := by decide +kernel
theorem dX12_canBeBetter_82 : decode cX12_canBeBetter 82 = .ok (.getfield 236, 3) := by decide +kernel
theorem dX12_canBeBetter_85 : decode cX12_canBeBetter 85 = .ok (.if_icmp .ne 16, 3) := by decide +kernel
theorem dX12_canBeBetter_88 : decode cX12_canBeBetter 88 = .ok (.iload 5, 2) := by decide +kernel
theorem dX12_canBeBetter_90 : decode cX12_canBeBetter 90 = .ok (.aload_n 0, 1) := by decide +kernel
theorem dX12_canBeBetter_91 : decode cX12_canBeBetter 91 = .ok (.getfield 239, 3) := by decide +kernel
theorem dX12_canBeBetter_94 : decode cX12_canBeBetter 94 = .ok (.if_icmp .ge 7, 3) := by decide +kernel
theorem dX12_canBeBetter_97 : decode cX12_canBeBetter 97 = .ok (.iconst 1, 1) := by decide +kernel
theorem dX12_canBeBetter_98 : decode cX12_canBeBetter 98 = .ok (.goto 4, 3) := by decide +kernel
theorem dX12_canBeBetter_101 : decode cX12_canBeBetter 101 = .ok (.iconst 0, 1) := by decide +kernel
theorem dX12_canBeBetter_102 : decode cX12_canBeBetter 102 = .ok (.ireturn, 1) := by decide +kernel
theorem dX12_fits_0 : decode cX12_fits 0 = .ok (.aload_n 0, 1) := by decide +kernel
theorem dX12_fits_1 : decode cX12_fits 1 = .ok (.getfield 113, 3) := by decide +kernel
theorem dX12_fits_4 : decode cX12_fits 4 = .ok (.iload_n 1, 1) := by decide +kernel
theorem dX12_fits_5 : decode cX12_fits 5 = .ok (.iaload, 1) := by decide +kernel
theorem dX12_fits_6 : decode cX12_fits 6 = .ok (.ifCond .le 31, 3) := by decide +kernel
theorem dX12_fits_9 : decode cX12_fits 9 = .ok (.aload_n 0, 1) := by decide +kernel
theorem dX12_fits_10 : decode cX12_fits 10 = .ok (.iload_n 2, 1) := by decide +kernel
theorem dX12_fits_11 : decode cX12_fits 11 = .ok (.iload_n 3, 1) := by decide +kernel
theorem dX12_fits_12 : decode cX12_fits 12 = .ok (.invokevirtual 196, 3) := by decide +kernel
theorem dX12_fits_15 : decode cX12_fits 15 = .ok (.ifCond .eq 22, 3) := by decide +kernel
theorem dX12_fits_18 : decode cX12_fits 18 = .ok (.aload_n 0, 1) := by decide +kernel
theorem dX12_fits_19 : decode cX12_fits 19 = .ok (.getfield 122, 3) := by decide +kernel
theorem dX12_fits_22 : decode cX12_fits 22 = .ok (.iload_n 2, 1) := by decide +kernel
theorem dX12_fits_23 : decode cX12_fits 23 = .ok (.iaload, 1) := by decide +kernel
theorem dX12_fits_24 : decode cX12_fits 24 = .ok (.aload_n 0, 1) := by decide +kernel
theorem dX12_fits_25 : decode cX12_fits 25 = .ok (.getfield 113, 3) := by decide +kernel
theorem dX12_fits_28 : decode cX12_fits 28 = .ok (.iload_n 1, 1) := by decide +kernel
theorem dX12_fits_29 : decode cX12_fits 29 = .ok (.iaload, 1) := by decide +kernel
theorem dX12_fits_30 : decode cX12_fits 30 = .ok (.if_icmp .lt 7, 3) := by decide +kernel
theorem dX12_fits_33 : decode cX12_fits 33 = .ok (.iconst 1, 1) := by decide +kernel
theorem dX12_fits_34 : decode cX12_fits 34 = .ok (.goto 4, 3) := by decide +kernel
theorem dX12_fits_37 : decode cX12_fits 37 = .ok (.iconst 0, 1) := by decide +kernel
theorem dX12_fits_38 : decode cX12_fits 38 = .ok (.ireturn, 1) := by decide +kernel
theorem dX12_findPlan_0 : decode cX12_findPlan 0 = .ok (.aload_n 0, 1) := by decide +kernel
theorem dX12_findPlan_1 : decode cX12_findPlan 1 = .ok (.iload_n 1, 1) := by decide +kernel
theorem dX12_findPlan_2 : decode cX12_findPlan 2 = .ok (.invokevirtual 242, 3) := by decide +kernel
theorem dX12_findPlan_5 : decode cX12_findPlan 5 = .ok (.aload_n 0, 1) := by decide +kernel
theorem dX12_findPlan_6 : decode cX12_findPlan 6 = .ok (.iconst (-1), 1) := by decide +kernel
theorem dX12_findPlan_7 : decode cX12_findPlan 7 = .ok (.putfield 236, 3) := by decide +kernel
theorem dX12_findPlan_10 : decode cX12_findPlan 10 = .ok (.aload_n 0, 1) := by decide +kernel
theorem dX12_findPlan_11 : decode cX12_findPlan 11 = .ok (.iconst 0, 1) := by decide +kernel
theorem dX12_findPlan_12 : decode cX12_findPlan 12 = .ok (.putfield 239, 3) := by decide +kernel
theorem dX12_findPlan_15 : decode cX12_findPlan 15 = .ok (.iconst 0, 1) := by decide +kernel
theorem dX12_findPlan_16 : decode cX12_findPlan 16 = .ok (.istore_n 2, 1) := by decide +kernel
theorem dX12_findPlan_17 : decode cX12_findPlan 17 = .ok (.iconst 0, 1) := by decide +kernel
theorem dX12_findPlan_18 : decode cX12_findPlan 18 = .ok (.istore_n 3, 1) := by decide +kernel
theorem dX12_findPlan_19 : decode cX12_findPlan 19 = .ok (.iconst 0, 1) := by decide +kernel
theorem dX12_findPlan_20 : decode cX12_findPlan 20 = .ok (.istore 4, 2) := by decide +kernel
theorem dX12_findPlan_22 : decode cX12_findPlan 22 = .ok (.aload_n 0, 1) := by decide +kernel
theorem dX12_findPlan_23 : decode cX12_findPlan 23 = .ok (.getfield 119, 3) := by decide +kernel
theorem dX12_findPlan_26 : decode cX12_findPlan 26 = .ok (.iconst 0, 1) := by decide +kernel
theorem dX12_findPlan_27 : decode cX12_findPlan 27 = .ok (.iconst (-1), 1) := by decide +kernel
theorem dX12_findPlan_28 : decode cX12_findPlan 28 = .ok (.iastore, 1) := by decide +kernel
theorem dX12_findPlan_29 : decode cX12_findPlan 29 = .ok (.iconst 1, 1) := by decide +kernel
theorem dX12_findPlan_30 : decode cX12_findPlan 30 = .ok (.istore 5, 2) := by decide +kernel
theorem dX12_findPlan_32 : decode cX12_findPlan 32 = .ok (.iload 5, 2) := by decide +kernel
theorem dX12_findPlan_34 : decode cX12_findPlan 34 = .ok (.ifCond .eq 282, 3) := by decide +kernel
theorem dX12_findPlan_37 : decode cX12_findPlan 37 = .ok (.iload_n 2, 1) := by decide +kernel
theorem dX12_findPlan_38 : decode cX12_findPlan 38 = .ok (.aload_n 0, 1) := by decide +kernel
theorem dX12_findPlan_39 : decode cX12_findPlan 39 = .ok (.getfield 132, 3) := by decide +kernel
theorem dX12_findPlan_42 : decode cX12_findPlan 42 = .ok (.if_icmp .ne 69, 3) := by decide +kernel
theorem dX12_findPlan_45 : decode cX12_findPlan 45 = .ok (.iload_n 3, 1) := by decide +kernel
theorem dX12_findPlan_46 : decode cX12_findPlan 46 = .ok (.aload_n 0, 1) := by decide +kernel
theorem dX12_findPlan_47 : decode cX12_findPlan 47 = .ok (.getfield 236, 3) := by decide +kernel
theorem dX12_findPlan_50 : decode cX12_findPlan 50 = .ok (.if_icmp .gt 20, 3) := by decide +kernel
theorem dX12_findPlan_53 : decode cX12_findPlan 53 = .ok (.iload_n 3, 1) := by decide +kernel
theorem dX12_findPlan_54 : decode cX12_findPlan 54 = .ok (.aload_n 0, 1) := by decide +kernel
theorem dX12_findPlan_55 : decode cX12_findPlan 55 = .ok (.getfield 236, 3) := by decide +kernel
theorem dX12_findPlan_58 : decode cX12_findPlan 58 = .ok (.if_icmp .ne 36, 3) := by decide +kernel
theorem dX12_findPlan_61 : decode cX12_findPlan 61 = .ok (.iload 4, 2) := by decide +kernel
theorem dX12_findPlan_63 : decode cX12_findPlan 63 = .ok (.aload_n 0, 1) := by decide +kernel
theorem dX12_findPlan_64 : decode cX12_findPlan 64 = .ok (.getfield 239, 3) := by decide +kernel
theorem dX12_findPlan_67 : decode cX12_findPlan 67 = .ok (.if_icmp .ge 27, 3) := by decide +kernel
theorem dX12_findPlan_70 : decode cX12_findPlan 70 = .ok (.aload_n 0, 1) := by decide +kernel
theorem dX12_findPlan_71 : decode cX12_findPlan 71 = .ok (.iload_n 3, 1) := by decide +kernel
theorem dX12_findPlan_72 : decode cX12_findPlan 72 = .ok (.putfield 236, 3) := by decide +kernel
theorem dX12_findPlan_75 : decode cX12_findPlan 75 = .ok (.aload_n 0, 1) := by decide +kernel
theorem dX12_findPlan_76 : decode cX12_findPlan 76 = .ok (.iload 4, 2) := by decide +kernel
theorem dX12_findPlan_78 : decode cX12_findPlan 78 = .ok (.putfield 239, 3) := by decide +kernel
theorem dX12_findPlan_81 : decode cX12_findPlan 81 = .ok (.aload_n 0, 1) := by decide +kernel
theorem dX12_findPlan_82 : decode cX12_findPlan 82 = .ok (.getfield 119, 3) := by decide +kernel
theorem dX12_findPlan_85 : decode cX12_findPlan 85 = .ok (.aload_n 0, 1) := by decide +kernel
theorem dX12_findPlan_86 : decode cX12_findPlan 86 = .ok (.getfield 125, 3) := by decide +kernel
theorem dX12_findPlan_89 : decode cX12_findPlan 89 = .ok (.bipush 8, 2) := by decide +kernel
theorem dX12_findPlan_91 : decode cX12_findPlan 91 = .ok (.invokestatic 170, 3) := by decide +kernel
theorem dX12_findPlan_94 : decode cX12_findPlan 94 = .ok (.iinc 2 (-1), 3) := by decide +kernel
theorem dX12_findPlan_97 : decode cX12_findPlan 97 = .ok (.iload_n 2, 1) := by decide +kernel
theorem dX12_findPlan_98 : decode cX12_findPlan 98 = .ok (.ifCond .lt 7, 3) := by decide +kernel
theorem dX12_findPlan_101 : decode cX12_findPlan 101 = .ok (.iconst 1, 1) := by decide +kernel
theorem dX12_findPlan_102 : decode cX12_findPlan 102 = .ok (.goto 4, 3) := by decide +kernel
theorem dX12_findPlan_105 : decode cX12_findPlan 105 = .ok (.iconst 0, 1) := by decide +kernel
theorem dX12_findPlan_106 : decode cX12_findPlan 106 = .ok (.istore 5, 2) := by decide +kernel
theorem dX12_findPlan_108 : decode cX12_findPlan 108 = .ok (.goto (-76), 3) := by decide +kernel
theorem dX12_findPlan_111 : decode cX12_findPlan 111 = .ok (.aload_n 0, 1) := by decide +kernel
theorem dX12_findPlan_112 : decode cX12_findPlan 112 = .ok (.getfield 119, 3) := by decide +kernel
theorem dX12_findPlan_115 : decode cX12_findPlan 115 = .ok (.iload_n 2, 1) := by decide +kernel
theorem dX12_findPlan_116 : decode cX12_findPlan 116 = .ok (.iaload, 1) := by decide +kernel
theorem dX12_findPlan_117 : decode cX12_findPlan 117 = .ok (.istore 6, 2) := by decide +kernel
theorem dX12_findPlan_119 : decode cX12_findPlan 119 = .ok (.iload 6, 2) := by decide +kernel
theorem dX12_findPlan_121 : decode cX12_findPlan 121 = .ok (.ifCond .lt 50, 3) := by decide +kernel
theorem dX12_findPlan_124 : decode cX12_findPlan 124 = .ok (.iload 6, 2) := by decide +kernel
theorem dX12_findPlan_126 : decode cX12_findPlan 126 = .ok (.aload_n 0, 1) := by decide +kernel
theorem dX12_findPlan_127 : decode cX12_findPlan 127 = .ok (.getfield 135, 3) := by decide +kernel
theorem dX12_findPlan_130 : decode cX12_findPlan 130 = .ok (.if_icmp .ge 41, 3) := by decide +kernel
theorem dX12_findPlan_133 : decode cX12_findPlan 133 = .ok (.aload_n 0, 1) := by decide +kernel
theorem dX12_findPlan_134 : decode cX12_findPlan 134 = .ok (.getfield 122, 3) := by decide +kernel
theorem dX12_findPlan_137 : decode cX12_findPlan 137 = .ok (.iload 6, 2) := by decide +kernel
theorem dX12_findPlan_139 : decode cX12_findPlan 139 = .ok (.dup2, 1) := by decide +kernel
theorem dX12_findPlan_140 : decode cX12_findPlan 140 = .ok (.iaload, 1) := by decide +kernel
theorem dX12_findPlan_141 : decode cX12_findPlan 141 = .ok (.aload_n 0, 1) := by decide +kernel
theorem dX12_findPlan_142 : decode cX12_findPlan 142 = .ok (.getfield 113, 3) := by decide +kernel
theorem dX12_findPlan_145 : decode cX12_findPlan 145 = .ok (.iload_n 2, 1) := by decide +kernel
theorem dX12_findPlan_146 : decode cX12_findPlan 146 = .ok (.iaload, 1) := by decide +kernel
theorem dX12_findPlan_147 : decode cX12_findPlan 147 = .ok (.iadd, 1) := by decide +kernel
theorem dX12_findPlan_148 : decode cX12_findPlan 148 = .ok (.iastore, 1) := by decide +kernel
theorem dX12_findPlan_149 : decode cX12_findPlan 149 = .ok (.iinc 3 (-1), 3) := by decide +kernel
theorem dX12_findPlan_152 : decode cX12_findPlan 152 = .ok (.iload 4, 2) := by decide +kernel
theorem dX12_findPlan_154 : decode cX12_findPlan 154 = .ok (.aload_n 0, 1) := by decide +kernel
theorem dX12_findPlan_155 : decode cX12_findPlan 155 = .ok (.getfield 113, 3) := by decide +kernel
theorem dX12_findPlan_158 : decode cX12_findPlan 158 = .ok (.iload_n 2, 1) := by decide +kernel
theorem dX12_findPlan_159 : decode cX12_findPlan 159 = .ok (.iaload, 1) := by decide +kernel
theorem dX12_findPlan_160 : decode cX12_findPlan 160 = .ok (.aload_n 0, 1) := by decide +kernel
theorem dX12_findPlan_161 : decode cX12_findPlan 161 = .ok (.getfield 55, 3) := by decide +kernel
theorem dX12_findPlan_164 : decode cX12_findPlan 164 = .ok (.iload 6, 2) := by decide +kernel
theorem dX12_findPlan_166 : decode cX12_findPlan 166 = .ok (.iaload, 1) := by decide +kernel
theorem dX12_findPlan_167 : decode cX12_findPlan 167 = .ok (.imul, 1) := by decide +kernel
theorem dX12_findPlan_168 : decode cX12_findPlan 168 = .ok (.isub, 1) := by decide +kernel
theorem dX12_findPlan_169 : decode cX12_findPlan 169 = .ok (.istore 4, 2) := by decide +kernel
theorem dX12_findPlan_171 : decode cX12_findPlan 171 = .ok (.iload 6, 2) := by decide +kernel
theorem dX12_findPlan_173 : decode cX12_findPlan 173 = .ok (.iconst 1, 1) := by decide +kernel
theorem dX12_findPlan_174 : decode cX12_findPlan 174 = .ok (.iadd, 1) := by decide +kernel
theorem dX12_findPlan_175 : decode cX12_findPlan 175 = .ok (.istore 7, 2) := by decide +kernel
theorem dX12_findPlan_177 : decode cX12_findPlan 177 = .ok (.iload 7, 2) := by decide +kernel
theorem dX12_findPlan_179 : decode cX12_findPlan 179 = .ok (.aload_n 0, 1) := by decide +kernel
theorem dX12_findPlan_180 : decode cX12_findPlan 180 = .ok (.getfield 135, 3) := by decide +kernel
theorem dX12_findPlan_183 : decode cX12_findPlan 183 = .ok (.if_icmp .ge 20, 3) := by decide +kernel
theorem dX12_findPlan_186 : decode cX12_findPlan 186 = .ok (.aload_n 0, 1) := by decide +kernel
theorem dX12_findPlan_187 : decode cX12_findPlan 187 = .ok (.iload_n 2, 1) := by decide +kernel
theorem dX12_findPlan_188 : decode cX12_findPlan 188 = .ok (.iload 7, 2) := by decide +kernel
theorem dX12_findPlan_190 : decode cX12_findPlan 190 = .ok (.iload_n 1, 1) := by decide +kernel
theorem dX12_findPlan_191 : decode cX12_findPlan 191 = .ok (.invokevirtual 246, 3) := by decide +kernel
theorem dX12_findPlan_194 : decode cX12_findPlan 194 = .ok (.ifCond .ne 9, 3) := by decide +kernel
theorem dX12_findPlan_197 : decode cX12_findPlan 197 = .ok (.iinc 7 1, 3) := by decide +kernel
theorem dX12_findPlan_200 : decode cX12_findPlan 200 = .ok (.goto (-23), 3) := by decide +kernel
theorem dX12_findPlan_203 : decode cX12_findPlan 203 = .ok (.iload 7, 2) := by decide +kernel
theorem dX12_findPlan_205 : decode cX12_findPlan 205 = .ok (.aload_n 0, 1) := by decide +kernel
theorem dX12_findPlan_206 : decode cX12_findPlan 206 = .ok (.getfield 135, 3) := by decide +kernel
theorem dX12_findPlan_209 : decode cX12_findPlan 209 = .ok (.if_icmp .gt 14, 3) := by decide +kernel
theorem dX12_findPlan_212 : decode cX12_findPlan 212 = .ok (.aload_n 0, 1) := by decide +kernel
theorem dX12_findPlan_213 : decode cX12_findPlan 213 = .ok (.iload_n 2, 1) := by decide +kernel
theorem dX12_findPlan_214 : decode cX12_findPlan 214 = .ok (.iload_n 3, 1) := by decide +kernel
theorem dX12_findPlan_215 : decode cX12_findPlan 215 = .ok (.iload 4, 2) := by decide +kernel
theorem dX12_findPlan_217 : decode cX12_findPlan 217 = .ok (.invokevirtual 249, 3) := by decide +kernel
theorem dX12_findPlan_220 : decode cX12_findPlan 220 = .ok (.ifCond .ne 20, 3) := by decide +kernel
theorem dX12_findPlan_223 : decode cX12_findPlan 223 = .ok (.iinc 2 (-1), 3) := by decide +kernel
theorem dX12_findPlan_226 : decode cX12_findPlan 226 = .ok (.iload_n 2, 1) := by decide +kernel
theorem dX12_findPlan_227 : decode cX12_findPlan 227 = .ok (.ifCond .lt 7, 3) := by decide +kernel
theorem dX12_findPlan_230 : decode cX12_findPlan 230 = .ok (.iconst 1, 1) := by decide +kernel
theorem dX12_findPlan_231 : decode cX12_findPlan 231 = .ok (.goto 4, 3) := by decide +kernel
theorem dX12_findPlan_234 : decode cX12_findPlan 234 = .ok (.iconst 0, 1) := by decide +kernel
theorem dX12_findPlan_235 : decode cX12_findPlan 235 = .ok (.istore 5, 2) := by decide +kernel
theorem dX12_findPlan_237 : decode cX12_findPlan 237 = .ok (.goto (-205), 3) := by decide +kernel
theorem dX12_findPlan_240 : decode cX12_findPlan 240 = .ok (.aload_n 0, 1) := by decide +kernel
theorem dX12_findPlan_241 : decode cX12_findPlan 241 = .ok (.getfield 119, 3) := by decide +kernel
theorem dX12_findPlan_244 : decode cX12_findPlan 244 = .ok (.iload_n 2, 1) := by decide +kernel
theorem dX12_findPlan_245 : decode cX12_findPlan 245 = .ok (.iload 7, 2) := by decide +kernel
theorem dX12_findPlan_247 : decode cX12_findPlan 247 = .ok (.iastore, 1) := by decide +kernel
theorem dX12_findPlan_248 : decode cX12_findPlan 248 = .ok (.iload 7, 2) := by decide +kernel
theorem dX12_findPlan_250 : decode cX12_findPlan 250 = .ok (.aload_n 0, 1) := by decide +kernel
theorem dX12_findPlan_251 : decode cX12_findPlan 251 = .ok (.getfield 135, 3) := by decide +kernel
theorem dX12_findPlan_254 : decode cX12_findPlan 254 = .ok (.if_icmp .ge 41, 3) := by decide +kernel
theorem dX12_findPlan_257 : decode cX12_findPlan 257 = .ok (.aload_n 0, 1) := by decide +kernel
theorem dX12_findPlan_258 : decode cX12_findPlan 258 = .ok (.getfield 122, 3) := by decide +kernel
theorem dX12_findPlan_261 : decode cX12_findPlan 261 = .ok (.iload 7, 2) := by decide +kernel
theorem dX12_findPlan_263 : decode cX12_findPlan 263 = .ok (.dup2, 1) := by decide +kernel
theorem dX12_findPlan_264 : decode cX12_findPlan 264 = .ok (.iaload, 1) := by decide +kernel
theorem dX12_findPlan_265 : decode cX12_findPlan 265 = .ok (.aload_n 0, 1) := by decide +kernel
theorem dX12_findPlan_266 : decode cX12_findPlan 266 = .ok (.getfield 113, 3) := by decide +kernel
theorem dX12_findPlan_269 : decode cX12_findPlan 269 = .ok (.iload_n 2, 1) := by decide +kernel
theorem dX12_findPlan_270 : decode cX12_findPlan 270 = .ok (.iaload, 1) := by decide +kernel
theorem dX12_findPlan_271 : decode cX12_findPlan 271 = .ok (.isub, 1) := by decide +kernel
theorem dX12_findPlan_272 : decode cX12_findPlan 272 = .ok (.iastore, 1) := by decide +kernel
theorem dX12_findPlan_273 : decode cX12_findPlan 273 = .ok (.iinc 3 1, 3) := by decide +kernel
theorem dX12_findPlan_276 : decode cX12_findPlan 276 = .ok (.iload 4, 2) := by decide +kernel
theorem dX12_findPlan_278 : decode cX12_findPlan 278 = .ok (.aload_n 0, 1) := by decide +kernel
theorem dX12_findPlan_279 : decode cX12_findPlan 279 = .ok (.getfield 113, 3) := by decide +kernel
theorem dX12_findPlan_282 : decode cX12_findPlan 282 = .ok (.iload_n 2, 1) := by decide +kernel
theorem dX12_findPlan_283 : decode cX12_findPlan 283 = .ok (.iaload, 1) := by decide +kernel
theorem dX12_findPlan_284 : decode cX12_findPlan 284 = .ok (.aload_n 0, 1) := by decide +kernel
theorem dX12_findPlan_285 : decode cX12_findPlan 285 = .ok (.getfield 55, 3) := by decide +kernel
theorem dX12_findPlan_288 : decode cX12_findPlan 288 = .ok (.iload 7, 2) := by decide +kernel
theorem dX12_findPlan_290 : decode cX12_findPlan 290 = .ok (.iaload, 1) := by decide +kernel
theorem dX12_findPlan_291 : decode cX12_findPlan 291 = .ok (.imul, 1) := by decide +kernel
theorem dX12_findPlan_292 : decode cX12_findPlan 292 = .ok (.iadd, 1) := by decide +kernel
theorem dX12_findPlan_293 : decode cX12_findPlan 293 = .ok (.istore 4, 2) := by decide +kernel
theorem dX12_findPlan_295 : decode cX12_findPlan 295 = .ok (.iinc 2 1, 3) := by decide +kernel
theorem dX12_findPlan_298 : decode cX12_findPlan 298 = .ok (.iload_n 2, 1) := by decide +kernel
theorem dX12_findPlan_299 : decode cX12_findPlan 299 = .ok (.aload_n 0, 1) := by decide +kernel
theorem dX12_findPlan_300 : decode cX12_findPlan 300 = .ok (.getfield 132, 3) := by decide +kernel
theorem dX12_findPlan_303 : decode cX12_findPlan 303 = .ok (.if_icmp .ge 10, 3) := by decide +kernel
theorem dX12_findPlan_306 : decode cX12_findPlan 306 = .ok (.aload_n 0, 1) := by decide +kernel
theorem dX12_findPlan_307 : decode cX12_findPlan 307 = .ok (.getfield 119, 3) := by decide +kernel
theorem dX12_findPlan_310 : decode cX12_findPlan 310 = .ok (.iload_n 2, 1) := by decide +kernel
theorem dX12_findPlan_311 : decode cX12_findPlan 311 = .ok (.iconst (-1), 1) := by decide +kernel
theorem dX12_findPlan_312 : decode cX12_findPlan 312 = .ok (.iastore, 1) := by decide +kernel
theorem dX12_findPlan_313 : decode cX12_findPlan 313 = .ok (.goto (-281), 3) := by decide +kernel
theorem dX12_findPlan_316 : decode cX12_findPlan 316 = .ok (.return_, 1) := by decide +kernel
theorem dX12_plan_0 : decode cX12_plan 0 = .ok (.iload_n 1, 1) := by decide +kernel
theorem dX12_plan_1 : decode cX12_plan 1 = .ok (.invokestatic 187, 3) := by decide +kernel
theorem dX12_plan_4 : decode cX12_plan 4 = .ok (.ifCond .eq 11, 3) := by decide +kernel
theorem dX12_plan_7 : decode cX12_plan 7 = .ok (.aload_n 0, 1) := by decide +kernel
theorem dX12_plan_8 : decode cX12_plan 8 = .ok (.iload_n 2, 1) := by decide +kernel
theorem dX12_plan_9 : decode cX12_plan 9 = .ok (.invokevirtual 178, 3) := by decide +kernel
theorem dX12_plan_12 : decode cX12_plan 12 = .ok (.ifCond .ne 5, 3) := by decide +kernel
theorem dX12_plan_15 : decode cX12_plan 15 = .ok (.iconst (-1), 1) := by decide +kernel
theorem dX12_plan_16 : decode cX12_plan 16 = .ok (.ireturn, 1) := by decide +kernel
theorem dX12_plan_17 : decode cX12_plan 17 = .ok (.aload_n 0, 1) := by decide +kernel
theorem dX12_plan_18 : decode cX12_plan 18 = .ok (.iload_n 1, 1) := by decide +kernel
theorem dX12_plan_19 : decode cX12_plan 19 = .ok (.invokevirtual 252, 3) := by decide +kernel
theorem dX12_plan_22 : decode cX12_plan 22 = .ok (.aload_n 0, 1) := by decide +kernel
theorem dX12_plan_23 : decode cX12_plan 23 = .ok (.getfield 125, 3) := by decide +kernel
theorem dX12_plan_26 : decode cX12_plan 26 = .ok (.iload_n 2, 1) := by decide +kernel
theorem dX12_plan_27 : decode cX12_plan 27 = .ok (.iaload, 1) := by decide +kernel
theorem dX12_plan_28 : decode cX12_plan 28 = .ok (.aload_n 0, 1) := by decide +kernel
theorem dX12_plan_29 : decode cX12_plan 29 = .ok (.getfield 135, 3) := by decide +kernel
theorem dX12_plan_32 : decode cX12_plan 32 = .ok (.if_icmp .ge 12, 3) := by decide +kernel
theorem dX12_plan_35 : decode cX12_plan 35 = .ok (.aload_n 0, 1) := by decide +kernel
theorem dX12_plan_36 : decode cX12_plan 36 = .ok (.getfield 125, 3) := by decide +kernel
theorem dX12_plan_39 : decode cX12_plan 39 = .ok (.iload_n 2, 1) := by decide +kernel
theorem dX12_plan_40 : decode cX12_plan 40 = .ok (.iaload, 1) := by decide +kernel
theorem dX12_plan_41 : decode cX12_plan 41 = .ok (.goto 5, 3) := by decide +kernel
theorem dX12_plan_44 : decode cX12_plan 44 = .ok (.bipush (-5), 2) := by decide +kernel
theorem dX12_plan_46 : decode cX12_plan 46 = .ok (.ireturn, 1) := by decide +kernel
theorem dX12_planned_0 : decode cX12_planned 0 = .ok (.iload_n 1, 1) := by decide +kernel
theorem dX12_planned_1 : decode cX12_planned 1 = .ok (.invokestatic 187, 3) := by decide +kernel
theorem dX12_planned_4 : decode cX12_planned 4 = .ok (.ifCond .eq 12, 3) := by decide +kernel
theorem dX12_planned_7 : decode cX12_planned 7 = .ok (.iload_n 2, 1) := by decide +kernel
theorem dX12_planned_8 : decode cX12_planned 8 = .ok (.iconst 0, 1) := by decide +kernel
theorem dX12_planned_9 : decode cX12_planned 9 = .ok (.iconst 2, 1) := by decide +kernel
theorem dX12_planned_10 : decode cX12_planned 10 = .ok (.invokestatic 128, 3) := by decide +kernel
theorem dX12_planned_13 : decode cX12_planned 13 = .ok (.ifCond .ne 5, 3) := by decide +kernel
theorem dX12_planned_16 : decode cX12_planned 16 = .ok (.iconst (-1), 1) := by decide +kernel
theorem dX12_planned_17 : decode cX12_planned 17 = .ok (.ireturn, 1) := by decide +kernel
theorem dX12_planned_18 : decode cX12_planned 18 = .ok (.aload_n 0, 1) := by decide +kernel
theorem dX12_planned_19 : decode cX12_planned 19 = .ok (.iload_n 1, 1) := by decide +kernel
theorem dX12_planned_20 : decode cX12_planned 20 = .ok (.invokevirtual 252, 3) := by decide +kernel
theorem dX12_planned_23 : decode cX12_planned 23 = .ok (.iload_n 2, 1) := by decide +kernel
theorem dX12_planned_24 : decode cX12_planned 24 = .ok (.ifCond .ne 10, 3) := by decide +kernel
theorem dX12_planned_27 : decode cX12_planned 27 = .ok (.aload_n 0, 1) := by decide +kernel
theorem dX12_planned_28 : decode cX12_planned 28 = .ok (.getfield 236, 3) := by decide +kernel
theorem dX12_planned_31 : decode cX12_planned 31 = .ok (.goto 19, 3) := by decide +kernel
theorem dX12_planned_34 : decode cX12_planned 34 = .ok (.iload_n 2, 1) := by decide +kernel
theorem dX12_planned_35 : decode cX12_planned 35 = .ok (.iconst 1, 1) := by decide +kernel
theorem dX12_planned_36 : decode cX12_planned 36 = .ok (.if_icmp .ne 10, 3) := by decide +kernel
theorem dX12_planned_39 : decode cX12_planned 39 = .ok (.aload_n 0, 1) := by decide +kernel
theorem dX12_planned_40 : decode cX12_planned 40 = .ok (.getfield 239, 3) := by decide +kernel
theorem dX12_planned_43 : decode cX12_planned 43 = .ok (.goto 7, 3) := by decide +kernel
theorem dX12_planned_46 : decode cX12_planned 46 = .ok (.aload_n 0, 1) := by decide +kernel
theorem dX12_planned_47 : decode cX12_planned 47 = .ok (.getfield 233, 3) := by decide +kernel
theorem dX12_planned_50 : decode cX12_planned 50 = .ok (.ireturn, 1) := by decide +kernel
theorem dX12_releaseMany_0 : decode cX12_releaseMany 0 = .ok (.iconst 0, 1) := by decide +kernel
theorem dX12_releaseMany_1 : decode cX12_releaseMany 1 = .ok (.istore_n 2, 1) := by decide +kernel
theorem dX12_releaseMany_2 : decode cX12_releaseMany 2 = .ok (.iconst 0, 1) := by decide +kernel
theorem dX12_releaseMany_3 : decode cX12_releaseMany 3 = .ok (.istore_n 3, 1) := by decide +kernel
theorem dX12_releaseMany_4 : decode cX12_releaseMany 4 = .ok (.iload_n 3, 1) := by decide +kernel
theorem dX12_releaseMany_5 : decode cX12_releaseMany 5 = .ok (.aload_n 0, 1) := by decide +kernel
theorem dX12_releaseMany_6 : decode cX12_releaseMany 6 = .ok (.getfield 132, 3) := by decide +kernel
theorem dX12_releaseMany_9 : decode cX12_releaseMany 9 = .ok (.if_icmp .ge 45, 3) := by decide +kernel
theorem dX12_releaseMany_12 : decode cX12_releaseMany 12 = .ok (.iload_n 2, 1) := by decide +kernel
theorem dX12_releaseMany_13 : decode cX12_releaseMany 13 = .ok (.aload_n 0, 1) := by decide +kernel
theorem dX12_releaseMany_14 : decode cX12_releaseMany 14 = .ok (.getfield 37, 3) := by decide +kernel
theorem dX12_releaseMany_17 : decode cX12_releaseMany 17 = .ok (.iconst 3, 1) := by decide +kernel
theorem dX12_releaseMany_18 : decode cX12_releaseMany 18 = .ok (.iload_n 3, 1) := by decide +kernel
theorem dX12_releaseMany_19 : decode cX12_releaseMany 19 = .ok (.imul, 1) := by decide +kernel
theorem dX12_releaseMany_20 : decode cX12_releaseMany 20 = .ok (.iload_n 1, 1) := by decide +kernel
theorem dX12_releaseMany_21 : decode cX12_releaseMany 21 = .ok (.iadd, 1) := by decide +kernel
theorem dX12_releaseMany_22 : decode cX12_releaseMany 22 = .ok (.iaload, 1) := by decide +kernel
theorem dX12_releaseMany_23 : decode cX12_releaseMany 23 = .ok (.iconst 2, 1) := by decide +kernel
theorem dX12_releaseMany_24 : decode cX12_releaseMany 24 = .ok (.if_icmp .ne 16, 3) := by decide +kernel
theorem dX12_releaseMany_27 : decode cX12_releaseMany 27 = .ok (.aload_n 0, 1) := by decide +kernel
theorem dX12_releaseMany_28 : decode cX12_releaseMany 28 = .ok (.getfield 43, 3) := by decide +kernel
theorem dX12_releaseMany_31 : decode cX12_releaseMany 31 = .ok (.iconst 3, 1) := by decide +kernel
theorem dX12_releaseMany_32 : decode cX12_releaseMany 32 = .ok (.iload_n 3, 1) := by decide +kernel
theorem dX12_releaseMany_33 : decode cX12_releaseMany 33 = .ok (.imul, 1) := by decide +kernel
theorem dX12_releaseMany_34 : decode cX12_releaseMany 34 = .ok (.iload_n 1, 1) := by decide +kernel
theorem dX12_releaseMany_35 : decode cX12_releaseMany 35 = .ok (.iadd, 1) := by decide +kernel
theorem dX12_releaseMany_36 : decode cX12_releaseMany 36 = .ok (.iaload, 1) := by decide +kernel
theorem dX12_releaseMany_37 : decode cX12_releaseMany 37 = .ok (.goto 9, 3) := by decide +kernel
theorem dX12_releaseMany_40 : decode cX12_releaseMany 40 = .ok (.aload_n 0, 1) := by decide +kernel
theorem dX12_releaseMany_41 : decode cX12_releaseMany 41 = .ok (.getfield 16, 3) := by decide +kernel
theorem dX12_releaseMany_44 : decode cX12_releaseMany 44 = .ok (.iload_n 3, 1) := by decide +kernel
theorem dX12_releaseMany_45 : decode cX12_releaseMany 45 = .ok (.iaload, 1) := by decide +kernel
theorem dX12_releaseMany_46 : decode cX12_releaseMany 46 = .ok (.iadd, 1) := by decide +kernel
theorem dX12_releaseMany_47 : decode cX12_releaseMany 47 = .ok (.istore_n 2, 1) := by decide +kernel
theorem dX12_releaseMany_48 : decode cX12_releaseMany 48 = .ok (.iinc 3 1, 3) := by decide +kernel
theorem dX12_releaseMany_51 : decode cX12_releaseMany 51 = .ok (.goto (-47), 3) := by decide +kernel
theorem dX12_releaseMany_54 : decode cX12_releaseMany 54 = .ok (.iload_n 2, 1) := by decide +kernel
theorem dX12_releaseMany_55 : decode cX12_releaseMany 55 = .ok (.ireturn, 1) := by decide +kernel
theorem dX12_release_0 : decode cX12_release 0 = .ok (.iload_n 1, 1) := by decide +kernel
theorem dX12_release_1 : decode cX12_release 1 = .ok (.invokestatic 187, 3) := by decide +kernel
theorem dX12_release_4 : decode cX12_release 4 = .ok (.ifCond .ne 5, 3) := by decide +kernel
theorem dX12_release_7 : decode cX12_release 7 = .ok (.iconst (-1), 1) := by decide +kernel
theorem dX12_release_8 : decode cX12_release 8 = .ok (.ireturn, 1) := by decide +kernel
theorem dX12_release_9 : decode cX12_release 9 = .ok (.iload_n 2, 1) := by decide +kernel
theorem dX12_release_10 : decode cX12_release 10 = .ok (.istore_n 3, 1) := by decide +kernel
theorem dX12_release_11 : decode cX12_release 11 = .ok (.iconst 0, 1) := by decide +kernel
theorem dX12_release_12 : decode cX12_release 12 = .ok (.istore 4, 2) := by decide +kernel
theorem dX12_release_14 : decode cX12_release 14 = .ok (.iload 4, 2) := by decide +kernel
theorem dX12_release_16 : decode cX12_release 16 = .ok (.aload_n 0, 1) := by decide +kernel
theorem dX12_release_17 : decode cX12_release 17 = .ok (.getfield 132, 3) := by decide +kernel
theorem dX12_release_20 : decode cX12_release 20 = .ok (.if_icmp .ge 107, 3) := by decide +kernel
theorem dX12_release_23 : decode cX12_release 23 = .ok (.iload_n 2, 1) := by decide +kernel
theorem dX12_release_24 : decode cX12_release 24 = .ok (.ifCond .lt 103, 3) := by decide +kernel
theorem dX12_release_27 : decode cX12_release 27 = .ok (.iconst 3, 1) := by decide +kernel
theorem dX12_release_28 : decode cX12_release 28 = .ok (.iload 4, 2) := by decide +kernel
theorem dX12_release_30 : decode cX12_release 30 = .ok (.imul, 1) := by decide +kernel
theorem dX12_release_31 : decode cX12_release 31 = .ok (.iload_n 1, 1) := by decide +kernel
theorem dX12_release_32 : decode cX12_release 32 = .ok (.iadd, 1) := by decide +kernel
theorem dX12_release_33 : decode cX12_release 33 = .ok (.istore 5, 2) := by decide +kernel
theorem dX12_release_35 : decode cX12_release 35 = .ok (.aload_n 0, 1) := by decide +kernel
theorem dX12_release_36 : decode cX12_release 36 = .ok (.getfield 37, 3) := by decide +kernel
theorem dX12_release_39 : decode cX12_release 39 = .ok (.iload 5, 2) := by decide +kernel
theorem dX12_release_41 : decode cX12_release 41 = .ok (.iaload, 1) := by decide +kernel
theorem dX12_release_42 : decode cX12_release 42 = .ok (.iconst 2, 1) := by decide +kernel
theorem dX12_release_43 : decode cX12_release 43 = .ok (.if_icmp .ne 7, 3) := by decide +kernel
theorem dX12_release_46 : decode cX12_release 46 = .ok (.iconst 1, 1) := by decide +kernel
theorem dX12_release_47 : decode cX12_release 47 = .ok (.goto 4, 3) := by decide +kernel
theorem dX12_release_50 : decode cX12_release 50 = .ok (.iconst 0, 1) := by decide +kernel
theorem dX12_release_51 : decode cX12_release 51 = .ok (.istore 6, 2) := by decide +kernel
theorem dX12_release_53 : decode cX12_release 53 = .ok (.iload 6, 2) := by decide +kernel
theorem dX12_release_55 : decode cX12_release 55 = .ok (.ifCond .eq 13, 3) := by decide +kernel
theorem dX12_release_58 : decode cX12_release 58 = .ok (.aload_n 0, 1) := by decide +kernel
theorem dX12_release_59 : decode cX12_release 59 = .ok (.getfield 43, 3) := by decide +kernel
theorem dX12_release_62 : decode cX12_release 62 = .ok (.iload 5, 2) := by decide +kernel
theorem dX12_release_64 : decode cX12_release 64 = .ok (.iaload, 1) := by decide +kernel
theorem dX12_release_65 : decode cX12_release 65 = .ok (.goto 10, 3) := by decide +kernel
theorem dX12_release_68 : decode cX12_release 68 = .ok (.aload_n 0, 1) := by decide +kernel
theorem dX12_release_69 : decode cX12_release 69 = .ok (.getfield 16, 3) := by decide +kernel
theorem dX12_release_72 : decode cX12_release 72 = .ok (.iload 4, 2) := by decide +kernel
theorem dX12_release_74 : decode cX12_release 74 = .ok (.iaload, 1) := by decide +kernel
theorem dX12_release_75 : decode cX12_release 75 = .ok (.istore 7, 2) := by decide +kernel
theorem dX12_release_77 : decode cX12_release 77 = .ok (.iload_n 3, 1) := by decide +kernel
theorem dX12_release_78 : decode cX12_release 78 = .ok (.iload 7, 2) := by decide +kernel
theorem dX12_release_80 : decode cX12_release 80 = .ok (.if_icmp .ge 36, 3) := by decide +kernel
theorem dX12_release_83 : decode cX12_release 83 = .ok (.iload 6, 2) := by decide +kernel
theorem dX12_release_85 : decode cX12_release 85 = .ok (.ifCond .eq 18, 3) := by decide +kernel
theorem dX12_release_88 : decode cX12_release 88 = .ok (.aload_n 0, 1) := by decide +kernel
theorem dX12_release_89 : decode cX12_release 89 = .ok (.getfield 46, 3) := by decide +kernel
theorem dX12_release_92 : decode cX12_release 92 = .ok (.bipush 10, 2) := by decide +kernel
theorem dX12_release_94 : decode cX12_release 94 = .ok (.iload 5, 2) := by decide +kernel
theorem dX12_release_96 : decode cX12_release 96 = .ok (.imul, 1) := by decide +kernel
theorem dX12_release_97 : decode cX12_release 97 = .ok (.iload_n 3, 1) := by decide +kernel
theorem dX12_release_98 : decode cX12_release 98 = .ok (.iadd, 1) := by decide +kernel
theorem dX12_release_99 : decode cX12_release 99 = .ok (.iaload, 1) := by decide +kernel
theorem dX12_release_100 : decode cX12_release 100 = .ok (.goto 15, 3) := by decide +kernel
theorem dX12_release_103 : decode cX12_release 103 = .ok (.aload_n 0, 1) := by decide +kernel
theorem dX12_release_104 : decode cX12_release 104 = .ok (.getfield 19, 3) := by decide +kernel
theorem dX12_release_107 : decode cX12_release 107 = .ok (.bipush 8, 2) := by decide +kernel
theorem dX12_release_109 : decode cX12_release 109 = .ok (.iload 4, 2) := by decide +kernel
theorem dX12_release_111 : decode cX12_release 111 = .ok (.imul, 1) := by decide +kernel
theorem dX12_release_112 : decode cX12_release 112 = .ok (.iload_n 3, 1) := by decide +kernel
theorem dX12_release_113 : decode cX12_release 113 = .ok (.iadd, 1) := by decide +kernel
theorem dX12_release_114 : decode cX12_release 114 = .ok (.iaload, 1) := by decide +kernel
theorem dX12_release_115 : decode cX12_release 115 = .ok (.ireturn, 1) := by decide +kernel
theorem dX12_release_116 : decode cX12_release 116 = .ok (.iload_n 3, 1) := by decide +kernel
theorem dX12_release_117 : decode cX12_release 117 = .ok (.iload 7, 2) := by decide +kernel
theorem dX12_release_119 : decode cX12_release 119 = .ok (.isub, 1) := by decide +kernel
theorem dX12_release_120 : decode cX12_release 120 = .ok (.istore_n 3, 1) := by decide +kernel
theorem dX12_release_121 : decode cX12_release 121 = .ok (.iinc 4 1, 3) := by decide +kernel
theorem dX12_release_124 : decode cX12_release 124 = .ok (.goto (-110), 3) := by decide +kernel
theorem dX12_release_127 : decode cX12_release 127 = .ok (.bipush (-5), 2) := by decide +kernel
theorem dX12_release_129 : decode cX12_release 129 = .ok (.ireturn, 1) := by decide +kernel
theorem dX12_inState_0 : decode cX12_inState 0 = .ok (.iconst 0, 1) := by decide +kernel
theorem dX12_inState_1 : decode cX12_inState 1 = .ok (.istore_n 2, 1) := by decide +kernel
theorem dX12_inState_2 : decode cX12_inState 2 = .ok (.iconst 0, 1) := by decide +kernel
theorem dX12_inState_3 : decode cX12_inState 3 = .ok (.istore_n 3, 1) := by decide +kernel
theorem dX12_inState_4 : decode cX12_inState 4 = .ok (.iload_n 3, 1) := by decide +kernel
theorem dX12_inState_5 : decode cX12_inState 5 = .ok (.aload_n 0, 1) := by decide +kernel
theorem dX12_inState_6 : decode cX12_inState 6 = .ok (.getfield 132, 3) := by decide +kernel
theorem dX12_inState_9 : decode cX12_inState 9 = .ok (.if_icmp .ge 47, 3) := by decide +kernel
theorem dX12_inState_12 : decode cX12_inState 12 = .ok (.iconst 0, 1) := by decide +kernel
theorem dX12_inState_13 : decode cX12_inState 13 = .ok (.istore 4, 2) := by decide +kernel
theorem dX12_inState_15 : decode cX12_inState 15 = .ok (.iload 4, 2) := by decide +kernel
theorem dX12_inState_17 : decode cX12_inState 17 = .ok (.iconst 3, 1) := by decide +kernel
theorem dX12_inState_18 : decode cX12_inState 18 = .ok (.if_icmp .ge 32, 3) := by decide +kernel
theorem dX12_inState_21 : decode cX12_inState 21 = .ok (.iload_n 2, 1) := by decide +kernel
theorem dX12_inState_22 : decode cX12_inState 22 = .ok (.aload_n 0, 1) := by decide +kernel
theorem dX12_inState_23 : decode cX12_inState 23 = .ok (.getfield 37, 3) := by decide +kernel
theorem dX12_inState_26 : decode cX12_inState 26 = .ok (.iconst 3, 1) := by decide +kernel
theorem dX12_inState_27 : decode cX12_inState 27 = .ok (.iload_n 3, 1) := by decide +kernel
theorem dX12_inState_28 : decode cX12_inState 28 = .ok (.imul, 1) := by decide +kernel
theorem dX12_inState_29 : decode cX12_inState 29 = .ok (.iload 4, 2) := by decide +kernel
theorem dX12_inState_31 : decode cX12_inState 31 = .ok (.iadd, 1) := by decide +kernel
theorem dX12_inState_32 : decode cX12_inState 32 = .ok (.iaload, 1) := by decide +kernel
theorem dX12_inState_33 : decode cX12_inState 33 = .ok (.iload_n 1, 1) := by decide +kernel
theorem dX12_inState_34 : decode cX12_inState 34 = .ok (.if_icmp .ne 7, 3) := by decide +kernel
theorem dX12_inState_37 : decode cX12_inState 37 = .ok (.iconst 1, 1) := by decide +kernel
theorem dX12_inState_38 : decode cX12_inState 38 = .ok (.goto 4, 3) := by decide +kernel
theorem dX12_inState_41 : decode cX12_inState 41 = .ok (.iconst 0, 1) := by decide +kernel
theorem dX12_inState_42 : decode cX12_inState 42 = .ok (.iadd, 1) := by decide +kernel
theorem dX12_inState_43 : decode cX12_inState 43 = .ok (.istore_n 2, 1) := by decide +kernel
theorem dX12_inState_44 : decode cX12_inState 44 = .ok (.iinc 4 1, 3) := by decide +kernel
theorem dX12_inState_47 : decode cX12_inState 47 = .ok (.goto (-32), 3) := by decide +kernel
theorem dX12_inState_50 : decode cX12_inState 50 = .ok (.iinc 3 1, 3) := by decide +kernel
theorem dX12_inState_53 : decode cX12_inState 53 = .ok (.goto (-49), 3) := by decide +kernel
theorem dX12_inState_56 : decode cX12_inState 56 = .ok (.iload_n 2, 1) := by decide +kernel
theorem dX12_inState_57 : decode cX12_inState 57 = .ok (.ireturn, 1) := by decide +kernel
theorem dX12_many_0 : decode cX12_many 0 = .ok (.iload_n 1, 1) := by decide +kernel
theorem dX12_many_1 : decode cX12_many 1 = .ok (.tableswitch 110 0 11 #[63, 68, 73, 78, 83, 88, 93, 93, 93, 101, 101, 101], 63) := by decide +kernel
theorem dX12_many_64 : decode cX12_many 64 = .ok (.aload_n 0, 1) := by decide +kernel
theorem dX12_many_65 : decode cX12_many 65 = .ok (.getfield 132, 3) := by decide +kernel
theorem dX12_many_68 : decode cX12_many 68 = .ok (.ireturn, 1) := by decide +kernel
theorem dX12_many_69 : decode cX12_many 69 = .ok (.aload_n 0, 1) := by decide +kernel
theorem dX12_many_70 : decode cX12_many 70 = .ok (.getfield 155, 3) := by decide +kernel
theorem dX12_many_73 : decode cX12_many 73 = .ok (.ireturn, 1) := by decide +kernel
theorem dX12_many_74 : decode cX12_many 74 = .ok (.aload_n 0, 1) := by decide +kernel
theorem dX12_many_75 : decode cX12_many 75 = .ok (.getfield 148, 3) := by decide +kernel
theorem dX12_many_78 : decode cX12_many 78 = .ok (.ireturn, 1) := by decide +kernel
theorem dX12_many_79 : decode cX12_many 79 = .ok (.aload_n 0, 1) := by decide +kernel
theorem dX12_many_80 : decode cX12_many 80 = .ok (.getfield 135, 3) := by decide +kernel
theorem dX12_many_83 : decode cX12_many 83 = .ok (.ireturn, 1) := by decide +kernel
theorem dX12_many_84 : decode cX12_many 84 = .ok (.aload_n 0, 1) := by decide +kernel
theorem dX12_many_85 : decode cX12_many 85 = .ok (.getfield 184, 3) := by decide +kernel
theorem dX12_many_88 : decode cX12_many 88 = .ok (.ireturn, 1) := by decide +kernel
theorem dX12_many_89 : decode cX12_many 89 = .ok (.aload_n 0, 1) := by decide +kernel
theorem dX12_many_90 : decode cX12_many 90 = .ok (.getfield 207, 3) := by decide +kernel
theorem dX12_many_93 : decode cX12_many 93 = .ok (.ireturn, 1) := by decide +kernel
theorem dX12_many_94 : decode cX12_many 94 = .ok (.aload_n 0, 1) := by decide +kernel
theorem dX12_many_95 : decode cX12_many 95 = .ok (.iload_n 1, 1) := by decide +kernel
theorem dX12_many_96 : decode cX12_many 96 = .ok (.iconst 5, 1) := by decide +kernel
theorem dX12_many_97 : decode cX12_many 97 = .ok (.isub, 1) := by decide +kernel
theorem dX12_many_98 : decode cX12_many 98 = .ok (.invokevirtual 255, 3) := by decide +kernel
theorem dX12_many_101 : decode cX12_many 101 = .ok (.ireturn, 1) := by decide +kernel
theorem dX12_many_102 : decode cX12_many 102 = .ok (.aload_n 0, 1) := by decide +kernel
theorem dX12_many_103 : decode cX12_many 103 = .ok (.iload_n 1, 1) := by decide +kernel
theorem dX12_many_104 : decode cX12_many 104 = .ok (.bipush 9, 2) := by decide +kernel
theorem dX12_many_106 : decode cX12_many 106 = .ok (.isub, 1) := by decide +kernel
theorem dX12_many_107 : decode cX12_many 107 = .ok (.invokevirtual 259, 3) := by decide +kernel
theorem dX12_many_110 : decode cX12_many 110 = .ok (.ireturn, 1) := by decide +kernel
theorem dX12_many_111 : decode cX12_many 111 = .ok (.iconst (-1), 1) := by decide +kernel
theorem dX12_many_112 : decode cX12_many 112 = .ok (.ireturn, 1) := by decide +kernel
theorem dX12_keep_0 : decode cX12_keep 0 = .ok (.aload_n 0, 1) := by decide +kernel
theorem dX12_keep_1 : decode cX12_keep 1 = .ok (.iconst 1, 1) := by decide +kernel
theorem dX12_keep_2 : decode cX12_keep 2 = .ok (.putfield 262, 3) := by decide +kernel
theorem dX12_keep_5 : decode cX12_keep 5 = .ok (.aload_n 0, 1) := by decide +kernel
theorem dX12_keep_6 : decode cX12_keep 6 = .ok (.getfield 74, 3) := by decide +kernel
theorem dX12_keep_9 : decode cX12_keep 9 = .ok (.iconst 0, 1) := by decide +kernel
theorem dX12_keep_10 : decode cX12_keep 10 = .ok (.aload_n 0, 1) := by decide +kernel
theorem dX12_keep_11 : decode cX12_keep 11 = .ok (.getfield 132, 3) := by decide +kernel
theorem dX12_keep_14 : decode cX12_keep 14 = .ok (.iastore, 1) := by decide +kernel
theorem dX12_keep_15 : decode cX12_keep 15 = .ok (.aload_n 0, 1) := by decide +kernel
theorem dX12_keep_16 : decode cX12_keep 16 = .ok (.getfield 74, 3) := by decide +kernel
theorem dX12_keep_19 : decode cX12_keep 19 = .ok (.iconst 1, 1) := by decide +kernel
theorem dX12_keep_20 : decode cX12_keep 20 = .ok (.aload_n 0, 1) := by decide +kernel
theorem dX12_keep_21 : decode cX12_keep 21 = .ok (.getfield 207, 3) := by decide +kernel
theorem dX12_keep_24 : decode cX12_keep 24 = .ok (.iastore, 1) := by decide +kernel
theorem dX12_keep_25 : decode cX12_keep 25 = .ok (.iconst 0, 1) := by decide +kernel
theorem dX12_keep_26 : decode cX12_keep 26 = .ok (.istore_n 1, 1) := by decide +kernel
theorem dX12_keep_27 : decode cX12_keep 27 = .ok (.iload_n 1, 1) := by decide +kernel
theorem dX12_keep_28 : decode cX12_keep 28 = .ok (.bipush 8, 2) := by decide +kernel
theorem dX12_keep_30 : decode cX12_keep 30 = .ok (.if_icmp .ge 66, 3) := by decide +kernel
theorem dX12_keep_33 : decode cX12_keep 33 = .ok (.aload_n 0, 1) := by decide +kernel
theorem dX12_keep_34 : decode cX12_keep 34 = .ok (.getfield 77, 3) := by decide +kernel
theorem dX12_keep_37 : decode cX12_keep 37 = .ok (.iload_n 1, 1) := by decide +kernel
theorem dX12_keep_38 : decode cX12_keep 38 = .ok (.aload_n 0, 1) := by decide +kernel
theorem dX12_keep_39 : decode cX12_keep 39 = .ok (.getfield 13, 3) := by decide +kernel
theorem dX12_keep_42 : decode cX12_keep 42 = .ok (.iload_n 1, 1) := by decide +kernel
theorem dX12_keep_43 : decode cX12_keep 43 = .ok (.iaload, 1) := by decide +kernel
theorem dX12_keep_44 : decode cX12_keep 44 = .ok (.iastore, 1) := by decide +kernel
theorem dX12_keep_45 : decode cX12_keep 45 = .ok (.aload_n 0, 1) := by decide +kernel
theorem dX12_keep_46 : decode cX12_keep 46 = .ok (.getfield 77, 3) := by decide +kernel
theorem dX12_keep_49 : decode cX12_keep 49 = .ok (.bipush 8, 2) := by decide +kernel
theorem dX12_keep_51 : decode cX12_keep 51 = .ok (.iload_n 1, 1) := by decide +kernel
theorem dX12_keep_52 : decode cX12_keep 52 = .ok (.iadd, 1) := by decide +kernel
theorem dX12_keep_53 : decode cX12_keep 53 = .ok (.aload_n 0, 1) := by decide +kernel
theorem dX12_keep_54 : decode cX12_keep 54 = .ok (.getfield 16, 3) := by decide +kernel
theorem dX12_keep_57 : decode cX12_keep 57 = .ok (.iload_n 1, 1) := by decide +kernel
theorem dX12_keep_58 : decode cX12_keep 58 = .ok (.iaload, 1) := by decide +kernel
theorem dX12_keep_59 : decode cX12_keep 59 = .ok (.iastore, 1) := by decide +kernel
theorem dX12_keep_60 : decode cX12_keep 60 = .ok (.aload_n 0, 1) := by decide +kernel
theorem dX12_keep_61 : decode cX12_keep 61 = .ok (.getfield 77, 3) := by decide +kernel
theorem dX12_keep_64 : decode cX12_keep 64 = .ok (.bipush 16, 2) := by decide +kernel
theorem dX12_keep_66 : decode cX12_keep 66 = .ok (.iload_n 1, 1) := by decide +kernel
theorem dX12_keep_67 : decode cX12_keep 67 = .ok (.iadd, 1) := by decide +kernel
theorem dX12_keep_68 : decode cX12_keep 68 = .ok (.aload_n 0, 1) := by decide +kernel
theorem dX12_keep_69 : decode cX12_keep 69 = .ok (.getfield 22, 3) := by decide +kernel
theorem dX12_keep_72 : decode cX12_keep 72 = .ok (.iload_n 1, 1) := by decide +kernel
theorem dX12_keep_73 : decode cX12_keep 73 = .ok (.iaload, 1) := by decide +kernel
theorem dX12_keep_74 : decode cX12_keep 74 = .ok (.iastore, 1) := by decide +kernel
theorem dX12_keep_75 : decode cX12_keep 75 = .ok (.aload_n 0, 1) := by decide +kernel
theorem dX12_keep_76 : decode cX12_keep 76 = .ok (.getfield 77, 3) := by decide +kernel
theorem dX12_keep_79 : decode cX12_keep 79 = .ok (.bipush 24, 2) := by decide +kernel
theorem dX12_keep_81 : decode cX12_keep 81 = .ok (.iload_n 1, 1) := by decide +kernel
theorem dX12_keep_82 : decode cX12_keep 82 = .ok (.iadd, 1) := by decide +kernel
theorem dX12_keep_83 : decode cX12_keep 83 = .ok (.aload_n 0, 1) := by decide +kernel
theorem dX12_keep_84 : decode cX12_keep 84 = .ok (.getfield 25, 3) := by decide +kernel
theorem dX12_keep_87 : decode cX12_keep 87 = .ok (.iload_n 1, 1) := by decide +kernel
theorem dX12_keep_88 : decode cX12_keep 88 = .ok (.iaload, 1) := by decide +kernel
theorem dX12_keep_89 : decode cX12_keep 89 = .ok (.iastore, 1) := by decide +kernel
theorem dX12_keep_90 : decode cX12_keep 90 = .ok (.iinc 1 1, 3) := by decide +kernel
theorem dX12_keep_93 : decode cX12_keep 93 = .ok (.goto (-66), 3) := by decide +kernel
theorem dX12_keep_96 : decode cX12_keep 96 = .ok (.iconst 0, 1) := by decide +kernel
theorem dX12_keep_97 : decode cX12_keep 97 = .ok (.istore_n 1, 1) := by decide +kernel
theorem dX12_keep_98 : decode cX12_keep 98 = .ok (.iload_n 1, 1) := by decide +kernel
theorem dX12_keep_99 : decode cX12_keep 99 = .ok (.bipush 64, 2) := by decide +kernel
theorem dX12_keep_101 : decode cX12_keep 101 = .ok (.if_icmp .ge 24, 3) := by decide +kernel
theorem dX12_keep_104 : decode cX12_keep 104 = .ok (.aload_n 0, 1) := by decide +kernel
theorem dX12_keep_105 : decode cX12_keep 105 = .ok (.getfield 77, 3) := by decide +kernel
theorem dX12_keep_108 : decode cX12_keep 108 = .ok (.bipush 32, 2) := by decide +kernel
theorem dX12_keep_110 : decode cX12_keep 110 = .ok (.iload_n 1, 1) := by decide +kernel
theorem dX12_keep_111 : decode cX12_keep 111 = .ok (.iadd, 1) := by decide +kernel
theorem dX12_keep_112 : decode cX12_keep 112 = .ok (.aload_n 0, 1) := by decide +kernel
theorem dX12_keep_113 : decode cX12_keep 113 = .ok (.getfield 19, 3) := by decide +kernel
theorem dX12_keep_116 : decode cX12_keep 116 = .ok (.iload_n 1, 1) := by decide +kernel
theorem dX12_keep_117 : decode cX12_keep 117 = .ok (.iaload, 1) := by decide +kernel
theorem dX12_keep_118 : decode cX12_keep 118 = .ok (.iastore, 1) := by decide +kernel
theorem dX12_keep_119 : decode cX12_keep 119 = .ok (.iinc 1 1, 3) := by decide +kernel
theorem dX12_keep_122 : decode cX12_keep 122 = .ok (.goto (-24), 3) := by decide +kernel
theorem dX12_keep_125 : decode cX12_keep 125 = .ok (.iconst 0, 1) := by decide +kernel
theorem dX12_keep_126 : decode cX12_keep 126 = .ok (.istore_n 1, 1) := by decide +kernel
theorem dX12_keep_127 : decode cX12_keep 127 = .ok (.iload_n 1, 1) := by decide +kernel
theorem dX12_keep_128 : decode cX12_keep 128 = .ok (.bipush 24, 2) := by decide +kernel
theorem dX12_keep_130 : decode cX12_keep 130 = .ok (.if_icmp .ge 51, 3) := by decide +kernel
theorem dX12_keep_133 : decode cX12_keep 133 = .ok (.aload_n 0, 1) := by decide +kernel
theorem dX12_keep_134 : decode cX12_keep 134 = .ok (.getfield 80, 3) := by decide +kernel
theorem dX12_keep_137 : decode cX12_keep 137 = .ok (.iload_n 1, 1) := by decide +kernel
theorem dX12_keep_138 : decode cX12_keep 138 = .ok (.aload_n 0, 1) := by decide +kernel
theorem dX12_keep_139 : decode cX12_keep 139 = .ok (.getfield 37, 3) := by decide +kernel
theorem dX12_keep_142 : decode cX12_keep 142 = .ok (.iload_n 1, 1) := by decide +kernel
theorem dX12_keep_143 : decode cX12_keep 143 = .ok (.iaload, 1) := by decide +kernel
theorem dX12_keep_144 : decode cX12_keep 144 = .ok (.iastore, 1) := by decide +kernel
theorem dX12_keep_145 : decode cX12_keep 145 = .ok (.aload_n 0, 1) := by decide +kernel
theorem dX12_keep_146 : decode cX12_keep 146 = .ok (.getfield 80, 3) := by decide +kernel
theorem dX12_keep_149 : decode cX12_keep 149 = .ok (.bipush 24, 2) := by decide +kernel
theorem dX12_keep_151 : decode cX12_keep 151 = .ok (.iload_n 1, 1) := by decide +kernel
theorem dX12_keep_152 : decode cX12_keep 152 = .ok (.iadd, 1) := by decide +kernel
theorem dX12_keep_153 : decode cX12_keep 153 = .ok (.aload_n 0, 1) := by decide +kernel
theorem dX12_keep_154 : decode cX12_keep 154 = .ok (.getfield 40, 3) := by decide +kernel
theorem dX12_keep_157 : decode cX12_keep 157 = .ok (.iload_n 1, 1) := by decide +kernel
theorem dX12_keep_158 : decode cX12_keep 158 = .ok (.iaload, 1) := by decide +kernel
theorem dX12_keep_159 : decode cX12_keep 159 = .ok (.iastore, 1) := by decide +kernel
theorem dX12_keep_160 : decode cX12_keep 160 = .ok (.aload_n 0, 1) := by decide +kernel
theorem dX12_keep_161 : decode cX12_keep 161 = .ok (.getfield 80, 3) := by decide +kernel
theorem dX12_keep_164 : decode cX12_keep 164 = .ok (.bipush 48, 2) := by decide +kernel
theorem dX12_keep_166 : decode cX12_keep 166 = .ok (.iload_n 1, 1) := by decide +kernel
theorem dX12_keep_167 : decode cX12_keep 167 = .ok (.iadd, 1) := by decide +kernel
theorem dX12_keep_168 : decode cX12_keep 168 = .ok (.aload_n 0, 1) := by decide +kernel
theorem dX12_keep_169 : decode cX12_keep 169 = .ok (.getfield 43, 3) := by decide +kernel
theorem dX12_keep_172 : decode cX12_keep 172 = .ok (.iload_n 1, 1) := by decide +kernel
theorem dX12_keep_173 : decode cX12_keep 173 = .ok (.iaload, 1) := by decide +kernel
theorem dX12_keep_174 : decode cX12_keep 174 = .ok (.iastore, 1) := by decide +kernel
theorem dX12_keep_175 : decode cX12_keep 175 = .ok (.iinc 1 1, 3) := by decide +kernel
theorem dX12_keep_178 : decode cX12_keep 178 = .ok (.goto (-51), 3) := by decide +kernel
theorem dX12_keep_181 : decode cX12_keep 181 = .ok (.iconst 0, 1) := by decide +kernel
theorem dX12_keep_182 : decode cX12_keep 182 = .ok (.istore_n 1, 1) := by decide +kernel
theorem dX12_keep_183 : decode cX12_keep 183 = .ok (.iload_n 1, 1) := by decide +kernel
theorem dX12_keep_184 : decode cX12_keep 184 = .ok (.sipush 240, 3) := by decide +kernel
theorem dX12_keep_187 : decode cX12_keep 187 = .ok (.if_icmp .ge 24, 3) := by decide +kernel
theorem dX12_keep_190 : decode cX12_keep 190 = .ok (.aload_n 0, 1) := by decide +kernel
theorem dX12_keep_191 : decode cX12_keep 191 = .ok (.getfield 80, 3) := by decide +kernel
theorem dX12_keep_194 : decode cX12_keep 194 = .ok (.bipush 72, 2) := by decide +kernel
theorem dX12_keep_196 : decode cX12_keep 196 = .ok (.iload_n 1, 1) := by decide +kernel
theorem dX12_keep_197 : decode cX12_keep 197 = .ok (.iadd, 1) := by decide +kernel
theorem dX12_keep_198 : decode cX12_keep 198 = .ok (.aload_n 0, 1) := by decide +kernel
theorem dX12_keep_199 : decode cX12_keep 199 = .ok (.getfield 46, 3) := by decide +kernel
theorem dX12_keep_202 : decode cX12_keep 202 = .ok (.iload_n 1, 1) := by decide +kernel
theorem dX12_keep_203 : decode cX12_keep 203 = .ok (.iaload, 1) := by decide +kernel
theorem dX12_keep_204 : decode cX12_keep 204 = .ok (.iastore, 1) := by decide +kernel
theorem dX12_keep_205 : decode cX12_keep 205 = .ok (.iinc 1 1, 3) := by decide +kernel
theorem dX12_keep_208 : decode cX12_keep 208 = .ok (.goto (-25), 3) := by decide +kernel
theorem dX12_keep_211 : decode cX12_keep 211 = .ok (.aload_n 0, 1) := by decide +kernel
theorem dX12_keep_212 : decode cX12_keep 212 = .ok (.getfield 71, 3) := by decide +kernel
theorem dX12_keep_215 : decode cX12_keep 215 = .ok (.aload_n 0, 1) := by decide +kernel
theorem dX12_keep_216 : decode cX12_keep 216 = .ok (.getfield 83, 3) := by decide +kernel
theorem dX12_keep_219 : decode cX12_keep 219 = .ok (.sipush 420, 3) := by decide +kernel
theorem dX12_keep_222 : decode cX12_keep 222 = .ok (.invokestatic 170, 3) := by decide +kernel
theorem dX12_keep_225 : decode cX12_keep 225 = .ok (.iconst 1, 1) := by decide +kernel
theorem dX12_keep_226 : decode cX12_keep 226 = .ok (.ireturn, 1) := by decide +kernel
theorem dX12_back_0 : decode cX12_back 0 = .ok (.aload_n 0, 1) := by decide +kernel
theorem dX12_back_1 : decode cX12_back 1 = .ok (.getfield 262, 3) := by decide +kernel
theorem dX12_back_4 : decode cX12_back 4 = .ok (.ifCond .ne 6, 3) := by decide +kernel
theorem dX12_back_7 : decode cX12_back 7 = .ok (.bipush (-5), 2) := by decide +kernel
theorem dX12_back_9 : decode cX12_back 9 = .ok (.ireturn, 1) := by decide +kernel
theorem dX12_back_10 : decode cX12_back 10 = .ok (.aload_n 0, 1) := by decide +kernel
theorem dX12_back_11 : decode cX12_back 11 = .ok (.aload_n 0, 1) := by decide +kernel
theorem dX12_back_12 : decode cX12_back 12 = .ok (.getfield 74, 3) := by decide +kernel
theorem dX12_back_15 : decode cX12_back 15 = .ok (.iconst 0, 1) := by decide +kernel
theorem dX12_back_16 : decode cX12_back 16 = .ok (.iaload, 1) := by decide +kernel
theorem dX12_back_17 : decode cX12_back 17 = .ok (.putfield 132, 3) := by decide +kernel
theorem dX12_back_20 : decode cX12_back 20 = .ok (.aload_n 0, 1) := by decide +kernel
theorem dX12_back_21 : decode cX12_back 21 = .ok (.aload_n 0, 1) := by decide +kernel
theorem dX12_back_22 : decode cX12_back 22 = .ok (.getfield 74, 3) := by decide +kernel
theorem dX12_back_25 : decode cX12_back 25 = .ok (.iconst 1, 1) := by decide +kernel
theorem dX12_back_26 : decode cX12_back 26 = .ok (.iaload, 1) := by decide +kernel
theorem dX12_back_27 : decode cX12_back 27 = .ok (.putfield 207, 3) := by decide +kernel
theorem dX12_back_30 : decode cX12_back 30 = .ok (.iconst 0, 1) := by decide +kernel
theorem dX12_back_31 : decode cX12_back 31 = .ok (.istore_n 1, 1) := by decide +kernel
theorem dX12_back_32 : decode cX12_back 32 = .ok (.iload_n 1, 1) := by decide +kernel
theorem dX12_back_33 : decode cX12_back 33 = .ok (.bipush 8, 2) := by decide +kernel
theorem dX12_back_35 : decode cX12_back 35 = .ok (.if_icmp .ge 66, 3) := by decide +kernel
theorem dX12_back_38 : decode cX12_back 38 = .ok (.aload_n 0, 1) := by decide +kernel
theorem dX12_back_39 : decode cX12_back 39 = .ok (.getfield 13, 3) := by decide +kernel
theorem dX12_back_42 : decode cX12_back 42 = .ok (.iload_n 1, 1) := by decide +kernel
theorem dX12_back_43 : decode cX12_back 43 = .ok (.aload_n 0, 1) := by decide +kernel
theorem dX12_back_44 : decode cX12_back 44 = .ok (.getfield 77, 3) := by decide +kernel
theorem dX12_back_47 : decode cX12_back 47 = .ok (.iload_n 1, 1) := by decide +kernel
theorem dX12_back_48 : decode cX12_back 48 = .ok (.iaload, 1) := by decide +kernel
theorem dX12_back_49 : decode cX12_back 49 = .ok (.iastore, 1) := by decide +kernel
theorem dX12_back_50 : decode cX12_back 50 = .ok (.aload_n 0, 1) := by decide +kernel
theorem dX12_back_51 : decode cX12_back 51 = .ok (.getfield 16, 3) := by decide +kernel
theorem dX12_back_54 : decode cX12_back 54 = .ok (.iload_n 1, 1) := by decide +kernel
theorem dX12_back_55 : decode cX12_back 55 = .ok (.aload_n 0, 1) := by decide +kernel
theorem dX12_back_56 : decode cX12_back 56 = .ok (.getfield 77, 3) := by decide +kernel
theorem dX12_back_59 : decode cX12_back 59 = .ok (.bipush 8, 2) := by decide +kernel
theorem dX12_back_61 : decode cX12_back 61 = .ok (.iload_n 1, 1) := by decide +kernel
theorem dX12_back_62 : decode cX12_back 62 = .ok (.iadd, 1) := by decide +kernel
theorem dX12_back_63 : decode cX12_back 63 = .ok (.iaload, 1) := by decide +kernel
theorem dX12_back_64 : decode cX12_back 64 = .ok (.iastore, 1) := by decide +kernel
theorem dX12_back_65 : decode cX12_back 65 = .ok (.aload_n 0, 1) := by decide +kernel
theorem dX12_back_66 : decode cX12_back 66 = .ok (.getfield 22, 3) := by decide +kernel
theorem dX12_back_69 : decode cX12_back 69 = .ok (.iload_n 1, 1) := by decide +kernel
theorem dX12_back_70 : decode cX12_back 70 = .ok (.aload_n 0, 1) := by decide +kernel
theorem dX12_back_71 : decode cX12_back 71 = .ok (.getfield 77, 3) := by decide +kernel
theorem dX12_back_74 : decode cX12_back 74 = .ok (.bipush 16, 2) := by decide +kernel
theorem dX12_back_76 : decode cX12_back 76 = .ok (.iload_n 1, 1) := by decide +kernel
theorem dX12_back_77 : decode cX12_back 77 = .ok (.iadd, 1) := by decide +kernel
theorem dX12_back_78 : decode cX12_back 78 = .ok (.iaload, 1) := by decide +kernel
theorem dX12_back_79 : decode cX12_back 79 = .ok (.iastore, 1) := by decide +kernel
theorem dX12_back_80 : decode cX12_back 80 = .ok (.aload_n 0, 1) := by decide +kernel
theorem dX12_back_81 : decode cX12_back 81 = .ok (.getfield 25, 3) := by decide +kernel
theorem dX12_back_84 : decode cX12_back 84 = .ok (.iload_n 1, 1) := by decide +kernel
theorem dX12_back_85 : decode cX12_back 85 = .ok (.aload_n 0, 1) := by decide +kernel
theorem dX12_back_86 : decode cX12_back 86 = .ok (.getfield 77, 3) := by decide +kernel
theorem dX12_back_89 : decode cX12_back 89 = .ok (.bipush 24, 2) := by decide +kernel
theorem dX12_back_91 : decode cX12_back 91 = .ok (.iload_n 1, 1) := by decide +kernel
theorem dX12_back_92 : decode cX12_back 92 = .ok (.iadd, 1) := by decide +kernel
theorem dX12_back_93 : decode cX12_back 93 = .ok (.iaload, 1) := by decide +kernel
theorem dX12_back_94 : decode cX12_back 94 = .ok (.iastore, 1) := by decide +kernel
theorem dX12_back_95 : decode cX12_back 95 = .ok (.iinc 1 1, 3) := by decide +kernel
theorem dX12_back_98 : decode cX12_back 98 = .ok (.goto (-66), 3) := by decide +kernel
theorem dX12_back_101 : decode cX12_back 101 = .ok (.iconst 0, 1) := by decide +kernel
theorem dX12_back_102 : decode cX12_back 102 = .ok (.istore_n 1, 1) := by decide +kernel
theorem dX12_back_103 : decode cX12_back 103 = .ok (.iload_n 1, 1) := by decide +kernel
theorem dX12_back_104 : decode cX12_back 104 = .ok (.bipush 64, 2) := by decide +kernel
theorem dX12_back_106 : decode cX12_back 106 = .ok (.if_icmp .ge 24, 3) := by decide +kernel
theorem dX12_back_109 : decode cX12_back 109 = .ok (.aload_n 0, 1) := by decide +kernel
theorem dX12_back_110 : decode cX12_back 110 = .ok (.getfield 19, 3) := by decide +kernel
theorem dX12_back_113 : decode cX12_back 113 = .ok (.iload_n 1, 1) := by decide +kernel
theorem dX12_back_114 : decode cX12_back 114 = .ok (.aload_n 0, 1) := by decide +kernel
theorem dX12_back_115 : decode cX12_back 115 = .ok (.getfield 77, 3) := by decide +kernel
theorem dX12_back_118 : decode cX12_back 118 = .ok (.bipush 32, 2) := by decide +kernel
theorem dX12_back_120 : decode cX12_back 120 = .ok (.iload_n 1, 1) := by decide +kernel
theorem dX12_back_121 : decode cX12_back 121 = .ok (.iadd, 1) := by decide +kernel
theorem dX12_back_122 : decode cX12_back 122 = .ok (.iaload, 1) := by decide +kernel
theorem dX12_back_123 : decode cX12_back 123 = .ok (.iastore, 1) := by decide +kernel
theorem dX12_back_124 : decode cX12_back 124 = .ok (.iinc 1 1, 3) := by decide +kernel
theorem dX12_back_127 : decode cX12_back 127 = .ok (.goto (-24), 3) := by decide +kernel
theorem dX12_back_130 : decode cX12_back 130 = .ok (.iconst 0, 1) := by decide +kernel
theorem dX12_back_131 : decode cX12_back 131 = .ok (.istore_n 1, 1) := by decide +kernel
theorem dX12_back_132 : decode cX12_back 132 = .ok (.iload_n 1, 1) := by decide +kernel
theorem dX12_back_133 : decode cX12_back 133 = .ok (.bipush 24, 2) := by decide +kernel
theorem dX12_back_135 : decode cX12_back 135 = .ok (.if_icmp .ge 51, 3) := by decide +kernel
theorem dX12_back_138 : decode cX12_back 138 = .ok (.aload_n 0, 1) := by decide +kernel
theorem dX12_back_139 : decode cX12_back 139 = .ok (.getfield 37, 3) := by decide +kernel
theorem dX12_back_142 : decode cX12_back 142 = .ok (.iload_n 1, 1) := by decide +kernel
theorem dX12_back_143 : decode cX12_back 143 = .ok (.aload_n 0, 1) := by decide +kernel
theorem dX12_back_144 : decode cX12_back 144 = .ok (.getfield 80, 3) := by decide +kernel
theorem dX12_back_147 : decode cX12_back 147 = .ok (.iload_n 1, 1) := by decide +kernel
theorem dX12_back_148 : decode cX12_back 148 = .ok (.iaload, 1) := by decide +kernel
theorem dX12_back_149 : decode cX12_back 149 = .ok (.iastore, 1) := by decide +kernel
theorem dX12_back_150 : decode cX12_back 150 = .ok (.aload_n 0, 1) := by decide +kernel
theorem dX12_back_151 : decode cX12_back 151 = .ok (.getfield 40, 3) := by decide +kernel
theorem dX12_back_154 : decode cX12_back 154 = .ok (.iload_n 1, 1) := by decide +kernel
theorem dX12_back_155 : decode cX12_back 155 = .ok (.aload_n 0, 1) := by decide +kernel
theorem dX12_back_156 : decode cX12_back 156 = .ok (.getfield 80, 3) := by decide +kernel
theorem dX12_back_159 : decode cX12_back 159 = .ok (.bipush 24, 2) := by decide +kernel
theorem dX12_back_161 : decode cX12_back 161 = .ok (.iload_n 1, 1) := by decide +kernel
theorem dX12_back_162 : decode cX12_back 162 = .ok (.iadd, 1) := by decide +kernel
theorem dX12_back_163 : decode cX12_back 163 = .ok (.iaload, 1) := by decide +kernel
theorem dX12_back_164 : decode cX12_back 164 = .ok (.iastore, 1) := by decide +kernel
theorem dX12_back_165 : decode cX12_back 165 = .ok (.aload_n 0, 1) := by decide +kernel
theorem dX12_back_166 : decode cX12_back 166 = .ok (.getfield 43, 3) := by decide +kernel
theorem dX12_back_169 : decode cX12_back 169 = .ok (.iload_n 1, 1) := by decide +kernel
theorem dX12_back_170 : decode cX12_back 170 = .ok (.aload_n 0, 1) := by decide +kernel
theorem dX12_back_171 : decode cX12_back 171 = .ok (.getfield 80, 3) := by decide +kernel
theorem dX12_back_174 : decode cX12_back 174 = .ok (.bipush 48, 2) := by decide +kernel
theorem dX12_back_176 : decode cX12_back 176 = .ok (.iload_n 1, 1) := by decide +kernel
theorem dX12_back_177 : decode cX12_back 177 = .ok (.iadd, 1) := by decide +kernel
theorem dX12_back_178 : decode cX12_back 178 = .ok (.iaload, 1) := by decide +kernel
theorem dX12_back_179 : decode cX12_back 179 = .ok (.iastore, 1) := by decide +kernel
theorem dX12_back_180 : decode cX12_back 180 = .ok (.iinc 1 1, 3) := by decide +kernel
theorem dX12_back_183 : decode cX12_back 183 = .ok (.goto (-51), 3) := by decide +kernel
theorem dX12_back_186 : decode cX12_back 186 = .ok (.iconst 0, 1) := by decide +kernel
theorem dX12_back_187 : decode cX12_back 187 = .ok (.istore_n 1, 1) := by decide +kernel
theorem dX12_back_188 : decode cX12_back 188 = .ok (.iload_n 1, 1) := by decide +kernel
theorem dX12_back_189 : decode cX12_back 189 = .ok (.sipush 240, 3) := by decide +kernel
theorem dX12_back_192 : decode cX12_back 192 = .ok (.if_icmp .ge 24, 3) := by decide +kernel
theorem dX12_back_195 : decode cX12_back 195 = .ok (.aload_n 0, 1) := by decide +kernel
theorem dX12_back_196 : decode cX12_back 196 = .ok (.getfield 46, 3) := by decide +kernel
theorem dX12_back_199 : decode cX12_back 199 = .ok (.iload_n 1, 1) := by decide +kernel
theorem dX12_back_200 : decode cX12_back 200 = .ok (.aload_n 0, 1) := by decide +kernel
theorem dX12_back_201 : decode cX12_back 201 = .ok (.getfield 80, 3) := by decide +kernel
theorem dX12_back_204 : decode cX12_back 204 = .ok (.bipush 72, 2) := by decide +kernel
theorem dX12_back_206 : decode cX12_back 206 = .ok (.iload_n 1, 1) := by decide +kernel
theorem dX12_back_207 : decode cX12_back 207 = .ok (.iadd, 1) := by decide +kernel
theorem dX12_back_208 : decode cX12_back 208 = .ok (.iaload, 1) := by decide +kernel
theorem dX12_back_209 : decode cX12_back 209 = .ok (.iastore, 1) := by decide +kernel
theorem dX12_back_210 : decode cX12_back 210 = .ok (.iinc 1 1, 3) := by decide +kernel
theorem dX12_back_213 : decode cX12_back 213 = .ok (.goto (-25), 3) := by decide +kernel
theorem dX12_back_216 : decode cX12_back 216 = .ok (.aload_n 0, 1) := by decide +kernel
theorem dX12_back_217 : decode cX12_back 217 = .ok (.getfield 83, 3) := by decide +kernel
theorem dX12_back_220 : decode cX12_back 220 = .ok (.aload_n 0, 1) := by decide +kernel
theorem dX12_back_221 : decode cX12_back 221 = .ok (.getfield 71, 3) := by decide +kernel
theorem dX12_back_224 : decode cX12_back 224 = .ok (.sipush 420, 3) := by decide +kernel
theorem dX12_back_227 : decode cX12_back 227 = .ok (.invokestatic 170, 3) := by decide +kernel
theorem dX12_back_230 : decode cX12_back 230 = .ok (.iconst 1, 1) := by decide +kernel
theorem dX12_back_231 : decode cX12_back 231 = .ok (.ireturn, 1) := by decide +kernel
theorem dL_law_0 : decode cL_law 0 = .ok (.new 7, 3) := by decide +kernel
theorem dL_law_3 : decode cL_law 3 = .ok (.dup, 1) := by decide +kernel
theorem dL_law_4 : decode cL_law 4 = .ok (.invokespecial 9, 3) := by decide +kernel
theorem dL_law_7 : decode cL_law 7 = .ok (.astore_n 1, 1) := by decide +kernel
theorem dL_law_8 : decode cL_law 8 = .ok (.new 10, 3) := by decide +kernel
theorem dL_law_11 : decode cL_law 11 = .ok (.dup, 1) := by decide +kernel
theorem dL_law_12 : decode cL_law 12 = .ok (.invokespecial 12, 3) := by decide +kernel
theorem dL_law_15 : decode cL_law 15 = .ok (.astore_n 2, 1) := by decide +kernel
theorem dL_law_16 : decode cL_law 16 = .ok (.iconst 0, 1) := by decide +kernel
theorem dL_law_17 : decode cL_law 17 = .ok (.istore_n 3, 1) := by decide +kernel
theorem dL_law_18 : decode cL_law 18 = .ok (.iload_n 3, 1) := by decide +kernel
theorem dL_law_19 : decode cL_law 19 = .ok (.aload_n 0, 1) := by decide +kernel
theorem dL_law_20 : decode cL_law 20 = .ok (.arraylength, 1) := by decide +kernel
theorem dL_law_21 : decode cL_law 21 = .ok (.iconst 4, 1) := by decide +kernel
theorem dL_law_22 : decode cL_law 22 = .ok (.isub, 1) := by decide +kernel
theorem dL_law_23 : decode cL_law 23 = .ok (.if_icmp .gt 977, 3) := by decide +kernel
theorem dL_law_26 : decode cL_law 26 = .ok (.aload_n 0, 1) := by decide +kernel
theorem dL_law_27 : decode cL_law 27 = .ok (.iload_n 3, 1) := by decide +kernel
theorem dL_law_28 : decode cL_law 28 = .ok (.iaload, 1) := by decide +kernel
theorem dL_law_29 : decode cL_law 29 = .ok (.bipush 31, 2) := by decide +kernel
theorem dL_law_31 : decode cL_law 31 = .ok (.iand, 1) := by decide +kernel
theorem dL_law_32 : decode cL_law 32 = .ok (.tableswitch 962 0 27 #[128, 151, 164, 187, 200, 213, 246, 279, 302, 325, 368, 401, 444, 477, 520, 563, 606, 649, 682, 705, 748, 781, 814, 847, 880, 913, 936, 949], 128) := by decide +kernel
theorem dL_law_160 : decode cL_law 160 = .ok (.aload_n 1, 1) := by decide +kernel
theorem dL_law_161 : decode cL_law 161 = .ok (.aload_n 0, 1) := by decide +kernel
theorem dL_law_162 : decode cL_law 162 = .ok (.iload_n 3, 1) := by decide +kernel
theorem dL_law_163 : decode cL_law 163 = .ok (.iconst 1, 1) := by decide +kernel
theorem dL_law_164 : decode cL_law 164 = .ok (.iadd, 1) := by decide +kernel
theorem dL_law_165 : decode cL_law 165 = .ok (.iaload, 1) := by decide +kernel
theorem dL_law_166 : decode cL_law 166 = .ok (.invokevirtual 13, 3) := by decide +kernel
theorem dL_law_169 : decode cL_law 169 = .ok (.aload_n 2, 1) := by decide +kernel
theorem dL_law_170 : decode cL_law 170 = .ok (.aload_n 0, 1) := by decide +kernel
theorem dL_law_171 : decode cL_law 171 = .ok (.iload_n 3, 1) := by decide +kernel
theorem dL_law_172 : decode cL_law 172 = .ok (.iconst 1, 1) := by decide +kernel
theorem dL_law_173 : decode cL_law 173 = .ok (.iadd, 1) := by decide +kernel
theorem dL_law_174 : decode cL_law 174 = .ok (.iaload, 1) := by decide +kernel
theorem dL_law_175 : decode cL_law 175 = .ok (.invokevirtual 17, 3) := by decide +kernel
theorem dL_law_178 : decode cL_law 178 = .ok (.if_icmp .eq 816, 3) := by decide +kernel
theorem dL_law_181 : decode cL_law 181 = .ok (.iconst 0, 1) := by decide +kernel
theorem dL_law_182 : decode cL_law 182 = .ok (.ireturn, 1) := by decide +kernel
theorem dL_law_183 : decode cL_law 183 = .ok (.aload_n 1, 1) := by decide +kernel
theorem dL_law_184 : decode cL_law 184 = .ok (.invokevirtual 18, 3) := by decide +kernel
theorem dL_law_187 : decode cL_law 187 = .ok (.aload_n 2, 1) := by decide +kernel
theorem dL_law_188 : decode cL_law 188 = .ok (.invokevirtual 22, 3) := by decide +kernel
theorem dL_law_191 : decode cL_law 191 = .ok (.if_icmp .eq 803, 3) := by decide +kernel
theorem dL_law_194 : decode cL_law 194 = .ok (.iconst 0, 1) := by decide +kernel
theorem dL_law_195 : decode cL_law 195 = .ok (.ireturn, 1) := by decide +kernel
theorem dL_law_196 : decode cL_law 196 = .ok (.aload_n 1, 1) := by decide +kernel
theorem dL_law_197 : decode cL_law 197 = .ok (.aload_n 0, 1) := by decide +kernel
theorem dL_law_198 : decode cL_law 198 = .ok (.iload_n 3, 1) := by decide +kernel
theorem dL_law_199 : decode cL_law 199 = .ok (.iconst 1, 1) := by decide +kernel
theorem dL_law_200 : decode cL_law 200 = .ok (.iadd, 1) := by decide +kernel
theorem dL_law_201 : decode cL_law 201 = .ok (.iaload, 1) := by decide +kernel
theorem dL_law_202 : decode cL_law 202 = .ok (.invokevirtual 23, 3) := by decide +kernel
theorem dL_law_205 : decode cL_law 205 = .ok (.aload_n 2, 1) := by decide +kernel
theorem dL_law_206 : decode cL_law 206 = .ok (.aload_n 0, 1) := by decide +kernel
theorem dL_law_207 : decode cL_law 207 = .ok (.iload_n 3, 1) := by decide +kernel
theorem dL_law_208 : decode cL_law 208 = .ok (.iconst 1, 1) := by decide +kernel
theorem dL_law_209 : decode cL_law 209 = .ok (.iadd, 1) := by decide +kernel
theorem dL_law_210 : decode cL_law 210 = .ok (.iaload, 1) := by decide +kernel
theorem dL_law_211 : decode cL_law 211 = .ok (.invokevirtual 26, 3) := by decide +kernel
theorem dL_law_214 : decode cL_law 214 = .ok (.if_icmp .eq 780, 3) := by decide +kernel
theorem dL_law_217 : decode cL_law 217 = .ok (.iconst 0, 1) := by decide +kernel
theorem dL_law_218 : decode cL_law 218 = .ok (.ireturn, 1) := by decide +kernel
theorem dL_law_219 : decode cL_law 219 = .ok (.aload_n 1, 1) := by decide +kernel
theorem dL_law_220 : decode cL_law 220 = .ok (.invokevirtual 27, 3) := by decide +kernel
theorem dL_law_223 : decode cL_law 223 = .ok (.aload_n 2, 1) := by decide +kernel
theorem dL_law_224 : decode cL_law 224 = .ok (.invokevirtual 30, 3) := by decide +kernel
theorem dL_law_227 : decode cL_law 227 = .ok (.if_icmp .eq 767, 3) := by decide +kernel
