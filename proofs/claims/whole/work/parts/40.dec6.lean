theorem d_M_isBefore_0 : decode b_M_isBefore 0 = .ok (.iconst 0, 1) := by decide +kernel
theorem d_M_isBefore_1 : decode b_M_isBefore 1 = .ok (.istore_n 3, 1) := by decide +kernel
theorem d_M_isBefore_2 : decode b_M_isBefore 2 = .ok (.iload_n 3, 1) := by decide +kernel
theorem d_M_isBefore_3 : decode b_M_isBefore 3 = .ok (.aload_n 0, 1) := by decide +kernel
theorem d_M_isBefore_4 : decode b_M_isBefore 4 = .ok (.getfield 152, 3) := by decide +kernel
theorem d_M_isBefore_7 : decode b_M_isBefore 7 = .ok (.if_icmp .ge 188, 3) := by decide +kernel
theorem d_M_isBefore_10 : decode b_M_isBefore 10 = .ok (.bipush 6, 2) := by decide +kernel
theorem d_M_isBefore_12 : decode b_M_isBefore 12 = .ok (.iload_n 1, 1) := by decide +kernel
theorem d_M_isBefore_13 : decode b_M_isBefore 13 = .ok (.imul, 1) := by decide +kernel
theorem d_M_isBefore_14 : decode b_M_isBefore 14 = .ok (.aload_n 0, 1) := by decide +kernel
theorem d_M_isBefore_15 : decode b_M_isBefore 15 = .ok (.getfield 73, 3) := by decide +kernel
theorem d_M_isBefore_18 : decode b_M_isBefore 18 = .ok (.iload_n 3, 1) := by decide +kernel
theorem d_M_isBefore_19 : decode b_M_isBefore 19 = .ok (.iaload, 1) := by decide +kernel
theorem d_M_isBefore_20 : decode b_M_isBefore 20 = .ok (.iadd, 1) := by decide +kernel
theorem d_M_isBefore_21 : decode b_M_isBefore 21 = .ok (.istore 4, 2) := by decide +kernel
theorem d_M_isBefore_23 : decode b_M_isBefore 23 = .ok (.bipush 6, 2) := by decide +kernel
theorem d_M_isBefore_25 : decode b_M_isBefore 25 = .ok (.iload_n 2, 1) := by decide +kernel
theorem d_M_isBefore_26 : decode b_M_isBefore 26 = .ok (.imul, 1) := by decide +kernel
theorem d_M_isBefore_27 : decode b_M_isBefore 27 = .ok (.aload_n 0, 1) := by decide +kernel
theorem d_M_isBefore_28 : decode b_M_isBefore 28 = .ok (.getfield 73, 3) := by decide +kernel
theorem d_M_isBefore_31 : decode b_M_isBefore 31 = .ok (.iload_n 3, 1) := by decide +kernel
theorem d_M_isBefore_32 : decode b_M_isBefore 32 = .ok (.iaload, 1) := by decide +kernel
theorem d_M_isBefore_33 : decode b_M_isBefore 33 = .ok (.iadd, 1) := by decide +kernel
theorem d_M_isBefore_34 : decode b_M_isBefore 34 = .ok (.istore 5, 2) := by decide +kernel
theorem d_M_isBefore_36 : decode b_M_isBefore 36 = .ok (.aload_n 0, 1) := by decide +kernel
theorem d_M_isBefore_37 : decode b_M_isBefore 37 = .ok (.getfield 85, 3) := by decide +kernel
theorem d_M_isBefore_40 : decode b_M_isBefore 40 = .ok (.iload 4, 2) := by decide +kernel
theorem d_M_isBefore_42 : decode b_M_isBefore 42 = .ok (.baload, 1) := by decide +kernel
theorem d_M_isBefore_43 : decode b_M_isBefore 43 = .ok (.ifCond .eq 21, 3) := by decide +kernel
theorem d_M_isBefore_46 : decode b_M_isBefore 46 = .ok (.aload_n 0, 1) := by decide +kernel
theorem d_M_isBefore_47 : decode b_M_isBefore 47 = .ok (.getfield 85, 3) := by decide +kernel
theorem d_M_isBefore_50 : decode b_M_isBefore 50 = .ok (.iload 5, 2) := by decide +kernel
theorem d_M_isBefore_52 : decode b_M_isBefore 52 = .ok (.baload, 1) := by decide +kernel
theorem d_M_isBefore_53 : decode b_M_isBefore 53 = .ok (.ifCond .ne 7, 3) := by decide +kernel
theorem d_M_isBefore_56 : decode b_M_isBefore 56 = .ok (.iconst 1, 1) := by decide +kernel
theorem d_M_isBefore_57 : decode b_M_isBefore 57 = .ok (.goto 40, 3) := by decide +kernel
theorem d_M_isBefore_60 : decode b_M_isBefore 60 = .ok (.iconst 0, 1) := by decide +kernel
theorem d_M_isBefore_61 : decode b_M_isBefore 61 = .ok (.goto 36, 3) := by decide +kernel
theorem d_M_isBefore_64 : decode b_M_isBefore 64 = .ok (.aload_n 0, 1) := by decide +kernel
theorem d_M_isBefore_65 : decode b_M_isBefore 65 = .ok (.getfield 85, 3) := by decide +kernel
theorem d_M_isBefore_68 : decode b_M_isBefore 68 = .ok (.iload 5, 2) := by decide +kernel
theorem d_M_isBefore_70 : decode b_M_isBefore 70 = .ok (.baload, 1) := by decide +kernel
theorem d_M_isBefore_71 : decode b_M_isBefore 71 = .ok (.ifCond .ne 25, 3) := by decide +kernel
theorem d_M_isBefore_74 : decode b_M_isBefore 74 = .ok (.aload_n 0, 1) := by decide +kernel
theorem d_M_isBefore_75 : decode b_M_isBefore 75 = .ok (.getfield 82, 3) := by decide +kernel
theorem d_M_isBefore_78 : decode b_M_isBefore 78 = .ok (.iload 4, 2) := by decide +kernel
theorem d_M_isBefore_80 : decode b_M_isBefore 80 = .ok (.laload, 1) := by decide +kernel
theorem d_M_isBefore_81 : decode b_M_isBefore 81 = .ok (.aload_n 0, 1) := by decide +kernel
theorem d_M_isBefore_82 : decode b_M_isBefore 82 = .ok (.getfield 82, 3) := by decide +kernel
theorem d_M_isBefore_85 : decode b_M_isBefore 85 = .ok (.iload 5, 2) := by decide +kernel
theorem d_M_isBefore_87 : decode b_M_isBefore 87 = .ok (.laload, 1) := by decide +kernel
theorem d_M_isBefore_88 : decode b_M_isBefore 88 = .ok (.lcmp, 1) := by decide +kernel
theorem d_M_isBefore_89 : decode b_M_isBefore 89 = .ok (.ifCond .ge 7, 3) := by decide +kernel
theorem d_M_isBefore_92 : decode b_M_isBefore 92 = .ok (.iconst 1, 1) := by decide +kernel
theorem d_M_isBefore_93 : decode b_M_isBefore 93 = .ok (.goto 4, 3) := by decide +kernel
theorem d_M_isBefore_96 : decode b_M_isBefore 96 = .ok (.iconst 0, 1) := by decide +kernel
theorem d_M_isBefore_97 : decode b_M_isBefore 97 = .ok (.istore 6, 2) := by decide +kernel
theorem d_M_isBefore_99 : decode b_M_isBefore 99 = .ok (.aload_n 0, 1) := by decide +kernel
theorem d_M_isBefore_100 : decode b_M_isBefore 100 = .ok (.getfield 85, 3) := by decide +kernel
theorem d_M_isBefore_103 : decode b_M_isBefore 103 = .ok (.iload 5, 2) := by decide +kernel
theorem d_M_isBefore_105 : decode b_M_isBefore 105 = .ok (.baload, 1) := by decide +kernel
theorem d_M_isBefore_106 : decode b_M_isBefore 106 = .ok (.ifCond .eq 21, 3) := by decide +kernel
theorem d_M_isBefore_109 : decode b_M_isBefore 109 = .ok (.aload_n 0, 1) := by decide +kernel
theorem d_M_isBefore_110 : decode b_M_isBefore 110 = .ok (.getfield 85, 3) := by decide +kernel
theorem d_M_isBefore_113 : decode b_M_isBefore 113 = .ok (.iload 4, 2) := by decide +kernel
theorem d_M_isBefore_115 : decode b_M_isBefore 115 = .ok (.baload, 1) := by decide +kernel
theorem d_M_isBefore_116 : decode b_M_isBefore 116 = .ok (.ifCond .ne 7, 3) := by decide +kernel
theorem d_M_isBefore_119 : decode b_M_isBefore 119 = .ok (.iconst 1, 1) := by decide +kernel
theorem d_M_isBefore_120 : decode b_M_isBefore 120 = .ok (.goto 40, 3) := by decide +kernel
theorem d_M_isBefore_123 : decode b_M_isBefore 123 = .ok (.iconst 0, 1) := by decide +kernel
theorem d_M_isBefore_124 : decode b_M_isBefore 124 = .ok (.goto 36, 3) := by decide +kernel
theorem d_M_isBefore_127 : decode b_M_isBefore 127 = .ok (.aload_n 0, 1) := by decide +kernel
theorem d_M_isBefore_128 : decode b_M_isBefore 128 = .ok (.getfield 85, 3) := by decide +kernel
theorem d_M_isBefore_131 : decode b_M_isBefore 131 = .ok (.iload 4, 2) := by decide +kernel
theorem d_M_isBefore_133 : decode b_M_isBefore 133 = .ok (.baload, 1) := by decide +kernel
theorem d_M_isBefore_134 : decode b_M_isBefore 134 = .ok (.ifCond .ne 25, 3) := by decide +kernel
theorem d_M_isBefore_137 : decode b_M_isBefore 137 = .ok (.aload_n 0, 1) := by decide +kernel
theorem d_M_isBefore_138 : decode b_M_isBefore 138 = .ok (.getfield 82, 3) := by decide +kernel
theorem d_M_isBefore_141 : decode b_M_isBefore 141 = .ok (.iload 5, 2) := by decide +kernel
theorem d_M_isBefore_143 : decode b_M_isBefore 143 = .ok (.laload, 1) := by decide +kernel
theorem d_M_isBefore_144 : decode b_M_isBefore 144 = .ok (.aload_n 0, 1) := by decide +kernel
theorem d_M_isBefore_145 : decode b_M_isBefore 145 = .ok (.getfield 82, 3) := by decide +kernel
theorem d_M_isBefore_148 : decode b_M_isBefore 148 = .ok (.iload 4, 2) := by decide +kernel
theorem d_M_isBefore_150 : decode b_M_isBefore 150 = .ok (.laload, 1) := by decide +kernel
theorem d_M_isBefore_151 : decode b_M_isBefore 151 = .ok (.lcmp, 1) := by decide +kernel
theorem d_M_isBefore_152 : decode b_M_isBefore 152 = .ok (.ifCond .ge 7, 3) := by decide +kernel
theorem d_M_isBefore_155 : decode b_M_isBefore 155 = .ok (.iconst 1, 1) := by decide +kernel
theorem d_M_isBefore_156 : decode b_M_isBefore 156 = .ok (.goto 4, 3) := by decide +kernel
theorem d_M_isBefore_159 : decode b_M_isBefore 159 = .ok (.iconst 0, 1) := by decide +kernel
theorem d_M_isBefore_160 : decode b_M_isBefore 160 = .ok (.istore 7, 2) := by decide +kernel
theorem d_M_isBefore_162 : decode b_M_isBefore 162 = .ok (.iload 6, 2) := by decide +kernel
theorem d_M_isBefore_164 : decode b_M_isBefore 164 = .ok (.ifCond .ne 8, 3) := by decide +kernel
theorem d_M_isBefore_167 : decode b_M_isBefore 167 = .ok (.iload 7, 2) := by decide +kernel
theorem d_M_isBefore_169 : decode b_M_isBefore 169 = .ok (.ifCond .eq 20, 3) := by decide +kernel
theorem d_M_isBefore_172 : decode b_M_isBefore 172 = .ok (.aload_n 0, 1) := by decide +kernel
theorem d_M_isBefore_173 : decode b_M_isBefore 173 = .ok (.getfield 76, 3) := by decide +kernel
theorem d_M_isBefore_176 : decode b_M_isBefore 176 = .ok (.iload_n 3, 1) := by decide +kernel
theorem d_M_isBefore_177 : decode b_M_isBefore 177 = .ok (.baload, 1) := by decide +kernel
theorem d_M_isBefore_178 : decode b_M_isBefore 178 = .ok (.ifCond .eq 8, 3) := by decide +kernel
theorem d_M_isBefore_181 : decode b_M_isBefore 181 = .ok (.iload 7, 2) := by decide +kernel
theorem d_M_isBefore_183 : decode b_M_isBefore 183 = .ok (.goto 5, 3) := by decide +kernel
theorem d_M_isBefore_186 : decode b_M_isBefore 186 = .ok (.iload 6, 2) := by decide +kernel
theorem d_M_isBefore_188 : decode b_M_isBefore 188 = .ok (.ireturn, 1) := by decide +kernel
theorem d_M_isBefore_189 : decode b_M_isBefore 189 = .ok (.iinc 3 1, 3) := by decide +kernel
theorem d_M_isBefore_192 : decode b_M_isBefore 192 = .ok (.goto (-190), 3) := by decide +kernel
theorem d_M_isBefore_195 : decode b_M_isBefore 195 = .ok (.iconst 0, 1) := by decide +kernel
theorem d_M_isBefore_196 : decode b_M_isBefore 196 = .ok (.ireturn, 1) := by decide +kernel
theorem d_M_sort_0 : decode b_M_sort 0 = .ok (.iconst 1, 1) := by decide +kernel
theorem d_M_sort_1 : decode b_M_sort 1 = .ok (.istore_n 1, 1) := by decide +kernel
theorem d_M_sort_2 : decode b_M_sort 2 = .ok (.iload_n 1, 1) := by decide +kernel
theorem d_M_sort_3 : decode b_M_sort 3 = .ok (.aload_n 0, 1) := by decide +kernel
theorem d_M_sort_4 : decode b_M_sort 4 = .ok (.getfield 268, 3) := by decide +kernel
theorem d_M_sort_7 : decode b_M_sort 7 = .ok (.if_icmp .ge 58, 3) := by decide +kernel
theorem d_M_sort_10 : decode b_M_sort 10 = .ok (.aload_n 0, 1) := by decide +kernel
theorem d_M_sort_11 : decode b_M_sort 11 = .ok (.sipush 200, 3) := by decide +kernel
theorem d_M_sort_14 : decode b_M_sort 14 = .ok (.iload_n 1, 1) := by decide +kernel
theorem d_M_sort_15 : decode b_M_sort 15 = .ok (.invokevirtual 298, 3) := by decide +kernel
theorem d_M_sort_18 : decode b_M_sort 18 = .ok (.iload_n 1, 1) := by decide +kernel
theorem d_M_sort_19 : decode b_M_sort 19 = .ok (.istore_n 2, 1) := by decide +kernel
theorem d_M_sort_20 : decode b_M_sort 20 = .ok (.iload_n 2, 1) := by decide +kernel
theorem d_M_sort_21 : decode b_M_sort 21 = .ok (.ifCond .le 30, 3) := by decide +kernel
theorem d_M_sort_24 : decode b_M_sort 24 = .ok (.aload_n 0, 1) := by decide +kernel
theorem d_M_sort_25 : decode b_M_sort 25 = .ok (.sipush 200, 3) := by decide +kernel
theorem d_M_sort_28 : decode b_M_sort 28 = .ok (.iload_n 2, 1) := by decide +kernel
theorem d_M_sort_29 : decode b_M_sort 29 = .ok (.iconst 1, 1) := by decide +kernel
theorem d_M_sort_30 : decode b_M_sort 30 = .ok (.isub, 1) := by decide +kernel
theorem d_M_sort_31 : decode b_M_sort 31 = .ok (.invokevirtual 302, 3) := by decide +kernel
theorem d_M_sort_34 : decode b_M_sort 34 = .ok (.ifCond .eq 17, 3) := by decide +kernel
theorem d_M_sort_37 : decode b_M_sort 37 = .ok (.aload_n 0, 1) := by decide +kernel
theorem d_M_sort_38 : decode b_M_sort 38 = .ok (.iload_n 2, 1) := by decide +kernel
theorem d_M_sort_39 : decode b_M_sort 39 = .ok (.iload_n 2, 1) := by decide +kernel
theorem d_M_sort_40 : decode b_M_sort 40 = .ok (.iconst 1, 1) := by decide +kernel
theorem d_M_sort_41 : decode b_M_sort 41 = .ok (.isub, 1) := by decide +kernel
theorem d_M_sort_42 : decode b_M_sort 42 = .ok (.invokevirtual 298, 3) := by decide +kernel
theorem d_M_sort_45 : decode b_M_sort 45 = .ok (.iinc 2 (-1), 3) := by decide +kernel
theorem d_M_sort_48 : decode b_M_sort 48 = .ok (.goto (-28), 3) := by decide +kernel
theorem d_M_sort_51 : decode b_M_sort 51 = .ok (.aload_n 0, 1) := by decide +kernel
theorem d_M_sort_52 : decode b_M_sort 52 = .ok (.iload_n 2, 1) := by decide +kernel
theorem d_M_sort_53 : decode b_M_sort 53 = .ok (.sipush 200, 3) := by decide +kernel
theorem d_M_sort_56 : decode b_M_sort 56 = .ok (.invokevirtual 298, 3) := by decide +kernel
theorem d_M_sort_59 : decode b_M_sort 59 = .ok (.iinc 1 1, 3) := by decide +kernel
theorem d_M_sort_62 : decode b_M_sort 62 = .ok (.goto (-60), 3) := by decide +kernel
theorem d_M_sort_65 : decode b_M_sort 65 = .ok (.return_, 1) := by decide +kernel
theorem d_M_cut_0 : decode b_M_cut 0 = .ok (.iconst 0, 1) := by decide +kernel
theorem d_M_cut_1 : decode b_M_cut 1 = .ok (.istore_n 1, 1) := by decide +kernel
theorem d_M_cut_2 : decode b_M_cut 2 = .ok (.aload_n 0, 1) := by decide +kernel
theorem d_M_cut_3 : decode b_M_cut 3 = .ok (.getfield 159, 3) := by decide +kernel
theorem d_M_cut_6 : decode b_M_cut 6 = .ok (.istore_n 2, 1) := by decide +kernel
theorem d_M_cut_7 : decode b_M_cut 7 = .ok (.iload_n 2, 1) := by decide +kernel
theorem d_M_cut_8 : decode b_M_cut 8 = .ok (.aload_n 0, 1) := by decide +kernel
theorem d_M_cut_9 : decode b_M_cut 9 = .ok (.getfield 268, 3) := by decide +kernel
theorem d_M_cut_12 : decode b_M_cut 12 = .ok (.if_icmp .ge 26, 3) := by decide +kernel
theorem d_M_cut_15 : decode b_M_cut 15 = .ok (.iload_n 1, 1) := by decide +kernel
theorem d_M_cut_16 : decode b_M_cut 16 = .ok (.aload_n 0, 1) := by decide +kernel
theorem d_M_cut_17 : decode b_M_cut 17 = .ok (.getfield 79, 3) := by decide +kernel
theorem d_M_cut_20 : decode b_M_cut 20 = .ok (.if_icmp .ge 18, 3) := by decide +kernel
theorem d_M_cut_23 : decode b_M_cut 23 = .ok (.aload_n 0, 1) := by decide +kernel
theorem d_M_cut_24 : decode b_M_cut 24 = .ok (.iload_n 1, 1) := by decide +kernel
theorem d_M_cut_25 : decode b_M_cut 25 = .ok (.iload_n 2, 1) := by decide +kernel
theorem d_M_cut_26 : decode b_M_cut 26 = .ok (.invokevirtual 298, 3) := by decide +kernel
theorem d_M_cut_29 : decode b_M_cut 29 = .ok (.iinc 1 1, 3) := by decide +kernel
theorem d_M_cut_32 : decode b_M_cut 32 = .ok (.iinc 2 1, 3) := by decide +kernel
theorem d_M_cut_35 : decode b_M_cut 35 = .ok (.goto (-28), 3) := by decide +kernel
theorem d_M_cut_38 : decode b_M_cut 38 = .ok (.aload_n 0, 1) := by decide +kernel
theorem d_M_cut_39 : decode b_M_cut 39 = .ok (.iload_n 1, 1) := by decide +kernel
theorem d_M_cut_40 : decode b_M_cut 40 = .ok (.putfield 268, 3) := by decide +kernel
theorem d_M_cut_43 : decode b_M_cut 43 = .ok (.return_, 1) := by decide +kernel
theorem d_M_isSameRow_0 : decode b_M_isSameRow 0 = .ok (.iconst 1, 1) := by decide +kernel
theorem d_M_isSameRow_1 : decode b_M_isSameRow 1 = .ok (.istore_n 3, 1) := by decide +kernel
theorem d_M_isSameRow_2 : decode b_M_isSameRow 2 = .ok (.iconst 0, 1) := by decide +kernel
theorem d_M_isSameRow_3 : decode b_M_isSameRow 3 = .ok (.istore 4, 2) := by decide +kernel
theorem d_M_isSameRow_5 : decode b_M_isSameRow 5 = .ok (.iload 4, 2) := by decide +kernel
theorem d_M_isSameRow_7 : decode b_M_isSameRow 7 = .ok (.aload_n 0, 1) := by decide +kernel
theorem d_M_isSameRow_8 : decode b_M_isSameRow 8 = .ok (.getfield 149, 3) := by decide +kernel
theorem d_M_isSameRow_11 : decode b_M_isSameRow 11 = .ok (.if_icmp .ge 83, 3) := by decide +kernel
theorem d_M_isSameRow_14 : decode b_M_isSameRow 14 = .ok (.aload_n 0, 1) := by decide +kernel
theorem d_M_isSameRow_15 : decode b_M_isSameRow 15 = .ok (.getfield 85, 3) := by decide +kernel
theorem d_M_isSameRow_18 : decode b_M_isSameRow 18 = .ok (.bipush 6, 2) := by decide +kernel
theorem d_M_isSameRow_20 : decode b_M_isSameRow 20 = .ok (.iload_n 1, 1) := by decide +kernel
theorem d_M_isSameRow_21 : decode b_M_isSameRow 21 = .ok (.imul, 1) := by decide +kernel
theorem d_M_isSameRow_22 : decode b_M_isSameRow 22 = .ok (.iload 4, 2) := by decide +kernel
theorem d_M_isSameRow_24 : decode b_M_isSameRow 24 = .ok (.iadd, 1) := by decide +kernel
theorem d_M_isSameRow_25 : decode b_M_isSameRow 25 = .ok (.baload, 1) := by decide +kernel
theorem d_M_isSameRow_26 : decode b_M_isSameRow 26 = .ok (.istore 5, 2) := by decide +kernel
theorem d_M_isSameRow_28 : decode b_M_isSameRow 28 = .ok (.iload_n 3, 1) := by decide +kernel
theorem d_M_isSameRow_29 : decode b_M_isSameRow 29 = .ok (.ifCond .eq 57, 3) := by decide +kernel
theorem d_M_isSameRow_32 : decode b_M_isSameRow 32 = .ok (.iload 5, 2) := by decide +kernel
theorem d_M_isSameRow_34 : decode b_M_isSameRow 34 = .ok (.aload_n 0, 1) := by decide +kernel
theorem d_M_isSameRow_35 : decode b_M_isSameRow 35 = .ok (.getfield 85, 3) := by decide +kernel
theorem d_M_isSameRow_38 : decode b_M_isSameRow 38 = .ok (.bipush 6, 2) := by decide +kernel
theorem d_M_isSameRow_40 : decode b_M_isSameRow 40 = .ok (.iload_n 2, 1) := by decide +kernel
theorem d_M_isSameRow_41 : decode b_M_isSameRow 41 = .ok (.imul, 1) := by decide +kernel
theorem d_M_isSameRow_42 : decode b_M_isSameRow 42 = .ok (.iload 4, 2) := by decide +kernel
theorem d_M_isSameRow_44 : decode b_M_isSameRow 44 = .ok (.iadd, 1) := by decide +kernel
theorem d_M_isSameRow_45 : decode b_M_isSameRow 45 = .ok (.baload, 1) := by decide +kernel
theorem d_M_isSameRow_46 : decode b_M_isSameRow 46 = .ok (.if_icmp .ne 40, 3) := by decide +kernel
theorem d_M_isSameRow_49 : decode b_M_isSameRow 49 = .ok (.iload 5, 2) := by decide +kernel
theorem d_M_isSameRow_51 : decode b_M_isSameRow 51 = .ok (.ifCond .ne 31, 3) := by decide +kernel
theorem d_M_isSameRow_54 : decode b_M_isSameRow 54 = .ok (.aload_n 0, 1) := by decide +kernel
theorem d_M_isSameRow_55 : decode b_M_isSameRow 55 = .ok (.getfield 82, 3) := by decide +kernel
theorem d_M_isSameRow_58 : decode b_M_isSameRow 58 = .ok (.bipush 6, 2) := by decide +kernel
theorem d_M_isSameRow_60 : decode b_M_isSameRow 60 = .ok (.iload_n 1, 1) := by decide +kernel
theorem d_M_isSameRow_61 : decode b_M_isSameRow 61 = .ok (.imul, 1) := by decide +kernel
theorem d_M_isSameRow_62 : decode b_M_isSameRow 62 = .ok (.iload 4, 2) := by decide +kernel
theorem d_M_isSameRow_64 : decode b_M_isSameRow 64 = .ok (.iadd, 1) := by decide +kernel
theorem d_M_isSameRow_65 : decode b_M_isSameRow 65 = .ok (.laload, 1) := by decide +kernel
theorem d_M_isSameRow_66 : decode b_M_isSameRow 66 = .ok (.aload_n 0, 1) := by decide +kernel
theorem d_M_isSameRow_67 : decode b_M_isSameRow 67 = .ok (.getfield 82, 3) := by decide +kernel
theorem d_M_isSameRow_70 : decode b_M_isSameRow 70 = .ok (.bipush 6, 2) := by decide +kernel
theorem d_M_isSameRow_72 : decode b_M_isSameRow 72 = .ok (.iload_n 2, 1) := by decide +kernel
theorem d_M_isSameRow_73 : decode b_M_isSameRow 73 = .ok (.imul, 1) := by decide +kernel
theorem d_M_isSameRow_74 : decode b_M_isSameRow 74 = .ok (.iload 4, 2) := by decide +kernel
theorem d_M_isSameRow_76 : decode b_M_isSameRow 76 = .ok (.iadd, 1) := by decide +kernel
theorem d_M_isSameRow_77 : decode b_M_isSameRow 77 = .ok (.laload, 1) := by decide +kernel
theorem d_M_isSameRow_78 : decode b_M_isSameRow 78 = .ok (.lcmp, 1) := by decide +kernel
theorem d_M_isSameRow_79 : decode b_M_isSameRow 79 = .ok (.ifCond .ne 7, 3) := by decide +kernel
theorem d_M_isSameRow_82 : decode b_M_isSameRow 82 = .ok (.iconst 1, 1) := by decide +kernel
theorem d_M_isSameRow_83 : decode b_M_isSameRow 83 = .ok (.goto 4, 3) := by decide +kernel
theorem d_M_isSameRow_86 : decode b_M_isSameRow 86 = .ok (.iconst 0, 1) := by decide +kernel
theorem d_M_isSameRow_87 : decode b_M_isSameRow 87 = .ok (.istore_n 3, 1) := by decide +kernel
theorem d_M_isSameRow_88 : decode b_M_isSameRow 88 = .ok (.iinc 4 1, 3) := by decide +kernel
theorem d_M_isSameRow_91 : decode b_M_isSameRow 91 = .ok (.goto (-86), 3) := by decide +kernel
theorem d_M_isSameRow_94 : decode b_M_isSameRow 94 = .ok (.iload_n 3, 1) := by decide +kernel
theorem d_M_isSameRow_95 : decode b_M_isSameRow 95 = .ok (.ireturn, 1) := by decide +kernel
theorem d_M_leaveOut_0 : decode b_M_leaveOut 0 = .ok (.iconst 0, 1) := by decide +kernel
theorem d_M_leaveOut_1 : decode b_M_leaveOut 1 = .ok (.istore_n 1, 1) := by decide +kernel
theorem d_M_leaveOut_2 : decode b_M_leaveOut 2 = .ok (.iconst 0, 1) := by decide +kernel
theorem d_M_leaveOut_3 : decode b_M_leaveOut 3 = .ok (.istore_n 2, 1) := by decide +kernel
theorem d_M_leaveOut_4 : decode b_M_leaveOut 4 = .ok (.iload_n 2, 1) := by decide +kernel
theorem d_M_leaveOut_5 : decode b_M_leaveOut 5 = .ok (.aload_n 0, 1) := by decide +kernel
theorem d_M_leaveOut_6 : decode b_M_leaveOut 6 = .ok (.getfield 268, 3) := by decide +kernel
theorem d_M_leaveOut_9 : decode b_M_leaveOut 9 = .ok (.if_icmp .ge 59, 3) := by decide +kernel
theorem d_M_leaveOut_12 : decode b_M_leaveOut 12 = .ok (.iconst 0, 1) := by decide +kernel
theorem d_M_leaveOut_13 : decode b_M_leaveOut 13 = .ok (.istore_n 3, 1) := by decide +kernel
theorem d_M_leaveOut_14 : decode b_M_leaveOut 14 = .ok (.iconst 0, 1) := by decide +kernel
theorem d_M_leaveOut_15 : decode b_M_leaveOut 15 = .ok (.istore 4, 2) := by decide +kernel
theorem d_M_leaveOut_17 : decode b_M_leaveOut 17 = .ok (.iload 4, 2) := by decide +kernel
theorem d_M_leaveOut_19 : decode b_M_leaveOut 19 = .ok (.iload_n 1, 1) := by decide +kernel
theorem d_M_leaveOut_20 : decode b_M_leaveOut 20 = .ok (.if_icmp .ge 29, 3) := by decide +kernel
theorem d_M_leaveOut_23 : decode b_M_leaveOut 23 = .ok (.iload_n 3, 1) := by decide +kernel
theorem d_M_leaveOut_24 : decode b_M_leaveOut 24 = .ok (.ifCond .ne 13, 3) := by decide +kernel
theorem d_M_leaveOut_27 : decode b_M_leaveOut 27 = .ok (.aload_n 0, 1) := by decide +kernel
theorem d_M_leaveOut_28 : decode b_M_leaveOut 28 = .ok (.iload 4, 2) := by decide +kernel
theorem d_M_leaveOut_30 : decode b_M_leaveOut 30 = .ok (.iload_n 2, 1) := by decide +kernel
theorem d_M_leaveOut_31 : decode b_M_leaveOut 31 = .ok (.invokevirtual 295, 3) := by decide +kernel
theorem d_M_leaveOut_34 : decode b_M_leaveOut 34 = .ok (.ifCond .eq 7, 3) := by decide +kernel
theorem d_M_leaveOut_37 : decode b_M_leaveOut 37 = .ok (.iconst 1, 1) := by decide +kernel
theorem d_M_leaveOut_38 : decode b_M_leaveOut 38 = .ok (.goto 4, 3) := by decide +kernel
theorem d_M_leaveOut_41 : decode b_M_leaveOut 41 = .ok (.iconst 0, 1) := by decide +kernel
theorem d_M_leaveOut_42 : decode b_M_leaveOut 42 = .ok (.istore_n 3, 1) := by decide +kernel
theorem d_M_leaveOut_43 : decode b_M_leaveOut 43 = .ok (.iinc 4 1, 3) := by decide +kernel
theorem d_M_leaveOut_46 : decode b_M_leaveOut 46 = .ok (.goto (-29), 3) := by decide +kernel
theorem d_M_leaveOut_49 : decode b_M_leaveOut 49 = .ok (.iload_n 3, 1) := by decide +kernel
theorem d_M_leaveOut_50 : decode b_M_leaveOut 50 = .ok (.ifCond .ne 12, 3) := by decide +kernel
theorem d_M_leaveOut_53 : decode b_M_leaveOut 53 = .ok (.aload_n 0, 1) := by decide +kernel
theorem d_M_leaveOut_54 : decode b_M_leaveOut 54 = .ok (.iload_n 1, 1) := by decide +kernel
theorem d_M_leaveOut_55 : decode b_M_leaveOut 55 = .ok (.iload_n 2, 1) := by decide +kernel
theorem d_M_leaveOut_56 : decode b_M_leaveOut 56 = .ok (.invokevirtual 298, 3) := by decide +kernel
theorem d_M_leaveOut_59 : decode b_M_leaveOut 59 = .ok (.iinc 1 1, 3) := by decide +kernel
theorem d_M_leaveOut_62 : decode b_M_leaveOut 62 = .ok (.iinc 2 1, 3) := by decide +kernel
theorem d_M_leaveOut_65 : decode b_M_leaveOut 65 = .ok (.goto (-61), 3) := by decide +kernel
theorem d_M_leaveOut_68 : decode b_M_leaveOut 68 = .ok (.aload_n 0, 1) := by decide +kernel
theorem d_M_leaveOut_69 : decode b_M_leaveOut 69 = .ok (.iload_n 1, 1) := by decide +kernel
theorem d_M_leaveOut_70 : decode b_M_leaveOut 70 = .ok (.putfield 268, 3) := by decide +kernel
theorem d_M_leaveOut_73 : decode b_M_leaveOut 73 = .ok (.return_, 1) := by decide +kernel
theorem d_M_goThroughGroups_0 : decode b_M_goThroughGroups 0 = .ok (.aload_n 0, 1) := by decide +kernel
theorem d_M_goThroughGroups_1 : decode b_M_goThroughGroups 1 = .ok (.getfield 146, 3) := by decide +kernel
theorem d_M_goThroughGroups_4 : decode b_M_goThroughGroups 4 = .ok (.ifCond .ne 15, 3) := by decide +kernel
theorem d_M_goThroughGroups_7 : decode b_M_goThroughGroups 7 = .ok (.aload_n 0, 1) := by decide +kernel
theorem d_M_goThroughGroups_8 : decode b_M_goThroughGroups 8 = .ok (.getfield 261, 3) := by decide +kernel
theorem d_M_goThroughGroups_11 : decode b_M_goThroughGroups 11 = .ok (.ifCond .ne 8, 3) := by decide +kernel
theorem d_M_goThroughGroups_14 : decode b_M_goThroughGroups 14 = .ok (.aload_n 0, 1) := by decide +kernel
theorem d_M_goThroughGroups_15 : decode b_M_goThroughGroups 15 = .ok (.iconst 1, 1) := by decide +kernel
theorem d_M_goThroughGroups_16 : decode b_M_goThroughGroups 16 = .ok (.putfield 261, 3) := by decide +kernel
theorem d_M_goThroughGroups_19 : decode b_M_goThroughGroups 19 = .ok (.iconst 0, 1) := by decide +kernel
theorem d_M_goThroughGroups_20 : decode b_M_goThroughGroups 20 = .ok (.istore_n 1, 1) := by decide +kernel
theorem d_M_goThroughGroups_21 : decode b_M_goThroughGroups 21 = .ok (.iload_n 1, 1) := by decide +kernel
theorem d_M_goThroughGroups_22 : decode b_M_goThroughGroups 22 = .ok (.aload_n 0, 1) := by decide +kernel
theorem d_M_goThroughGroups_23 : decode b_M_goThroughGroups 23 = .ok (.getfield 261, 3) := by decide +kernel
theorem d_M_goThroughGroups_26 : decode b_M_goThroughGroups 26 = .ok (.if_icmp .ge 43, 3) := by decide +kernel
theorem d_M_goThroughGroups_29 : decode b_M_goThroughGroups 29 = .ok (.aload_n 0, 1) := by decide +kernel
theorem d_M_goThroughGroups_30 : decode b_M_goThroughGroups 30 = .ok (.getfield 213, 3) := by decide +kernel
theorem d_M_goThroughGroups_33 : decode b_M_goThroughGroups 33 = .ok (.ifCond .ne 36, 3) := by decide +kernel
theorem d_M_goThroughGroups_36 : decode b_M_goThroughGroups 36 = .ok (.aload_n 0, 1) := by decide +kernel
theorem d_M_goThroughGroups_37 : decode b_M_goThroughGroups 37 = .ok (.iload_n 1, 1) := by decide +kernel
theorem d_M_goThroughGroups_38 : decode b_M_goThroughGroups 38 = .ok (.putfield 234, 3) := by decide +kernel
theorem d_M_goThroughGroups_41 : decode b_M_goThroughGroups 41 = .ok (.aload_n 0, 1) := by decide +kernel
theorem d_M_goThroughGroups_42 : decode b_M_goThroughGroups 42 = .ok (.getfield 64, 3) := by decide +kernel
theorem d_M_goThroughGroups_45 : decode b_M_goThroughGroups 45 = .ok (.ifCond .lt 14, 3) := by decide +kernel
theorem d_M_goThroughGroups_48 : decode b_M_goThroughGroups 48 = .ok (.aload_n 0, 1) := by decide +kernel
theorem d_M_goThroughGroups_49 : decode b_M_goThroughGroups 49 = .ok (.aload_n 0, 1) := by decide +kernel
theorem d_M_goThroughGroups_50 : decode b_M_goThroughGroups 50 = .ok (.getfield 64, 3) := by decide +kernel
theorem d_M_goThroughGroups_53 : decode b_M_goThroughGroups 53 = .ok (.invokevirtual 271, 3) := by decide +kernel
theorem d_M_goThroughGroups_56 : decode b_M_goThroughGroups 56 = .ok (.ifCond .eq 7, 3) := by decide +kernel
theorem d_M_goThroughGroups_59 : decode b_M_goThroughGroups 59 = .ok (.aload_n 0, 1) := by decide +kernel
theorem d_M_goThroughGroups_60 : decode b_M_goThroughGroups 60 = .ok (.invokevirtual 280, 3) := by decide +kernel
theorem d_M_goThroughGroups_63 : decode b_M_goThroughGroups 63 = .ok (.iinc 1 1, 3) := by decide +kernel
theorem d_M_goThroughGroups_66 : decode b_M_goThroughGroups 66 = .ok (.goto (-45), 3) := by decide +kernel
theorem d_M_goThroughGroups_69 : decode b_M_goThroughGroups 69 = .ok (.aload_n 0, 1) := by decide +kernel
theorem d_M_goThroughGroups_70 : decode b_M_goThroughGroups 70 = .ok (.iconst (-1), 1) := by decide +kernel
theorem d_M_goThroughGroups_71 : decode b_M_goThroughGroups 71 = .ok (.putfield 234, 3) := by decide +kernel
theorem d_M_goThroughGroups_74 : decode b_M_goThroughGroups 74 = .ok (.return_, 1) := by decide +kernel
theorem d_M_ask_0 : decode b_M_ask 0 = .ok (.aload_n 0, 1) := by decide +kernel
theorem d_M_ask_1 : decode b_M_ask 1 = .ok (.iconst 0, 1) := by decide +kernel
theorem d_M_ask_2 : decode b_M_ask 2 = .ok (.putfield 193, 3) := by decide +kernel
theorem d_M_ask_5 : decode b_M_ask 5 = .ok (.aload_n 0, 1) := by decide +kernel
theorem d_M_ask_6 : decode b_M_ask 6 = .ok (.iload_n 1, 1) := by decide +kernel
theorem d_M_ask_7 : decode b_M_ask 7 = .ok (.invokevirtual 196, 3) := by decide +kernel
theorem d_M_ask_10 : decode b_M_ask 10 = .ok (.aload_n 0, 1) := by decide +kernel
theorem d_M_ask_11 : decode b_M_ask 11 = .ok (.getfield 193, 3) := by decide +kernel
theorem d_M_ask_14 : decode b_M_ask 14 = .ok (.ifCond .le 116, 3) := by decide +kernel
theorem d_M_ask_17 : decode b_M_ask 17 = .ok (.aload_n 0, 1) := by decide +kernel
theorem d_M_ask_18 : decode b_M_ask 18 = .ok (.dup, 1) := by decide +kernel
theorem d_M_ask_19 : decode b_M_ask 19 = .ok (.getfield 193, 3) := by decide +kernel
theorem d_M_ask_22 : decode b_M_ask 22 = .ok (.iconst 1, 1) := by decide +kernel
theorem d_M_ask_23 : decode b_M_ask 23 = .ok (.isub, 1) := by decide +kernel
theorem d_M_ask_24 : decode b_M_ask 24 = .ok (.putfield 193, 3) := by decide +kernel
theorem d_M_ask_27 : decode b_M_ask 27 = .ok (.aload_n 0, 1) := by decide +kernel
theorem d_M_ask_28 : decode b_M_ask 28 = .ok (.getfield 112, 3) := by decide +kernel
theorem d_M_ask_31 : decode b_M_ask 31 = .ok (.aload_n 0, 1) := by decide +kernel
theorem d_M_ask_32 : decode b_M_ask 32 = .ok (.getfield 193, 3) := by decide +kernel
theorem d_M_ask_35 : decode b_M_ask 35 = .ok (.iaload, 1) := by decide +kernel
theorem d_M_ask_36 : decode b_M_ask 36 = .ok (.istore_n 2, 1) := by decide +kernel
theorem d_M_ask_37 : decode b_M_ask 37 = .ok (.iconst 0, 1) := by decide +kernel
theorem d_M_ask_38 : decode b_M_ask 38 = .ok (.istore_n 3, 1) := by decide +kernel
theorem d_M_ask_39 : decode b_M_ask 39 = .ok (.iload_n 3, 1) := by decide +kernel
theorem d_M_ask_40 : decode b_M_ask 40 = .ok (.aload_n 0, 1) := by decide +kernel
theorem d_M_ask_41 : decode b_M_ask 41 = .ok (.getfield 140, 3) := by decide +kernel
theorem d_M_ask_44 : decode b_M_ask 44 = .ok (.if_icmp .ge 39, 3) := by decide +kernel
theorem d_M_ask_47 : decode b_M_ask 47 = .ok (.aload_n 0, 1) := by decide +kernel
theorem d_M_ask_48 : decode b_M_ask 48 = .ok (.getfield 109, 3) := by decide +kernel
theorem d_M_ask_51 : decode b_M_ask 51 = .ok (.iload_n 3, 1) := by decide +kernel
theorem d_M_ask_52 : decode b_M_ask 52 = .ok (.aload_n 0, 1) := by decide +kernel
theorem d_M_ask_53 : decode b_M_ask 53 = .ok (.getfield 109, 3) := by decide +kernel
theorem d_M_ask_56 : decode b_M_ask 56 = .ok (.iload_n 3, 1) := by decide +kernel
theorem d_M_ask_57 : decode b_M_ask 57 = .ok (.baload, 1) := by decide +kernel
theorem d_M_ask_58 : decode b_M_ask 58 = .ok (.ifCond .ne 13, 3) := by decide +kernel
theorem d_M_ask_61 : decode b_M_ask 61 = .ok (.aload_n 0, 1) := by decide +kernel
theorem d_M_ask_62 : decode b_M_ask 62 = .ok (.getfield 48, 3) := by decide +kernel
theorem d_M_ask_65 : decode b_M_ask 65 = .ok (.iload_n 3, 1) := by decide +kernel
theorem d_M_ask_66 : decode b_M_ask 66 = .ok (.iaload, 1) := by decide +kernel
theorem d_M_ask_67 : decode b_M_ask 67 = .ok (.iload_n 2, 1) := by decide +kernel
theorem d_M_ask_68 : decode b_M_ask 68 = .ok (.if_icmp .ne 7, 3) := by decide +kernel
theorem d_M_ask_71 : decode b_M_ask 71 = .ok (.iconst 1, 1) := by decide +kernel
theorem d_M_ask_72 : decode b_M_ask 72 = .ok (.goto 4, 3) := by decide +kernel
theorem d_M_ask_75 : decode b_M_ask 75 = .ok (.iconst 0, 1) := by decide +kernel
theorem d_M_ask_76 : decode b_M_ask 76 = .ok (.bastore, 1) := by decide +kernel
theorem d_M_ask_77 : decode b_M_ask 77 = .ok (.iinc 3 1, 3) := by decide +kernel
theorem d_M_ask_80 : decode b_M_ask 80 = .ok (.goto (-41), 3) := by decide +kernel
theorem d_M_ask_83 : decode b_M_ask 83 = .ok (.aload_n 0, 1) := by decide +kernel
theorem d_M_ask_84 : decode b_M_ask 84 = .ok (.getfield 24, 3) := by decide +kernel
theorem d_M_ask_87 : decode b_M_ask 87 = .ok (.iload_n 2, 1) := by decide +kernel
theorem d_M_ask_88 : decode b_M_ask 88 = .ok (.iaload, 1) := by decide +kernel
theorem d_M_ask_89 : decode b_M_ask 89 = .ok (.bipush 12, 2) := by decide +kernel
theorem d_M_ask_91 : decode b_M_ask 91 = .ok (.if_icmp .gt 36, 3) := by decide +kernel
theorem d_M_ask_94 : decode b_M_ask 94 = .ok (.aload_n 0, 1) := by decide +kernel
theorem d_M_ask_95 : decode b_M_ask 95 = .ok (.aload_n 0, 1) := by decide +kernel
theorem d_M_ask_96 : decode b_M_ask 96 = .ok (.getfield 27, 3) := by decide +kernel
theorem d_M_ask_99 : decode b_M_ask 99 = .ok (.iload_n 2, 1) := by decide +kernel
theorem d_M_ask_100 : decode b_M_ask 100 = .ok (.iaload, 1) := by decide +kernel
theorem d_M_ask_101 : decode b_M_ask 101 = .ok (.invokevirtual 196, 3) := by decide +kernel
theorem d_M_ask_104 : decode b_M_ask 104 = .ok (.aload_n 0, 1) := by decide +kernel
theorem d_M_ask_105 : decode b_M_ask 105 = .ok (.aload_n 0, 1) := by decide +kernel
theorem d_M_ask_106 : decode b_M_ask 106 = .ok (.getfield 24, 3) := by decide +kernel
theorem d_M_ask_109 : decode b_M_ask 109 = .ok (.iload_n 2, 1) := by decide +kernel
theorem d_M_ask_110 : decode b_M_ask 110 = .ok (.iaload, 1) := by decide +kernel
theorem d_M_ask_111 : decode b_M_ask 111 = .ok (.invokevirtual 162, 3) := by decide +kernel
theorem d_M_ask_114 : decode b_M_ask 114 = .ok (.ifCond .eq 13, 3) := by decide +kernel
theorem d_M_ask_117 : decode b_M_ask 117 = .ok (.aload_n 0, 1) := by decide +kernel
theorem d_M_ask_118 : decode b_M_ask 118 = .ok (.aload_n 0, 1) := by decide +kernel
theorem d_M_ask_119 : decode b_M_ask 119 = .ok (.getfield 30, 3) := by decide +kernel
theorem d_M_ask_122 : decode b_M_ask 122 = .ok (.iload_n 2, 1) := by decide +kernel
theorem d_M_ask_123 : decode b_M_ask 123 = .ok (.iaload, 1) := by decide +kernel
theorem d_M_ask_124 : decode b_M_ask 124 = .ok (.invokevirtual 196, 3) := by decide +kernel
theorem d_M_ask_127 : decode b_M_ask 127 = .ok (.goto (-117), 3) := by decide +kernel
theorem d_M_ask_130 : decode b_M_ask 130 = .ok (.return_, 1) := by decide +kernel
theorem d_M_isBound_0 : decode b_M_isBound 0 = .ok (.iconst 1, 1) := by decide +kernel
theorem d_M_isBound_1 : decode b_M_isBound 1 = .ok (.istore_n 2, 1) := by decide +kernel
theorem d_M_isBound_2 : decode b_M_isBound 2 = .ok (.aload_n 0, 1) := by decide +kernel
theorem d_M_isBound_3 : decode b_M_isBound 3 = .ok (.iconst 0, 1) := by decide +kernel
theorem d_M_isBound_4 : decode b_M_isBound 4 = .ok (.putfield 193, 3) := by decide +kernel
theorem d_M_isBound_7 : decode b_M_isBound 7 = .ok (.aload_n 0, 1) := by decide +kernel
theorem d_M_isBound_8 : decode b_M_isBound 8 = .ok (.iload_n 1, 1) := by decide +kernel
theorem d_M_isBound_9 : decode b_M_isBound 9 = .ok (.invokevirtual 196, 3) := by decide +kernel
theorem d_M_isBound_12 : decode b_M_isBound 12 = .ok (.aload_n 0, 1) := by decide +kernel
theorem d_M_isBound_13 : decode b_M_isBound 13 = .ok (.getfield 193, 3) := by decide +kernel
theorem d_M_isBound_16 : decode b_M_isBound 16 = .ok (.ifCond .le 100, 3) := by decide +kernel
theorem d_M_isBound_19 : decode b_M_isBound 19 = .ok (.aload_n 0, 1) := by decide +kernel
theorem d_M_isBound_20 : decode b_M_isBound 20 = .ok (.dup, 1) := by decide +kernel
theorem d_M_isBound_21 : decode b_M_isBound 21 = .ok (.getfield 193, 3) := by decide +kernel
theorem d_M_isBound_24 : decode b_M_isBound 24 = .ok (.iconst 1, 1) := by decide +kernel
theorem d_M_isBound_25 : decode b_M_isBound 25 = .ok (.isub, 1) := by decide +kernel
theorem d_M_isBound_26 : decode b_M_isBound 26 = .ok (.putfield 193, 3) := by decide +kernel
theorem d_M_isBound_29 : decode b_M_isBound 29 = .ok (.aload_n 0, 1) := by decide +kernel
theorem d_M_isBound_30 : decode b_M_isBound 30 = .ok (.getfield 112, 3) := by decide +kernel
theorem d_M_isBound_33 : decode b_M_isBound 33 = .ok (.aload_n 0, 1) := by decide +kernel
theorem d_M_isBound_34 : decode b_M_isBound 34 = .ok (.getfield 193, 3) := by decide +kernel
theorem d_M_isBound_37 : decode b_M_isBound 37 = .ok (.iaload, 1) := by decide +kernel
theorem d_M_isBound_38 : decode b_M_isBound 38 = .ok (.istore_n 3, 1) := by decide +kernel
theorem d_M_isBound_39 : decode b_M_isBound 39 = .ok (.aload_n 0, 1) := by decide +kernel
theorem d_M_isBound_40 : decode b_M_isBound 40 = .ok (.getfield 24, 3) := by decide +kernel
theorem d_M_isBound_43 : decode b_M_isBound 43 = .ok (.iload_n 3, 1) := by decide +kernel
theorem d_M_isBound_44 : decode b_M_isBound 44 = .ok (.iaload, 1) := by decide +kernel
theorem d_M_isBound_45 : decode b_M_isBound 45 = .ok (.istore 4, 2) := by decide +kernel
theorem d_M_isBound_47 : decode b_M_isBound 47 = .ok (.aload_n 0, 1) := by decide +kernel
theorem d_M_isBound_48 : decode b_M_isBound 48 = .ok (.iload_n 3, 1) := by decide +kernel
theorem d_M_isBound_49 : decode b_M_isBound 49 = .ok (.invokevirtual 203, 3) := by decide +kernel
theorem d_M_isBound_52 : decode b_M_isBound 52 = .ok (.ifCond .ge (-40), 3) := by decide +kernel
theorem d_M_isBound_55 : decode b_M_isBound 55 = .ok (.iload 4, 2) := by decide +kernel
theorem d_M_isBound_57 : decode b_M_isBound 57 = .ok (.bipush 30, 2) := by decide +kernel
theorem d_M_isBound_59 : decode b_M_isBound 59 = .ok (.if_icmp .ge (-47), 3) := by decide +kernel
theorem d_M_isBound_62 : decode b_M_isBound 62 = .ok (.iload 4, 2) := by decide +kernel
theorem d_M_isBound_64 : decode b_M_isBound 64 = .ok (.bipush 20, 2) := by decide +kernel
theorem d_M_isBound_66 : decode b_M_isBound 66 = .ok (.if_icmp .ne 6, 3) := by decide +kernel
theorem d_M_isBound_69 : decode b_M_isBound 69 = .ok (.goto (-57), 3) := by decide +kernel
theorem d_M_isBound_72 : decode b_M_isBound 72 = .ok (.iload 4, 2) := by decide +kernel
theorem d_M_isBound_74 : decode b_M_isBound 74 = .ok (.bipush 21, 2) := by decide +kernel
theorem d_M_isBound_76 : decode b_M_isBound 76 = .ok (.if_icmp .ne 8, 3) := by decide +kernel
theorem d_M_isBound_79 : decode b_M_isBound 79 = .ok (.iconst 0, 1) := by decide +kernel
theorem d_M_isBound_80 : decode b_M_isBound 80 = .ok (.istore_n 2, 1) := by decide +kernel
theorem d_M_isBound_81 : decode b_M_isBound 81 = .ok (.goto (-69), 3) := by decide +kernel
theorem d_M_isBound_84 : decode b_M_isBound 84 = .ok (.aload_n 0, 1) := by decide +kernel
theorem d_M_isBound_85 : decode b_M_isBound 85 = .ok (.aload_n 0, 1) := by decide +kernel
theorem d_M_isBound_86 : decode b_M_isBound 86 = .ok (.getfield 27, 3) := by decide +kernel
theorem d_M_isBound_89 : decode b_M_isBound 89 = .ok (.iload_n 3, 1) := by decide +kernel
theorem d_M_isBound_90 : decode b_M_isBound 90 = .ok (.iaload, 1) := by decide +kernel
theorem d_M_isBound_91 : decode b_M_isBound 91 = .ok (.invokevirtual 196, 3) := by decide +kernel
theorem d_M_isBound_94 : decode b_M_isBound 94 = .ok (.aload_n 0, 1) := by decide +kernel
theorem d_M_isBound_95 : decode b_M_isBound 95 = .ok (.iload 4, 2) := by decide +kernel
theorem d_M_isBound_97 : decode b_M_isBound 97 = .ok (.invokevirtual 162, 3) := by decide +kernel
theorem d_M_isBound_100 : decode b_M_isBound 100 = .ok (.ifCond .eq 13, 3) := by decide +kernel
theorem d_M_isBound_103 : decode b_M_isBound 103 = .ok (.aload_n 0, 1) := by decide +kernel
theorem d_M_isBound_104 : decode b_M_isBound 104 = .ok (.aload_n 0, 1) := by decide +kernel
theorem d_M_isBound_105 : decode b_M_isBound 105 = .ok (.getfield 30, 3) := by decide +kernel
theorem d_M_isBound_108 : decode b_M_isBound 108 = .ok (.iload_n 3, 1) := by decide +kernel
theorem d_M_isBound_109 : decode b_M_isBound 109 = .ok (.iaload, 1) := by decide +kernel
theorem d_M_isBound_110 : decode b_M_isBound 110 = .ok (.invokevirtual 196, 3) := by decide +kernel
theorem d_M_isBound_113 : decode b_M_isBound 113 = .ok (.goto (-101), 3) := by decide +kernel
theorem d_M_isBound_116 : decode b_M_isBound 116 = .ok (.iload_n 2, 1) := by decide +kernel
theorem d_M_isBound_117 : decode b_M_isBound 117 = .ok (.ireturn, 1) := by decide +kernel
theorem d_M_areAllBound_0 : decode b_M_areAllBound 0 = .ok (.aload_n 0, 1) := by decide +kernel
theorem d_M_areAllBound_1 : decode b_M_areAllBound 1 = .ok (.getfield 64, 3) := by decide +kernel
theorem d_M_areAllBound_4 : decode b_M_areAllBound 4 = .ok (.ifCond .lt 14, 3) := by decide +kernel
theorem d_M_areAllBound_7 : decode b_M_areAllBound 7 = .ok (.aload_n 0, 1) := by decide +kernel
theorem d_M_areAllBound_8 : decode b_M_areAllBound 8 = .ok (.aload_n 0, 1) := by decide +kernel
theorem d_M_areAllBound_9 : decode b_M_areAllBound 9 = .ok (.getfield 64, 3) := by decide +kernel
theorem d_M_areAllBound_12 : decode b_M_areAllBound 12 = .ok (.invokevirtual 207, 3) := by decide +kernel
theorem d_M_areAllBound_15 : decode b_M_areAllBound 15 = .ok (.ifCond .eq 7, 3) := by decide +kernel
theorem d_M_areAllBound_18 : decode b_M_areAllBound 18 = .ok (.iconst 1, 1) := by decide +kernel
theorem d_M_areAllBound_19 : decode b_M_areAllBound 19 = .ok (.goto 4, 3) := by decide +kernel
theorem d_M_areAllBound_22 : decode b_M_areAllBound 22 = .ok (.iconst 0, 1) := by decide +kernel
theorem d_M_areAllBound_23 : decode b_M_areAllBound 23 = .ok (.istore_n 1, 1) := by decide +kernel
theorem d_M_areAllBound_24 : decode b_M_areAllBound 24 = .ok (.iconst 0, 1) := by decide +kernel
theorem d_M_areAllBound_25 : decode b_M_areAllBound 25 = .ok (.istore_n 2, 1) := by decide +kernel
theorem d_M_areAllBound_26 : decode b_M_areAllBound 26 = .ok (.iload_n 2, 1) := by decide +kernel
theorem d_M_areAllBound_27 : decode b_M_areAllBound 27 = .ok (.aload_n 0, 1) := by decide +kernel
theorem d_M_areAllBound_28 : decode b_M_areAllBound 28 = .ok (.getfield 149, 3) := by decide +kernel
theorem d_M_areAllBound_31 : decode b_M_areAllBound 31 = .ok (.if_icmp .ge 32, 3) := by decide +kernel
theorem d_M_areAllBound_34 : decode b_M_areAllBound 34 = .ok (.iload_n 1, 1) := by decide +kernel
theorem d_M_areAllBound_35 : decode b_M_areAllBound 35 = .ok (.ifCond .eq 20, 3) := by decide +kernel
theorem d_M_areAllBound_38 : decode b_M_areAllBound 38 = .ok (.aload_n 0, 1) := by decide +kernel
theorem d_M_areAllBound_39 : decode b_M_areAllBound 39 = .ok (.aload_n 0, 1) := by decide +kernel
theorem d_M_areAllBound_40 : decode b_M_areAllBound 40 = .ok (.getfield 70, 3) := by decide +kernel
theorem d_M_areAllBound_43 : decode b_M_areAllBound 43 = .ok (.iload_n 2, 1) := by decide +kernel
theorem d_M_areAllBound_44 : decode b_M_areAllBound 44 = .ok (.iaload, 1) := by decide +kernel
theorem d_M_areAllBound_45 : decode b_M_areAllBound 45 = .ok (.invokevirtual 207, 3) := by decide +kernel
theorem d_M_areAllBound_48 : decode b_M_areAllBound 48 = .ok (.ifCond .eq 7, 3) := by decide +kernel
theorem d_M_areAllBound_51 : decode b_M_areAllBound 51 = .ok (.iconst 1, 1) := by decide +kernel
theorem d_M_areAllBound_52 : decode b_M_areAllBound 52 = .ok (.goto 4, 3) := by decide +kernel
theorem d_M_areAllBound_55 : decode b_M_areAllBound 55 = .ok (.iconst 0, 1) := by decide +kernel
theorem d_M_areAllBound_56 : decode b_M_areAllBound 56 = .ok (.istore_n 1, 1) := by decide +kernel
theorem d_M_areAllBound_57 : decode b_M_areAllBound 57 = .ok (.iinc 2 1, 3) := by decide +kernel
theorem d_M_areAllBound_60 : decode b_M_areAllBound 60 = .ok (.goto (-34), 3) := by decide +kernel
theorem d_M_areAllBound_63 : decode b_M_areAllBound 63 = .ok (.iload_n 1, 1) := by decide +kernel
theorem d_M_areAllBound_64 : decode b_M_areAllBound 64 = .ok (.ireturn, 1) := by decide +kernel
theorem d_M_areAggregatesRight_0 : decode b_M_areAggregatesRight 0 = .ok (.aload_n 0, 1) := by decide +kernel
theorem d_M_areAggregatesRight_1 : decode b_M_areAggregatesRight 1 = .ok (.getfield 60, 3) := by decide +kernel
theorem d_M_areAggregatesRight_4 : decode b_M_areAggregatesRight 4 = .ok (.ifCond .lt 15, 3) := by decide +kernel
theorem d_M_areAggregatesRight_7 : decode b_M_areAggregatesRight 7 = .ok (.aload_n 0, 1) := by decide +kernel
theorem d_M_areAggregatesRight_8 : decode b_M_areAggregatesRight 8 = .ok (.getfield 42, 3) := by decide +kernel
theorem d_M_areAggregatesRight_11 : decode b_M_areAggregatesRight 11 = .ok (.aload_n 0, 1) := by decide +kernel
theorem d_M_areAggregatesRight_12 : decode b_M_areAggregatesRight 12 = .ok (.getfield 60, 3) := by decide +kernel
theorem d_M_areAggregatesRight_15 : decode b_M_areAggregatesRight 15 = .ok (.baload, 1) := by decide +kernel
theorem d_M_areAggregatesRight_16 : decode b_M_areAggregatesRight 16 = .ok (.ifCond .ne 7, 3) := by decide +kernel
theorem d_M_areAggregatesRight_19 : decode b_M_areAggregatesRight 19 = .ok (.iconst 1, 1) := by decide +kernel
theorem d_M_areAggregatesRight_20 : decode b_M_areAggregatesRight 20 = .ok (.goto 4, 3) := by decide +kernel
theorem d_M_areAggregatesRight_23 : decode b_M_areAggregatesRight 23 = .ok (.iconst 0, 1) := by decide +kernel
theorem d_M_areAggregatesRight_24 : decode b_M_areAggregatesRight 24 = .ok (.istore_n 1, 1) := by decide +kernel
theorem d_M_areAggregatesRight_25 : decode b_M_areAggregatesRight 25 = .ok (.iconst 0, 1) := by decide +kernel
theorem d_M_areAggregatesRight_26 : decode b_M_areAggregatesRight 26 = .ok (.istore_n 2, 1) := by decide +kernel
theorem d_M_areAggregatesRight_27 : decode b_M_areAggregatesRight 27 = .ok (.iload_n 2, 1) := by decide +kernel
theorem d_M_areAggregatesRight_28 : decode b_M_areAggregatesRight 28 = .ok (.aload_n 0, 1) := by decide +kernel
theorem d_M_areAggregatesRight_29 : decode b_M_areAggregatesRight 29 = .ok (.getfield 143, 3) := by decide +kernel
theorem d_M_areAggregatesRight_32 : decode b_M_areAggregatesRight 32 = .ok (.if_icmp .ge 42, 3) := by decide +kernel
theorem d_M_areAggregatesRight_35 : decode b_M_areAggregatesRight 35 = .ok (.iload_n 1, 1) := by decide +kernel
theorem d_M_areAggregatesRight_36 : decode b_M_areAggregatesRight 36 = .ok (.ifCond .eq 30, 3) := by decide +kernel
theorem d_M_areAggregatesRight_39 : decode b_M_areAggregatesRight 39 = .ok (.aload_n 0, 1) := by decide +kernel
theorem d_M_areAggregatesRight_40 : decode b_M_areAggregatesRight 40 = .ok (.getfield 54, 3) := by decide +kernel
theorem d_M_areAggregatesRight_43 : decode b_M_areAggregatesRight 43 = .ok (.iload_n 2, 1) := by decide +kernel
theorem d_M_areAggregatesRight_44 : decode b_M_areAggregatesRight 44 = .ok (.iaload, 1) := by decide +kernel
theorem d_M_areAggregatesRight_45 : decode b_M_areAggregatesRight 45 = .ok (.ifCond .eq 17, 3) := by decide +kernel
theorem d_M_areAggregatesRight_48 : decode b_M_areAggregatesRight 48 = .ok (.aload_n 0, 1) := by decide +kernel
theorem d_M_areAggregatesRight_49 : decode b_M_areAggregatesRight 49 = .ok (.getfield 42, 3) := by decide +kernel
theorem d_M_areAggregatesRight_52 : decode b_M_areAggregatesRight 52 = .ok (.aload_n 0, 1) := by decide +kernel
theorem d_M_areAggregatesRight_53 : decode b_M_areAggregatesRight 53 = .ok (.getfield 57, 3) := by decide +kernel
theorem d_M_areAggregatesRight_56 : decode b_M_areAggregatesRight 56 = .ok (.iload_n 2, 1) := by decide +kernel
theorem d_M_areAggregatesRight_57 : decode b_M_areAggregatesRight 57 = .ok (.iaload, 1) := by decide +kernel
theorem d_M_areAggregatesRight_58 : decode b_M_areAggregatesRight 58 = .ok (.baload, 1) := by decide +kernel
theorem d_M_areAggregatesRight_59 : decode b_M_areAggregatesRight 59 = .ok (.ifCond .ne 7, 3) := by decide +kernel
theorem d_M_areAggregatesRight_62 : decode b_M_areAggregatesRight 62 = .ok (.iconst 1, 1) := by decide +kernel
theorem d_M_areAggregatesRight_63 : decode b_M_areAggregatesRight 63 = .ok (.goto 4, 3) := by decide +kernel
theorem d_M_areAggregatesRight_66 : decode b_M_areAggregatesRight 66 = .ok (.iconst 0, 1) := by decide +kernel
theorem d_M_areAggregatesRight_67 : decode b_M_areAggregatesRight 67 = .ok (.istore_n 1, 1) := by decide +kernel
theorem d_M_areAggregatesRight_68 : decode b_M_areAggregatesRight 68 = .ok (.iinc 2 1, 3) := by decide +kernel
theorem d_M_areAggregatesRight_71 : decode b_M_areAggregatesRight 71 = .ok (.goto (-44), 3) := by decide +kernel
theorem d_M_areAggregatesRight_74 : decode b_M_areAggregatesRight 74 = .ok (.iconst 0, 1) := by decide +kernel
theorem d_M_areAggregatesRight_75 : decode b_M_areAggregatesRight 75 = .ok (.istore_n 2, 1) := by decide +kernel
theorem d_M_areAggregatesRight_76 : decode b_M_areAggregatesRight 76 = .ok (.iload_n 2, 1) := by decide +kernel
theorem d_M_areAggregatesRight_77 : decode b_M_areAggregatesRight 77 = .ok (.aload_n 0, 1) := by decide +kernel
theorem d_M_areAggregatesRight_78 : decode b_M_areAggregatesRight 78 = .ok (.getfield 146, 3) := by decide +kernel
theorem d_M_areAggregatesRight_81 : decode b_M_areAggregatesRight 81 = .ok (.if_icmp .ge 33, 3) := by decide +kernel
theorem d_M_areAggregatesRight_84 : decode b_M_areAggregatesRight 84 = .ok (.iload_n 1, 1) := by decide +kernel
theorem d_M_areAggregatesRight_85 : decode b_M_areAggregatesRight 85 = .ok (.ifCond .eq 21, 3) := by decide +kernel
theorem d_M_areAggregatesRight_88 : decode b_M_areAggregatesRight 88 = .ok (.aload_n 0, 1) := by decide +kernel
theorem d_M_areAggregatesRight_89 : decode b_M_areAggregatesRight 89 = .ok (.getfield 42, 3) := by decide +kernel
theorem d_M_areAggregatesRight_92 : decode b_M_areAggregatesRight 92 = .ok (.aload_n 0, 1) := by decide +kernel
theorem d_M_areAggregatesRight_93 : decode b_M_areAggregatesRight 93 = .ok (.getfield 67, 3) := by decide +kernel
theorem d_M_areAggregatesRight_96 : decode b_M_areAggregatesRight 96 = .ok (.iload_n 2, 1) := by decide +kernel
theorem d_M_areAggregatesRight_97 : decode b_M_areAggregatesRight 97 = .ok (.iaload, 1) := by decide +kernel
theorem d_M_areAggregatesRight_98 : decode b_M_areAggregatesRight 98 = .ok (.baload, 1) := by decide +kernel
theorem d_M_areAggregatesRight_99 : decode b_M_areAggregatesRight 99 = .ok (.ifCond .ne 7, 3) := by decide +kernel
theorem d_M_areAggregatesRight_102 : decode b_M_areAggregatesRight 102 = .ok (.iconst 1, 1) := by decide +kernel
theorem d_M_areAggregatesRight_103 : decode b_M_areAggregatesRight 103 = .ok (.goto 4, 3) := by decide +kernel
theorem d_M_areAggregatesRight_106 : decode b_M_areAggregatesRight 106 = .ok (.iconst 0, 1) := by decide +kernel
theorem d_M_areAggregatesRight_107 : decode b_M_areAggregatesRight 107 = .ok (.istore_n 1, 1) := by decide +kernel
theorem d_M_areAggregatesRight_108 : decode b_M_areAggregatesRight 108 = .ok (.iinc 2 1, 3) := by decide +kernel
theorem d_M_areAggregatesRight_111 : decode b_M_areAggregatesRight 111 = .ok (.goto (-35), 3) := by decide +kernel
theorem d_M_areAggregatesRight_114 : decode b_M_areAggregatesRight 114 = .ok (.iload_n 1, 1) := by decide +kernel
theorem d_M_areAggregatesRight_115 : decode b_M_areAggregatesRight 115 = .ok (.ireturn, 1) := by decide +kernel
theorem d_M_hasColumns_0 : decode b_M_hasColumns 0 = .ok (.iconst 1, 1) := by decide +kernel
theorem d_M_hasColumns_1 : decode b_M_hasColumns 1 = .ok (.istore_n 3, 1) := by decide +kernel
theorem d_M_hasColumns_2 : decode b_M_hasColumns 2 = .ok (.aload_n 0, 1) := by decide +kernel
theorem d_M_hasColumns_3 : decode b_M_hasColumns 3 = .ok (.iconst 0, 1) := by decide +kernel
theorem d_M_hasColumns_4 : decode b_M_hasColumns 4 = .ok (.putfield 193, 3) := by decide +kernel
theorem d_M_hasColumns_7 : decode b_M_hasColumns 7 = .ok (.aload_n 0, 1) := by decide +kernel
theorem d_M_hasColumns_8 : decode b_M_hasColumns 8 = .ok (.iload_n 1, 1) := by decide +kernel
theorem d_M_hasColumns_9 : decode b_M_hasColumns 9 = .ok (.invokevirtual 196, 3) := by decide +kernel
theorem d_M_hasColumns_12 : decode b_M_hasColumns 12 = .ok (.aload_n 0, 1) := by decide +kernel
theorem d_M_hasColumns_13 : decode b_M_hasColumns 13 = .ok (.getfield 193, 3) := by decide +kernel
theorem d_M_hasColumns_16 : decode b_M_hasColumns 16 = .ok (.ifCond .le 132, 3) := by decide +kernel
theorem d_M_hasColumns_19 : decode b_M_hasColumns 19 = .ok (.aload_n 0, 1) := by decide +kernel
theorem d_M_hasColumns_20 : decode b_M_hasColumns 20 = .ok (.dup, 1) := by decide +kernel
theorem d_M_hasColumns_21 : decode b_M_hasColumns 21 = .ok (.getfield 193, 3) := by decide +kernel
theorem d_M_hasColumns_24 : decode b_M_hasColumns 24 = .ok (.iconst 1, 1) := by decide +kernel
theorem d_M_hasColumns_25 : decode b_M_hasColumns 25 = .ok (.isub, 1) := by decide +kernel
theorem d_M_hasColumns_26 : decode b_M_hasColumns 26 = .ok (.putfield 193, 3) := by decide +kernel
theorem d_M_hasColumns_29 : decode b_M_hasColumns 29 = .ok (.aload_n 0, 1) := by decide +kernel
theorem d_M_hasColumns_30 : decode b_M_hasColumns 30 = .ok (.getfield 112, 3) := by decide +kernel
theorem d_M_hasColumns_33 : decode b_M_hasColumns 33 = .ok (.aload_n 0, 1) := by decide +kernel
theorem d_M_hasColumns_34 : decode b_M_hasColumns 34 = .ok (.getfield 193, 3) := by decide +kernel
theorem d_M_hasColumns_37 : decode b_M_hasColumns 37 = .ok (.iaload, 1) := by decide +kernel
theorem d_M_hasColumns_38 : decode b_M_hasColumns 38 = .ok (.istore 4, 2) := by decide +kernel
theorem d_M_hasColumns_40 : decode b_M_hasColumns 40 = .ok (.aload_n 0, 1) := by decide +kernel
theorem d_M_hasColumns_41 : decode b_M_hasColumns 41 = .ok (.getfield 24, 3) := by decide +kernel
theorem d_M_hasColumns_44 : decode b_M_hasColumns 44 = .ok (.iload 4, 2) := by decide +kernel
theorem d_M_hasColumns_46 : decode b_M_hasColumns 46 = .ok (.iaload, 1) := by decide +kernel
theorem d_M_hasColumns_47 : decode b_M_hasColumns 47 = .ok (.istore 5, 2) := by decide +kernel
theorem d_M_hasColumns_49 : decode b_M_hasColumns 49 = .ok (.iload 5, 2) := by decide +kernel
theorem d_M_hasColumns_51 : decode b_M_hasColumns 51 = .ok (.bipush 21, 2) := by decide +kernel
theorem d_M_hasColumns_53 : decode b_M_hasColumns 53 = .ok (.if_icmp .ne 54, 3) := by decide +kernel
theorem d_M_hasColumns_56 : decode b_M_hasColumns 56 = .ok (.iload_n 3, 1) := by decide +kernel
theorem d_M_hasColumns_57 : decode b_M_hasColumns 57 = .ok (.ifCond .eq 45, 3) := by decide +kernel
theorem d_M_hasColumns_60 : decode b_M_hasColumns 60 = .ok (.aload_n 0, 1) := by decide +kernel
theorem d_M_hasColumns_61 : decode b_M_hasColumns 61 = .ok (.getfield 27, 3) := by decide +kernel
theorem d_M_hasColumns_64 : decode b_M_hasColumns 64 = .ok (.iload 4, 2) := by decide +kernel
theorem d_M_hasColumns_66 : decode b_M_hasColumns 66 = .ok (.iaload, 1) := by decide +kernel
theorem d_M_hasColumns_67 : decode b_M_hasColumns 67 = .ok (.iload_n 2, 1) := by decide +kernel
theorem d_M_hasColumns_68 : decode b_M_hasColumns 68 = .ok (.if_icmp .gt 34, 3) := by decide +kernel
theorem d_M_hasColumns_71 : decode b_M_hasColumns 71 = .ok (.aload_n 0, 1) := by decide +kernel
theorem d_M_hasColumns_72 : decode b_M_hasColumns 72 = .ok (.getfield 30, 3) := by decide +kernel
theorem d_M_hasColumns_75 : decode b_M_hasColumns 75 = .ok (.iload 4, 2) := by decide +kernel
theorem d_M_hasColumns_77 : decode b_M_hasColumns 77 = .ok (.iaload, 1) := by decide +kernel
theorem d_M_hasColumns_78 : decode b_M_hasColumns 78 = .ok (.aload_n 0, 1) := by decide +kernel
theorem d_M_hasColumns_79 : decode b_M_hasColumns 79 = .ok (.getfield 7, 3) := by decide +kernel
theorem d_M_hasColumns_82 : decode b_M_hasColumns 82 = .ok (.aload_n 0, 1) := by decide +kernel
theorem d_M_hasColumns_83 : decode b_M_hasColumns 83 = .ok (.getfield 51, 3) := by decide +kernel
theorem d_M_hasColumns_86 : decode b_M_hasColumns 86 = .ok (.aload_n 0, 1) := by decide +kernel
theorem d_M_hasColumns_87 : decode b_M_hasColumns 87 = .ok (.getfield 27, 3) := by decide +kernel
theorem d_M_hasColumns_90 : decode b_M_hasColumns 90 = .ok (.iload 4, 2) := by decide +kernel
theorem d_M_hasColumns_92 : decode b_M_hasColumns 92 = .ok (.iaload, 1) := by decide +kernel
theorem d_M_hasColumns_93 : decode b_M_hasColumns 93 = .ok (.iaload, 1) := by decide +kernel
theorem d_M_hasColumns_94 : decode b_M_hasColumns 94 = .ok (.iaload, 1) := by decide +kernel
theorem d_M_hasColumns_95 : decode b_M_hasColumns 95 = .ok (.if_icmp .ge 7, 3) := by decide +kernel
theorem d_M_hasColumns_98 : decode b_M_hasColumns 98 = .ok (.iconst 1, 1) := by decide +kernel
theorem d_M_hasColumns_99 : decode b_M_hasColumns 99 = .ok (.goto 4, 3) := by decide +kernel
theorem d_M_hasColumns_102 : decode b_M_hasColumns 102 = .ok (.iconst 0, 1) := by decide +kernel
theorem d_M_hasColumns_103 : decode b_M_hasColumns 103 = .ok (.istore_n 3, 1) := by decide +kernel
theorem d_M_hasColumns_104 : decode b_M_hasColumns 104 = .ok (.goto 41, 3) := by decide +kernel
theorem d_M_hasColumns_107 : decode b_M_hasColumns 107 = .ok (.iload 5, 2) := by decide +kernel
theorem d_M_hasColumns_109 : decode b_M_hasColumns 109 = .ok (.bipush 20, 2) := by decide +kernel
theorem d_M_hasColumns_111 : decode b_M_hasColumns 111 = .ok (.if_icmp .eq 34, 3) := by decide +kernel
theorem d_M_hasColumns_114 : decode b_M_hasColumns 114 = .ok (.aload_n 0, 1) := by decide +kernel
theorem d_M_hasColumns_115 : decode b_M_hasColumns 115 = .ok (.aload_n 0, 1) := by decide +kernel
theorem d_M_hasColumns_116 : decode b_M_hasColumns 116 = .ok (.getfield 27, 3) := by decide +kernel
theorem d_M_hasColumns_119 : decode b_M_hasColumns 119 = .ok (.iload 4, 2) := by decide +kernel
theorem d_M_hasColumns_121 : decode b_M_hasColumns 121 = .ok (.iaload, 1) := by decide +kernel
theorem d_M_hasColumns_122 : decode b_M_hasColumns 122 = .ok (.invokevirtual 196, 3) := by decide +kernel
theorem d_M_hasColumns_125 : decode b_M_hasColumns 125 = .ok (.aload_n 0, 1) := by decide +kernel
theorem d_M_hasColumns_126 : decode b_M_hasColumns 126 = .ok (.iload 5, 2) := by decide +kernel
theorem d_M_hasColumns_128 : decode b_M_hasColumns 128 = .ok (.invokevirtual 162, 3) := by decide +kernel
theorem d_M_hasColumns_131 : decode b_M_hasColumns 131 = .ok (.ifCond .eq 14, 3) := by decide +kernel
theorem d_M_hasColumns_134 : decode b_M_hasColumns 134 = .ok (.aload_n 0, 1) := by decide +kernel
theorem d_M_hasColumns_135 : decode b_M_hasColumns 135 = .ok (.aload_n 0, 1) := by decide +kernel
theorem d_M_hasColumns_136 : decode b_M_hasColumns 136 = .ok (.getfield 30, 3) := by decide +kernel
theorem d_M_hasColumns_139 : decode b_M_hasColumns 139 = .ok (.iload 4, 2) := by decide +kernel
theorem d_M_hasColumns_141 : decode b_M_hasColumns 141 = .ok (.iaload, 1) := by decide +kernel
theorem d_M_hasColumns_142 : decode b_M_hasColumns 142 = .ok (.invokevirtual 196, 3) := by decide +kernel
theorem d_M_hasColumns_145 : decode b_M_hasColumns 145 = .ok (.goto (-133), 3) := by decide +kernel
theorem d_M_hasColumns_148 : decode b_M_hasColumns 148 = .ok (.iload_n 3, 1) := by decide +kernel
theorem d_M_hasColumns_149 : decode b_M_hasColumns 149 = .ok (.ireturn, 1) := by decide +kernel
theorem d_M_areColumnsRight_0 : decode b_M_areColumnsRight 0 = .ok (.iconst 1, 1) := by decide +kernel
theorem d_M_areColumnsRight_1 : decode b_M_areColumnsRight 1 = .ok (.istore_n 1, 1) := by decide +kernel
theorem d_M_areColumnsRight_2 : decode b_M_areColumnsRight 2 = .ok (.iconst 0, 1) := by decide +kernel
theorem d_M_areColumnsRight_3 : decode b_M_areColumnsRight 3 = .ok (.istore_n 2, 1) := by decide +kernel
theorem d_M_areColumnsRight_4 : decode b_M_areColumnsRight 4 = .ok (.iload_n 2, 1) := by decide +kernel
theorem d_M_areColumnsRight_5 : decode b_M_areColumnsRight 5 = .ok (.aload_n 0, 1) := by decide +kernel
theorem d_M_areColumnsRight_6 : decode b_M_areColumnsRight 6 = .ok (.getfield 143, 3) := by decide +kernel
theorem d_M_areColumnsRight_9 : decode b_M_areColumnsRight 9 = .ok (.if_icmp .ge 42, 3) := by decide +kernel
theorem d_M_areColumnsRight_12 : decode b_M_areColumnsRight 12 = .ok (.iload_n 1, 1) := by decide +kernel
theorem d_M_areColumnsRight_13 : decode b_M_areColumnsRight 13 = .ok (.ifCond .eq 30, 3) := by decide +kernel
theorem d_M_areColumnsRight_16 : decode b_M_areColumnsRight 16 = .ok (.aload_n 0, 1) := by decide +kernel
theorem d_M_areColumnsRight_17 : decode b_M_areColumnsRight 17 = .ok (.getfield 54, 3) := by decide +kernel
theorem d_M_areColumnsRight_20 : decode b_M_areColumnsRight 20 = .ok (.iload_n 2, 1) := by decide +kernel
theorem d_M_areColumnsRight_21 : decode b_M_areColumnsRight 21 = .ok (.iaload, 1) := by decide +kernel
theorem d_M_areColumnsRight_22 : decode b_M_areColumnsRight 22 = .ok (.ifCond .eq 17, 3) := by decide +kernel
theorem d_M_areColumnsRight_25 : decode b_M_areColumnsRight 25 = .ok (.aload_n 0, 1) := by decide +kernel
theorem d_M_areColumnsRight_26 : decode b_M_areColumnsRight 26 = .ok (.aload_n 0, 1) := by decide +kernel
theorem d_M_areColumnsRight_27 : decode b_M_areColumnsRight 27 = .ok (.getfield 57, 3) := by decide +kernel
theorem d_M_areColumnsRight_30 : decode b_M_areColumnsRight 30 = .ok (.iload_n 2, 1) := by decide +kernel
theorem d_M_areColumnsRight_31 : decode b_M_areColumnsRight 31 = .ok (.iaload, 1) := by decide +kernel
theorem d_M_areColumnsRight_32 : decode b_M_areColumnsRight 32 = .ok (.iload_n 2, 1) := by decide +kernel
theorem d_M_areColumnsRight_33 : decode b_M_areColumnsRight 33 = .ok (.invokevirtual 200, 3) := by decide +kernel
theorem d_M_areColumnsRight_36 : decode b_M_areColumnsRight 36 = .ok (.ifCond .eq 7, 3) := by decide +kernel
theorem d_M_areColumnsRight_39 : decode b_M_areColumnsRight 39 = .ok (.iconst 1, 1) := by decide +kernel
theorem d_M_areColumnsRight_40 : decode b_M_areColumnsRight 40 = .ok (.goto 4, 3) := by decide +kernel
theorem d_M_areColumnsRight_43 : decode b_M_areColumnsRight 43 = .ok (.iconst 0, 1) := by decide +kernel
theorem d_M_areColumnsRight_44 : decode b_M_areColumnsRight 44 = .ok (.istore_n 1, 1) := by decide +kernel
theorem d_M_areColumnsRight_45 : decode b_M_areColumnsRight 45 = .ok (.iinc 2 1, 3) := by decide +kernel
theorem d_M_areColumnsRight_48 : decode b_M_areColumnsRight 48 = .ok (.goto (-44), 3) := by decide +kernel
theorem d_M_areColumnsRight_51 : decode b_M_areColumnsRight 51 = .ok (.iload_n 1, 1) := by decide +kernel
theorem d_M_areColumnsRight_52 : decode b_M_areColumnsRight 52 = .ok (.ifCond .eq 55, 3) := by decide +kernel
theorem d_M_areColumnsRight_55 : decode b_M_areColumnsRight 55 = .ok (.aload_n 0, 1) := by decide +kernel
theorem d_M_areColumnsRight_56 : decode b_M_areColumnsRight 56 = .ok (.getfield 60, 3) := by decide +kernel
theorem d_M_areColumnsRight_59 : decode b_M_areColumnsRight 59 = .ok (.ifCond .lt 20, 3) := by decide +kernel
theorem d_M_areColumnsRight_62 : decode b_M_areColumnsRight 62 = .ok (.aload_n 0, 1) := by decide +kernel
theorem d_M_areColumnsRight_63 : decode b_M_areColumnsRight 63 = .ok (.aload_n 0, 1) := by decide +kernel
theorem d_M_areColumnsRight_64 : decode b_M_areColumnsRight 64 = .ok (.getfield 60, 3) := by decide +kernel
theorem d_M_areColumnsRight_67 : decode b_M_areColumnsRight 67 = .ok (.aload_n 0, 1) := by decide +kernel
theorem d_M_areColumnsRight_68 : decode b_M_areColumnsRight 68 = .ok (.getfield 143, 3) := by decide +kernel
theorem d_M_areColumnsRight_71 : decode b_M_areColumnsRight 71 = .ok (.iconst 1, 1) := by decide +kernel
theorem d_M_areColumnsRight_72 : decode b_M_areColumnsRight 72 = .ok (.isub, 1) := by decide +kernel
theorem d_M_areColumnsRight_73 : decode b_M_areColumnsRight 73 = .ok (.invokevirtual 200, 3) := by decide +kernel
theorem d_M_areColumnsRight_76 : decode b_M_areColumnsRight 76 = .ok (.ifCond .eq 31, 3) := by decide +kernel
theorem d_M_areColumnsRight_79 : decode b_M_areColumnsRight 79 = .ok (.aload_n 0, 1) := by decide +kernel
theorem d_M_areColumnsRight_80 : decode b_M_areColumnsRight 80 = .ok (.getfield 64, 3) := by decide +kernel
theorem d_M_areColumnsRight_83 : decode b_M_areColumnsRight 83 = .ok (.ifCond .lt 20, 3) := by decide +kernel
theorem d_M_areColumnsRight_86 : decode b_M_areColumnsRight 86 = .ok (.aload_n 0, 1) := by decide +kernel
theorem d_M_areColumnsRight_87 : decode b_M_areColumnsRight 87 = .ok (.aload_n 0, 1) := by decide +kernel
theorem d_M_areColumnsRight_88 : decode b_M_areColumnsRight 88 = .ok (.getfield 64, 3) := by decide +kernel
theorem d_M_areColumnsRight_91 : decode b_M_areColumnsRight 91 = .ok (.aload_n 0, 1) := by decide +kernel
theorem d_M_areColumnsRight_92 : decode b_M_areColumnsRight 92 = .ok (.getfield 143, 3) := by decide +kernel
theorem d_M_areColumnsRight_95 : decode b_M_areColumnsRight 95 = .ok (.iconst 1, 1) := by decide +kernel
theorem d_M_areColumnsRight_96 : decode b_M_areColumnsRight 96 = .ok (.isub, 1) := by decide +kernel
theorem d_M_areColumnsRight_97 : decode b_M_areColumnsRight 97 = .ok (.invokevirtual 200, 3) := by decide +kernel
theorem d_M_areColumnsRight_100 : decode b_M_areColumnsRight 100 = .ok (.ifCond .eq 7, 3) := by decide +kernel
theorem d_M_areColumnsRight_103 : decode b_M_areColumnsRight 103 = .ok (.iconst 1, 1) := by decide +kernel
theorem d_M_areColumnsRight_104 : decode b_M_areColumnsRight 104 = .ok (.goto 4, 3) := by decide +kernel
theorem d_M_areColumnsRight_107 : decode b_M_areColumnsRight 107 = .ok (.iconst 0, 1) := by decide +kernel
theorem d_M_areColumnsRight_108 : decode b_M_areColumnsRight 108 = .ok (.istore_n 1, 1) := by decide +kernel
theorem d_M_areColumnsRight_109 : decode b_M_areColumnsRight 109 = .ok (.iconst 0, 1) := by decide +kernel
theorem d_M_areColumnsRight_110 : decode b_M_areColumnsRight 110 = .ok (.istore_n 2, 1) := by decide +kernel
theorem d_M_areColumnsRight_111 : decode b_M_areColumnsRight 111 = .ok (.iload_n 2, 1) := by decide +kernel
theorem d_M_areColumnsRight_112 : decode b_M_areColumnsRight 112 = .ok (.aload_n 0, 1) := by decide +kernel
theorem d_M_areColumnsRight_113 : decode b_M_areColumnsRight 113 = .ok (.getfield 146, 3) := by decide +kernel
theorem d_M_areColumnsRight_116 : decode b_M_areColumnsRight 116 = .ok (.if_icmp .ge 38, 3) := by decide +kernel
theorem d_M_areColumnsRight_119 : decode b_M_areColumnsRight 119 = .ok (.iload_n 1, 1) := by decide +kernel
theorem d_M_areColumnsRight_120 : decode b_M_areColumnsRight 120 = .ok (.ifCond .eq 26, 3) := by decide +kernel
theorem d_M_areColumnsRight_123 : decode b_M_areColumnsRight 123 = .ok (.aload_n 0, 1) := by decide +kernel
theorem d_M_areColumnsRight_124 : decode b_M_areColumnsRight 124 = .ok (.aload_n 0, 1) := by decide +kernel
theorem d_M_areColumnsRight_125 : decode b_M_areColumnsRight 125 = .ok (.getfield 67, 3) := by decide +kernel
theorem d_M_areColumnsRight_128 : decode b_M_areColumnsRight 128 = .ok (.iload_n 2, 1) := by decide +kernel
theorem d_M_areColumnsRight_129 : decode b_M_areColumnsRight 129 = .ok (.iaload, 1) := by decide +kernel
theorem d_M_areColumnsRight_130 : decode b_M_areColumnsRight 130 = .ok (.aload_n 0, 1) := by decide +kernel
theorem d_M_areColumnsRight_131 : decode b_M_areColumnsRight 131 = .ok (.getfield 143, 3) := by decide +kernel
theorem d_M_areColumnsRight_134 : decode b_M_areColumnsRight 134 = .ok (.iconst 1, 1) := by decide +kernel
theorem d_M_areColumnsRight_135 : decode b_M_areColumnsRight 135 = .ok (.isub, 1) := by decide +kernel
theorem d_M_areColumnsRight_136 : decode b_M_areColumnsRight 136 = .ok (.invokevirtual 200, 3) := by decide +kernel
theorem d_M_areColumnsRight_139 : decode b_M_areColumnsRight 139 = .ok (.ifCond .eq 7, 3) := by decide +kernel
theorem d_M_areColumnsRight_142 : decode b_M_areColumnsRight 142 = .ok (.iconst 1, 1) := by decide +kernel
theorem d_M_areColumnsRight_143 : decode b_M_areColumnsRight 143 = .ok (.goto 4, 3) := by decide +kernel
theorem d_M_areColumnsRight_146 : decode b_M_areColumnsRight 146 = .ok (.iconst 0, 1) := by decide +kernel
theorem d_M_areColumnsRight_147 : decode b_M_areColumnsRight 147 = .ok (.istore_n 1, 1) := by decide +kernel
theorem d_M_areColumnsRight_148 : decode b_M_areColumnsRight 148 = .ok (.iinc 2 1, 3) := by decide +kernel
theorem d_M_areColumnsRight_151 : decode b_M_areColumnsRight 151 = .ok (.goto (-40), 3) := by decide +kernel
theorem d_M_areColumnsRight_154 : decode b_M_areColumnsRight 154 = .ok (.iconst 0, 1) := by decide +kernel
theorem d_M_areColumnsRight_155 : decode b_M_areColumnsRight 155 = .ok (.istore_n 2, 1) := by decide +kernel
theorem d_M_areColumnsRight_156 : decode b_M_areColumnsRight 156 = .ok (.iload_n 2, 1) := by decide +kernel
theorem d_M_areColumnsRight_157 : decode b_M_areColumnsRight 157 = .ok (.aload_n 0, 1) := by decide +kernel
theorem d_M_areColumnsRight_158 : decode b_M_areColumnsRight 158 = .ok (.getfield 149, 3) := by decide +kernel
theorem d_M_areColumnsRight_161 : decode b_M_areColumnsRight 161 = .ok (.if_icmp .ge 38, 3) := by decide +kernel
theorem d_M_areColumnsRight_164 : decode b_M_areColumnsRight 164 = .ok (.iload_n 1, 1) := by decide +kernel
theorem d_M_areColumnsRight_165 : decode b_M_areColumnsRight 165 = .ok (.ifCond .eq 26, 3) := by decide +kernel
theorem d_M_areColumnsRight_168 : decode b_M_areColumnsRight 168 = .ok (.aload_n 0, 1) := by decide +kernel
theorem d_M_areColumnsRight_169 : decode b_M_areColumnsRight 169 = .ok (.aload_n 0, 1) := by decide +kernel
theorem d_M_areColumnsRight_170 : decode b_M_areColumnsRight 170 = .ok (.getfield 70, 3) := by decide +kernel
theorem d_M_areColumnsRight_173 : decode b_M_areColumnsRight 173 = .ok (.iload_n 2, 1) := by decide +kernel
theorem d_M_areColumnsRight_174 : decode b_M_areColumnsRight 174 = .ok (.iaload, 1) := by decide +kernel
theorem d_M_areColumnsRight_175 : decode b_M_areColumnsRight 175 = .ok (.aload_n 0, 1) := by decide +kernel
theorem d_M_areColumnsRight_176 : decode b_M_areColumnsRight 176 = .ok (.getfield 143, 3) := by decide +kernel
theorem d_M_areColumnsRight_179 : decode b_M_areColumnsRight 179 = .ok (.iconst 1, 1) := by decide +kernel
theorem d_M_areColumnsRight_180 : decode b_M_areColumnsRight 180 = .ok (.isub, 1) := by decide +kernel
theorem d_M_areColumnsRight_181 : decode b_M_areColumnsRight 181 = .ok (.invokevirtual 200, 3) := by decide +kernel
theorem d_M_areColumnsRight_184 : decode b_M_areColumnsRight 184 = .ok (.ifCond .eq 7, 3) := by decide +kernel
theorem d_M_areColumnsRight_187 : decode b_M_areColumnsRight 187 = .ok (.iconst 1, 1) := by decide +kernel
theorem d_M_areColumnsRight_188 : decode b_M_areColumnsRight 188 = .ok (.goto 4, 3) := by decide +kernel
theorem d_M_areColumnsRight_191 : decode b_M_areColumnsRight 191 = .ok (.iconst 0, 1) := by decide +kernel
theorem d_M_areColumnsRight_192 : decode b_M_areColumnsRight 192 = .ok (.istore_n 1, 1) := by decide +kernel
theorem d_M_areColumnsRight_193 : decode b_M_areColumnsRight 193 = .ok (.iinc 2 1, 3) := by decide +kernel
theorem d_M_areColumnsRight_196 : decode b_M_areColumnsRight 196 = .ok (.goto (-40), 3) := by decide +kernel
theorem d_M_areColumnsRight_199 : decode b_M_areColumnsRight 199 = .ok (.iload_n 1, 1) := by decide +kernel
theorem d_M_areColumnsRight_200 : decode b_M_areColumnsRight 200 = .ok (.ireturn, 1) := by decide +kernel
theorem d_M_run_0 : decode b_M_run 0 = .ok (.aload_n 0, 1) := by decide +kernel
theorem d_M_run_1 : decode b_M_run 1 = .ok (.iconst 0, 1) := by decide +kernel
theorem d_M_run_2 : decode b_M_run 2 = .ok (.putfield 268, 3) := by decide +kernel
theorem d_M_run_5 : decode b_M_run 5 = .ok (.aload_n 0, 1) := by decide +kernel
theorem d_M_run_6 : decode b_M_run 6 = .ok (.iconst 0, 1) := by decide +kernel
theorem d_M_run_7 : decode b_M_run 7 = .ok (.putfield 305, 3) := by decide +kernel
theorem d_M_run_10 : decode b_M_run 10 = .ok (.aload_n 0, 1) := by decide +kernel
theorem d_M_run_11 : decode b_M_run 11 = .ok (.aload_n 0, 1) := by decide +kernel
theorem d_M_run_12 : decode b_M_run 12 = .ok (.getfield 143, 3) := by decide +kernel
theorem d_M_run_15 : decode b_M_run 15 = .ok (.ifCond .eq 10, 3) := by decide +kernel
theorem d_M_run_18 : decode b_M_run 18 = .ok (.aload_n 0, 1) := by decide +kernel
theorem d_M_run_19 : decode b_M_run 19 = .ok (.getfield 149, 3) := by decide +kernel
theorem d_M_run_22 : decode b_M_run 22 = .ok (.ifCond .ne 7, 3) := by decide +kernel
theorem d_M_run_25 : decode b_M_run 25 = .ok (.iconst (-1), 1) := by decide +kernel
theorem d_M_run_26 : decode b_M_run 26 = .ok (.goto 4, 3) := by decide +kernel
theorem d_M_run_29 : decode b_M_run 29 = .ok (.iconst 0, 1) := by decide +kernel
theorem d_M_run_30 : decode b_M_run 30 = .ok (.putfield 213, 3) := by decide +kernel
theorem d_M_run_33 : decode b_M_run 33 = .ok (.aload_n 0, 1) := by decide +kernel
theorem d_M_run_34 : decode b_M_run 34 = .ok (.aload_n 0, 1) := by decide +kernel
theorem d_M_run_35 : decode b_M_run 35 = .ok (.getfield 213, 3) := by decide +kernel
theorem d_M_run_38 : decode b_M_run 38 = .ok (.ifCond .ne 15, 3) := by decide +kernel
theorem d_M_run_41 : decode b_M_run 41 = .ok (.aload_n 0, 1) := by decide +kernel
theorem d_M_run_42 : decode b_M_run 42 = .ok (.invokevirtual 308, 3) := by decide +kernel
theorem d_M_run_45 : decode b_M_run 45 = .ok (.ifCond .ne 8, 3) := by decide +kernel
theorem d_M_run_48 : decode b_M_run 48 = .ok (.bipush (-11), 2) := by decide +kernel
theorem d_M_run_50 : decode b_M_run 50 = .ok (.goto 7, 3) := by decide +kernel
theorem d_M_run_53 : decode b_M_run 53 = .ok (.aload_n 0, 1) := by decide +kernel
theorem d_M_run_54 : decode b_M_run 54 = .ok (.getfield 213, 3) := by decide +kernel
theorem d_M_run_57 : decode b_M_run 57 = .ok (.putfield 213, 3) := by decide +kernel
theorem d_M_run_60 : decode b_M_run 60 = .ok (.aload_n 0, 1) := by decide +kernel
theorem d_M_run_61 : decode b_M_run 61 = .ok (.aload_n 0, 1) := by decide +kernel
theorem d_M_run_62 : decode b_M_run 62 = .ok (.getfield 213, 3) := by decide +kernel
theorem d_M_run_65 : decode b_M_run 65 = .ok (.ifCond .ne 15, 3) := by decide +kernel
theorem d_M_run_68 : decode b_M_run 68 = .ok (.aload_n 0, 1) := by decide +kernel
theorem d_M_run_69 : decode b_M_run 69 = .ok (.invokevirtual 312, 3) := by decide +kernel
theorem d_M_run_72 : decode b_M_run 72 = .ok (.ifCond .ne 8, 3) := by decide +kernel
theorem d_M_run_75 : decode b_M_run 75 = .ok (.bipush (-12), 2) := by decide +kernel
theorem d_M_run_77 : decode b_M_run 77 = .ok (.goto 7, 3) := by decide +kernel
theorem d_M_run_80 : decode b_M_run 80 = .ok (.aload_n 0, 1) := by decide +kernel
theorem d_M_run_81 : decode b_M_run 81 = .ok (.getfield 213, 3) := by decide +kernel
theorem d_M_run_84 : decode b_M_run 84 = .ok (.putfield 213, 3) := by decide +kernel
theorem d_M_run_87 : decode b_M_run 87 = .ok (.aload_n 0, 1) := by decide +kernel
theorem d_M_run_88 : decode b_M_run 88 = .ok (.aload_n 0, 1) := by decide +kernel
theorem d_M_run_89 : decode b_M_run 89 = .ok (.getfield 146, 3) := by decide +kernel
theorem d_M_run_92 : decode b_M_run 92 = .ok (.ifCond .gt 10, 3) := by decide +kernel
theorem d_M_run_95 : decode b_M_run 95 = .ok (.aload_n 0, 1) := by decide +kernel
theorem d_M_run_96 : decode b_M_run 96 = .ok (.getfield 64, 3) := by decide +kernel
theorem d_M_run_99 : decode b_M_run 99 = .ok (.ifCond .lt 7, 3) := by decide +kernel
theorem d_M_run_102 : decode b_M_run 102 = .ok (.iconst 1, 1) := by decide +kernel
theorem d_M_run_103 : decode b_M_run 103 = .ok (.goto 4, 3) := by decide +kernel
theorem d_M_run_106 : decode b_M_run 106 = .ok (.iconst 0, 1) := by decide +kernel
theorem d_M_run_107 : decode b_M_run 107 = .ok (.putfield 274, 3) := by decide +kernel
theorem d_M_run_110 : decode b_M_run 110 = .ok (.iconst 0, 1) := by decide +kernel
theorem d_M_run_111 : decode b_M_run 111 = .ok (.istore_n 1, 1) := by decide +kernel
theorem d_M_run_112 : decode b_M_run 112 = .ok (.iload_n 1, 1) := by decide +kernel
theorem d_M_run_113 : decode b_M_run 113 = .ok (.aload_n 0, 1) := by decide +kernel
theorem d_M_run_114 : decode b_M_run 114 = .ok (.getfield 149, 3) := by decide +kernel
theorem d_M_run_117 : decode b_M_run 117 = .ok (.if_icmp .ge 39, 3) := by decide +kernel
theorem d_M_run_120 : decode b_M_run 120 = .ok (.aload_n 0, 1) := by decide +kernel
theorem d_M_run_121 : decode b_M_run 121 = .ok (.aload_n 0, 1) := by decide +kernel
theorem d_M_run_122 : decode b_M_run 122 = .ok (.getfield 274, 3) := by decide +kernel
theorem d_M_run_125 : decode b_M_run 125 = .ok (.ifCond .ne 17, 3) := by decide +kernel
theorem d_M_run_128 : decode b_M_run 128 = .ok (.aload_n 0, 1) := by decide +kernel
theorem d_M_run_129 : decode b_M_run 129 = .ok (.getfield 42, 3) := by decide +kernel
theorem d_M_run_132 : decode b_M_run 132 = .ok (.aload_n 0, 1) := by decide +kernel
theorem d_M_run_133 : decode b_M_run 133 = .ok (.getfield 70, 3) := by decide +kernel
theorem d_M_run_136 : decode b_M_run 136 = .ok (.iload_n 1, 1) := by decide +kernel
theorem d_M_run_137 : decode b_M_run 137 = .ok (.iaload, 1) := by decide +kernel
theorem d_M_run_138 : decode b_M_run 138 = .ok (.baload, 1) := by decide +kernel
theorem d_M_run_139 : decode b_M_run 139 = .ok (.ifCond .eq 7, 3) := by decide +kernel
theorem d_M_run_142 : decode b_M_run 142 = .ok (.iconst 1, 1) := by decide +kernel
theorem d_M_run_143 : decode b_M_run 143 = .ok (.goto 4, 3) := by decide +kernel
theorem d_M_run_146 : decode b_M_run 146 = .ok (.iconst 0, 1) := by decide +kernel
theorem d_M_run_147 : decode b_M_run 147 = .ok (.putfield 274, 3) := by decide +kernel
theorem d_M_run_150 : decode b_M_run 150 = .ok (.iinc 1 1, 3) := by decide +kernel
theorem d_M_run_153 : decode b_M_run 153 = .ok (.goto (-41), 3) := by decide +kernel
theorem d_M_run_156 : decode b_M_run 156 = .ok (.aload_n 0, 1) := by decide +kernel
theorem d_M_run_157 : decode b_M_run 157 = .ok (.aload_n 0, 1) := by decide +kernel
theorem d_M_run_158 : decode b_M_run 158 = .ok (.getfield 213, 3) := by decide +kernel
theorem d_M_run_161 : decode b_M_run 161 = .ok (.ifCond .ne 22, 3) := by decide +kernel
theorem d_M_run_164 : decode b_M_run 164 = .ok (.aload_n 0, 1) := by decide +kernel
theorem d_M_run_165 : decode b_M_run 165 = .ok (.getfield 274, 3) := by decide +kernel
theorem d_M_run_168 : decode b_M_run 168 = .ok (.ifCond .eq 15, 3) := by decide +kernel
theorem d_M_run_171 : decode b_M_run 171 = .ok (.aload_n 0, 1) := by decide +kernel
theorem d_M_run_172 : decode b_M_run 172 = .ok (.invokevirtual 315, 3) := by decide +kernel
theorem d_M_run_175 : decode b_M_run 175 = .ok (.ifCond .ne 8, 3) := by decide +kernel
theorem d_M_run_178 : decode b_M_run 178 = .ok (.bipush (-13), 2) := by decide +kernel
theorem d_M_run_180 : decode b_M_run 180 = .ok (.goto 7, 3) := by decide +kernel
theorem d_M_run_183 : decode b_M_run 183 = .ok (.aload_n 0, 1) := by decide +kernel
theorem d_M_run_184 : decode b_M_run 184 = .ok (.getfield 213, 3) := by decide +kernel
theorem d_M_run_187 : decode b_M_run 187 = .ok (.putfield 213, 3) := by decide +kernel
theorem d_M_run_190 : decode b_M_run 190 = .ok (.aload_n 0, 1) := by decide +kernel
theorem d_M_run_191 : decode b_M_run 191 = .ok (.getfield 213, 3) := by decide +kernel
theorem d_M_run_194 : decode b_M_run 194 = .ok (.ifCond .eq 8, 3) := by decide +kernel
theorem d_M_run_197 : decode b_M_run 197 = .ok (.aload_n 0, 1) := by decide +kernel
theorem d_M_run_198 : decode b_M_run 198 = .ok (.getfield 213, 3) := by decide +kernel
theorem d_M_run_201 : decode b_M_run 201 = .ok (.ireturn, 1) := by decide +kernel
theorem d_M_run_202 : decode b_M_run 202 = .ok (.iconst 0, 1) := by decide +kernel
theorem d_M_run_203 : decode b_M_run 203 = .ok (.istore_n 1, 1) := by decide +kernel
theorem d_M_run_204 : decode b_M_run 204 = .ok (.iload_n 1, 1) := by decide +kernel
theorem d_M_run_205 : decode b_M_run 205 = .ok (.bipush 8, 2) := by decide +kernel
theorem d_M_run_207 : decode b_M_run 207 = .ok (.if_icmp .ge 16, 3) := by decide +kernel
theorem d_M_run_210 : decode b_M_run 210 = .ok (.aload_n 0, 1) := by decide +kernel
theorem d_M_run_211 : decode b_M_run 211 = .ok (.getfield 109, 3) := by decide +kernel
theorem d_M_run_214 : decode b_M_run 214 = .ok (.iload_n 1, 1) := by decide +kernel
theorem d_M_run_215 : decode b_M_run 215 = .ok (.iconst 0, 1) := by decide +kernel
theorem d_M_run_216 : decode b_M_run 216 = .ok (.bastore, 1) := by decide +kernel
theorem d_M_run_217 : decode b_M_run 217 = .ok (.iinc 1 1, 3) := by decide +kernel
theorem d_M_run_220 : decode b_M_run 220 = .ok (.goto (-16), 3) := by decide +kernel
theorem d_M_run_223 : decode b_M_run 223 = .ok (.aload_n 0, 1) := by decide +kernel
theorem d_M_run_224 : decode b_M_run 224 = .ok (.getfield 64, 3) := by decide +kernel
theorem d_M_run_227 : decode b_M_run 227 = .ok (.ifCond .lt 11, 3) := by decide +kernel
theorem d_M_run_230 : decode b_M_run 230 = .ok (.aload_n 0, 1) := by decide +kernel
theorem d_M_run_231 : decode b_M_run 231 = .ok (.aload_n 0, 1) := by decide +kernel
theorem d_M_run_232 : decode b_M_run 232 = .ok (.getfield 64, 3) := by decide +kernel
theorem d_M_run_235 : decode b_M_run 235 = .ok (.invokevirtual 318, 3) := by decide +kernel
theorem d_M_run_238 : decode b_M_run 238 = .ok (.iconst 0, 1) := by decide +kernel
theorem d_M_run_239 : decode b_M_run 239 = .ok (.istore_n 1, 1) := by decide +kernel
theorem d_M_run_240 : decode b_M_run 240 = .ok (.iload_n 1, 1) := by decide +kernel
theorem d_M_run_241 : decode b_M_run 241 = .ok (.aload_n 0, 1) := by decide +kernel
theorem d_M_run_242 : decode b_M_run 242 = .ok (.getfield 149, 3) := by decide +kernel
theorem d_M_run_245 : decode b_M_run 245 = .ok (.if_icmp .ge 19, 3) := by decide +kernel
theorem d_M_run_248 : decode b_M_run 248 = .ok (.aload_n 0, 1) := by decide +kernel
theorem d_M_run_249 : decode b_M_run 249 = .ok (.aload_n 0, 1) := by decide +kernel
theorem d_M_run_250 : decode b_M_run 250 = .ok (.getfield 70, 3) := by decide +kernel
theorem d_M_run_253 : decode b_M_run 253 = .ok (.iload_n 1, 1) := by decide +kernel
theorem d_M_run_254 : decode b_M_run 254 = .ok (.iaload, 1) := by decide +kernel
theorem d_M_run_255 : decode b_M_run 255 = .ok (.invokevirtual 318, 3) := by decide +kernel
theorem d_M_run_258 : decode b_M_run 258 = .ok (.iinc 1 1, 3) := by decide +kernel
theorem d_M_run_261 : decode b_M_run 261 = .ok (.goto (-21), 3) := by decide +kernel
theorem d_M_run_264 : decode b_M_run 264 = .ok (.aload_n 0, 1) := by decide +kernel
theorem d_M_run_265 : decode b_M_run 265 = .ok (.iconst 0, 1) := by decide +kernel
theorem d_M_run_266 : decode b_M_run 266 = .ok (.putfield 255, 3) := by decide +kernel
theorem d_M_run_269 : decode b_M_run 269 = .ok (.aload_n 0, 1) := by decide +kernel
theorem d_M_run_270 : decode b_M_run 270 = .ok (.iconst 0, 1) := by decide +kernel
theorem d_M_run_271 : decode b_M_run 271 = .ok (.putfield 261, 3) := by decide +kernel
theorem d_M_run_274 : decode b_M_run 274 = .ok (.aload_n 0, 1) := by decide +kernel
theorem d_M_run_275 : decode b_M_run 275 = .ok (.iconst (-1), 1) := by decide +kernel
theorem d_M_run_276 : decode b_M_run 276 = .ok (.putfield 234, 3) := by decide +kernel
theorem d_M_run_279 : decode b_M_run 279 = .ok (.aload_n 0, 1) := by decide +kernel
theorem d_M_run_280 : decode b_M_run 280 = .ok (.invokevirtual 321, 3) := by decide +kernel
theorem d_M_run_283 : decode b_M_run 283 = .ok (.aload_n 0, 1) := by decide +kernel
theorem d_M_run_284 : decode b_M_run 284 = .ok (.getfield 274, 3) := by decide +kernel
theorem d_M_run_287 : decode b_M_run 287 = .ok (.ifCond .eq 14, 3) := by decide +kernel
theorem d_M_run_290 : decode b_M_run 290 = .ok (.aload_n 0, 1) := by decide +kernel
theorem d_M_run_291 : decode b_M_run 291 = .ok (.getfield 213, 3) := by decide +kernel
theorem d_M_run_294 : decode b_M_run 294 = .ok (.ifCond .ne 7, 3) := by decide +kernel
theorem d_M_run_297 : decode b_M_run 297 = .ok (.aload_n 0, 1) := by decide +kernel
theorem d_M_run_298 : decode b_M_run 298 = .ok (.invokevirtual 324, 3) := by decide +kernel
theorem d_M_run_301 : decode b_M_run 301 = .ok (.aload_n 0, 1) := by decide +kernel
theorem d_M_run_302 : decode b_M_run 302 = .ok (.getfield 213, 3) := by decide +kernel
theorem d_M_run_305 : decode b_M_run 305 = .ok (.ifCond .eq 13, 3) := by decide +kernel
theorem d_M_run_308 : decode b_M_run 308 = .ok (.aload_n 0, 1) := by decide +kernel
theorem d_M_run_309 : decode b_M_run 309 = .ok (.iconst 0, 1) := by decide +kernel
theorem d_M_run_310 : decode b_M_run 310 = .ok (.putfield 268, 3) := by decide +kernel
theorem d_M_run_313 : decode b_M_run 313 = .ok (.aload_n 0, 1) := by decide +kernel
theorem d_M_run_314 : decode b_M_run 314 = .ok (.getfield 213, 3) := by decide +kernel
theorem d_M_run_317 : decode b_M_run 317 = .ok (.ireturn, 1) := by decide +kernel
theorem d_M_run_318 : decode b_M_run 318 = .ok (.aload_n 0, 1) := by decide +kernel
theorem d_M_run_319 : decode b_M_run 319 = .ok (.getfield 155, 3) := by decide +kernel
theorem d_M_run_322 : decode b_M_run 322 = .ok (.ifCond .eq 7, 3) := by decide +kernel
theorem d_M_run_325 : decode b_M_run 325 = .ok (.aload_n 0, 1) := by decide +kernel
theorem d_M_run_326 : decode b_M_run 326 = .ok (.invokevirtual 327, 3) := by decide +kernel
theorem d_M_run_329 : decode b_M_run 329 = .ok (.aload_n 0, 1) := by decide +kernel
theorem d_M_run_330 : decode b_M_run 330 = .ok (.invokevirtual 330, 3) := by decide +kernel
theorem d_M_run_333 : decode b_M_run 333 = .ok (.aload_n 0, 1) := by decide +kernel
theorem d_M_run_334 : decode b_M_run 334 = .ok (.invokevirtual 333, 3) := by decide +kernel
theorem d_M_run_337 : decode b_M_run 337 = .ok (.aload_n 0, 1) := by decide +kernel
theorem d_M_run_338 : decode b_M_run 338 = .ok (.aload_n 0, 1) := by decide +kernel
theorem d_M_run_339 : decode b_M_run 339 = .ok (.getfield 149, 3) := by decide +kernel
theorem d_M_run_342 : decode b_M_run 342 = .ok (.putfield 305, 3) := by decide +kernel
theorem d_M_run_345 : decode b_M_run 345 = .ok (.aload_n 0, 1) := by decide +kernel
theorem d_M_run_346 : decode b_M_run 346 = .ok (.getfield 268, 3) := by decide +kernel
theorem d_M_run_349 : decode b_M_run 349 = .ok (.ireturn, 1) := by decide +kernel
