theorem d_M_giveColumn_0 : decode b_M_giveColumn 0 = .ok (.aload_n 0, 1) := by decide +kernel
theorem d_M_giveColumn_1 : decode b_M_giveColumn 1 = .ok (.getfield 88, 3) := by decide +kernel
theorem d_M_giveColumn_4 : decode b_M_giveColumn 4 = .ok (.aload_n 0, 1) := by decide +kernel
theorem d_M_giveColumn_5 : decode b_M_giveColumn 5 = .ok (.getfield 27, 3) := by decide +kernel
theorem d_M_giveColumn_8 : decode b_M_giveColumn 8 = .ok (.iload_n 1, 1) := by decide +kernel
theorem d_M_giveColumn_9 : decode b_M_giveColumn 9 = .ok (.iaload, 1) := by decide +kernel
theorem d_M_giveColumn_10 : decode b_M_giveColumn 10 = .ok (.iaload, 1) := by decide +kernel
theorem d_M_giveColumn_11 : decode b_M_giveColumn 11 = .ok (.istore_n 2, 1) := by decide +kernel
theorem d_M_giveColumn_12 : decode b_M_giveColumn 12 = .ok (.bipush 32, 2) := by decide +kernel
theorem d_M_giveColumn_14 : decode b_M_giveColumn 14 = .ok (.aload_n 0, 1) := by decide +kernel
theorem d_M_giveColumn_15 : decode b_M_giveColumn 15 = .ok (.getfield 51, 3) := by decide +kernel
theorem d_M_giveColumn_18 : decode b_M_giveColumn 18 = .ok (.aload_n 0, 1) := by decide +kernel
theorem d_M_giveColumn_19 : decode b_M_giveColumn 19 = .ok (.getfield 27, 3) := by decide +kernel
theorem d_M_giveColumn_22 : decode b_M_giveColumn 22 = .ok (.iload_n 1, 1) := by decide +kernel
theorem d_M_giveColumn_23 : decode b_M_giveColumn 23 = .ok (.iaload, 1) := by decide +kernel
theorem d_M_giveColumn_24 : decode b_M_giveColumn 24 = .ok (.iaload, 1) := by decide +kernel
theorem d_M_giveColumn_25 : decode b_M_giveColumn 25 = .ok (.imul, 1) := by decide +kernel
theorem d_M_giveColumn_26 : decode b_M_giveColumn 26 = .ok (.iconst 4, 1) := by decide +kernel
theorem d_M_giveColumn_27 : decode b_M_giveColumn 27 = .ok (.iload_n 2, 1) := by decide +kernel
theorem d_M_giveColumn_28 : decode b_M_giveColumn 28 = .ok (.imul, 1) := by decide +kernel
theorem d_M_giveColumn_29 : decode b_M_giveColumn 29 = .ok (.iadd, 1) := by decide +kernel
theorem d_M_giveColumn_30 : decode b_M_giveColumn 30 = .ok (.aload_n 0, 1) := by decide +kernel
theorem d_M_giveColumn_31 : decode b_M_giveColumn 31 = .ok (.getfield 30, 3) := by decide +kernel
theorem d_M_giveColumn_34 : decode b_M_giveColumn 34 = .ok (.iload_n 1, 1) := by decide +kernel
theorem d_M_giveColumn_35 : decode b_M_giveColumn 35 = .ok (.iaload, 1) := by decide +kernel
theorem d_M_giveColumn_36 : decode b_M_giveColumn 36 = .ok (.iadd, 1) := by decide +kernel
theorem d_M_giveColumn_37 : decode b_M_giveColumn 37 = .ok (.istore_n 3, 1) := by decide +kernel
theorem d_M_giveColumn_38 : decode b_M_giveColumn 38 = .ok (.iload_n 2, 1) := by decide +kernel
theorem d_M_giveColumn_39 : decode b_M_giveColumn 39 = .ok (.ifCond .lt 12, 3) := by decide +kernel
theorem d_M_giveColumn_42 : decode b_M_giveColumn 42 = .ok (.aload_n 0, 1) := by decide +kernel
theorem d_M_giveColumn_43 : decode b_M_giveColumn 43 = .ok (.getfield 20, 3) := by decide +kernel
theorem d_M_giveColumn_46 : decode b_M_giveColumn 46 = .ok (.iload_n 3, 1) := by decide +kernel
theorem d_M_giveColumn_47 : decode b_M_giveColumn 47 = .ok (.baload, 1) := by decide +kernel
theorem d_M_giveColumn_48 : decode b_M_giveColumn 48 = .ok (.ifCond .eq 7, 3) := by decide +kernel
theorem d_M_giveColumn_51 : decode b_M_giveColumn 51 = .ok (.iconst 1, 1) := by decide +kernel
theorem d_M_giveColumn_52 : decode b_M_giveColumn 52 = .ok (.goto 4, 3) := by decide +kernel
theorem d_M_giveColumn_55 : decode b_M_giveColumn 55 = .ok (.iconst 0, 1) := by decide +kernel
theorem d_M_giveColumn_56 : decode b_M_giveColumn 56 = .ok (.istore 4, 2) := by decide +kernel
theorem d_M_giveColumn_58 : decode b_M_giveColumn 58 = .ok (.aload_n 0, 1) := by decide +kernel
theorem d_M_giveColumn_59 : decode b_M_giveColumn 59 = .ok (.iload 4, 2) := by decide +kernel
theorem d_M_giveColumn_61 : decode b_M_giveColumn 61 = .ok (.ifCond .eq 7, 3) := by decide +kernel
theorem d_M_giveColumn_64 : decode b_M_giveColumn 64 = .ok (.lconst 0, 1) := by decide +kernel
theorem d_M_giveColumn_65 : decode b_M_giveColumn 65 = .ok (.goto 9, 3) := by decide +kernel
theorem d_M_giveColumn_68 : decode b_M_giveColumn 68 = .ok (.aload_n 0, 1) := by decide +kernel
theorem d_M_giveColumn_69 : decode b_M_giveColumn 69 = .ok (.getfield 16, 3) := by decide +kernel
theorem d_M_giveColumn_72 : decode b_M_giveColumn 72 = .ok (.iload_n 3, 1) := by decide +kernel
theorem d_M_giveColumn_73 : decode b_M_giveColumn 73 = .ok (.laload, 1) := by decide +kernel
theorem d_M_giveColumn_74 : decode b_M_giveColumn 74 = .ok (.iload 4, 2) := by decide +kernel
theorem d_M_giveColumn_76 : decode b_M_giveColumn 76 = .ok (.invokevirtual 222, 3) := by decide +kernel
theorem d_M_giveColumn_79 : decode b_M_giveColumn 79 = .ok (.return_, 1) := by decide +kernel
theorem d_M_groupLike_0 : decode b_M_groupLike 0 = .ok (.iconst (-1), 1) := by decide +kernel
theorem d_M_groupLike_1 : decode b_M_groupLike 1 = .ok (.istore_n 2, 1) := by decide +kernel
theorem d_M_groupLike_2 : decode b_M_groupLike 2 = .ok (.aload_n 0, 1) := by decide +kernel
theorem d_M_groupLike_3 : decode b_M_groupLike 3 = .ok (.getfield 146, 3) := by decide +kernel
theorem d_M_groupLike_6 : decode b_M_groupLike 6 = .ok (.iconst 1, 1) := by decide +kernel
theorem d_M_groupLike_7 : decode b_M_groupLike 7 = .ok (.isub, 1) := by decide +kernel
theorem d_M_groupLike_8 : decode b_M_groupLike 8 = .ok (.istore_n 3, 1) := by decide +kernel
theorem d_M_groupLike_9 : decode b_M_groupLike 9 = .ok (.iload_n 3, 1) := by decide +kernel
theorem d_M_groupLike_10 : decode b_M_groupLike 10 = .ok (.ifCond .lt 35, 3) := by decide +kernel
theorem d_M_groupLike_13 : decode b_M_groupLike 13 = .ok (.aload_n 0, 1) := by decide +kernel
theorem d_M_groupLike_14 : decode b_M_groupLike 14 = .ok (.getfield 45, 3) := by decide +kernel
theorem d_M_groupLike_17 : decode b_M_groupLike 17 = .ok (.aload_n 0, 1) := by decide +kernel
theorem d_M_groupLike_18 : decode b_M_groupLike 18 = .ok (.getfield 67, 3) := by decide +kernel
theorem d_M_groupLike_21 : decode b_M_groupLike 21 = .ok (.iload_n 3, 1) := by decide +kernel
theorem d_M_groupLike_22 : decode b_M_groupLike 22 = .ok (.iaload, 1) := by decide +kernel
theorem d_M_groupLike_23 : decode b_M_groupLike 23 = .ok (.iaload, 1) := by decide +kernel
theorem d_M_groupLike_24 : decode b_M_groupLike 24 = .ok (.aload_n 0, 1) := by decide +kernel
theorem d_M_groupLike_25 : decode b_M_groupLike 25 = .ok (.getfield 45, 3) := by decide +kernel
theorem d_M_groupLike_28 : decode b_M_groupLike 28 = .ok (.iload_n 1, 1) := by decide +kernel
theorem d_M_groupLike_29 : decode b_M_groupLike 29 = .ok (.iaload, 1) := by decide +kernel
theorem d_M_groupLike_30 : decode b_M_groupLike 30 = .ok (.if_icmp .ne 7, 3) := by decide +kernel
theorem d_M_groupLike_33 : decode b_M_groupLike 33 = .ok (.iload_n 3, 1) := by decide +kernel
theorem d_M_groupLike_34 : decode b_M_groupLike 34 = .ok (.goto 4, 3) := by decide +kernel
theorem d_M_groupLike_37 : decode b_M_groupLike 37 = .ok (.iload_n 2, 1) := by decide +kernel
theorem d_M_groupLike_38 : decode b_M_groupLike 38 = .ok (.istore_n 2, 1) := by decide +kernel
theorem d_M_groupLike_39 : decode b_M_groupLike 39 = .ok (.iinc 3 (-1), 3) := by decide +kernel
theorem d_M_groupLike_42 : decode b_M_groupLike 42 = .ok (.goto (-33), 3) := by decide +kernel
theorem d_M_groupLike_45 : decode b_M_groupLike 45 = .ok (.iload_n 2, 1) := by decide +kernel
theorem d_M_groupLike_46 : decode b_M_groupLike 46 = .ok (.ireturn, 1) := by decide +kernel
theorem d_M_lookOnce_0 : decode b_M_lookOnce 0 = .ok (.aload_n 0, 1) := by decide +kernel
theorem d_M_lookOnce_1 : decode b_M_lookOnce 1 = .ok (.getfield 193, 3) := by decide +kernel
theorem d_M_lookOnce_4 : decode b_M_lookOnce 4 = .ok (.iconst 1, 1) := by decide +kernel
theorem d_M_lookOnce_5 : decode b_M_lookOnce 5 = .ok (.isub, 1) := by decide +kernel
theorem d_M_lookOnce_6 : decode b_M_lookOnce 6 = .ok (.istore_n 1, 1) := by decide +kernel
theorem d_M_lookOnce_7 : decode b_M_lookOnce 7 = .ok (.aload_n 0, 1) := by decide +kernel
theorem d_M_lookOnce_8 : decode b_M_lookOnce 8 = .ok (.getfield 112, 3) := by decide +kernel
theorem d_M_lookOnce_11 : decode b_M_lookOnce 11 = .ok (.iload_n 1, 1) := by decide +kernel
theorem d_M_lookOnce_12 : decode b_M_lookOnce 12 = .ok (.iaload, 1) := by decide +kernel
theorem d_M_lookOnce_13 : decode b_M_lookOnce 13 = .ok (.istore_n 2, 1) := by decide +kernel
theorem d_M_lookOnce_14 : decode b_M_lookOnce 14 = .ok (.aload_n 0, 1) := by decide +kernel
theorem d_M_lookOnce_15 : decode b_M_lookOnce 15 = .ok (.getfield 24, 3) := by decide +kernel
theorem d_M_lookOnce_18 : decode b_M_lookOnce 18 = .ok (.iload_n 2, 1) := by decide +kernel
theorem d_M_lookOnce_19 : decode b_M_lookOnce 19 = .ok (.iaload, 1) := by decide +kernel
theorem d_M_lookOnce_20 : decode b_M_lookOnce 20 = .ok (.istore_n 3, 1) := by decide +kernel
theorem d_M_lookOnce_21 : decode b_M_lookOnce 21 = .ok (.aload_n 0, 1) := by decide +kernel
theorem d_M_lookOnce_22 : decode b_M_lookOnce 22 = .ok (.getfield 234, 3) := by decide +kernel
theorem d_M_lookOnce_25 : decode b_M_lookOnce 25 = .ok (.ifCond .lt 11, 3) := by decide +kernel
theorem d_M_lookOnce_28 : decode b_M_lookOnce 28 = .ok (.aload_n 0, 1) := by decide +kernel
theorem d_M_lookOnce_29 : decode b_M_lookOnce 29 = .ok (.iload_n 2, 1) := by decide +kernel
theorem d_M_lookOnce_30 : decode b_M_lookOnce 30 = .ok (.invokevirtual 203, 3) := by decide +kernel
theorem d_M_lookOnce_33 : decode b_M_lookOnce 33 = .ok (.goto 4, 3) := by decide +kernel
theorem d_M_lookOnce_36 : decode b_M_lookOnce 36 = .ok (.iconst (-1), 1) := by decide +kernel
theorem d_M_lookOnce_37 : decode b_M_lookOnce 37 = .ok (.istore 4, 2) := by decide +kernel
theorem d_M_lookOnce_39 : decode b_M_lookOnce 39 = .ok (.iload 4, 2) := by decide +kernel
theorem d_M_lookOnce_41 : decode b_M_lookOnce 41 = .ok (.ifCond .lt 48, 3) := by decide +kernel
theorem d_M_lookOnce_44 : decode b_M_lookOnce 44 = .ok (.aload_n 0, 1) := by decide +kernel
theorem d_M_lookOnce_45 : decode b_M_lookOnce 45 = .ok (.aload_n 0, 1) := by decide +kernel
theorem d_M_lookOnce_46 : decode b_M_lookOnce 46 = .ok (.getfield 100, 3) := by decide +kernel
theorem d_M_lookOnce_49 : decode b_M_lookOnce 49 = .ok (.iconst 4, 1) := by decide +kernel
theorem d_M_lookOnce_50 : decode b_M_lookOnce 50 = .ok (.aload_n 0, 1) := by decide +kernel
theorem d_M_lookOnce_51 : decode b_M_lookOnce 51 = .ok (.getfield 234, 3) := by decide +kernel
theorem d_M_lookOnce_54 : decode b_M_lookOnce 54 = .ok (.imul, 1) := by decide +kernel
theorem d_M_lookOnce_55 : decode b_M_lookOnce 55 = .ok (.iload 4, 2) := by decide +kernel
theorem d_M_lookOnce_57 : decode b_M_lookOnce 57 = .ok (.iadd, 1) := by decide +kernel
theorem d_M_lookOnce_58 : decode b_M_lookOnce 58 = .ok (.laload, 1) := by decide +kernel
theorem d_M_lookOnce_59 : decode b_M_lookOnce 59 = .ok (.aload_n 0, 1) := by decide +kernel
theorem d_M_lookOnce_60 : decode b_M_lookOnce 60 = .ok (.getfield 103, 3) := by decide +kernel
theorem d_M_lookOnce_63 : decode b_M_lookOnce 63 = .ok (.iconst 4, 1) := by decide +kernel
theorem d_M_lookOnce_64 : decode b_M_lookOnce 64 = .ok (.aload_n 0, 1) := by decide +kernel
theorem d_M_lookOnce_65 : decode b_M_lookOnce 65 = .ok (.getfield 234, 3) := by decide +kernel
theorem d_M_lookOnce_68 : decode b_M_lookOnce 68 = .ok (.imul, 1) := by decide +kernel
theorem d_M_lookOnce_69 : decode b_M_lookOnce 69 = .ok (.iload 4, 2) := by decide +kernel
theorem d_M_lookOnce_71 : decode b_M_lookOnce 71 = .ok (.iadd, 1) := by decide +kernel
theorem d_M_lookOnce_72 : decode b_M_lookOnce 72 = .ok (.baload, 1) := by decide +kernel
theorem d_M_lookOnce_73 : decode b_M_lookOnce 73 = .ok (.invokevirtual 222, 3) := by decide +kernel
theorem d_M_lookOnce_76 : decode b_M_lookOnce 76 = .ok (.aload_n 0, 1) := by decide +kernel
theorem d_M_lookOnce_77 : decode b_M_lookOnce 77 = .ok (.dup, 1) := by decide +kernel
theorem d_M_lookOnce_78 : decode b_M_lookOnce 78 = .ok (.getfield 193, 3) := by decide +kernel
theorem d_M_lookOnce_81 : decode b_M_lookOnce 81 = .ok (.iconst 1, 1) := by decide +kernel
theorem d_M_lookOnce_82 : decode b_M_lookOnce 82 = .ok (.isub, 1) := by decide +kernel
theorem d_M_lookOnce_83 : decode b_M_lookOnce 83 = .ok (.putfield 193, 3) := by decide +kernel
theorem d_M_lookOnce_86 : decode b_M_lookOnce 86 = .ok (.goto 358, 3) := by decide +kernel
theorem d_M_lookOnce_89 : decode b_M_lookOnce 89 = .ok (.iload_n 3, 1) := by decide +kernel
theorem d_M_lookOnce_90 : decode b_M_lookOnce 90 = .ok (.bipush 20, 2) := by decide +kernel
theorem d_M_lookOnce_92 : decode b_M_lookOnce 92 = .ok (.if_icmp .ne 45, 3) := by decide +kernel
theorem d_M_lookOnce_95 : decode b_M_lookOnce 95 = .ok (.aload_n 0, 1) := by decide +kernel
theorem d_M_lookOnce_96 : decode b_M_lookOnce 96 = .ok (.aload_n 0, 1) := by decide +kernel
theorem d_M_lookOnce_97 : decode b_M_lookOnce 97 = .ok (.getfield 36, 3) := by decide +kernel
theorem d_M_lookOnce_100 : decode b_M_lookOnce 100 = .ok (.iload_n 2, 1) := by decide +kernel
theorem d_M_lookOnce_101 : decode b_M_lookOnce 101 = .ok (.baload, 1) := by decide +kernel
theorem d_M_lookOnce_102 : decode b_M_lookOnce 102 = .ok (.ifCond .eq 7, 3) := by decide +kernel
theorem d_M_lookOnce_105 : decode b_M_lookOnce 105 = .ok (.lconst 0, 1) := by decide +kernel
theorem d_M_lookOnce_106 : decode b_M_lookOnce 106 = .ok (.goto 9, 3) := by decide +kernel
theorem d_M_lookOnce_109 : decode b_M_lookOnce 109 = .ok (.aload_n 0, 1) := by decide +kernel
theorem d_M_lookOnce_110 : decode b_M_lookOnce 110 = .ok (.getfield 33, 3) := by decide +kernel
theorem d_M_lookOnce_113 : decode b_M_lookOnce 113 = .ok (.iload_n 2, 1) := by decide +kernel
theorem d_M_lookOnce_114 : decode b_M_lookOnce 114 = .ok (.laload, 1) := by decide +kernel
theorem d_M_lookOnce_115 : decode b_M_lookOnce 115 = .ok (.aload_n 0, 1) := by decide +kernel
theorem d_M_lookOnce_116 : decode b_M_lookOnce 116 = .ok (.getfield 36, 3) := by decide +kernel
theorem d_M_lookOnce_119 : decode b_M_lookOnce 119 = .ok (.iload_n 2, 1) := by decide +kernel
theorem d_M_lookOnce_120 : decode b_M_lookOnce 120 = .ok (.baload, 1) := by decide +kernel
theorem d_M_lookOnce_121 : decode b_M_lookOnce 121 = .ok (.invokevirtual 222, 3) := by decide +kernel
theorem d_M_lookOnce_124 : decode b_M_lookOnce 124 = .ok (.aload_n 0, 1) := by decide +kernel
theorem d_M_lookOnce_125 : decode b_M_lookOnce 125 = .ok (.dup, 1) := by decide +kernel
theorem d_M_lookOnce_126 : decode b_M_lookOnce 126 = .ok (.getfield 193, 3) := by decide +kernel
theorem d_M_lookOnce_129 : decode b_M_lookOnce 129 = .ok (.iconst 1, 1) := by decide +kernel
theorem d_M_lookOnce_130 : decode b_M_lookOnce 130 = .ok (.isub, 1) := by decide +kernel
theorem d_M_lookOnce_131 : decode b_M_lookOnce 131 = .ok (.putfield 193, 3) := by decide +kernel
theorem d_M_lookOnce_134 : decode b_M_lookOnce 134 = .ok (.goto 310, 3) := by decide +kernel
theorem d_M_lookOnce_137 : decode b_M_lookOnce 137 = .ok (.iload_n 3, 1) := by decide +kernel
theorem d_M_lookOnce_138 : decode b_M_lookOnce 138 = .ok (.bipush 21, 2) := by decide +kernel
theorem d_M_lookOnce_140 : decode b_M_lookOnce 140 = .ok (.if_icmp .ne 21, 3) := by decide +kernel
theorem d_M_lookOnce_143 : decode b_M_lookOnce 143 = .ok (.aload_n 0, 1) := by decide +kernel
theorem d_M_lookOnce_144 : decode b_M_lookOnce 144 = .ok (.iload_n 2, 1) := by decide +kernel
theorem d_M_lookOnce_145 : decode b_M_lookOnce 145 = .ok (.invokevirtual 237, 3) := by decide +kernel
theorem d_M_lookOnce_148 : decode b_M_lookOnce 148 = .ok (.aload_n 0, 1) := by decide +kernel
theorem d_M_lookOnce_149 : decode b_M_lookOnce 149 = .ok (.dup, 1) := by decide +kernel
theorem d_M_lookOnce_150 : decode b_M_lookOnce 150 = .ok (.getfield 193, 3) := by decide +kernel
theorem d_M_lookOnce_153 : decode b_M_lookOnce 153 = .ok (.iconst 1, 1) := by decide +kernel
theorem d_M_lookOnce_154 : decode b_M_lookOnce 154 = .ok (.isub, 1) := by decide +kernel
theorem d_M_lookOnce_155 : decode b_M_lookOnce 155 = .ok (.putfield 193, 3) := by decide +kernel
theorem d_M_lookOnce_158 : decode b_M_lookOnce 158 = .ok (.goto 286, 3) := by decide +kernel
theorem d_M_lookOnce_161 : decode b_M_lookOnce 161 = .ok (.iload_n 3, 1) := by decide +kernel
theorem d_M_lookOnce_162 : decode b_M_lookOnce 162 = .ok (.bipush 30, 2) := by decide +kernel
theorem d_M_lookOnce_164 : decode b_M_lookOnce 164 = .ok (.if_icmp .lt 21, 3) := by decide +kernel
theorem d_M_lookOnce_167 : decode b_M_lookOnce 167 = .ok (.aload_n 0, 1) := by decide +kernel
theorem d_M_lookOnce_168 : decode b_M_lookOnce 168 = .ok (.iload_n 2, 1) := by decide +kernel
theorem d_M_lookOnce_169 : decode b_M_lookOnce 169 = .ok (.invokevirtual 240, 3) := by decide +kernel
theorem d_M_lookOnce_172 : decode b_M_lookOnce 172 = .ok (.aload_n 0, 1) := by decide +kernel
theorem d_M_lookOnce_173 : decode b_M_lookOnce 173 = .ok (.dup, 1) := by decide +kernel
theorem d_M_lookOnce_174 : decode b_M_lookOnce 174 = .ok (.getfield 193, 3) := by decide +kernel
theorem d_M_lookOnce_177 : decode b_M_lookOnce 177 = .ok (.iconst 1, 1) := by decide +kernel
theorem d_M_lookOnce_178 : decode b_M_lookOnce 178 = .ok (.isub, 1) := by decide +kernel
theorem d_M_lookOnce_179 : decode b_M_lookOnce 179 = .ok (.putfield 193, 3) := by decide +kernel
theorem d_M_lookOnce_182 : decode b_M_lookOnce 182 = .ok (.goto 262, 3) := by decide +kernel
theorem d_M_lookOnce_185 : decode b_M_lookOnce 185 = .ok (.aload_n 0, 1) := by decide +kernel
theorem d_M_lookOnce_186 : decode b_M_lookOnce 186 = .ok (.getfield 115, 3) := by decide +kernel
theorem d_M_lookOnce_189 : decode b_M_lookOnce 189 = .ok (.iload_n 1, 1) := by decide +kernel
theorem d_M_lookOnce_190 : decode b_M_lookOnce 190 = .ok (.iaload, 1) := by decide +kernel
theorem d_M_lookOnce_191 : decode b_M_lookOnce 191 = .ok (.ifCond .ne 23, 3) := by decide +kernel
theorem d_M_lookOnce_194 : decode b_M_lookOnce 194 = .ok (.aload_n 0, 1) := by decide +kernel
theorem d_M_lookOnce_195 : decode b_M_lookOnce 195 = .ok (.getfield 115, 3) := by decide +kernel
theorem d_M_lookOnce_198 : decode b_M_lookOnce 198 = .ok (.iload_n 1, 1) := by decide +kernel
theorem d_M_lookOnce_199 : decode b_M_lookOnce 199 = .ok (.iconst 1, 1) := by decide +kernel
theorem d_M_lookOnce_200 : decode b_M_lookOnce 200 = .ok (.iastore, 1) := by decide +kernel
theorem d_M_lookOnce_201 : decode b_M_lookOnce 201 = .ok (.aload_n 0, 1) := by decide +kernel
theorem d_M_lookOnce_202 : decode b_M_lookOnce 202 = .ok (.aload_n 0, 1) := by decide +kernel
theorem d_M_lookOnce_203 : decode b_M_lookOnce 203 = .ok (.getfield 27, 3) := by decide +kernel
theorem d_M_lookOnce_206 : decode b_M_lookOnce 206 = .ok (.iload_n 2, 1) := by decide +kernel
theorem d_M_lookOnce_207 : decode b_M_lookOnce 207 = .ok (.iaload, 1) := by decide +kernel
theorem d_M_lookOnce_208 : decode b_M_lookOnce 208 = .ok (.invokevirtual 196, 3) := by decide +kernel
theorem d_M_lookOnce_211 : decode b_M_lookOnce 211 = .ok (.goto 233, 3) := by decide +kernel
theorem d_M_lookOnce_214 : decode b_M_lookOnce 214 = .ok (.iload_n 3, 1) := by decide +kernel
theorem d_M_lookOnce_215 : decode b_M_lookOnce 215 = .ok (.bipush 11, 2) := by decide +kernel
theorem d_M_lookOnce_217 : decode b_M_lookOnce 217 = .ok (.if_icmp .ne 59, 3) := by decide +kernel
theorem d_M_lookOnce_220 : decode b_M_lookOnce 220 = .ok (.aload_n 0, 1) := by decide +kernel
theorem d_M_lookOnce_221 : decode b_M_lookOnce 221 = .ok (.getfield 118, 3) := by decide +kernel
theorem d_M_lookOnce_224 : decode b_M_lookOnce 224 = .ok (.aload_n 0, 1) := by decide +kernel
theorem d_M_lookOnce_225 : decode b_M_lookOnce 225 = .ok (.getfield 210, 3) := by decide +kernel
theorem d_M_lookOnce_228 : decode b_M_lookOnce 228 = .ok (.iconst 1, 1) := by decide +kernel
theorem d_M_lookOnce_229 : decode b_M_lookOnce 229 = .ok (.isub, 1) := by decide +kernel
theorem d_M_lookOnce_230 : decode b_M_lookOnce 230 = .ok (.laload, 1) := by decide +kernel
theorem d_M_lookOnce_231 : decode b_M_lookOnce 231 = .ok (.lstore 5, 2) := by decide +kernel
theorem d_M_lookOnce_233 : decode b_M_lookOnce 233 = .ok (.aload_n 0, 1) := by decide +kernel
theorem d_M_lookOnce_234 : decode b_M_lookOnce 234 = .ok (.getfield 118, 3) := by decide +kernel
theorem d_M_lookOnce_237 : decode b_M_lookOnce 237 = .ok (.aload_n 0, 1) := by decide +kernel
theorem d_M_lookOnce_238 : decode b_M_lookOnce 238 = .ok (.getfield 210, 3) := by decide +kernel
theorem d_M_lookOnce_241 : decode b_M_lookOnce 241 = .ok (.iconst 1, 1) := by decide +kernel
theorem d_M_lookOnce_242 : decode b_M_lookOnce 242 = .ok (.isub, 1) := by decide +kernel
theorem d_M_lookOnce_243 : decode b_M_lookOnce 243 = .ok (.lload 5, 2) := by decide +kernel
theorem d_M_lookOnce_245 : decode b_M_lookOnce 245 = .ok (.ldc2_w 174, 3) := by decide +kernel
theorem d_M_lookOnce_248 : decode b_M_lookOnce 248 = .ok (.lcmp, 1) := by decide +kernel
theorem d_M_lookOnce_249 : decode b_M_lookOnce 249 = .ok (.ifCond .ne 9, 3) := by decide +kernel
theorem d_M_lookOnce_252 : decode b_M_lookOnce 252 = .ok (.ldc2_w 174, 3) := by decide +kernel
theorem d_M_lookOnce_255 : decode b_M_lookOnce 255 = .ok (.goto 7, 3) := by decide +kernel
theorem d_M_lookOnce_258 : decode b_M_lookOnce 258 = .ok (.lconst 1, 1) := by decide +kernel
theorem d_M_lookOnce_259 : decode b_M_lookOnce 259 = .ok (.lload 5, 2) := by decide +kernel
theorem d_M_lookOnce_261 : decode b_M_lookOnce 261 = .ok (.lsub, 1) := by decide +kernel
theorem d_M_lookOnce_262 : decode b_M_lookOnce 262 = .ok (.lastore, 1) := by decide +kernel
theorem d_M_lookOnce_263 : decode b_M_lookOnce 263 = .ok (.aload_n 0, 1) := by decide +kernel
theorem d_M_lookOnce_264 : decode b_M_lookOnce 264 = .ok (.dup, 1) := by decide +kernel
theorem d_M_lookOnce_265 : decode b_M_lookOnce 265 = .ok (.getfield 193, 3) := by decide +kernel
theorem d_M_lookOnce_268 : decode b_M_lookOnce 268 = .ok (.iconst 1, 1) := by decide +kernel
theorem d_M_lookOnce_269 : decode b_M_lookOnce 269 = .ok (.isub, 1) := by decide +kernel
theorem d_M_lookOnce_270 : decode b_M_lookOnce 270 = .ok (.putfield 193, 3) := by decide +kernel
theorem d_M_lookOnce_273 : decode b_M_lookOnce 273 = .ok (.goto 171, 3) := by decide +kernel
theorem d_M_lookOnce_276 : decode b_M_lookOnce 276 = .ok (.iload_n 3, 1) := by decide +kernel
theorem d_M_lookOnce_277 : decode b_M_lookOnce 277 = .ok (.bipush 12, 2) := by decide +kernel
theorem d_M_lookOnce_279 : decode b_M_lookOnce 279 = .ok (.if_icmp .ne 53, 3) := by decide +kernel
theorem d_M_lookOnce_282 : decode b_M_lookOnce 282 = .ok (.aload_n 0, 1) := by decide +kernel
theorem d_M_lookOnce_283 : decode b_M_lookOnce 283 = .ok (.getfield 118, 3) := by decide +kernel
theorem d_M_lookOnce_286 : decode b_M_lookOnce 286 = .ok (.aload_n 0, 1) := by decide +kernel
theorem d_M_lookOnce_287 : decode b_M_lookOnce 287 = .ok (.getfield 210, 3) := by decide +kernel
theorem d_M_lookOnce_290 : decode b_M_lookOnce 290 = .ok (.iconst 1, 1) := by decide +kernel
theorem d_M_lookOnce_291 : decode b_M_lookOnce 291 = .ok (.isub, 1) := by decide +kernel
theorem d_M_lookOnce_292 : decode b_M_lookOnce 292 = .ok (.aload_n 0, 1) := by decide +kernel
theorem d_M_lookOnce_293 : decode b_M_lookOnce 293 = .ok (.getfield 121, 3) := by decide +kernel
theorem d_M_lookOnce_296 : decode b_M_lookOnce 296 = .ok (.aload_n 0, 1) := by decide +kernel
theorem d_M_lookOnce_297 : decode b_M_lookOnce 297 = .ok (.getfield 210, 3) := by decide +kernel
theorem d_M_lookOnce_300 : decode b_M_lookOnce 300 = .ok (.iconst 1, 1) := by decide +kernel
theorem d_M_lookOnce_301 : decode b_M_lookOnce 301 = .ok (.isub, 1) := by decide +kernel
theorem d_M_lookOnce_302 : decode b_M_lookOnce 302 = .ok (.baload, 1) := by decide +kernel
theorem d_M_lookOnce_303 : decode b_M_lookOnce 303 = .ok (.invokestatic 226, 3) := by decide +kernel
theorem d_M_lookOnce_306 : decode b_M_lookOnce 306 = .ok (.lastore, 1) := by decide +kernel
theorem d_M_lookOnce_307 : decode b_M_lookOnce 307 = .ok (.aload_n 0, 1) := by decide +kernel
theorem d_M_lookOnce_308 : decode b_M_lookOnce 308 = .ok (.getfield 121, 3) := by decide +kernel
theorem d_M_lookOnce_311 : decode b_M_lookOnce 311 = .ok (.aload_n 0, 1) := by decide +kernel
theorem d_M_lookOnce_312 : decode b_M_lookOnce 312 = .ok (.getfield 210, 3) := by decide +kernel
theorem d_M_lookOnce_315 : decode b_M_lookOnce 315 = .ok (.iconst 1, 1) := by decide +kernel
theorem d_M_lookOnce_316 : decode b_M_lookOnce 316 = .ok (.isub, 1) := by decide +kernel
theorem d_M_lookOnce_317 : decode b_M_lookOnce 317 = .ok (.iconst 0, 1) := by decide +kernel
theorem d_M_lookOnce_318 : decode b_M_lookOnce 318 = .ok (.bastore, 1) := by decide +kernel
theorem d_M_lookOnce_319 : decode b_M_lookOnce 319 = .ok (.aload_n 0, 1) := by decide +kernel
theorem d_M_lookOnce_320 : decode b_M_lookOnce 320 = .ok (.dup, 1) := by decide +kernel
theorem d_M_lookOnce_321 : decode b_M_lookOnce 321 = .ok (.getfield 193, 3) := by decide +kernel
theorem d_M_lookOnce_324 : decode b_M_lookOnce 324 = .ok (.iconst 1, 1) := by decide +kernel
theorem d_M_lookOnce_325 : decode b_M_lookOnce 325 = .ok (.isub, 1) := by decide +kernel
theorem d_M_lookOnce_326 : decode b_M_lookOnce 326 = .ok (.putfield 193, 3) := by decide +kernel
theorem d_M_lookOnce_329 : decode b_M_lookOnce 329 = .ok (.goto 115, 3) := by decide +kernel
theorem d_M_lookOnce_332 : decode b_M_lookOnce 332 = .ok (.aload_n 0, 1) := by decide +kernel
theorem d_M_lookOnce_333 : decode b_M_lookOnce 333 = .ok (.getfield 115, 3) := by decide +kernel
theorem d_M_lookOnce_336 : decode b_M_lookOnce 336 = .ok (.iload_n 1, 1) := by decide +kernel
theorem d_M_lookOnce_337 : decode b_M_lookOnce 337 = .ok (.iaload, 1) := by decide +kernel
theorem d_M_lookOnce_338 : decode b_M_lookOnce 338 = .ok (.iconst 1, 1) := by decide +kernel
theorem d_M_lookOnce_339 : decode b_M_lookOnce 339 = .ok (.if_icmp .ne 60, 3) := by decide +kernel
theorem d_M_lookOnce_342 : decode b_M_lookOnce 342 = .ok (.iload_n 3, 1) := by decide +kernel
theorem d_M_lookOnce_343 : decode b_M_lookOnce 343 = .ok (.bipush 9, 2) := by decide +kernel
theorem d_M_lookOnce_345 : decode b_M_lookOnce 345 = .ok (.if_icmp .ne 19, 3) := by decide +kernel
theorem d_M_lookOnce_348 : decode b_M_lookOnce 348 = .ok (.aload_n 0, 1) := by decide +kernel
theorem d_M_lookOnce_349 : decode b_M_lookOnce 349 = .ok (.getfield 118, 3) := by decide +kernel
theorem d_M_lookOnce_352 : decode b_M_lookOnce 352 = .ok (.aload_n 0, 1) := by decide +kernel
theorem d_M_lookOnce_353 : decode b_M_lookOnce 353 = .ok (.getfield 210, 3) := by decide +kernel
theorem d_M_lookOnce_356 : decode b_M_lookOnce 356 = .ok (.iconst 1, 1) := by decide +kernel
theorem d_M_lookOnce_357 : decode b_M_lookOnce 357 = .ok (.isub, 1) := by decide +kernel
theorem d_M_lookOnce_358 : decode b_M_lookOnce 358 = .ok (.laload, 1) := by decide +kernel
theorem d_M_lookOnce_359 : decode b_M_lookOnce 359 = .ok (.lconst 0, 1) := by decide +kernel
theorem d_M_lookOnce_360 : decode b_M_lookOnce 360 = .ok (.lcmp, 1) := by decide +kernel
theorem d_M_lookOnce_361 : decode b_M_lookOnce 361 = .ok (.ifCond .eq 25, 3) := by decide +kernel
theorem d_M_lookOnce_364 : decode b_M_lookOnce 364 = .ok (.iload_n 3, 1) := by decide +kernel
theorem d_M_lookOnce_365 : decode b_M_lookOnce 365 = .ok (.bipush 10, 2) := by decide +kernel
theorem d_M_lookOnce_367 : decode b_M_lookOnce 367 = .ok (.if_icmp .ne 32, 3) := by decide +kernel
theorem d_M_lookOnce_370 : decode b_M_lookOnce 370 = .ok (.aload_n 0, 1) := by decide +kernel
theorem d_M_lookOnce_371 : decode b_M_lookOnce 371 = .ok (.getfield 118, 3) := by decide +kernel
theorem d_M_lookOnce_374 : decode b_M_lookOnce 374 = .ok (.aload_n 0, 1) := by decide +kernel
theorem d_M_lookOnce_375 : decode b_M_lookOnce 375 = .ok (.getfield 210, 3) := by decide +kernel
theorem d_M_lookOnce_378 : decode b_M_lookOnce 378 = .ok (.iconst 1, 1) := by decide +kernel
theorem d_M_lookOnce_379 : decode b_M_lookOnce 379 = .ok (.isub, 1) := by decide +kernel
theorem d_M_lookOnce_380 : decode b_M_lookOnce 380 = .ok (.laload, 1) := by decide +kernel
theorem d_M_lookOnce_381 : decode b_M_lookOnce 381 = .ok (.lconst 1, 1) := by decide +kernel
theorem d_M_lookOnce_382 : decode b_M_lookOnce 382 = .ok (.lcmp, 1) := by decide +kernel
theorem d_M_lookOnce_383 : decode b_M_lookOnce 383 = .ok (.ifCond .ne 16, 3) := by decide +kernel
theorem d_M_lookOnce_386 : decode b_M_lookOnce 386 = .ok (.aload_n 0, 1) := by decide +kernel
theorem d_M_lookOnce_387 : decode b_M_lookOnce 387 = .ok (.dup, 1) := by decide +kernel
theorem d_M_lookOnce_388 : decode b_M_lookOnce 388 = .ok (.getfield 193, 3) := by decide +kernel
theorem d_M_lookOnce_391 : decode b_M_lookOnce 391 = .ok (.iconst 1, 1) := by decide +kernel
theorem d_M_lookOnce_392 : decode b_M_lookOnce 392 = .ok (.isub, 1) := by decide +kernel
theorem d_M_lookOnce_393 : decode b_M_lookOnce 393 = .ok (.putfield 193, 3) := by decide +kernel
theorem d_M_lookOnce_396 : decode b_M_lookOnce 396 = .ok (.goto 48, 3) := by decide +kernel
theorem d_M_lookOnce_399 : decode b_M_lookOnce 399 = .ok (.aload_n 0, 1) := by decide +kernel
theorem d_M_lookOnce_400 : decode b_M_lookOnce 400 = .ok (.getfield 115, 3) := by decide +kernel
theorem d_M_lookOnce_403 : decode b_M_lookOnce 403 = .ok (.iload_n 1, 1) := by decide +kernel
theorem d_M_lookOnce_404 : decode b_M_lookOnce 404 = .ok (.iaload, 1) := by decide +kernel
theorem d_M_lookOnce_405 : decode b_M_lookOnce 405 = .ok (.iconst 1, 1) := by decide +kernel
theorem d_M_lookOnce_406 : decode b_M_lookOnce 406 = .ok (.if_icmp .ne 23, 3) := by decide +kernel
theorem d_M_lookOnce_409 : decode b_M_lookOnce 409 = .ok (.aload_n 0, 1) := by decide +kernel
theorem d_M_lookOnce_410 : decode b_M_lookOnce 410 = .ok (.getfield 115, 3) := by decide +kernel
theorem d_M_lookOnce_413 : decode b_M_lookOnce 413 = .ok (.iload_n 1, 1) := by decide +kernel
theorem d_M_lookOnce_414 : decode b_M_lookOnce 414 = .ok (.iconst 2, 1) := by decide +kernel
theorem d_M_lookOnce_415 : decode b_M_lookOnce 415 = .ok (.iastore, 1) := by decide +kernel
theorem d_M_lookOnce_416 : decode b_M_lookOnce 416 = .ok (.aload_n 0, 1) := by decide +kernel
theorem d_M_lookOnce_417 : decode b_M_lookOnce 417 = .ok (.aload_n 0, 1) := by decide +kernel
theorem d_M_lookOnce_418 : decode b_M_lookOnce 418 = .ok (.getfield 30, 3) := by decide +kernel
theorem d_M_lookOnce_421 : decode b_M_lookOnce 421 = .ok (.iload_n 2, 1) := by decide +kernel
theorem d_M_lookOnce_422 : decode b_M_lookOnce 422 = .ok (.iaload, 1) := by decide +kernel
theorem d_M_lookOnce_423 : decode b_M_lookOnce 423 = .ok (.invokevirtual 196, 3) := by decide +kernel
theorem d_M_lookOnce_426 : decode b_M_lookOnce 426 = .ok (.goto 18, 3) := by decide +kernel
theorem d_M_lookOnce_429 : decode b_M_lookOnce 429 = .ok (.aload_n 0, 1) := by decide +kernel
theorem d_M_lookOnce_430 : decode b_M_lookOnce 430 = .ok (.iload_n 3, 1) := by decide +kernel
theorem d_M_lookOnce_431 : decode b_M_lookOnce 431 = .ok (.invokevirtual 243, 3) := by decide +kernel
theorem d_M_lookOnce_434 : decode b_M_lookOnce 434 = .ok (.aload_n 0, 1) := by decide +kernel
theorem d_M_lookOnce_435 : decode b_M_lookOnce 435 = .ok (.dup, 1) := by decide +kernel
theorem d_M_lookOnce_436 : decode b_M_lookOnce 436 = .ok (.getfield 193, 3) := by decide +kernel
theorem d_M_lookOnce_439 : decode b_M_lookOnce 439 = .ok (.iconst 1, 1) := by decide +kernel
theorem d_M_lookOnce_440 : decode b_M_lookOnce 440 = .ok (.isub, 1) := by decide +kernel
theorem d_M_lookOnce_441 : decode b_M_lookOnce 441 = .ok (.putfield 193, 3) := by decide +kernel
theorem d_M_lookOnce_444 : decode b_M_lookOnce 444 = .ok (.return_, 1) := by decide +kernel
theorem d_M_workOut_0 : decode b_M_workOut 0 = .ok (.aload_n 0, 1) := by decide +kernel
theorem d_M_workOut_1 : decode b_M_workOut 1 = .ok (.iconst 0, 1) := by decide +kernel
theorem d_M_workOut_2 : decode b_M_workOut 2 = .ok (.putfield 193, 3) := by decide +kernel
theorem d_M_workOut_5 : decode b_M_workOut 5 = .ok (.aload_n 0, 1) := by decide +kernel
theorem d_M_workOut_6 : decode b_M_workOut 6 = .ok (.iconst 0, 1) := by decide +kernel
theorem d_M_workOut_7 : decode b_M_workOut 7 = .ok (.putfield 210, 3) := by decide +kernel
theorem d_M_workOut_10 : decode b_M_workOut 10 = .ok (.aload_n 0, 1) := by decide +kernel
theorem d_M_workOut_11 : decode b_M_workOut 11 = .ok (.iload_n 1, 1) := by decide +kernel
theorem d_M_workOut_12 : decode b_M_workOut 12 = .ok (.invokevirtual 196, 3) := by decide +kernel
theorem d_M_workOut_15 : decode b_M_workOut 15 = .ok (.aload_n 0, 1) := by decide +kernel
theorem d_M_workOut_16 : decode b_M_workOut 16 = .ok (.getfield 193, 3) := by decide +kernel
theorem d_M_workOut_19 : decode b_M_workOut 19 = .ok (.ifCond .le 17, 3) := by decide +kernel
theorem d_M_workOut_22 : decode b_M_workOut 22 = .ok (.aload_n 0, 1) := by decide +kernel
theorem d_M_workOut_23 : decode b_M_workOut 23 = .ok (.getfield 213, 3) := by decide +kernel
theorem d_M_workOut_26 : decode b_M_workOut 26 = .ok (.ifCond .ne 10, 3) := by decide +kernel
theorem d_M_workOut_29 : decode b_M_workOut 29 = .ok (.aload_n 0, 1) := by decide +kernel
theorem d_M_workOut_30 : decode b_M_workOut 30 = .ok (.invokevirtual 246, 3) := by decide +kernel
theorem d_M_workOut_33 : decode b_M_workOut 33 = .ok (.goto (-18), 3) := by decide +kernel
theorem d_M_workOut_36 : decode b_M_workOut 36 = .ok (.return_, 1) := by decide +kernel
theorem d_M_giveRow_0 : decode b_M_giveRow 0 = .ok (.aload_n 0, 1) := by decide +kernel
theorem d_M_giveRow_1 : decode b_M_giveRow 1 = .ok (.getfield 268, 3) := by decide +kernel
theorem d_M_giveRow_4 : decode b_M_giveRow 4 = .ok (.sipush 200, 3) := by decide +kernel
theorem d_M_giveRow_7 : decode b_M_giveRow 7 = .ok (.if_icmp .ne 10, 3) := by decide +kernel
theorem d_M_giveRow_10 : decode b_M_giveRow 10 = .ok (.aload_n 0, 1) := by decide +kernel
theorem d_M_giveRow_11 : decode b_M_giveRow 11 = .ok (.bipush (-15), 2) := by decide +kernel
theorem d_M_giveRow_13 : decode b_M_giveRow 13 = .ok (.putfield 213, 3) := by decide +kernel
theorem d_M_giveRow_16 : decode b_M_giveRow 16 = .ok (.return_, 1) := by decide +kernel
theorem d_M_giveRow_17 : decode b_M_giveRow 17 = .ok (.iconst 0, 1) := by decide +kernel
theorem d_M_giveRow_18 : decode b_M_giveRow 18 = .ok (.istore_n 1, 1) := by decide +kernel
theorem d_M_giveRow_19 : decode b_M_giveRow 19 = .ok (.iload_n 1, 1) := by decide +kernel
theorem d_M_giveRow_20 : decode b_M_giveRow 20 = .ok (.aload_n 0, 1) := by decide +kernel
theorem d_M_giveRow_21 : decode b_M_giveRow 21 = .ok (.getfield 149, 3) := by decide +kernel
theorem d_M_giveRow_24 : decode b_M_giveRow 24 = .ok (.if_icmp .ge 67, 3) := by decide +kernel
theorem d_M_giveRow_27 : decode b_M_giveRow 27 = .ok (.aload_n 0, 1) := by decide +kernel
theorem d_M_giveRow_28 : decode b_M_giveRow 28 = .ok (.aload_n 0, 1) := by decide +kernel
theorem d_M_giveRow_29 : decode b_M_giveRow 29 = .ok (.getfield 70, 3) := by decide +kernel
theorem d_M_giveRow_32 : decode b_M_giveRow 32 = .ok (.iload_n 1, 1) := by decide +kernel
theorem d_M_giveRow_33 : decode b_M_giveRow 33 = .ok (.iaload, 1) := by decide +kernel
theorem d_M_giveRow_34 : decode b_M_giveRow 34 = .ok (.invokevirtual 249, 3) := by decide +kernel
theorem d_M_giveRow_37 : decode b_M_giveRow 37 = .ok (.aload_n 0, 1) := by decide +kernel
theorem d_M_giveRow_38 : decode b_M_giveRow 38 = .ok (.getfield 213, 3) := by decide +kernel
theorem d_M_giveRow_41 : decode b_M_giveRow 41 = .ok (.ifCond .eq 4, 3) := by decide +kernel
theorem d_M_giveRow_44 : decode b_M_giveRow 44 = .ok (.return_, 1) := by decide +kernel
theorem d_M_giveRow_45 : decode b_M_giveRow 45 = .ok (.aload_n 0, 1) := by decide +kernel
theorem d_M_giveRow_46 : decode b_M_giveRow 46 = .ok (.getfield 82, 3) := by decide +kernel
theorem d_M_giveRow_49 : decode b_M_giveRow 49 = .ok (.bipush 6, 2) := by decide +kernel
theorem d_M_giveRow_51 : decode b_M_giveRow 51 = .ok (.aload_n 0, 1) := by decide +kernel
theorem d_M_giveRow_52 : decode b_M_giveRow 52 = .ok (.getfield 268, 3) := by decide +kernel
theorem d_M_giveRow_55 : decode b_M_giveRow 55 = .ok (.imul, 1) := by decide +kernel
theorem d_M_giveRow_56 : decode b_M_giveRow 56 = .ok (.iload_n 1, 1) := by decide +kernel
theorem d_M_giveRow_57 : decode b_M_giveRow 57 = .ok (.iadd, 1) := by decide +kernel
theorem d_M_giveRow_58 : decode b_M_giveRow 58 = .ok (.aload_n 0, 1) := by decide +kernel
theorem d_M_giveRow_59 : decode b_M_giveRow 59 = .ok (.getfield 118, 3) := by decide +kernel
theorem d_M_giveRow_62 : decode b_M_giveRow 62 = .ok (.iconst 0, 1) := by decide +kernel
theorem d_M_giveRow_63 : decode b_M_giveRow 63 = .ok (.laload, 1) := by decide +kernel
theorem d_M_giveRow_64 : decode b_M_giveRow 64 = .ok (.lastore, 1) := by decide +kernel
theorem d_M_giveRow_65 : decode b_M_giveRow 65 = .ok (.aload_n 0, 1) := by decide +kernel
theorem d_M_giveRow_66 : decode b_M_giveRow 66 = .ok (.getfield 85, 3) := by decide +kernel
theorem d_M_giveRow_69 : decode b_M_giveRow 69 = .ok (.bipush 6, 2) := by decide +kernel
theorem d_M_giveRow_71 : decode b_M_giveRow 71 = .ok (.aload_n 0, 1) := by decide +kernel
theorem d_M_giveRow_72 : decode b_M_giveRow 72 = .ok (.getfield 268, 3) := by decide +kernel
theorem d_M_giveRow_75 : decode b_M_giveRow 75 = .ok (.imul, 1) := by decide +kernel
theorem d_M_giveRow_76 : decode b_M_giveRow 76 = .ok (.iload_n 1, 1) := by decide +kernel
theorem d_M_giveRow_77 : decode b_M_giveRow 77 = .ok (.iadd, 1) := by decide +kernel
theorem d_M_giveRow_78 : decode b_M_giveRow 78 = .ok (.aload_n 0, 1) := by decide +kernel
theorem d_M_giveRow_79 : decode b_M_giveRow 79 = .ok (.getfield 121, 3) := by decide +kernel
theorem d_M_giveRow_82 : decode b_M_giveRow 82 = .ok (.iconst 0, 1) := by decide +kernel
theorem d_M_giveRow_83 : decode b_M_giveRow 83 = .ok (.baload, 1) := by decide +kernel
theorem d_M_giveRow_84 : decode b_M_giveRow 84 = .ok (.bastore, 1) := by decide +kernel
theorem d_M_giveRow_85 : decode b_M_giveRow 85 = .ok (.iinc 1 1, 3) := by decide +kernel
theorem d_M_giveRow_88 : decode b_M_giveRow 88 = .ok (.goto (-69), 3) := by decide +kernel
theorem d_M_giveRow_91 : decode b_M_giveRow 91 = .ok (.aload_n 0, 1) := by decide +kernel
theorem d_M_giveRow_92 : decode b_M_giveRow 92 = .ok (.dup, 1) := by decide +kernel
theorem d_M_giveRow_93 : decode b_M_giveRow 93 = .ok (.getfield 268, 3) := by decide +kernel
theorem d_M_giveRow_96 : decode b_M_giveRow 96 = .ok (.iconst 1, 1) := by decide +kernel
theorem d_M_giveRow_97 : decode b_M_giveRow 97 = .ok (.iadd, 1) := by decide +kernel
theorem d_M_giveRow_98 : decode b_M_giveRow 98 = .ok (.putfield 268, 3) := by decide +kernel
theorem d_M_giveRow_101 : decode b_M_giveRow 101 = .ok (.return_, 1) := by decide +kernel
theorem d_M_findGroup_0 : decode b_M_findGroup 0 = .ok (.aload_n 0, 1) := by decide +kernel
theorem d_M_findGroup_1 : decode b_M_findGroup 1 = .ok (.getfield 261, 3) := by decide +kernel
theorem d_M_findGroup_4 : decode b_M_findGroup 4 = .ok (.istore_n 1, 1) := by decide +kernel
theorem d_M_findGroup_5 : decode b_M_findGroup 5 = .ok (.iconst 0, 1) := by decide +kernel
theorem d_M_findGroup_6 : decode b_M_findGroup 6 = .ok (.istore_n 2, 1) := by decide +kernel
theorem d_M_findGroup_7 : decode b_M_findGroup 7 = .ok (.iload_n 2, 1) := by decide +kernel
theorem d_M_findGroup_8 : decode b_M_findGroup 8 = .ok (.aload_n 0, 1) := by decide +kernel
theorem d_M_findGroup_9 : decode b_M_findGroup 9 = .ok (.getfield 146, 3) := by decide +kernel
theorem d_M_findGroup_12 : decode b_M_findGroup 12 = .ok (.if_icmp .ge 60, 3) := by decide +kernel
theorem d_M_findGroup_15 : decode b_M_findGroup 15 = .ok (.aload_n 0, 1) := by decide +kernel
theorem d_M_findGroup_16 : decode b_M_findGroup 16 = .ok (.aload_n 0, 1) := by decide +kernel
theorem d_M_findGroup_17 : decode b_M_findGroup 17 = .ok (.getfield 67, 3) := by decide +kernel
theorem d_M_findGroup_20 : decode b_M_findGroup 20 = .ok (.iload_n 2, 1) := by decide +kernel
theorem d_M_findGroup_21 : decode b_M_findGroup 21 = .ok (.iaload, 1) := by decide +kernel
theorem d_M_findGroup_22 : decode b_M_findGroup 22 = .ok (.invokevirtual 249, 3) := by decide +kernel
theorem d_M_findGroup_25 : decode b_M_findGroup 25 = .ok (.aload_n 0, 1) := by decide +kernel
theorem d_M_findGroup_26 : decode b_M_findGroup 26 = .ok (.getfield 213, 3) := by decide +kernel
theorem d_M_findGroup_29 : decode b_M_findGroup 29 = .ok (.ifCond .eq 5, 3) := by decide +kernel
theorem d_M_findGroup_32 : decode b_M_findGroup 32 = .ok (.iconst 0, 1) := by decide +kernel
theorem d_M_findGroup_33 : decode b_M_findGroup 33 = .ok (.ireturn, 1) := by decide +kernel
theorem d_M_findGroup_34 : decode b_M_findGroup 34 = .ok (.aload_n 0, 1) := by decide +kernel
theorem d_M_findGroup_35 : decode b_M_findGroup 35 = .ok (.getfield 100, 3) := by decide +kernel
theorem d_M_findGroup_38 : decode b_M_findGroup 38 = .ok (.iconst 4, 1) := by decide +kernel
theorem d_M_findGroup_39 : decode b_M_findGroup 39 = .ok (.iload_n 1, 1) := by decide +kernel
theorem d_M_findGroup_40 : decode b_M_findGroup 40 = .ok (.imul, 1) := by decide +kernel
theorem d_M_findGroup_41 : decode b_M_findGroup 41 = .ok (.iload_n 2, 1) := by decide +kernel
theorem d_M_findGroup_42 : decode b_M_findGroup 42 = .ok (.iadd, 1) := by decide +kernel
theorem d_M_findGroup_43 : decode b_M_findGroup 43 = .ok (.aload_n 0, 1) := by decide +kernel
theorem d_M_findGroup_44 : decode b_M_findGroup 44 = .ok (.getfield 118, 3) := by decide +kernel
theorem d_M_findGroup_47 : decode b_M_findGroup 47 = .ok (.iconst 0, 1) := by decide +kernel
theorem d_M_findGroup_48 : decode b_M_findGroup 48 = .ok (.laload, 1) := by decide +kernel
theorem d_M_findGroup_49 : decode b_M_findGroup 49 = .ok (.lastore, 1) := by decide +kernel
theorem d_M_findGroup_50 : decode b_M_findGroup 50 = .ok (.aload_n 0, 1) := by decide +kernel
theorem d_M_findGroup_51 : decode b_M_findGroup 51 = .ok (.getfield 103, 3) := by decide +kernel
theorem d_M_findGroup_54 : decode b_M_findGroup 54 = .ok (.iconst 4, 1) := by decide +kernel
theorem d_M_findGroup_55 : decode b_M_findGroup 55 = .ok (.iload_n 1, 1) := by decide +kernel
theorem d_M_findGroup_56 : decode b_M_findGroup 56 = .ok (.imul, 1) := by decide +kernel
theorem d_M_findGroup_57 : decode b_M_findGroup 57 = .ok (.iload_n 2, 1) := by decide +kernel
theorem d_M_findGroup_58 : decode b_M_findGroup 58 = .ok (.iadd, 1) := by decide +kernel
theorem d_M_findGroup_59 : decode b_M_findGroup 59 = .ok (.aload_n 0, 1) := by decide +kernel
theorem d_M_findGroup_60 : decode b_M_findGroup 60 = .ok (.getfield 121, 3) := by decide +kernel
theorem d_M_findGroup_63 : decode b_M_findGroup 63 = .ok (.iconst 0, 1) := by decide +kernel
theorem d_M_findGroup_64 : decode b_M_findGroup 64 = .ok (.baload, 1) := by decide +kernel
theorem d_M_findGroup_65 : decode b_M_findGroup 65 = .ok (.bastore, 1) := by decide +kernel
theorem d_M_findGroup_66 : decode b_M_findGroup 66 = .ok (.iinc 2 1, 3) := by decide +kernel
theorem d_M_findGroup_69 : decode b_M_findGroup 69 = .ok (.goto (-62), 3) := by decide +kernel
theorem d_M_findGroup_72 : decode b_M_findGroup 72 = .ok (.iconst 0, 1) := by decide +kernel
theorem d_M_findGroup_73 : decode b_M_findGroup 73 = .ok (.istore_n 2, 1) := by decide +kernel
theorem d_M_findGroup_74 : decode b_M_findGroup 74 = .ok (.iload_n 2, 1) := by decide +kernel
theorem d_M_findGroup_75 : decode b_M_findGroup 75 = .ok (.aload_n 0, 1) := by decide +kernel
theorem d_M_findGroup_76 : decode b_M_findGroup 76 = .ok (.getfield 261, 3) := by decide +kernel
theorem d_M_findGroup_79 : decode b_M_findGroup 79 = .ok (.if_icmp .ge 105, 3) := by decide +kernel
theorem d_M_findGroup_82 : decode b_M_findGroup 82 = .ok (.iconst 1, 1) := by decide +kernel
theorem d_M_findGroup_83 : decode b_M_findGroup 83 = .ok (.istore_n 3, 1) := by decide +kernel
theorem d_M_findGroup_84 : decode b_M_findGroup 84 = .ok (.iconst 0, 1) := by decide +kernel
theorem d_M_findGroup_85 : decode b_M_findGroup 85 = .ok (.istore 4, 2) := by decide +kernel
theorem d_M_findGroup_87 : decode b_M_findGroup 87 = .ok (.iload 4, 2) := by decide +kernel
theorem d_M_findGroup_89 : decode b_M_findGroup 89 = .ok (.aload_n 0, 1) := by decide +kernel
theorem d_M_findGroup_90 : decode b_M_findGroup 90 = .ok (.getfield 146, 3) := by decide +kernel
theorem d_M_findGroup_93 : decode b_M_findGroup 93 = .ok (.if_icmp .ge 79, 3) := by decide +kernel
theorem d_M_findGroup_96 : decode b_M_findGroup 96 = .ok (.aload_n 0, 1) := by decide +kernel
theorem d_M_findGroup_97 : decode b_M_findGroup 97 = .ok (.getfield 103, 3) := by decide +kernel
theorem d_M_findGroup_100 : decode b_M_findGroup 100 = .ok (.iconst 4, 1) := by decide +kernel
theorem d_M_findGroup_101 : decode b_M_findGroup 101 = .ok (.iload_n 2, 1) := by decide +kernel
theorem d_M_findGroup_102 : decode b_M_findGroup 102 = .ok (.imul, 1) := by decide +kernel
theorem d_M_findGroup_103 : decode b_M_findGroup 103 = .ok (.iload 4, 2) := by decide +kernel
theorem d_M_findGroup_105 : decode b_M_findGroup 105 = .ok (.iadd, 1) := by decide +kernel
theorem d_M_findGroup_106 : decode b_M_findGroup 106 = .ok (.baload, 1) := by decide +kernel
theorem d_M_findGroup_107 : decode b_M_findGroup 107 = .ok (.istore 5, 2) := by decide +kernel
theorem d_M_findGroup_109 : decode b_M_findGroup 109 = .ok (.iload_n 3, 1) := by decide +kernel
theorem d_M_findGroup_110 : decode b_M_findGroup 110 = .ok (.ifCond .eq 54, 3) := by decide +kernel
theorem d_M_findGroup_113 : decode b_M_findGroup 113 = .ok (.iload 5, 2) := by decide +kernel
theorem d_M_findGroup_115 : decode b_M_findGroup 115 = .ok (.aload_n 0, 1) := by decide +kernel
theorem d_M_findGroup_116 : decode b_M_findGroup 116 = .ok (.getfield 103, 3) := by decide +kernel
theorem d_M_findGroup_119 : decode b_M_findGroup 119 = .ok (.iconst 4, 1) := by decide +kernel
theorem d_M_findGroup_120 : decode b_M_findGroup 120 = .ok (.iload_n 1, 1) := by decide +kernel
theorem d_M_findGroup_121 : decode b_M_findGroup 121 = .ok (.imul, 1) := by decide +kernel
theorem d_M_findGroup_122 : decode b_M_findGroup 122 = .ok (.iload 4, 2) := by decide +kernel
theorem d_M_findGroup_124 : decode b_M_findGroup 124 = .ok (.iadd, 1) := by decide +kernel
theorem d_M_findGroup_125 : decode b_M_findGroup 125 = .ok (.baload, 1) := by decide +kernel
theorem d_M_findGroup_126 : decode b_M_findGroup 126 = .ok (.if_icmp .ne 38, 3) := by decide +kernel
theorem d_M_findGroup_129 : decode b_M_findGroup 129 = .ok (.iload 5, 2) := by decide +kernel
theorem d_M_findGroup_131 : decode b_M_findGroup 131 = .ok (.ifCond .ne 29, 3) := by decide +kernel
theorem d_M_findGroup_134 : decode b_M_findGroup 134 = .ok (.aload_n 0, 1) := by decide +kernel
theorem d_M_findGroup_135 : decode b_M_findGroup 135 = .ok (.getfield 100, 3) := by decide +kernel
theorem d_M_findGroup_138 : decode b_M_findGroup 138 = .ok (.iconst 4, 1) := by decide +kernel
theorem d_M_findGroup_139 : decode b_M_findGroup 139 = .ok (.iload_n 2, 1) := by decide +kernel
theorem d_M_findGroup_140 : decode b_M_findGroup 140 = .ok (.imul, 1) := by decide +kernel
theorem d_M_findGroup_141 : decode b_M_findGroup 141 = .ok (.iload 4, 2) := by decide +kernel
theorem d_M_findGroup_143 : decode b_M_findGroup 143 = .ok (.iadd, 1) := by decide +kernel
theorem d_M_findGroup_144 : decode b_M_findGroup 144 = .ok (.laload, 1) := by decide +kernel
theorem d_M_findGroup_145 : decode b_M_findGroup 145 = .ok (.aload_n 0, 1) := by decide +kernel
theorem d_M_findGroup_146 : decode b_M_findGroup 146 = .ok (.getfield 100, 3) := by decide +kernel
theorem d_M_findGroup_149 : decode b_M_findGroup 149 = .ok (.iconst 4, 1) := by decide +kernel
theorem d_M_findGroup_150 : decode b_M_findGroup 150 = .ok (.iload_n 1, 1) := by decide +kernel
theorem d_M_findGroup_151 : decode b_M_findGroup 151 = .ok (.imul, 1) := by decide +kernel
theorem d_M_findGroup_152 : decode b_M_findGroup 152 = .ok (.iload 4, 2) := by decide +kernel
theorem d_M_findGroup_154 : decode b_M_findGroup 154 = .ok (.iadd, 1) := by decide +kernel
theorem d_M_findGroup_155 : decode b_M_findGroup 155 = .ok (.laload, 1) := by decide +kernel
theorem d_M_findGroup_156 : decode b_M_findGroup 156 = .ok (.lcmp, 1) := by decide +kernel
theorem d_M_findGroup_157 : decode b_M_findGroup 157 = .ok (.ifCond .ne 7, 3) := by decide +kernel
theorem d_M_findGroup_160 : decode b_M_findGroup 160 = .ok (.iconst 1, 1) := by decide +kernel
theorem d_M_findGroup_161 : decode b_M_findGroup 161 = .ok (.goto 4, 3) := by decide +kernel
theorem d_M_findGroup_164 : decode b_M_findGroup 164 = .ok (.iconst 0, 1) := by decide +kernel
theorem d_M_findGroup_165 : decode b_M_findGroup 165 = .ok (.istore_n 3, 1) := by decide +kernel
theorem d_M_findGroup_166 : decode b_M_findGroup 166 = .ok (.iinc 4 1, 3) := by decide +kernel
theorem d_M_findGroup_169 : decode b_M_findGroup 169 = .ok (.goto (-82), 3) := by decide +kernel
theorem d_M_findGroup_172 : decode b_M_findGroup 172 = .ok (.iload_n 3, 1) := by decide +kernel
theorem d_M_findGroup_173 : decode b_M_findGroup 173 = .ok (.ifCond .eq 5, 3) := by decide +kernel
theorem d_M_findGroup_176 : decode b_M_findGroup 176 = .ok (.iload_n 2, 1) := by decide +kernel
theorem d_M_findGroup_177 : decode b_M_findGroup 177 = .ok (.ireturn, 1) := by decide +kernel
theorem d_M_findGroup_178 : decode b_M_findGroup 178 = .ok (.iinc 2 1, 3) := by decide +kernel
theorem d_M_findGroup_181 : decode b_M_findGroup 181 = .ok (.goto (-107), 3) := by decide +kernel
theorem d_M_findGroup_184 : decode b_M_findGroup 184 = .ok (.iconst 0, 1) := by decide +kernel
theorem d_M_findGroup_185 : decode b_M_findGroup 185 = .ok (.istore_n 2, 1) := by decide +kernel
theorem d_M_findGroup_186 : decode b_M_findGroup 186 = .ok (.iload_n 2, 1) := by decide +kernel
theorem d_M_findGroup_187 : decode b_M_findGroup 187 = .ok (.bipush 8, 2) := by decide +kernel
theorem d_M_findGroup_189 : decode b_M_findGroup 189 = .ok (.if_icmp .ge 21, 3) := by decide +kernel
theorem d_M_findGroup_192 : decode b_M_findGroup 192 = .ok (.aload_n 0, 1) := by decide +kernel
theorem d_M_findGroup_193 : decode b_M_findGroup 193 = .ok (.getfield 106, 3) := by decide +kernel
theorem d_M_findGroup_196 : decode b_M_findGroup 196 = .ok (.bipush 8, 2) := by decide +kernel
theorem d_M_findGroup_198 : decode b_M_findGroup 198 = .ok (.iload_n 1, 1) := by decide +kernel
theorem d_M_findGroup_199 : decode b_M_findGroup 199 = .ok (.imul, 1) := by decide +kernel
theorem d_M_findGroup_200 : decode b_M_findGroup 200 = .ok (.iload_n 2, 1) := by decide +kernel
theorem d_M_findGroup_201 : decode b_M_findGroup 201 = .ok (.iadd, 1) := by decide +kernel
theorem d_M_findGroup_202 : decode b_M_findGroup 202 = .ok (.lconst 0, 1) := by decide +kernel
theorem d_M_findGroup_203 : decode b_M_findGroup 203 = .ok (.lastore, 1) := by decide +kernel
theorem d_M_findGroup_204 : decode b_M_findGroup 204 = .ok (.iinc 2 1, 3) := by decide +kernel
theorem d_M_findGroup_207 : decode b_M_findGroup 207 = .ok (.goto (-21), 3) := by decide +kernel
theorem d_M_findGroup_210 : decode b_M_findGroup 210 = .ok (.aload_n 0, 1) := by decide +kernel
theorem d_M_findGroup_211 : decode b_M_findGroup 211 = .ok (.dup, 1) := by decide +kernel
theorem d_M_findGroup_212 : decode b_M_findGroup 212 = .ok (.getfield 261, 3) := by decide +kernel
theorem d_M_findGroup_215 : decode b_M_findGroup 215 = .ok (.iconst 1, 1) := by decide +kernel
theorem d_M_findGroup_216 : decode b_M_findGroup 216 = .ok (.iadd, 1) := by decide +kernel
theorem d_M_findGroup_217 : decode b_M_findGroup 217 = .ok (.putfield 261, 3) := by decide +kernel
theorem d_M_findGroup_220 : decode b_M_findGroup 220 = .ok (.iload_n 1, 1) := by decide +kernel
theorem d_M_findGroup_221 : decode b_M_findGroup 221 = .ok (.ireturn, 1) := by decide +kernel
theorem d_M_putInGroup_0 : decode b_M_putInGroup 0 = .ok (.aload_n 0, 1) := by decide +kernel
theorem d_M_putInGroup_1 : decode b_M_putInGroup 1 = .ok (.invokevirtual 264, 3) := by decide +kernel
theorem d_M_putInGroup_4 : decode b_M_putInGroup 4 = .ok (.istore_n 1, 1) := by decide +kernel
theorem d_M_putInGroup_5 : decode b_M_putInGroup 5 = .ok (.aload_n 0, 1) := by decide +kernel
theorem d_M_putInGroup_6 : decode b_M_putInGroup 6 = .ok (.getfield 213, 3) := by decide +kernel
theorem d_M_putInGroup_9 : decode b_M_putInGroup 9 = .ok (.ifCond .eq 4, 3) := by decide +kernel
theorem d_M_putInGroup_12 : decode b_M_putInGroup 12 = .ok (.return_, 1) := by decide +kernel
theorem d_M_putInGroup_13 : decode b_M_putInGroup 13 = .ok (.aload_n 0, 1) := by decide +kernel
theorem d_M_putInGroup_14 : decode b_M_putInGroup 14 = .ok (.getfield 255, 3) := by decide +kernel
theorem d_M_putInGroup_17 : decode b_M_putInGroup 17 = .ok (.istore_n 2, 1) := by decide +kernel
theorem d_M_putInGroup_18 : decode b_M_putInGroup 18 = .ok (.aload_n 0, 1) := by decide +kernel
theorem d_M_putInGroup_19 : decode b_M_putInGroup 19 = .ok (.getfield 91, 3) := by decide +kernel
theorem d_M_putInGroup_22 : decode b_M_putInGroup 22 = .ok (.iload_n 2, 1) := by decide +kernel
theorem d_M_putInGroup_23 : decode b_M_putInGroup 23 = .ok (.iload_n 1, 1) := by decide +kernel
theorem d_M_putInGroup_24 : decode b_M_putInGroup 24 = .ok (.iastore, 1) := by decide +kernel
theorem d_M_putInGroup_25 : decode b_M_putInGroup 25 = .ok (.aload_n 0, 1) := by decide +kernel
theorem d_M_putInGroup_26 : decode b_M_putInGroup 26 = .ok (.dup, 1) := by decide +kernel
theorem d_M_putInGroup_27 : decode b_M_putInGroup 27 = .ok (.getfield 255, 3) := by decide +kernel
theorem d_M_putInGroup_30 : decode b_M_putInGroup 30 = .ok (.iconst 1, 1) := by decide +kernel
theorem d_M_putInGroup_31 : decode b_M_putInGroup 31 = .ok (.iadd, 1) := by decide +kernel
theorem d_M_putInGroup_32 : decode b_M_putInGroup 32 = .ok (.putfield 255, 3) := by decide +kernel
theorem d_M_putInGroup_35 : decode b_M_putInGroup 35 = .ok (.iconst 0, 1) := by decide +kernel
theorem d_M_putInGroup_36 : decode b_M_putInGroup 36 = .ok (.istore_n 3, 1) := by decide +kernel
theorem d_M_putInGroup_37 : decode b_M_putInGroup 37 = .ok (.iload_n 3, 1) := by decide +kernel
theorem d_M_putInGroup_38 : decode b_M_putInGroup 38 = .ok (.aload_n 0, 1) := by decide +kernel
theorem d_M_putInGroup_39 : decode b_M_putInGroup 39 = .ok (.getfield 140, 3) := by decide +kernel
theorem d_M_putInGroup_42 : decode b_M_putInGroup 42 = .ok (.if_icmp .ge 168, 3) := by decide +kernel
theorem d_M_putInGroup_45 : decode b_M_putInGroup 45 = .ok (.aload_n 0, 1) := by decide +kernel
theorem d_M_putInGroup_46 : decode b_M_putInGroup 46 = .ok (.getfield 24, 3) := by decide +kernel
theorem d_M_putInGroup_49 : decode b_M_putInGroup 49 = .ok (.aload_n 0, 1) := by decide +kernel
theorem d_M_putInGroup_50 : decode b_M_putInGroup 50 = .ok (.getfield 48, 3) := by decide +kernel
theorem d_M_putInGroup_53 : decode b_M_putInGroup 53 = .ok (.iload_n 3, 1) := by decide +kernel
theorem d_M_putInGroup_54 : decode b_M_putInGroup 54 = .ok (.iaload, 1) := by decide +kernel
theorem d_M_putInGroup_55 : decode b_M_putInGroup 55 = .ok (.iaload, 1) := by decide +kernel
theorem d_M_putInGroup_56 : decode b_M_putInGroup 56 = .ok (.bipush 30, 2) := by decide +kernel
theorem d_M_putInGroup_58 : decode b_M_putInGroup 58 = .ok (.isub, 1) := by decide +kernel
theorem d_M_putInGroup_59 : decode b_M_putInGroup 59 = .ok (.istore 4, 2) := by decide +kernel
theorem d_M_putInGroup_61 : decode b_M_putInGroup 61 = .ok (.aload_n 0, 1) := by decide +kernel
theorem d_M_putInGroup_62 : decode b_M_putInGroup 62 = .ok (.getfield 109, 3) := by decide +kernel
theorem d_M_putInGroup_65 : decode b_M_putInGroup 65 = .ok (.iload_n 3, 1) := by decide +kernel
theorem d_M_putInGroup_66 : decode b_M_putInGroup 66 = .ok (.baload, 1) := by decide +kernel
theorem d_M_putInGroup_67 : decode b_M_putInGroup 67 = .ok (.ifCond .eq 137, 3) := by decide +kernel
theorem d_M_putInGroup_70 : decode b_M_putInGroup 70 = .ok (.iload 4, 2) := by decide +kernel
theorem d_M_putInGroup_72 : decode b_M_putInGroup 72 = .ok (.ifCond .ne 6, 3) := by decide +kernel
theorem d_M_putInGroup_75 : decode b_M_putInGroup 75 = .ok (.goto 129, 3) := by decide +kernel
theorem d_M_putInGroup_78 : decode b_M_putInGroup 78 = .ok (.aload_n 0, 1) := by decide +kernel
theorem d_M_putInGroup_79 : decode b_M_putInGroup 79 = .ok (.aload_n 0, 1) := by decide +kernel
theorem d_M_putInGroup_80 : decode b_M_putInGroup 80 = .ok (.getfield 27, 3) := by decide +kernel
theorem d_M_putInGroup_83 : decode b_M_putInGroup 83 = .ok (.aload_n 0, 1) := by decide +kernel
theorem d_M_putInGroup_84 : decode b_M_putInGroup 84 = .ok (.getfield 48, 3) := by decide +kernel
theorem d_M_putInGroup_87 : decode b_M_putInGroup 87 = .ok (.iload_n 3, 1) := by decide +kernel
theorem d_M_putInGroup_88 : decode b_M_putInGroup 88 = .ok (.iaload, 1) := by decide +kernel
theorem d_M_putInGroup_89 : decode b_M_putInGroup 89 = .ok (.iaload, 1) := by decide +kernel
theorem d_M_putInGroup_90 : decode b_M_putInGroup 90 = .ok (.invokevirtual 249, 3) := by decide +kernel
theorem d_M_putInGroup_93 : decode b_M_putInGroup 93 = .ok (.aload_n 0, 1) := by decide +kernel
theorem d_M_putInGroup_94 : decode b_M_putInGroup 94 = .ok (.getfield 213, 3) := by decide +kernel
theorem d_M_putInGroup_97 : decode b_M_putInGroup 97 = .ok (.ifCond .eq 4, 3) := by decide +kernel
theorem d_M_putInGroup_100 : decode b_M_putInGroup 100 = .ok (.return_, 1) := by decide +kernel
theorem d_M_putInGroup_101 : decode b_M_putInGroup 101 = .ok (.aload_n 0, 1) := by decide +kernel
theorem d_M_putInGroup_102 : decode b_M_putInGroup 102 = .ok (.getfield 94, 3) := by decide +kernel
theorem d_M_putInGroup_105 : decode b_M_putInGroup 105 = .ok (.bipush 8, 2) := by decide +kernel
theorem d_M_putInGroup_107 : decode b_M_putInGroup 107 = .ok (.iload_n 2, 1) := by decide +kernel
theorem d_M_putInGroup_108 : decode b_M_putInGroup 108 = .ok (.imul, 1) := by decide +kernel
theorem d_M_putInGroup_109 : decode b_M_putInGroup 109 = .ok (.iload_n 3, 1) := by decide +kernel
theorem d_M_putInGroup_110 : decode b_M_putInGroup 110 = .ok (.iadd, 1) := by decide +kernel
theorem d_M_putInGroup_111 : decode b_M_putInGroup 111 = .ok (.aload_n 0, 1) := by decide +kernel
theorem d_M_putInGroup_112 : decode b_M_putInGroup 112 = .ok (.getfield 118, 3) := by decide +kernel
theorem d_M_putInGroup_115 : decode b_M_putInGroup 115 = .ok (.iconst 0, 1) := by decide +kernel
theorem d_M_putInGroup_116 : decode b_M_putInGroup 116 = .ok (.laload, 1) := by decide +kernel
theorem d_M_putInGroup_117 : decode b_M_putInGroup 117 = .ok (.lastore, 1) := by decide +kernel
theorem d_M_putInGroup_118 : decode b_M_putInGroup 118 = .ok (.aload_n 0, 1) := by decide +kernel
theorem d_M_putInGroup_119 : decode b_M_putInGroup 119 = .ok (.getfield 97, 3) := by decide +kernel
theorem d_M_putInGroup_122 : decode b_M_putInGroup 122 = .ok (.bipush 8, 2) := by decide +kernel
theorem d_M_putInGroup_124 : decode b_M_putInGroup 124 = .ok (.iload_n 2, 1) := by decide +kernel
theorem d_M_putInGroup_125 : decode b_M_putInGroup 125 = .ok (.imul, 1) := by decide +kernel
theorem d_M_putInGroup_126 : decode b_M_putInGroup 126 = .ok (.iload_n 3, 1) := by decide +kernel
theorem d_M_putInGroup_127 : decode b_M_putInGroup 127 = .ok (.iadd, 1) := by decide +kernel
theorem d_M_putInGroup_128 : decode b_M_putInGroup 128 = .ok (.aload_n 0, 1) := by decide +kernel
theorem d_M_putInGroup_129 : decode b_M_putInGroup 129 = .ok (.getfield 121, 3) := by decide +kernel
theorem d_M_putInGroup_132 : decode b_M_putInGroup 132 = .ok (.iconst 0, 1) := by decide +kernel
theorem d_M_putInGroup_133 : decode b_M_putInGroup 133 = .ok (.baload, 1) := by decide +kernel
theorem d_M_putInGroup_134 : decode b_M_putInGroup 134 = .ok (.bastore, 1) := by decide +kernel
theorem d_M_putInGroup_135 : decode b_M_putInGroup 135 = .ok (.iload 4, 2) := by decide +kernel
theorem d_M_putInGroup_137 : decode b_M_putInGroup 137 = .ok (.iconst 2, 1) := by decide +kernel
theorem d_M_putInGroup_138 : decode b_M_putInGroup 138 = .ok (.if_icmp .eq 9, 3) := by decide +kernel
theorem d_M_putInGroup_141 : decode b_M_putInGroup 141 = .ok (.iload 4, 2) := by decide +kernel
theorem d_M_putInGroup_143 : decode b_M_putInGroup 143 = .ok (.iconst 5, 1) := by decide +kernel
theorem d_M_putInGroup_144 : decode b_M_putInGroup 144 = .ok (.if_icmp .ne 60, 3) := by decide +kernel
theorem d_M_putInGroup_147 : decode b_M_putInGroup 147 = .ok (.aload_n 0, 1) := by decide +kernel
theorem d_M_putInGroup_148 : decode b_M_putInGroup 148 = .ok (.iload_n 2, 1) := by decide +kernel
theorem d_M_putInGroup_149 : decode b_M_putInGroup 149 = .ok (.iload_n 3, 1) := by decide +kernel
theorem d_M_putInGroup_150 : decode b_M_putInGroup 150 = .ok (.invokevirtual 258, 3) := by decide +kernel
theorem d_M_putInGroup_153 : decode b_M_putInGroup 153 = .ok (.ifCond .eq 51, 3) := by decide +kernel
theorem d_M_putInGroup_156 : decode b_M_putInGroup 156 = .ok (.aload_n 0, 1) := by decide +kernel
theorem d_M_putInGroup_157 : decode b_M_putInGroup 157 = .ok (.getfield 106, 3) := by decide +kernel
theorem d_M_putInGroup_160 : decode b_M_putInGroup 160 = .ok (.bipush 8, 2) := by decide +kernel
theorem d_M_putInGroup_162 : decode b_M_putInGroup 162 = .ok (.iload_n 1, 1) := by decide +kernel
theorem d_M_putInGroup_163 : decode b_M_putInGroup 163 = .ok (.imul, 1) := by decide +kernel
theorem d_M_putInGroup_164 : decode b_M_putInGroup 164 = .ok (.iload_n 3, 1) := by decide +kernel
theorem d_M_putInGroup_165 : decode b_M_putInGroup 165 = .ok (.iadd, 1) := by decide +kernel
theorem d_M_putInGroup_166 : decode b_M_putInGroup 166 = .ok (.dup2, 1) := by decide +kernel
theorem d_M_putInGroup_167 : decode b_M_putInGroup 167 = .ok (.laload, 1) := by decide +kernel
theorem d_M_putInGroup_168 : decode b_M_putInGroup 168 = .ok (.aload_n 0, 1) := by decide +kernel
theorem d_M_putInGroup_169 : decode b_M_putInGroup 169 = .ok (.getfield 118, 3) := by decide +kernel
theorem d_M_putInGroup_172 : decode b_M_putInGroup 172 = .ok (.iconst 0, 1) := by decide +kernel
theorem d_M_putInGroup_173 : decode b_M_putInGroup 173 = .ok (.laload, 1) := by decide +kernel
theorem d_M_putInGroup_174 : decode b_M_putInGroup 174 = .ok (.ladd, 1) := by decide +kernel
theorem d_M_putInGroup_175 : decode b_M_putInGroup 175 = .ok (.lastore, 1) := by decide +kernel
theorem d_M_putInGroup_176 : decode b_M_putInGroup 176 = .ok (.aload_n 0, 1) := by decide +kernel
theorem d_M_putInGroup_177 : decode b_M_putInGroup 177 = .ok (.getfield 106, 3) := by decide +kernel
theorem d_M_putInGroup_180 : decode b_M_putInGroup 180 = .ok (.bipush 8, 2) := by decide +kernel
theorem d_M_putInGroup_182 : decode b_M_putInGroup 182 = .ok (.iload_n 1, 1) := by decide +kernel
theorem d_M_putInGroup_183 : decode b_M_putInGroup 183 = .ok (.imul, 1) := by decide +kernel
theorem d_M_putInGroup_184 : decode b_M_putInGroup 184 = .ok (.iload_n 3, 1) := by decide +kernel
theorem d_M_putInGroup_185 : decode b_M_putInGroup 185 = .ok (.iadd, 1) := by decide +kernel
theorem d_M_putInGroup_186 : decode b_M_putInGroup 186 = .ok (.laload, 1) := by decide +kernel
theorem d_M_putInGroup_187 : decode b_M_putInGroup 187 = .ok (.invokestatic 216, 3) := by decide +kernel
theorem d_M_putInGroup_190 : decode b_M_putInGroup 190 = .ok (.ldc2_w 220, 3) := by decide +kernel
theorem d_M_putInGroup_193 : decode b_M_putInGroup 193 = .ok (.lcmp, 1) := by decide +kernel
theorem d_M_putInGroup_194 : decode b_M_putInGroup 194 = .ok (.ifCond .le 10, 3) := by decide +kernel
theorem d_M_putInGroup_197 : decode b_M_putInGroup 197 = .ok (.aload_n 0, 1) := by decide +kernel
theorem d_M_putInGroup_198 : decode b_M_putInGroup 198 = .ok (.bipush (-21), 2) := by decide +kernel
theorem d_M_putInGroup_200 : decode b_M_putInGroup 200 = .ok (.putfield 213, 3) := by decide +kernel
theorem d_M_putInGroup_203 : decode b_M_putInGroup 203 = .ok (.return_, 1) := by decide +kernel
theorem d_M_putInGroup_204 : decode b_M_putInGroup 204 = .ok (.iinc 3 1, 3) := by decide +kernel
theorem d_M_putInGroup_207 : decode b_M_putInGroup 207 = .ok (.goto (-170), 3) := by decide +kernel
theorem d_M_putInGroup_210 : decode b_M_putInGroup 210 = .ok (.return_, 1) := by decide +kernel
theorem d_M_isTrue_0 : decode b_M_isTrue 0 = .ok (.aload_n 0, 1) := by decide +kernel
theorem d_M_isTrue_1 : decode b_M_isTrue 1 = .ok (.iload_n 1, 1) := by decide +kernel
theorem d_M_isTrue_2 : decode b_M_isTrue 2 = .ok (.invokevirtual 249, 3) := by decide +kernel
theorem d_M_isTrue_5 : decode b_M_isTrue 5 = .ok (.aload_n 0, 1) := by decide +kernel
theorem d_M_isTrue_6 : decode b_M_isTrue 6 = .ok (.getfield 213, 3) := by decide +kernel
theorem d_M_isTrue_9 : decode b_M_isTrue 9 = .ok (.ifCond .ne 18, 3) := by decide +kernel
theorem d_M_isTrue_12 : decode b_M_isTrue 12 = .ok (.aload_n 0, 1) := by decide +kernel
theorem d_M_isTrue_13 : decode b_M_isTrue 13 = .ok (.getfield 118, 3) := by decide +kernel
theorem d_M_isTrue_16 : decode b_M_isTrue 16 = .ok (.iconst 0, 1) := by decide +kernel
theorem d_M_isTrue_17 : decode b_M_isTrue 17 = .ok (.laload, 1) := by decide +kernel
theorem d_M_isTrue_18 : decode b_M_isTrue 18 = .ok (.lconst 1, 1) := by decide +kernel
theorem d_M_isTrue_19 : decode b_M_isTrue 19 = .ok (.lcmp, 1) := by decide +kernel
theorem d_M_isTrue_20 : decode b_M_isTrue 20 = .ok (.ifCond .ne 7, 3) := by decide +kernel
theorem d_M_isTrue_23 : decode b_M_isTrue 23 = .ok (.iconst 1, 1) := by decide +kernel
theorem d_M_isTrue_24 : decode b_M_isTrue 24 = .ok (.goto 4, 3) := by decide +kernel
theorem d_M_isTrue_27 : decode b_M_isTrue 27 = .ok (.iconst 0, 1) := by decide +kernel
theorem d_M_isTrue_28 : decode b_M_isTrue 28 = .ok (.ireturn, 1) := by decide +kernel
theorem d_M_goTogether_0 : decode b_M_goTogether 0 = .ok (.aload_n 0, 1) := by decide +kernel
theorem d_M_goTogether_1 : decode b_M_goTogether 1 = .ok (.getfield 213, 3) := by decide +kernel
theorem d_M_goTogether_4 : decode b_M_goTogether 4 = .ok (.ifCond .ne 28, 3) := by decide +kernel
theorem d_M_goTogether_7 : decode b_M_goTogether 7 = .ok (.aload_n 0, 1) := by decide +kernel
theorem d_M_goTogether_8 : decode b_M_goTogether 8 = .ok (.getfield 60, 3) := by decide +kernel
theorem d_M_goTogether_11 : decode b_M_goTogether 11 = .ok (.ifCond .lt 14, 3) := by decide +kernel
theorem d_M_goTogether_14 : decode b_M_goTogether 14 = .ok (.aload_n 0, 1) := by decide +kernel
theorem d_M_goTogether_15 : decode b_M_goTogether 15 = .ok (.aload_n 0, 1) := by decide +kernel
theorem d_M_goTogether_16 : decode b_M_goTogether 16 = .ok (.getfield 60, 3) := by decide +kernel
theorem d_M_goTogether_19 : decode b_M_goTogether 19 = .ok (.invokevirtual 271, 3) := by decide +kernel
theorem d_M_goTogether_22 : decode b_M_goTogether 22 = .ok (.ifCond .eq 10, 3) := by decide +kernel
theorem d_M_goTogether_25 : decode b_M_goTogether 25 = .ok (.aload_n 0, 1) := by decide +kernel
theorem d_M_goTogether_26 : decode b_M_goTogether 26 = .ok (.getfield 213, 3) := by decide +kernel
theorem d_M_goTogether_29 : decode b_M_goTogether 29 = .ok (.ifCond .eq 4, 3) := by decide +kernel
theorem d_M_goTogether_32 : decode b_M_goTogether 32 = .ok (.return_, 1) := by decide +kernel
theorem d_M_goTogether_33 : decode b_M_goTogether 33 = .ok (.aload_n 0, 1) := by decide +kernel
theorem d_M_goTogether_34 : decode b_M_goTogether 34 = .ok (.getfield 274, 3) := by decide +kernel
theorem d_M_goTogether_37 : decode b_M_goTogether 37 = .ok (.ifCond .eq 10, 3) := by decide +kernel
theorem d_M_goTogether_40 : decode b_M_goTogether 40 = .ok (.aload_n 0, 1) := by decide +kernel
theorem d_M_goTogether_41 : decode b_M_goTogether 41 = .ok (.invokevirtual 277, 3) := by decide +kernel
theorem d_M_goTogether_44 : decode b_M_goTogether 44 = .ok (.goto 7, 3) := by decide +kernel
theorem d_M_goTogether_47 : decode b_M_goTogether 47 = .ok (.aload_n 0, 1) := by decide +kernel
theorem d_M_goTogether_48 : decode b_M_goTogether 48 = .ok (.invokevirtual 280, 3) := by decide +kernel
theorem d_M_goTogether_51 : decode b_M_goTogether 51 = .ok (.return_, 1) := by decide +kernel
theorem d_M_goes_0 : decode b_M_goes 0 = .ok (.aload_n 0, 1) := by decide +kernel
theorem d_M_goes_1 : decode b_M_goes 1 = .ok (.getfield 54, 3) := by decide +kernel
theorem d_M_goes_4 : decode b_M_goes 4 = .ok (.iload_n 1, 1) := by decide +kernel
theorem d_M_goes_5 : decode b_M_goes 5 = .ok (.iaload, 1) := by decide +kernel
theorem d_M_goes_6 : decode b_M_goes 6 = .ok (.ifCond .eq 16, 3) := by decide +kernel
theorem d_M_goes_9 : decode b_M_goes 9 = .ok (.aload_n 0, 1) := by decide +kernel
theorem d_M_goes_10 : decode b_M_goes 10 = .ok (.aload_n 0, 1) := by decide +kernel
theorem d_M_goes_11 : decode b_M_goes 11 = .ok (.getfield 57, 3) := by decide +kernel
theorem d_M_goes_14 : decode b_M_goes 14 = .ok (.iload_n 1, 1) := by decide +kernel
theorem d_M_goes_15 : decode b_M_goes 15 = .ok (.iaload, 1) := by decide +kernel
theorem d_M_goes_16 : decode b_M_goes 16 = .ok (.invokevirtual 271, 3) := by decide +kernel
theorem d_M_goes_19 : decode b_M_goes 19 = .ok (.ifCond .eq 7, 3) := by decide +kernel
theorem d_M_goes_22 : decode b_M_goes 22 = .ok (.iconst 1, 1) := by decide +kernel
theorem d_M_goes_23 : decode b_M_goes 23 = .ok (.goto 4, 3) := by decide +kernel
theorem d_M_goes_26 : decode b_M_goes 26 = .ok (.iconst 0, 1) := by decide +kernel
theorem d_M_goes_27 : decode b_M_goes 27 = .ok (.ireturn, 1) := by decide +kernel
theorem d_M_goThird_0 : decode b_M_goThird 0 = .ok (.aload_n 0, 1) := by decide +kernel
theorem d_M_goThird_1 : decode b_M_goThird 1 = .ok (.getfield 143, 3) := by decide +kernel
theorem d_M_goThird_4 : decode b_M_goThird 4 = .ok (.iconst 3, 1) := by decide +kernel
theorem d_M_goThird_5 : decode b_M_goThird 5 = .ok (.if_icmp .ge 8, 3) := by decide +kernel
theorem d_M_goThird_8 : decode b_M_goThird 8 = .ok (.aload_n 0, 1) := by decide +kernel
theorem d_M_goThird_9 : decode b_M_goThird 9 = .ok (.invokevirtual 283, 3) := by decide +kernel
theorem d_M_goThird_12 : decode b_M_goThird 12 = .ok (.return_, 1) := by decide +kernel
theorem d_M_goThird_13 : decode b_M_goThird 13 = .ok (.iconst 0, 1) := by decide +kernel
theorem d_M_goThird_14 : decode b_M_goThird 14 = .ok (.istore_n 1, 1) := by decide +kernel
theorem d_M_goThird_15 : decode b_M_goThird 15 = .ok (.iconst 0, 1) := by decide +kernel
theorem d_M_goThird_16 : decode b_M_goThird 16 = .ok (.istore_n 2, 1) := by decide +kernel
theorem d_M_goThird_17 : decode b_M_goThird 17 = .ok (.iload_n 2, 1) := by decide +kernel
theorem d_M_goThird_18 : decode b_M_goThird 18 = .ok (.aload_n 0, 1) := by decide +kernel
theorem d_M_goThird_19 : decode b_M_goThird 19 = .ok (.getfield 13, 3) := by decide +kernel
theorem d_M_goThird_22 : decode b_M_goThird 22 = .ok (.aload_n 0, 1) := by decide +kernel
theorem d_M_goThird_23 : decode b_M_goThird 23 = .ok (.getfield 51, 3) := by decide +kernel
theorem d_M_goThird_26 : decode b_M_goThird 26 = .ok (.iconst 2, 1) := by decide +kernel
theorem d_M_goThird_27 : decode b_M_goThird 27 = .ok (.iaload, 1) := by decide +kernel
theorem d_M_goThird_28 : decode b_M_goThird 28 = .ok (.iaload, 1) := by decide +kernel
theorem d_M_goThird_29 : decode b_M_goThird 29 = .ok (.if_icmp .ge 37, 3) := by decide +kernel
theorem d_M_goThird_32 : decode b_M_goThird 32 = .ok (.aload_n 0, 1) := by decide +kernel
theorem d_M_goThird_33 : decode b_M_goThird 33 = .ok (.getfield 213, 3) := by decide +kernel
theorem d_M_goThird_36 : decode b_M_goThird 36 = .ok (.ifCond .ne 30, 3) := by decide +kernel
theorem d_M_goThird_39 : decode b_M_goThird 39 = .ok (.aload_n 0, 1) := by decide +kernel
theorem d_M_goThird_40 : decode b_M_goThird 40 = .ok (.getfield 88, 3) := by decide +kernel
theorem d_M_goThird_43 : decode b_M_goThird 43 = .ok (.iconst 2, 1) := by decide +kernel
theorem d_M_goThird_44 : decode b_M_goThird 44 = .ok (.iload_n 2, 1) := by decide +kernel
theorem d_M_goThird_45 : decode b_M_goThird 45 = .ok (.iastore, 1) := by decide +kernel
theorem d_M_goThird_46 : decode b_M_goThird 46 = .ok (.aload_n 0, 1) := by decide +kernel
theorem d_M_goThird_47 : decode b_M_goThird 47 = .ok (.iconst 2, 1) := by decide +kernel
theorem d_M_goThird_48 : decode b_M_goThird 48 = .ok (.invokevirtual 286, 3) := by decide +kernel
theorem d_M_goThird_51 : decode b_M_goThird 51 = .ok (.ifCond .eq 9, 3) := by decide +kernel
theorem d_M_goThird_54 : decode b_M_goThird 54 = .ok (.iconst 1, 1) := by decide +kernel
theorem d_M_goThird_55 : decode b_M_goThird 55 = .ok (.istore_n 1, 1) := by decide +kernel
theorem d_M_goThird_56 : decode b_M_goThird 56 = .ok (.aload_n 0, 1) := by decide +kernel
theorem d_M_goThird_57 : decode b_M_goThird 57 = .ok (.invokevirtual 283, 3) := by decide +kernel
theorem d_M_goThird_60 : decode b_M_goThird 60 = .ok (.iinc 2 1, 3) := by decide +kernel
theorem d_M_goThird_63 : decode b_M_goThird 63 = .ok (.goto (-46), 3) := by decide +kernel
theorem d_M_goThird_66 : decode b_M_goThird 66 = .ok (.iload_n 1, 1) := by decide +kernel
theorem d_M_goThird_67 : decode b_M_goThird 67 = .ok (.ifCond .ne 31, 3) := by decide +kernel
theorem d_M_goThird_70 : decode b_M_goThird 70 = .ok (.aload_n 0, 1) := by decide +kernel
theorem d_M_goThird_71 : decode b_M_goThird 71 = .ok (.getfield 54, 3) := by decide +kernel
theorem d_M_goThird_74 : decode b_M_goThird 74 = .ok (.iconst 2, 1) := by decide +kernel
theorem d_M_goThird_75 : decode b_M_goThird 75 = .ok (.iaload, 1) := by decide +kernel
theorem d_M_goThird_76 : decode b_M_goThird 76 = .ok (.iconst 2, 1) := by decide +kernel
theorem d_M_goThird_77 : decode b_M_goThird 77 = .ok (.if_icmp .ne 21, 3) := by decide +kernel
theorem d_M_goThird_80 : decode b_M_goThird 80 = .ok (.aload_n 0, 1) := by decide +kernel
theorem d_M_goThird_81 : decode b_M_goThird 81 = .ok (.getfield 213, 3) := by decide +kernel
theorem d_M_goThird_84 : decode b_M_goThird 84 = .ok (.ifCond .ne 14, 3) := by decide +kernel
theorem d_M_goThird_87 : decode b_M_goThird 87 = .ok (.aload_n 0, 1) := by decide +kernel
theorem d_M_goThird_88 : decode b_M_goThird 88 = .ok (.getfield 88, 3) := by decide +kernel
theorem d_M_goThird_91 : decode b_M_goThird 91 = .ok (.iconst 2, 1) := by decide +kernel
theorem d_M_goThird_92 : decode b_M_goThird 92 = .ok (.iconst (-1), 1) := by decide +kernel
theorem d_M_goThird_93 : decode b_M_goThird 93 = .ok (.iastore, 1) := by decide +kernel
theorem d_M_goThird_94 : decode b_M_goThird 94 = .ok (.aload_n 0, 1) := by decide +kernel
theorem d_M_goThird_95 : decode b_M_goThird 95 = .ok (.invokevirtual 283, 3) := by decide +kernel
theorem d_M_goThird_98 : decode b_M_goThird 98 = .ok (.return_, 1) := by decide +kernel
theorem d_M_goSecond_0 : decode b_M_goSecond 0 = .ok (.aload_n 0, 1) := by decide +kernel
theorem d_M_goSecond_1 : decode b_M_goSecond 1 = .ok (.getfield 143, 3) := by decide +kernel
theorem d_M_goSecond_4 : decode b_M_goSecond 4 = .ok (.iconst 2, 1) := by decide +kernel
theorem d_M_goSecond_5 : decode b_M_goSecond 5 = .ok (.if_icmp .ge 8, 3) := by decide +kernel
theorem d_M_goSecond_8 : decode b_M_goSecond 8 = .ok (.aload_n 0, 1) := by decide +kernel
theorem d_M_goSecond_9 : decode b_M_goSecond 9 = .ok (.invokevirtual 283, 3) := by decide +kernel
theorem d_M_goSecond_12 : decode b_M_goSecond 12 = .ok (.return_, 1) := by decide +kernel
theorem d_M_goSecond_13 : decode b_M_goSecond 13 = .ok (.iconst 0, 1) := by decide +kernel
theorem d_M_goSecond_14 : decode b_M_goSecond 14 = .ok (.istore_n 1, 1) := by decide +kernel
theorem d_M_goSecond_15 : decode b_M_goSecond 15 = .ok (.iconst 0, 1) := by decide +kernel
theorem d_M_goSecond_16 : decode b_M_goSecond 16 = .ok (.istore_n 2, 1) := by decide +kernel
theorem d_M_goSecond_17 : decode b_M_goSecond 17 = .ok (.iload_n 2, 1) := by decide +kernel
theorem d_M_goSecond_18 : decode b_M_goSecond 18 = .ok (.aload_n 0, 1) := by decide +kernel
theorem d_M_goSecond_19 : decode b_M_goSecond 19 = .ok (.getfield 13, 3) := by decide +kernel
theorem d_M_goSecond_22 : decode b_M_goSecond 22 = .ok (.aload_n 0, 1) := by decide +kernel
theorem d_M_goSecond_23 : decode b_M_goSecond 23 = .ok (.getfield 51, 3) := by decide +kernel
theorem d_M_goSecond_26 : decode b_M_goSecond 26 = .ok (.iconst 1, 1) := by decide +kernel
theorem d_M_goSecond_27 : decode b_M_goSecond 27 = .ok (.iaload, 1) := by decide +kernel
theorem d_M_goSecond_28 : decode b_M_goSecond 28 = .ok (.iaload, 1) := by decide +kernel
theorem d_M_goSecond_29 : decode b_M_goSecond 29 = .ok (.if_icmp .ge 37, 3) := by decide +kernel
theorem d_M_goSecond_32 : decode b_M_goSecond 32 = .ok (.aload_n 0, 1) := by decide +kernel
theorem d_M_goSecond_33 : decode b_M_goSecond 33 = .ok (.getfield 213, 3) := by decide +kernel
theorem d_M_goSecond_36 : decode b_M_goSecond 36 = .ok (.ifCond .ne 30, 3) := by decide +kernel
theorem d_M_goSecond_39 : decode b_M_goSecond 39 = .ok (.aload_n 0, 1) := by decide +kernel
theorem d_M_goSecond_40 : decode b_M_goSecond 40 = .ok (.getfield 88, 3) := by decide +kernel
theorem d_M_goSecond_43 : decode b_M_goSecond 43 = .ok (.iconst 1, 1) := by decide +kernel
theorem d_M_goSecond_44 : decode b_M_goSecond 44 = .ok (.iload_n 2, 1) := by decide +kernel
theorem d_M_goSecond_45 : decode b_M_goSecond 45 = .ok (.iastore, 1) := by decide +kernel
theorem d_M_goSecond_46 : decode b_M_goSecond 46 = .ok (.aload_n 0, 1) := by decide +kernel
theorem d_M_goSecond_47 : decode b_M_goSecond 47 = .ok (.iconst 1, 1) := by decide +kernel
theorem d_M_goSecond_48 : decode b_M_goSecond 48 = .ok (.invokevirtual 286, 3) := by decide +kernel
theorem d_M_goSecond_51 : decode b_M_goSecond 51 = .ok (.ifCond .eq 9, 3) := by decide +kernel
theorem d_M_goSecond_54 : decode b_M_goSecond 54 = .ok (.iconst 1, 1) := by decide +kernel
theorem d_M_goSecond_55 : decode b_M_goSecond 55 = .ok (.istore_n 1, 1) := by decide +kernel
theorem d_M_goSecond_56 : decode b_M_goSecond 56 = .ok (.aload_n 0, 1) := by decide +kernel
theorem d_M_goSecond_57 : decode b_M_goSecond 57 = .ok (.invokevirtual 289, 3) := by decide +kernel
theorem d_M_goSecond_60 : decode b_M_goSecond 60 = .ok (.iinc 2 1, 3) := by decide +kernel
theorem d_M_goSecond_63 : decode b_M_goSecond 63 = .ok (.goto (-46), 3) := by decide +kernel
theorem d_M_goSecond_66 : decode b_M_goSecond 66 = .ok (.iload_n 1, 1) := by decide +kernel
theorem d_M_goSecond_67 : decode b_M_goSecond 67 = .ok (.ifCond .ne 31, 3) := by decide +kernel
theorem d_M_goSecond_70 : decode b_M_goSecond 70 = .ok (.aload_n 0, 1) := by decide +kernel
theorem d_M_goSecond_71 : decode b_M_goSecond 71 = .ok (.getfield 54, 3) := by decide +kernel
theorem d_M_goSecond_74 : decode b_M_goSecond 74 = .ok (.iconst 1, 1) := by decide +kernel
theorem d_M_goSecond_75 : decode b_M_goSecond 75 = .ok (.iaload, 1) := by decide +kernel
theorem d_M_goSecond_76 : decode b_M_goSecond 76 = .ok (.iconst 2, 1) := by decide +kernel
theorem d_M_goSecond_77 : decode b_M_goSecond 77 = .ok (.if_icmp .ne 21, 3) := by decide +kernel
theorem d_M_goSecond_80 : decode b_M_goSecond 80 = .ok (.aload_n 0, 1) := by decide +kernel
theorem d_M_goSecond_81 : decode b_M_goSecond 81 = .ok (.getfield 213, 3) := by decide +kernel
theorem d_M_goSecond_84 : decode b_M_goSecond 84 = .ok (.ifCond .ne 14, 3) := by decide +kernel
theorem d_M_goSecond_87 : decode b_M_goSecond 87 = .ok (.aload_n 0, 1) := by decide +kernel
theorem d_M_goSecond_88 : decode b_M_goSecond 88 = .ok (.getfield 88, 3) := by decide +kernel
theorem d_M_goSecond_91 : decode b_M_goSecond 91 = .ok (.iconst 1, 1) := by decide +kernel
theorem d_M_goSecond_92 : decode b_M_goSecond 92 = .ok (.iconst (-1), 1) := by decide +kernel
theorem d_M_goSecond_93 : decode b_M_goSecond 93 = .ok (.iastore, 1) := by decide +kernel
theorem d_M_goSecond_94 : decode b_M_goSecond 94 = .ok (.aload_n 0, 1) := by decide +kernel
theorem d_M_goSecond_95 : decode b_M_goSecond 95 = .ok (.invokevirtual 289, 3) := by decide +kernel
theorem d_M_goSecond_98 : decode b_M_goSecond 98 = .ok (.return_, 1) := by decide +kernel
theorem d_M_goFirst_0 : decode b_M_goFirst 0 = .ok (.iconst 0, 1) := by decide +kernel
theorem d_M_goFirst_1 : decode b_M_goFirst 1 = .ok (.istore_n 1, 1) := by decide +kernel
theorem d_M_goFirst_2 : decode b_M_goFirst 2 = .ok (.iload_n 1, 1) := by decide +kernel
theorem d_M_goFirst_3 : decode b_M_goFirst 3 = .ok (.aload_n 0, 1) := by decide +kernel
theorem d_M_goFirst_4 : decode b_M_goFirst 4 = .ok (.getfield 13, 3) := by decide +kernel
theorem d_M_goFirst_7 : decode b_M_goFirst 7 = .ok (.aload_n 0, 1) := by decide +kernel
theorem d_M_goFirst_8 : decode b_M_goFirst 8 = .ok (.getfield 51, 3) := by decide +kernel
theorem d_M_goFirst_11 : decode b_M_goFirst 11 = .ok (.iconst 0, 1) := by decide +kernel
theorem d_M_goFirst_12 : decode b_M_goFirst 12 = .ok (.iaload, 1) := by decide +kernel
theorem d_M_goFirst_13 : decode b_M_goFirst 13 = .ok (.iaload, 1) := by decide +kernel
theorem d_M_goFirst_14 : decode b_M_goFirst 14 = .ok (.if_icmp .ge 27, 3) := by decide +kernel
theorem d_M_goFirst_17 : decode b_M_goFirst 17 = .ok (.aload_n 0, 1) := by decide +kernel
theorem d_M_goFirst_18 : decode b_M_goFirst 18 = .ok (.getfield 213, 3) := by decide +kernel
theorem d_M_goFirst_21 : decode b_M_goFirst 21 = .ok (.ifCond .ne 20, 3) := by decide +kernel
theorem d_M_goFirst_24 : decode b_M_goFirst 24 = .ok (.aload_n 0, 1) := by decide +kernel
theorem d_M_goFirst_25 : decode b_M_goFirst 25 = .ok (.getfield 88, 3) := by decide +kernel
theorem d_M_goFirst_28 : decode b_M_goFirst 28 = .ok (.iconst 0, 1) := by decide +kernel
theorem d_M_goFirst_29 : decode b_M_goFirst 29 = .ok (.iload_n 1, 1) := by decide +kernel
theorem d_M_goFirst_30 : decode b_M_goFirst 30 = .ok (.iastore, 1) := by decide +kernel
theorem d_M_goFirst_31 : decode b_M_goFirst 31 = .ok (.aload_n 0, 1) := by decide +kernel
theorem d_M_goFirst_32 : decode b_M_goFirst 32 = .ok (.invokevirtual 292, 3) := by decide +kernel
theorem d_M_goFirst_35 : decode b_M_goFirst 35 = .ok (.iinc 1 1, 3) := by decide +kernel
theorem d_M_goFirst_38 : decode b_M_goFirst 38 = .ok (.goto (-36), 3) := by decide +kernel
theorem d_M_goFirst_41 : decode b_M_goFirst 41 = .ok (.return_, 1) := by decide +kernel
theorem d_M_moveRow_0 : decode b_M_moveRow 0 = .ok (.iconst 0, 1) := by decide +kernel
theorem d_M_moveRow_1 : decode b_M_moveRow 1 = .ok (.istore_n 3, 1) := by decide +kernel
theorem d_M_moveRow_2 : decode b_M_moveRow 2 = .ok (.iload_n 3, 1) := by decide +kernel
theorem d_M_moveRow_3 : decode b_M_moveRow 3 = .ok (.aload_n 0, 1) := by decide +kernel
theorem d_M_moveRow_4 : decode b_M_moveRow 4 = .ok (.getfield 149, 3) := by decide +kernel
theorem d_M_moveRow_7 : decode b_M_moveRow 7 = .ok (.if_icmp .ge 53, 3) := by decide +kernel
theorem d_M_moveRow_10 : decode b_M_moveRow 10 = .ok (.aload_n 0, 1) := by decide +kernel
theorem d_M_moveRow_11 : decode b_M_moveRow 11 = .ok (.getfield 82, 3) := by decide +kernel
theorem d_M_moveRow_14 : decode b_M_moveRow 14 = .ok (.bipush 6, 2) := by decide +kernel
theorem d_M_moveRow_16 : decode b_M_moveRow 16 = .ok (.iload_n 1, 1) := by decide +kernel
theorem d_M_moveRow_17 : decode b_M_moveRow 17 = .ok (.imul, 1) := by decide +kernel
theorem d_M_moveRow_18 : decode b_M_moveRow 18 = .ok (.iload_n 3, 1) := by decide +kernel
theorem d_M_moveRow_19 : decode b_M_moveRow 19 = .ok (.iadd, 1) := by decide +kernel
theorem d_M_moveRow_20 : decode b_M_moveRow 20 = .ok (.aload_n 0, 1) := by decide +kernel
theorem d_M_moveRow_21 : decode b_M_moveRow 21 = .ok (.getfield 82, 3) := by decide +kernel
theorem d_M_moveRow_24 : decode b_M_moveRow 24 = .ok (.bipush 6, 2) := by decide +kernel
theorem d_M_moveRow_26 : decode b_M_moveRow 26 = .ok (.iload_n 2, 1) := by decide +kernel
theorem d_M_moveRow_27 : decode b_M_moveRow 27 = .ok (.imul, 1) := by decide +kernel
theorem d_M_moveRow_28 : decode b_M_moveRow 28 = .ok (.iload_n 3, 1) := by decide +kernel
theorem d_M_moveRow_29 : decode b_M_moveRow 29 = .ok (.iadd, 1) := by decide +kernel
theorem d_M_moveRow_30 : decode b_M_moveRow 30 = .ok (.laload, 1) := by decide +kernel
theorem d_M_moveRow_31 : decode b_M_moveRow 31 = .ok (.lastore, 1) := by decide +kernel
theorem d_M_moveRow_32 : decode b_M_moveRow 32 = .ok (.aload_n 0, 1) := by decide +kernel
theorem d_M_moveRow_33 : decode b_M_moveRow 33 = .ok (.getfield 85, 3) := by decide +kernel
theorem d_M_moveRow_36 : decode b_M_moveRow 36 = .ok (.bipush 6, 2) := by decide +kernel
theorem d_M_moveRow_38 : decode b_M_moveRow 38 = .ok (.iload_n 1, 1) := by decide +kernel
theorem d_M_moveRow_39 : decode b_M_moveRow 39 = .ok (.imul, 1) := by decide +kernel
theorem d_M_moveRow_40 : decode b_M_moveRow 40 = .ok (.iload_n 3, 1) := by decide +kernel
theorem d_M_moveRow_41 : decode b_M_moveRow 41 = .ok (.iadd, 1) := by decide +kernel
theorem d_M_moveRow_42 : decode b_M_moveRow 42 = .ok (.aload_n 0, 1) := by decide +kernel
theorem d_M_moveRow_43 : decode b_M_moveRow 43 = .ok (.getfield 85, 3) := by decide +kernel
theorem d_M_moveRow_46 : decode b_M_moveRow 46 = .ok (.bipush 6, 2) := by decide +kernel
theorem d_M_moveRow_48 : decode b_M_moveRow 48 = .ok (.iload_n 2, 1) := by decide +kernel
theorem d_M_moveRow_49 : decode b_M_moveRow 49 = .ok (.imul, 1) := by decide +kernel
theorem d_M_moveRow_50 : decode b_M_moveRow 50 = .ok (.iload_n 3, 1) := by decide +kernel
theorem d_M_moveRow_51 : decode b_M_moveRow 51 = .ok (.iadd, 1) := by decide +kernel
theorem d_M_moveRow_52 : decode b_M_moveRow 52 = .ok (.baload, 1) := by decide +kernel
theorem d_M_moveRow_53 : decode b_M_moveRow 53 = .ok (.bastore, 1) := by decide +kernel
theorem d_M_moveRow_54 : decode b_M_moveRow 54 = .ok (.iinc 3 1, 3) := by decide +kernel
theorem d_M_moveRow_57 : decode b_M_moveRow 57 = .ok (.goto (-55), 3) := by decide +kernel
theorem d_M_moveRow_60 : decode b_M_moveRow 60 = .ok (.return_, 1) := by decide +kernel
