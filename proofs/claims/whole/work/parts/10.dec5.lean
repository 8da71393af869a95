theorem d_M_workOut_0 : decode b_M_workOut 0 = .ok (.aload_n 0, 1) := by decide +kernel
theorem d_M_workOut_1 : decode b_M_workOut 1 = .ok (.iconst 0, 1) := by decide +kernel
theorem d_M_workOut_2 : decode b_M_workOut 2 = .ok (.putfield 193, 3) := by decide +kernel
theorem d_M_workOut_5 : decode b_M_workOut 5 = .ok (.aload_n 0, 1) := by decide +kernel
theorem d_M_workOut_6 : decode b_M_workOut 6 = .ok (.iconst 0, 1) := by decide +kernel
theorem d_M_workOut_7 : decode b_M_workOut 7 = .ok (.putfield 210, 3) := by decide +kernel
theorem d_M_workOut_10 : decode b_M_workOut 10 = .ok (.aload_n 0, 1) := by decide +kernel
theorem d_M_workOut_11 : decode b_M_workOut 11 = .ok (.iload_n 1, 1) := by decide +kernel
theorem d_M_workOut_12 : decode b_M_workOut 12 = .ok (.invokevirtual 196, 3) := by decide +kernel
theorem d_M_workOut_15 : decode b_M_workOut 15 = .ok (.aload_n 0, 1) := by decide +kernel
theorem d_M_workOut_16 : decode b_M_workOut 16 = .ok (.getfield 193, 3) := by decide +kernel
theorem d_M_workOut_19 : decode b_M_workOut 19 = .ok (.ifCond .le 17, 3) := by decide +kernel
theorem d_M_workOut_22 : decode b_M_workOut 22 = .ok (.aload_n 0, 1) := by decide +kernel
theorem d_M_workOut_23 : decode b_M_workOut 23 = .ok (.getfield 213, 3) := by decide +kernel
theorem d_M_workOut_26 : decode b_M_workOut 26 = .ok (.ifCond .ne 10, 3) := by decide +kernel
theorem d_M_workOut_29 : decode b_M_workOut 29 = .ok (.aload_n 0, 1) := by decide +kernel
theorem d_M_workOut_30 : decode b_M_workOut 30 = .ok (.invokevirtual 246, 3) := by decide +kernel
theorem d_M_workOut_33 : decode b_M_workOut 33 = .ok (.goto (-18), 3) := by decide +kernel
theorem d_M_workOut_36 : decode b_M_workOut 36 = .ok (.return_, 1) := by decide +kernel
theorem d_M_giveRow_0 : decode b_M_giveRow 0 = .ok (.aload_n 0, 1) := by decide +kernel
theorem d_M_giveRow_1 : decode b_M_giveRow 1 = .ok (.getfield 268, 3) := by decide +kernel
theorem d_M_giveRow_4 : decode b_M_giveRow 4 = .ok (.sipush 200, 3) := by decide +kernel
theorem d_M_giveRow_7 : decode b_M_giveRow 7 = .ok (.if_icmp .ne 10, 3) := by decide +kernel
theorem d_M_giveRow_10 : decode b_M_giveRow 10 = .ok (.aload_n 0, 1) := by decide +kernel
theorem d_M_giveRow_11 : decode b_M_giveRow 11 = .ok (.bipush (-15), 2) := by decide +kernel
theorem d_M_giveRow_13 : decode b_M_giveRow 13 = .ok (.putfield 213, 3) := by decide +kernel
theorem d_M_giveRow_16 : decode b_M_giveRow 16 = .ok (.return_, 1) := by decide +kernel
theorem d_M_giveRow_17 : decode b_M_giveRow 17 = .ok (.iconst 0, 1) := by decide +kernel
theorem d_M_giveRow_18 : decode b_M_giveRow 18 = .ok (.istore_n 1, 1) := by decide +kernel
theorem d_M_giveRow_19 : decode b_M_giveRow 19 = .ok (.iload_n 1, 1) := by decide +kernel
theorem d_M_giveRow_20 : decode b_M_giveRow 20 = .ok (.aload_n 0, 1) := by decide +kernel
theorem d_M_giveRow_21 : decode b_M_giveRow 21 = .ok (.getfield 149, 3) := by decide +kernel
theorem d_M_giveRow_24 : decode b_M_giveRow 24 = .ok (.if_icmp .ge 67, 3) := by decide +kernel
theorem d_M_giveRow_27 : decode b_M_giveRow 27 = .ok (.aload_n 0, 1) := by decide +kernel
theorem d_M_giveRow_28 : decode b_M_giveRow 28 = .ok (.aload_n 0, 1) := by decide +kernel
theorem d_M_giveRow_29 : decode b_M_giveRow 29 = .ok (.getfield 70, 3) := by decide +kernel
theorem d_M_giveRow_32 : decode b_M_giveRow 32 = .ok (.iload_n 1, 1) := by decide +kernel
theorem d_M_giveRow_33 : decode b_M_giveRow 33 = .ok (.iaload, 1) := by decide +kernel
theorem d_M_giveRow_34 : decode b_M_giveRow 34 = .ok (.invokevirtual 249, 3) := by decide +kernel
theorem d_M_giveRow_37 : decode b_M_giveRow 37 = .ok (.aload_n 0, 1) := by decide +kernel
theorem d_M_giveRow_38 : decode b_M_giveRow 38 = .ok (.getfield 213, 3) := by decide +kernel
theorem d_M_giveRow_41 : decode b_M_giveRow 41 = .ok (.ifCond .eq 4, 3) := by decide +kernel
theorem d_M_giveRow_44 : decode b_M_giveRow 44 = .ok (.return_, 1) := by decide +kernel
theorem d_M_giveRow_45 : decode b_M_giveRow 45 = .ok (.aload_n 0, 1) := by decide +kernel
theorem d_M_giveRow_46 : decode b_M_giveRow 46 = .ok (.getfield 82, 3) := by decide +kernel
theorem d_M_giveRow_49 : decode b_M_giveRow 49 = .ok (.bipush 6, 2) := by decide +kernel
theorem d_M_giveRow_51 : decode b_M_giveRow 51 = .ok (.aload_n 0, 1) := by decide +kernel
theorem d_M_giveRow_52 : decode b_M_giveRow 52 = .ok (.getfield 268, 3) := by decide +kernel
theorem d_M_giveRow_55 : decode b_M_giveRow 55 = .ok (.imul, 1) := by decide +kernel
theorem d_M_giveRow_56 : decode b_M_giveRow 56 = .ok (.iload_n 1, 1) := by decide +kernel
theorem d_M_giveRow_57 : decode b_M_giveRow 57 = .ok (.iadd, 1) := by decide +kernel
theorem d_M_giveRow_58 : decode b_M_giveRow 58 = .ok (.aload_n 0, 1) := by decide +kernel
theorem d_M_giveRow_59 : decode b_M_giveRow 59 = .ok (.getfield 118, 3) := by decide +kernel
theorem d_M_giveRow_62 : decode b_M_giveRow 62 = .ok (.iconst 0, 1) := by decide +kernel
theorem d_M_giveRow_63 : decode b_M_giveRow 63 = .ok (.laload, 1) := by decide +kernel
theorem d_M_giveRow_64 : decode b_M_giveRow 64 = .ok (.lastore, 1) := by decide +kernel
theorem d_M_giveRow_65 : decode b_M_giveRow 65 = .ok (.aload_n 0, 1) := by decide +kernel
theorem d_M_giveRow_66 : decode b_M_giveRow 66 = .ok (.getfield 85, 3) := by decide +kernel
theorem d_M_giveRow_69 : decode b_M_giveRow 69 = .ok (.bipush 6, 2) := by decide +kernel
theorem d_M_giveRow_71 : decode b_M_giveRow 71 = .ok (.aload_n 0, 1) := by decide +kernel
theorem d_M_giveRow_72 : decode b_M_giveRow 72 = .ok (.getfield 268, 3) := by decide +kernel
theorem d_M_giveRow_75 : decode b_M_giveRow 75 = .ok (.imul, 1) := by decide +kernel
theorem d_M_giveRow_76 : decode b_M_giveRow 76 = .ok (.iload_n 1, 1) := by decide +kernel
theorem d_M_giveRow_77 : decode b_M_giveRow 77 = .ok (.iadd, 1) := by decide +kernel
theorem d_M_giveRow_78 : decode b_M_giveRow 78 = .ok (.aload_n 0, 1) := by decide +kernel
theorem d_M_giveRow_79 : decode b_M_giveRow 79 = .ok (.getfield 121, 3) := by decide +kernel
theorem d_M_giveRow_82 : decode b_M_giveRow 82 = .ok (.iconst 0, 1) := by decide +kernel
theorem d_M_giveRow_83 : decode b_M_giveRow 83 = .ok (.baload, 1) := by decide +kernel
theorem d_M_giveRow_84 : decode b_M_giveRow 84 = .ok (.bastore, 1) := by decide +kernel
theorem d_M_giveRow_85 : decode b_M_giveRow 85 = .ok (.iinc 1 1, 3) := by decide +kernel
theorem d_M_giveRow_88 : decode b_M_giveRow 88 = .ok (.goto (-69), 3) := by decide +kernel
theorem d_M_giveRow_91 : decode b_M_giveRow 91 = .ok (.aload_n 0, 1) := by decide +kernel
theorem d_M_giveRow_92 : decode b_M_giveRow 92 = .ok (.dup, 1) := by decide +kernel
theorem d_M_giveRow_93 : decode b_M_giveRow 93 = .ok (.getfield 268, 3) := by decide +kernel
theorem d_M_giveRow_96 : decode b_M_giveRow 96 = .ok (.iconst 1, 1) := by decide +kernel
theorem d_M_giveRow_97 : decode b_M_giveRow 97 = .ok (.iadd, 1) := by decide +kernel
theorem d_M_giveRow_98 : decode b_M_giveRow 98 = .ok (.putfield 268, 3) := by decide +kernel
theorem d_M_giveRow_101 : decode b_M_giveRow 101 = .ok (.return_, 1) := by decide +kernel
theorem d_M_findGroup_0 : decode b_M_findGroup 0 = .ok (.aload_n 0, 1) := by decide +kernel
theorem d_M_findGroup_1 : decode b_M_findGroup 1 = .ok (.getfield 261, 3) := by decide +kernel
theorem d_M_findGroup_4 : decode b_M_findGroup 4 = .ok (.istore_n 1, 1) := by decide +kernel
theorem d_M_findGroup_5 : decode b_M_findGroup 5 = .ok (.iconst 0, 1) := by decide +kernel
theorem d_M_findGroup_6 : decode b_M_findGroup 6 = .ok (.istore_n 2, 1) := by decide +kernel
theorem d_M_findGroup_7 : decode b_M_findGroup 7 = .ok (.iload_n 2, 1) := by decide +kernel
theorem d_M_findGroup_8 : decode b_M_findGroup 8 = .ok (.aload_n 0, 1) := by decide +kernel
theorem d_M_findGroup_9 : decode b_M_findGroup 9 = .ok (.getfield 146, 3) := by decide +kernel
theorem d_M_findGroup_12 : decode b_M_findGroup 12 = .ok (.if_icmp .ge 60, 3) := by decide +kernel
theorem d_M_findGroup_15 : decode b_M_findGroup 15 = .ok (.aload_n 0, 1) := by decide +kernel
theorem d_M_findGroup_16 : decode b_M_findGroup 16 = .ok (.aload_n 0, 1) := by decide +kernel
theorem d_M_findGroup_17 : decode b_M_findGroup 17 = .ok (.getfield 67, 3) := by decide +kernel
theorem d_M_findGroup_20 : decode b_M_findGroup 20 = .ok (.iload_n 2, 1) := by decide +kernel
theorem d_M_findGroup_21 : decode b_M_findGroup 21 = .ok (.iaload, 1) := by decide +kernel
theorem d_M_findGroup_22 : decode b_M_findGroup 22 = .ok (.invokevirtual 249, 3) := by decide +kernel
theorem d_M_findGroup_25 : decode b_M_findGroup 25 = .ok (.aload_n 0, 1) := by decide +kernel
theorem d_M_findGroup_26 : decode b_M_findGroup 26 = .ok (.getfield 213, 3) := by decide +kernel
theorem d_M_findGroup_29 : decode b_M_findGroup 29 = .ok (.ifCond .eq 5, 3) := by decide +kernel
theorem d_M_findGroup_32 : decode b_M_findGroup 32 = .ok (.iconst 0, 1) := by decide +kernel
theorem d_M_findGroup_33 : decode b_M_findGroup 33 = .ok (.ireturn, 1) := by decide +kernel
theorem d_M_findGroup_34 : decode b_M_findGroup 34 = .ok (.aload_n 0, 1) := by decide +kernel
theorem d_M_findGroup_35 : decode b_M_findGroup 35 = .ok (.getfield 100, 3) := by decide +kernel
theorem d_M_findGroup_38 : decode b_M_findGroup 38 = .ok (.iconst 4, 1) := by decide +kernel
theorem d_M_findGroup_39 : decode b_M_findGroup 39 = .ok (.iload_n 1, 1) := by decide +kernel
theorem d_M_findGroup_40 : decode b_M_findGroup 40 = .ok (.imul, 1) := by decide +kernel
theorem d_M_findGroup_41 : decode b_M_findGroup 41 = .ok (.iload_n 2, 1) := by decide +kernel
theorem d_M_findGroup_42 : decode b_M_findGroup 42 = .ok (.iadd, 1) := by decide +kernel
theorem d_M_findGroup_43 : decode b_M_findGroup 43 = .ok (.aload_n 0, 1) := by decide +kernel
theorem d_M_findGroup_44 : decode b_M_findGroup 44 = .ok (.getfield 118, 3) := by decide +kernel
theorem d_M_findGroup_47 : decode b_M_findGroup 47 = .ok (.iconst 0, 1) := by decide +kernel
theorem d_M_findGroup_48 : decode b_M_findGroup 48 = .ok (.laload, 1) := by decide +kernel
theorem d_M_findGroup_49 : decode b_M_findGroup 49 = .ok (.lastore, 1) := by decide +kernel
theorem d_M_findGroup_50 : decode b_M_findGroup 50 = .ok (.aload_n 0, 1) := by decide +kernel
theorem d_M_findGroup_51 : decode b_M_findGroup 51 = .ok (.getfield 103, 3) := by decide +kernel
theorem d_M_findGroup_54 : decode b_M_findGroup 54 = .ok (.iconst 4, 1) := by decide +kernel
theorem d_M_findGroup_55 : decode b_M_findGroup 55 = .ok (.iload_n 1, 1) := by decide +kernel
theorem d_M_findGroup_56 : decode b_M_findGroup 56 = .ok (.imul, 1) := by decide +kernel
theorem d_M_findGroup_57 : decode b_M_findGroup 57 = .ok (.iload_n 2, 1) := by decide +kernel
theorem d_M_findGroup_58 : decode b_M_findGroup 58 = .ok (.iadd, 1) := by decide +kernel
theorem d_M_findGroup_59 : decode b_M_findGroup 59 = .ok (.aload_n 0, 1) := by decide +kernel
theorem d_M_findGroup_60 : decode b_M_findGroup 60 = .ok (.getfield 121, 3) := by decide +kernel
theorem d_M_findGroup_63 : decode b_M_findGroup 63 = .ok (.iconst 0, 1) := by decide +kernel
theorem d_M_findGroup_64 : decode b_M_findGroup 64 = .ok (.baload, 1) := by decide +kernel
theorem d_M_findGroup_65 : decode b_M_findGroup 65 = .ok (.bastore, 1) := by decide +kernel
theorem d_M_findGroup_66 : decode b_M_findGroup 66 = .ok (.iinc 2 1, 3) := by decide +kernel
theorem d_M_findGroup_69 : decode b_M_findGroup 69 = .ok (.goto (-62), 3) := by decide +kernel
theorem d_M_findGroup_72 : decode b_M_findGroup 72 = .ok (.iconst 0, 1) := by decide +kernel
theorem d_M_findGroup_73 : decode b_M_findGroup 73 = .ok (.istore_n 2, 1) := by decide +kernel
theorem d_M_findGroup_74 : decode b_M_findGroup 74 = .ok (.iload_n 2, 1) := by decide +kernel
theorem d_M_findGroup_75 : decode b_M_findGroup 75 = .ok (.aload_n 0, 1) := by decide +kernel
theorem d_M_findGroup_76 : decode b_M_findGroup 76 = .ok (.getfield 261, 3) := by decide +kernel
theorem d_M_findGroup_79 : decode b_M_findGroup 79 = .ok (.if_icmp .ge 105, 3) := by decide +kernel
theorem d_M_findGroup_82 : decode b_M_findGroup 82 = .ok (.iconst 1, 1) := by decide +kernel
theorem d_M_findGroup_83 : decode b_M_findGroup 83 = .ok (.istore_n 3, 1) := by decide +kernel
theorem d_M_findGroup_84 : decode b_M_findGroup 84 = .ok (.iconst 0, 1) := by decide +kernel
theorem d_M_findGroup_85 : decode b_M_findGroup 85 = .ok (.istore 4, 2) := by decide +kernel
theorem d_M_findGroup_87 : decode b_M_findGroup 87 = .ok (.iload 4, 2) := by decide +kernel
theorem d_M_findGroup_89 : decode b_M_findGroup 89 = .ok (.aload_n 0, 1) := by decide +kernel
theorem d_M_findGroup_90 : decode b_M_findGroup 90 = .ok (.getfield 146, 3) := by decide +kernel
theorem d_M_findGroup_93 : decode b_M_findGroup 93 = .ok (.if_icmp .ge 79, 3) := by decide +kernel
theorem d_M_findGroup_96 : decode b_M_findGroup 96 = .ok (.aload_n 0, 1) := by decide +kernel
theorem d_M_findGroup_97 : decode b_M_findGroup 97 = .ok (.getfield 103, 3) := by decide +kernel
theorem d_M_findGroup_100 : decode b_M_findGroup 100 = .ok (.iconst 4, 1) := by decide +kernel
theorem d_M_findGroup_101 : decode b_M_findGroup 101 = .ok (.iload_n 2, 1) := by decide +kernel
theorem d_M_findGroup_102 : decode b_M_findGroup 102 = .ok (.imul, 1) := by decide +kernel
theorem d_M_findGroup_103 : decode b_M_findGroup 103 = .ok (.iload 4, 2) := by decide +kernel
theorem d_M_findGroup_105 : decode b_M_findGroup 105 = .ok (.iadd, 1) := by decide +kernel
theorem d_M_findGroup_106 : decode b_M_findGroup 106 = .ok (.baload, 1) := by decide +kernel
theorem d_M_findGroup_107 : decode b_M_findGroup 107 = .ok (.istore 5, 2) := by decide +kernel
theorem d_M_findGroup_109 : decode b_M_findGroup 109 = .ok (.iload_n 3, 1) := by decide +kernel
theorem d_M_findGroup_110 : decode b_M_findGroup 110 = .ok (.ifCond .eq 54, 3) := by decide +kernel
theorem d_M_findGroup_113 : decode b_M_findGroup 113 = .ok (.iload 5, 2) := by decide +kernel
theorem d_M_findGroup_115 : decode b_M_findGroup 115 = .ok (.aload_n 0, 1) := by decide +kernel
theorem d_M_findGroup_116 : decode b_M_findGroup 116 = .ok (.getfield 103, 3) := by decide +kernel
theorem d_M_findGroup_119 : decode b_M_findGroup 119 = .ok (.iconst 4, 1) := by decide +kernel
theorem d_M_findGroup_120 : decode b_M_findGroup 120 = .ok (.iload_n 1, 1) := by decide +kernel
theorem d_M_findGroup_121 : decode b_M_findGroup 121 = .ok (.imul, 1) := by decide +kernel
theorem d_M_findGroup_122 : decode b_M_findGroup 122 = .ok (.iload 4, 2) := by decide +kernel
theorem d_M_findGroup_124 : decode b_M_findGroup 124 = .ok (.iadd, 1) := by decide +kernel
theorem d_M_findGroup_125 : decode b_M_findGroup 125 = .ok (.baload, 1) := by decide +kernel
theorem d_M_findGroup_126 : decode b_M_findGroup 126 = .ok (.if_icmp .ne 38, 3) := by decide +kernel
theorem d_M_findGroup_129 : decode b_M_findGroup 129 = .ok (.iload 5, 2) := by decide +kernel
theorem d_M_findGroup_131 : decode b_M_findGroup 131 = .ok (.ifCond .ne 29, 3) := by decide +kernel
theorem d_M_findGroup_134 : decode b_M_findGroup 134 = .ok (.aload_n 0, 1) := by decide +kernel
theorem d_M_findGroup_135 : decode b_M_findGroup 135 = .ok (.getfield 100, 3) := by decide +kernel
theorem d_M_findGroup_138 : decode b_M_findGroup 138 = .ok (.iconst 4, 1) := by decide +kernel
theorem d_M_findGroup_139 : decode b_M_findGroup 139 = .ok (.iload_n 2, 1) := by decide +kernel
theorem d_M_findGroup_140 : decode b_M_findGroup 140 = .ok (.imul, 1) := by decide +kernel
theorem d_M_findGroup_141 : decode b_M_findGroup 141 = .ok (.iload 4, 2) := by decide +kernel
theorem d_M_findGroup_143 : decode b_M_findGroup 143 = .ok (.iadd, 1) := by decide +kernel
theorem d_M_findGroup_144 : decode b_M_findGroup 144 = .ok (.laload, 1) := by decide +kernel
theorem d_M_findGroup_145 : decode b_M_findGroup 145 = .ok (.aload_n 0, 1) := by decide +kernel
theorem d_M_findGroup_146 : decode b_M_findGroup 146 = .ok (.getfield 100, 3) := by decide +kernel
theorem d_M_findGroup_149 : decode b_M_findGroup 149 = .ok (.iconst 4, 1) := by decide +kernel
theorem d_M_findGroup_150 : decode b_M_findGroup 150 = .ok (.iload_n 1, 1) := by decide +kernel
theorem d_M_findGroup_151 : decode b_M_findGroup 151 = .ok (.imul, 1) := by decide +kernel
theorem d_M_findGroup_152 : decode b_M_findGroup 152 = .ok (.iload 4, 2) := by decide +kernel
theorem d_M_findGroup_154 : decode b_M_findGroup 154 = .ok (.iadd, 1) := by decide +kernel
theorem d_M_findGroup_155 : decode b_M_findGroup 155 = .ok (.laload, 1) := by decide +kernel
theorem d_M_findGroup_156 : decode b_M_findGroup 156 = .ok (.lcmp, 1) := by decide +kernel
theorem d_M_findGroup_157 : decode b_M_findGroup 157 = .ok (.ifCond .ne 7, 3) := by decide +kernel
theorem d_M_findGroup_160 : decode b_M_findGroup 160 = .ok (.iconst 1, 1) := by decide +kernel
theorem d_M_findGroup_161 : decode b_M_findGroup 161 = .ok (.goto 4, 3) := by decide +kernel
theorem d_M_findGroup_164 : decode b_M_findGroup 164 = .ok (.iconst 0, 1) := by decide +kernel
theorem d_M_findGroup_165 : decode b_M_findGroup 165 = .ok (.istore_n 3, 1) := by decide +kernel
theorem d_M_findGroup_166 : decode b_M_findGroup 166 = .ok (.iinc 4 1, 3) := by decide +kernel
theorem d_M_findGroup_169 : decode b_M_findGroup 169 = .ok (.goto (-82), 3) := by decide +kernel
theorem d_M_findGroup_172 : decode b_M_findGroup 172 = .ok (.iload_n 3, 1) := by decide +kernel
theorem d_M_findGroup_173 : decode b_M_findGroup 173 = .ok (.ifCond .eq 5, 3) := by decide +kernel
theorem d_M_findGroup_176 : decode b_M_findGroup 176 = .ok (.iload_n 2, 1) := by decide +kernel
theorem d_M_findGroup_177 : decode b_M_findGroup 177 = .ok (.ireturn, 1) := by decide +kernel
theorem d_M_findGroup_178 : decode b_M_findGroup 178 = .ok (.iinc 2 1, 3) := by decide +kernel
theorem d_M_findGroup_181 : decode b_M_findGroup 181 = .ok (.goto (-107), 3) := by decide +kernel
theorem d_M_findGroup_184 : decode b_M_findGroup 184 = .ok (.iconst 0, 1) := by decide +kernel
theorem d_M_findGroup_185 : decode b_M_findGroup 185 = .ok (.istore_n 2, 1) := by decide +kernel
theorem d_M_findGroup_186 : decode b_M_findGroup 186 = .ok (.iload_n 2, 1) := by decide +kernel
theorem d_M_findGroup_187 : decode b_M_findGroup 187 = .ok (.bipush 8, 2) := by decide +kernel
theorem d_M_findGroup_189 : decode b_M_findGroup 189 = .ok (.if_icmp .ge 21, 3) := by decide +kernel
theorem d_M_findGroup_192 : decode b_M_findGroup 192 = .ok (.aload_n 0, 1) := by decide +kernel
theorem d_M_findGroup_193 : decode b_M_findGroup 193 = .ok (.getfield 106, 3) := by decide +kernel
theorem d_M_findGroup_196 : decode b_M_findGroup 196 = .ok (.bipush 8, 2) := by decide +kernel
theorem d_M_findGroup_198 : decode b_M_findGroup 198 = .ok (.iload_n 1, 1) := by decide +kernel
theorem d_M_findGroup_199 : decode b_M_findGroup 199 = .ok (.imul, 1) := by decide +kernel
theorem d_M_findGroup_200 : decode b_M_findGroup 200 = .ok (.iload_n 2, 1) := by decide +kernel
theorem d_M_findGroup_201 : decode b_M_findGroup 201 = .ok (.iadd, 1) := by decide +kernel
theorem d_M_findGroup_202 : decode b_M_findGroup 202 = .ok (.lconst 0, 1) := by decide +kernel
theorem d_M_findGroup_203 : decode b_M_findGroup 203 = .ok (.lastore, 1) := by decide +kernel
theorem d_M_findGroup_204 : decode b_M_findGroup 204 = .ok (.iinc 2 1, 3) := by decide +kernel
theorem d_M_findGroup_207 : decode b_M_findGroup 207 = .ok (.goto (-21), 3) := by decide +kernel
theorem d_M_findGroup_210 : decode b_M_findGroup 210 = .ok (.aload_n 0, 1) := by decide +kernel
theorem d_M_findGroup_211 : decode b_M_findGroup 211 = .ok (.dup, 1) := by decide +kernel
theorem d_M_findGroup_212 : decode b_M_findGroup 212 = .ok (.getfield 261, 3) := by decide +kernel
theorem d_M_findGroup_215 : decode b_M_findGroup 215 = .ok (.iconst 1, 1) := by decide +kernel
theorem d_M_findGroup_216 : decode b_M_findGroup 216 = .ok (.iadd, 1) := by decide +kernel
theorem d_M_findGroup_217 : decode b_M_findGroup 217 = .ok (.putfield 261, 3) := by decide +kernel
theorem d_M_findGroup_220 : decode b_M_findGroup 220 = .ok (.iload_n 1, 1) := by decide +kernel
theorem d_M_findGroup_221 : decode b_M_findGroup 221 = .ok (.ireturn, 1) := by decide +kernel
theorem d_M_putInGroup_0 : decode b_M_putInGroup 0 = .ok (.aload_n 0, 1) := by decide +kernel
theorem d_M_putInGroup_1 : decode b_M_putInGroup 1 = .ok (.invokevirtual 264, 3) := by decide +kernel
theorem d_M_putInGroup_4 : decode b_M_putInGroup 4 = .ok (.istore_n 1, 1) := by decide +kernel
theorem d_M_putInGroup_5 : decode b_M_putInGroup 5 = .ok (.aload_n 0, 1) := by decide +kernel
theorem d_M_putInGroup_6 : decode b_M_putInGroup 6 = .ok (.getfield 213, 3) := by decide +kernel
theorem d_M_putInGroup_9 : decode b_M_putInGroup 9 = .ok (.ifCond .eq 4, 3) := by decide +kernel
theorem d_M_putInGroup_12 : decode b_M_putInGroup 12 = .ok (.return_, 1) := by decide +kernel
theorem d_M_putInGroup_13 : decode b_M_putInGroup 13 = .ok (.aload_n 0, 1) := by decide +kernel
theorem d_M_putInGroup_14 : decode b_M_putInGroup 14 = .ok (.getfield 255, 3) := by decide +kernel
theorem d_M_putInGroup_17 : decode b_M_putInGroup 17 = .ok (.istore_n 2, 1) := by decide +kernel
theorem d_M_putInGroup_18 : decode b_M_putInGroup 18 = .ok (.aload_n 0, 1) := by decide +kernel
theorem d_M_putInGroup_19 : decode b_M_putInGroup 19 = .ok (.getfield 91, 3) := by decide +kernel
theorem d_M_putInGroup_22 : decode b_M_putInGroup 22 = .ok (.iload_n 2, 1) := by decide +kernel
theorem d_M_putInGroup_23 : decode b_M_putInGroup 23 = .ok (.iload_n 1, 1) := by decide +kernel
theorem d_M_putInGroup_24 : decode b_M_putInGroup 24 = .ok (.iastore, 1) := by decide +kernel
theorem d_M_putInGroup_25 : decode b_M_putInGroup 25 = .ok (.aload_n 0, 1) := by decide +kernel
theorem d_M_putInGroup_26 : decode b_M_putInGroup 26 = .ok (.dup, 1) := by decide +kernel
theorem d_M_putInGroup_27 : decode b_M_putInGroup 27 = .ok (.getfield 255, 3) := by decide +kernel
theorem d_M_putInGroup_30 : decode b_M_putInGroup 30 = .ok (.iconst 1, 1) := by decide +kernel
theorem d_M_putInGroup_31 : decode b_M_putInGroup 31 = .ok (.iadd, 1) := by decide +kernel
theorem d_M_putInGroup_32 : decode b_M_putInGroup 32 = .ok (.putfield 255, 3) := by decide +kernel
theorem d_M_putInGroup_35 : decode b_M_putInGroup 35 = .ok (.iconst 0, 1) := by decide +kernel
theorem d_M_putInGroup_36 : decode b_M_putInGroup 36 = .ok (.istore_n 3, 1) := by decide +kernel
theorem d_M_putInGroup_37 : decode b_M_putInGroup 37 = .ok (.iload_n 3, 1) := by decide +kernel
theorem d_M_putInGroup_38 : decode b_M_putInGroup 38 = .ok (.aload_n 0, 1) := by decide +kernel
theorem d_M_putInGroup_39 : decode b_M_putInGroup 39 = .ok (.getfield 140, 3) := by decide +kernel
theorem d_M_putInGroup_42 : decode b_M_putInGroup 42 = .ok (.if_icmp .ge 168, 3) := by decide +kernel
theorem d_M_putInGroup_45 : decode b_M_putInGroup 45 = .ok (.aload_n 0, 1) := by decide +kernel
theorem d_M_putInGroup_46 : decode b_M_putInGroup 46 = .ok (.getfield 24, 3) := by decide +kernel
theorem d_M_putInGroup_49 : decode b_M_putInGroup 49 = .ok (.aload_n 0, 1) := by decide +kernel
theorem d_M_putInGroup_50 : decode b_M_putInGroup 50 = .ok (.getfield 48, 3) := by decide +kernel
theorem d_M_putInGroup_53 : decode b_M_putInGroup 53 = .ok (.iload_n 3, 1) := by decide +kernel
theorem d_M_putInGroup_54 : decode b_M_putInGroup 54 = .ok (.iaload, 1) := by decide +kernel
theorem d_M_putInGroup_55 : decode b_M_putInGroup 55 = .ok (.iaload, 1) := by decide +kernel
theorem d_M_putInGroup_56 : decode b_M_putInGroup 56 = .ok (.bipush 30, 2) := by decide +kernel
theorem d_M_putInGroup_58 : decode b_M_putInGroup 58 = .ok (.isub, 1) := by decide +kernel
theorem d_M_putInGroup_59 : decode b_M_putInGroup 59 = .ok (.istore 4, 2) := by decide +kernel
theorem d_M_putInGroup_61 : decode b_M_putInGroup 61 = .ok (.aload_n 0, 1) := by decide +kernel
theorem d_M_putInGroup_62 : decode b_M_putInGroup 62 = .ok (.getfield 109, 3) := by decide +kernel
theorem d_M_putInGroup_65 : decode b_M_putInGroup 65 = .ok (.iload_n 3, 1) := by decide +kernel
theorem d_M_putInGroup_66 : decode b_M_putInGroup 66 = .ok (.baload, 1) := by decide +kernel
theorem d_M_putInGroup_67 : decode b_M_putInGroup 67 = .ok (.ifCond .eq 137, 3) := by decide +kernel
theorem d_M_putInGroup_70 : decode b_M_putInGroup 70 = .ok (.iload 4, 2) := by decide +kernel
theorem d_M_putInGroup_72 : decode b_M_putInGroup 72 = .ok (.ifCond .ne 6, 3) := by decide +kernel
theorem d_M_putInGroup_75 : decode b_M_putInGroup 75 = .ok (.goto 129, 3) := by decide +kernel
theorem d_M_putInGroup_78 : decode b_M_putInGroup 78 = .ok (.aload_n 0, 1) := by decide +kernel
theorem d_M_putInGroup_79 : decode b_M_putInGroup 79 = .ok (.aload_n 0, 1) := by decide +kernel
theorem d_M_putInGroup_80 : decode b_M_putInGroup 80 = .ok (.getfield 27, 3) := by decide +kernel
theorem d_M_putInGroup_83 : decode b_M_putInGroup 83 = .ok (.aload_n 0, 1) := by decide +kernel
theorem d_M_putInGroup_84 : decode b_M_putInGroup 84 = .ok (.getfield 48, 3) := by decide +kernel
theorem d_M_putInGroup_87 : decode b_M_putInGroup 87 = .ok (.iload_n 3, 1) := by decide +kernel
theorem d_M_putInGroup_88 : decode b_M_putInGroup 88 = .ok (.iaload, 1) := by decide +kernel
theorem d_M_putInGroup_89 : decode b_M_putInGroup 89 = .ok (.iaload, 1) := by decide +kernel
theorem d_M_putInGroup_90 : decode b_M_putInGroup 90 = .ok (.invokevirtual 249, 3) := by decide +kernel
theorem d_M_putInGroup_93 : decode b_M_putInGroup 93 = .ok (.aload_n 0, 1) := by decide +kernel
theorem d_M_putInGroup_94 : decode b_M_putInGroup 94 = .ok (.getfield 213, 3) := by decide +kernel
theorem d_M_putInGroup_97 : decode b_M_putInGroup 97 = .ok (.ifCond .eq 4, 3) := by decide +kernel
theorem d_M_putInGroup_100 : decode b_M_putInGroup 100 = .ok (.return_, 1) := by decide +kernel
theorem d_M_putInGroup_101 : decode b_M_putInGroup 101 = .ok (.aload_n 0, 1) := by decide +kernel
theorem d_M_putInGroup_102 : decode b_M_putInGroup 102 = .ok (.getfield 94, 3) := by decide +kernel
theorem d_M_putInGroup_105 : decode b_M_putInGroup 105 = .ok (.bipush 8, 2) := by decide +kernel
theorem d_M_putInGroup_107 : decode b_M_putInGroup 107 = .ok (.iload_n 2, 1) := by decide +kernel
theorem d_M_putInGroup_108 : decode b_M_putInGroup 108 = .ok (.imul, 1) := by decide +kernel
theorem d_M_putInGroup_109 : decode b_M_putInGroup 109 = .ok (.iload_n 3, 1) := by decide +kernel
theorem d_M_putInGroup_110 : decode b_M_putInGroup 110 = .ok (.iadd, 1) := by decide +kernel
theorem d_M_putInGroup_111 : decode b_M_putInGroup 111 = .ok (.aload_n 0, 1) := by decide +kernel
theorem d_M_putInGroup_112 : decode b_M_putInGroup 112 = .ok (.getfield 118, 3) := by decide +kernel
theorem d_M_putInGroup_115 : decode b_M_putInGroup 115 = .ok (.iconst 0, 1) := by decide +kernel
theorem d_M_putInGroup_116 : decode b_M_putInGroup 116 = .ok (.laload, 1) := by decide +kernel
theorem d_M_putInGroup_117 : decode b_M_putInGroup 117 = .ok (.lastore, 1) := by decide +kernel
theorem d_M_putInGroup_118 : decode b_M_putInGroup 118 = .ok (.aload_n 0, 1) := by decide +kernel
theorem d_M_putInGroup_119 : decode b_M_putInGroup 119 = .ok (.getfield 97, 3) := by decide +kernel
theorem d_M_putInGroup_122 : decode b_M_putInGroup 122 = .ok (.bipush 8, 2) := by decide +kernel
theorem d_M_putInGroup_124 : decode b_M_putInGroup 124 = .ok (.iload_n 2, 1) := by decide +kernel
theorem d_M_putInGroup_125 : decode b_M_putInGroup 125 = .ok (.imul, 1) := by decide +kernel
theorem d_M_putInGroup_126 : decode b_M_putInGroup 126 = .ok (.iload_n 3, 1) := by decide +kernel
theorem d_M_putInGroup_127 : decode b_M_putInGroup 127 = .ok (.iadd, 1) := by decide +kernel
theorem d_M_putInGroup_128 : decode b_M_putInGroup 128 = .ok (.aload_n 0, 1) := by decide +kernel
theorem d_M_putInGroup_129 : decode b_M_putInGroup 129 = .ok (.getfield 121, 3) := by decide +kernel
theorem d_M_putInGroup_132 : decode b_M_putInGroup 132 = .ok (.iconst 0, 1) := by decide +kernel
theorem d_M_putInGroup_133 : decode b_M_putInGroup 133 = .ok (.baload, 1) := by decide +kernel
theorem d_M_putInGroup_134 : decode b_M_putInGroup 134 = .ok (.bastore, 1) := by decide +kernel
theorem d_M_putInGroup_135 : decode b_M_putInGroup 135 = .ok (.iload 4, 2) := by decide +kernel
theorem d_M_putInGroup_137 : decode b_M_putInGroup 137 = .ok (.iconst 2, 1) := by decide +kernel
theorem d_M_putInGroup_138 : decode b_M_putInGroup 138 = .ok (.if_icmp .eq 9, 3) := by decide +kernel
theorem d_M_putInGroup_141 : decode b_M_putInGroup 141 = .ok (.iload 4, 2) := by decide +kernel
theorem d_M_putInGroup_143 : decode b_M_putInGroup 143 = .ok (.iconst 5, 1) := by decide +kernel
theorem d_M_putInGroup_144 : decode b_M_putInGroup 144 = .ok (.if_icmp .ne 60, 3) := by decide +kernel
theorem d_M_putInGroup_147 : decode b_M_putInGroup 147 = .ok (.aload_n 0, 1) := by decide +kernel
theorem d_M_putInGroup_148 : decode b_M_putInGroup 148 = .ok (.iload_n 2, 1) := by decide +kernel
theorem d_M_putInGroup_149 : decode b_M_putInGroup 149 = .ok (.iload_n 3, 1) := by decide +kernel
theorem d_M_putInGroup_150 : decode b_M_putInGroup 150 = .ok (.invokevirtual 258, 3) := by decide +kernel
theorem d_M_putInGroup_153 : decode b_M_putInGroup 153 = .ok (.ifCond .eq 51, 3) := by decide +kernel
theorem d_M_putInGroup_156 : decode b_M_putInGroup 156 = .ok (.aload_n 0, 1) := by decide +kernel
theorem d_M_putInGroup_157 : decode b_M_putInGroup 157 = .ok (.getfield 106, 3) := by decide +kernel
theorem d_M_putInGroup_160 : decode b_M_putInGroup 160 = .ok (.bipush 8, 2) := by decide +kernel
theorem d_M_putInGroup_162 : decode b_M_putInGroup 162 = .ok (.iload_n 1, 1) := by decide +kernel
theorem d_M_putInGroup_163 : decode b_M_putInGroup 163 = .ok (.imul, 1) := by decide +kernel
theorem d_M_putInGroup_164 : decode b_M_putInGroup 164 = .ok (.iload_n 3, 1) := by decide +kernel
theorem d_M_putInGroup_165 : decode b_M_putInGroup 165 = .ok (.iadd, 1) := by decide +kernel
theorem d_M_putInGroup_166 : decode b_M_putInGroup 166 = .ok (.dup2, 1) := by decide +kernel
theorem d_M_putInGroup_167 : decode b_M_putInGroup 167 = .ok (.laload, 1) := by decide +kernel
theorem d_M_putInGroup_168 : decode b_M_putInGroup 168 = .ok (.aload_n 0, 1) := by decide +kernel
theorem d_M_putInGroup_169 : decode b_M_putInGroup 169 = .ok (.getfield 118, 3) := by decide +kernel
theorem d_M_putInGroup_172 : decode b_M_putInGroup 172 = .ok (.iconst 0, 1) := by decide +kernel
theorem d_M_putInGroup_173 : decode b_M_putInGroup 173 = .ok (.laload, 1) := by decide +kernel
theorem d_M_putInGroup_174 : decode b_M_putInGroup 174 = .ok (.ladd, 1) := by decide +kernel
theorem d_M_putInGroup_175 : decode b_M_putInGroup 175 = .ok (.lastore, 1) := by decide +kernel
theorem d_M_putInGroup_176 : decode b_M_putInGroup 176 = .ok (.aload_n 0, 1) := by decide +kernel
theorem d_M_putInGroup_177 : decode b_M_putInGroup 177 = .ok (.getfield 106, 3) := by decide +kernel
theorem d_M_putInGroup_180 : decode b_M_putInGroup 180 = .ok (.bipush 8, 2) := by decide +kernel
theorem d_M_putInGroup_182 : decode b_M_putInGroup 182 = .ok (.iload_n 1, 1) := by decide +kernel
theorem d_M_putInGroup_183 : decode b_M_putInGroup 183 = .ok (.imul, 1) := by decide +kernel
theorem d_M_putInGroup_184 : decode b_M_putInGroup 184 = .ok (.iload_n 3, 1) := by decide +kernel
theorem d_M_putInGroup_185 : decode b_M_putInGroup 185 = .ok (.iadd, 1) := by decide +kernel
theorem d_M_putInGroup_186 : decode b_M_putInGroup 186 = .ok (.laload, 1) := by decide +kernel
theorem d_M_putInGroup_187 : decode b_M_putInGroup 187 = .ok (.invokestatic 216, 3) := by decide +kernel
theorem d_M_putInGroup_190 : decode b_M_putInGroup 190 = .ok (.ldc2_w 220, 3) := by decide +kernel
theorem d_M_putInGroup_193 : decode b_M_putInGroup 193 = .ok (.lcmp, 1) := by decide +kernel
theorem d_M_putInGroup_194 : decode b_M_putInGroup 194 = .ok (.ifCond .le 10, 3) := by decide +kernel
theorem d_M_putInGroup_197 : decode b_M_putInGroup 197 = .ok (.aload_n 0, 1) := by decide +kernel
theorem d_M_putInGroup_198 : decode b_M_putInGroup 198 = .ok (.bipush (-21), 2) := by decide +kernel
theorem d_M_putInGroup_200 : decode b_M_putInGroup 200 = .ok (.putfield 213, 3) := by decide +kernel
theorem d_M_putInGroup_203 : decode b_M_putInGroup 203 = .ok (.return_, 1) := by decide +kernel
theorem d_M_putInGroup_204 : decode b_M_putInGroup 204 = .ok (.iinc 3 1, 3) := by decide +kernel
theorem d_M_putInGroup_207 : decode b_M_putInGroup 207 = .ok (.goto (-170), 3) := by decide +kernel
theorem d_M_putInGroup_210 : decode b_M_putInGroup 210 = .ok (.return_, 1) := by decide +kernel
theorem d_M_isTrue_0 : decode b_M_isTrue 0 = .ok (.aload_n 0, 1) := by decide +kernel
theorem d_M_isTrue_1 : decode b_M_isTrue 1 = .ok (.iload_n 1, 1) := by decide +kernel
theorem d_M_isTrue_2 : decode b_M_isTrue 2 = .ok (.invokevirtual 249, 3) := by decide +kernel
theorem d_M_isTrue_5 : decode b_M_isTrue 5 = .ok (.aload_n 0, 1) := by decide +kernel
theorem d_M_isTrue_6 : decode b_M_isTrue 6 = .ok (.getfield 213, 3) := by decide +kernel
theorem d_M_isTrue_9 : decode b_M_isTrue 9 = .ok (.ifCond .ne 18, 3) := by decide +kernel
theorem d_M_isTrue_12 : decode b_M_isTrue 12 = .ok (.aload_n 0, 1) := by decide +kernel
theorem d_M_isTrue_13 : decode b_M_isTrue 13 = .ok (.getfield 118, 3) := by decide +kernel
theorem d_M_isTrue_16 : decode b_M_isTrue 16 = .ok (.iconst 0, 1) := by decide +kernel
theorem d_M_isTrue_17 : decode b_M_isTrue 17 = .ok (.laload, 1) := by decide +kernel
theorem d_M_isTrue_18 : decode b_M_isTrue 18 = .ok (.lconst 1, 1) := by decide +kernel
theorem d_M_isTrue_19 : decode b_M_isTrue 19 = .ok (.lcmp, 1) := by decide +kernel
theorem d_M_isTrue_20 : decode b_M_isTrue 20 = .ok (.ifCond .ne 7, 3) := by decide +kernel
theorem d_M_isTrue_23 : decode b_M_isTrue 23 = .ok (.iconst 1, 1) := by decide +kernel
theorem d_M_isTrue_24 : decode b_M_isTrue 24 = .ok (.goto 4, 3) := by decide +kernel
theorem d_M_isTrue_27 : decode b_M_isTrue 27 = .ok (.iconst 0, 1) := by decide +kernel
theorem d_M_isTrue_28 : decode b_M_isTrue 28 = .ok (.ireturn, 1) := by decide +kernel
theorem d_M_goTogether_0 : decode b_M_goTogether 0 = .ok (.aload_n 0, 1) := by decide +kernel
theorem d_M_goTogether_1 : decode b_M_goTogether 1 = .ok (.getfield 213, 3) := by decide +kernel
theorem d_M_goTogether_4 : decode b_M_goTogether 4 = .ok (.ifCond .ne 28, 3) := by decide +kernel
theorem d_M_goTogether_7 : decode b_M_goTogether 7 = .ok (.aload_n 0, 1) := by decide +kernel
theorem d_M_goTogether_8 : decode b_M_goTogether 8 = .ok (.getfield 60, 3) := by decide +kernel
theorem d_M_goTogether_11 : decode b_M_goTogether 11 = .ok (.ifCond .lt 14, 3) := by decide +kernel
theorem d_M_goTogether_14 : decode b_M_goTogether 14 = .ok (.aload_n 0, 1) := by decide +kernel
theorem d_M_goTogether_15 : decode b_M_goTogether 15 = .ok (.aload_n 0, 1) := by decide +kernel
theorem d_M_goTogether_16 : decode b_M_goTogether 16 = .ok (.getfield 60, 3) := by decide +kernel
theorem d_M_goTogether_19 : decode b_M_goTogether 19 = .ok (.invokevirtual 271, 3) := by decide +kernel
theorem d_M_goTogether_22 : decode b_M_goTogether 22 = .ok (.ifCond .eq 10, 3) := by decide +kernel
theorem d_M_goTogether_25 : decode b_M_goTogether 25 = .ok (.aload_n 0, 1) := by decide +kernel
theorem d_M_goTogether_26 : decode b_M_goTogether 26 = .ok (.getfield 213, 3) := by decide +kernel
theorem d_M_goTogether_29 : decode b_M_goTogether 29 = .ok (.ifCond .eq 4, 3) := by decide +kernel
theorem d_M_goTogether_32 : decode b_M_goTogether 32 = .ok (.return_, 1) := by decide +kernel
theorem d_M_goTogether_33 : decode b_M_goTogether 33 = .ok (.aload_n 0, 1) := by decide +kernel
theorem d_M_goTogether_34 : decode b_M_goTogether 34 = .ok (.getfield 274, 3) := by decide +kernel
theorem d_M_goTogether_37 : decode b_M_goTogether 37 = .ok (.ifCond .eq 10, 3) := by decide +kernel
theorem d_M_goTogether_40 : decode b_M_goTogether 40 = .ok (.aload_n 0, 1) := by decide +kernel
theorem d_M_goTogether_41 : decode b_M_goTogether 41 = .ok (.invokevirtual 277, 3) := by decide +kernel
theorem d_M_goTogether_44 : decode b_M_goTogether 44 = .ok (.goto 7, 3) := by decide +kernel
theorem d_M_goTogether_47 : decode b_M_goTogether 47 = .ok (.aload_n 0, 1) := by decide +kernel
theorem d_M_goTogether_48 : decode b_M_goTogether 48 = .ok (.invokevirtual 280, 3) := by decide +kernel
theorem d_M_goTogether_51 : decode b_M_goTogether 51 = .ok (.return_, 1) := by decide +kernel
theorem d_M_goes_0 : decode b_M_goes 0 = .ok (.aload_n 0, 1) := by decide +kernel
theorem d_M_goes_1 : decode b_M_goes 1 = .ok (.getfield 54, 3) := by decide +kernel
theorem d_M_goes_4 : decode b_M_goes 4 = .ok (.iload_n 1, 1) := by decide +kernel
theorem d_M_goes_5 : decode b_M_goes 5 = .ok (.iaload, 1) := by decide +kernel
theorem d_M_goes_6 : decode b_M_goes 6 = .ok (.ifCond .eq 16, 3) := by decide +kernel
theorem d_M_goes_9 : decode b_M_goes 9 = .ok (.aload_n 0, 1) := by decide +kernel
theorem d_M_goes_10 : decode b_M_goes 10 = .ok (.aload_n 0, 1) := by decide +kernel
theorem d_M_goes_11 : decode b_M_goes 11 = .ok (.getfield 57, 3) := by decide +kernel
theorem d_M_goes_14 : decode b_M_goes 14 = .ok (.iload_n 1, 1) := by decide +kernel
theorem d_M_goes_15 : decode b_M_goes 15 = .ok (.iaload, 1) := by decide +kernel
theorem d_M_goes_16 : decode b_M_goes 16 = .ok (.invokevirtual 271, 3) := by decide +kernel
theorem d_M_goes_19 : decode b_M_goes 19 = .ok (.ifCond .eq 7, 3) := by decide +kernel
theorem d_M_goes_22 : decode b_M_goes 22 = .ok (.iconst 1, 1) := by decide +kernel
theorem d_M_goes_23 : decode b_M_goes 23 = .ok (.goto 4, 3) := by decide +kernel
theorem d_M_goes_26 : decode b_M_goes 26 = .ok (.iconst 0, 1) := by decide +kernel
theorem d_M_goes_27 : decode b_M_goes 27 = .ok (.ireturn, 1) := by decide +kernel
theorem d_M_goThird_0 : decode b_M_goThird 0 = .ok (.aload_n 0, 1) := by decide +kernel
theorem d_M_goThird_1 : decode b_M_goThird 1 = .ok (.getfield 143, 3) := by decide +kernel
theorem d_M_goThird_4 : decode b_M_goThird 4 = .ok (.iconst 3, 1) := by decide +kernel
theorem d_M_goThird_5 : decode b_M_goThird 5 = .ok (.if_icmp .ge 8, 3) := by decide +kernel
theorem d_M_goThird_8 : decode b_M_goThird 8 = .ok (.aload_n 0, 1) := by decide +kernel
theorem d_M_goThird_9 : decode b_M_goThird 9 = .ok (.invokevirtual 283, 3) := by decide +kernel
theorem d_M_goThird_12 : decode b_M_goThird 12 = .ok (.return_, 1) := by decide +kernel
theorem d_M_goThird_13 : decode b_M_goThird 13 = .ok (.iconst 0, 1) := by decide +kernel
theorem d_M_goThird_14 : decode b_M_goThird 14 = .ok (.istore_n 1, 1) := by decide +kernel
theorem d_M_goThird_15 : decode b_M_goThird 15 = .ok (.iconst 0, 1) := by decide +kernel
theorem d_M_goThird_16 : decode b_M_goThird 16 = .ok (.istore_n 2, 1) := by decide +kernel
theorem d_M_goThird_17 : decode b_M_goThird 17 = .ok (.iload_n 2, 1) := by decide +kernel
theorem d_M_goThird_18 : decode b_M_goThird 18 = .ok (.aload_n 0, 1) := by decide +kernel
theorem d_M_goThird_19 : decode b_M_goThird 19 = .ok (.getfield 13, 3) := by decide +kernel
theorem d_M_goThird_22 : decode b_M_goThird 22 = .ok (.aload_n 0, 1) := by decide +kernel
theorem d_M_goThird_23 : decode b_M_goThird 23 = .ok (.getfield 51, 3) := by decide +kernel
theorem d_M_goThird_26 : decode b_M_goThird 26 = .ok (.iconst 2, 1) := by decide +kernel
theorem d_M_goThird_27 : decode b_M_goThird 27 = .ok (.iaload, 1) := by decide +kernel
theorem d_M_goThird_28 : decode b_M_goThird 28 = .ok (.iaload, 1) := by decide +kernel
theorem d_M_goThird_29 : decode b_M_goThird 29 = .ok (.if_icmp .ge 37, 3) := by decide +kernel
theorem d_M_goThird_32 : decode b_M_goThird 32 = .ok (.aload_n 0, 1) := by decide +kernel
theorem d_M_goThird_33 : decode b_M_goThird 33 = .ok (.getfield 213, 3) := by decide +kernel
theorem d_M_goThird_36 : decode b_M_goThird 36 = .ok (.ifCond .ne 30, 3) := by decide +kernel
theorem d_M_goThird_39 : decode b_M_goThird 39 = .ok (.aload_n 0, 1) := by decide +kernel
theorem d_M_goThird_40 : decode b_M_goThird 40 = .ok (.getfield 88, 3) := by decide +kernel
theorem d_M_goThird_43 : decode b_M_goThird 43 = .ok (.iconst 2, 1) := by decide +kernel
theorem d_M_goThird_44 : decode b_M_goThird 44 = .ok (.iload_n 2, 1) := by decide +kernel
theorem d_M_goThird_45 : decode b_M_goThird 45 = .ok (.iastore, 1) := by decide +kernel
theorem d_M_goThird_46 : decode b_M_goThird 46 = .ok (.aload_n 0, 1) := by decide +kernel
theorem d_M_goThird_47 : decode b_M_goThird 47 = .ok (.iconst 2, 1) := by decide +kernel
theorem d_M_goThird_48 : decode b_M_goThird 48 = .ok (.invokevirtual 286, 3) := by decide +kernel
theorem d_M_goThird_51 : decode b_M_goThird 51 = .ok (.ifCond .eq 9, 3) := by decide +kernel
theorem d_M_goThird_54 : decode b_M_goThird 54 = .ok (.iconst 1, 1) := by decide +kernel
theorem d_M_goThird_55 : decode b_M_goThird 55 = .ok (.istore_n 1, 1) := by decide +kernel
theorem d_M_goThird_56 : decode b_M_goThird 56 = .ok (.aload_n 0, 1) := by decide +kernel
theorem d_M_goThird_57 : decode b_M_goThird 57 = .ok (.invokevirtual 283, 3) := by decide +kernel
theorem d_M_goThird_60 : decode b_M_goThird 60 = .ok (.iinc 2 1, 3) := by decide +kernel
theorem d_M_goThird_63 : decode b_M_goThird 63 = .ok (.goto (-46), 3) := by decide +kernel
theorem d_M_goThird_66 : decode b_M_goThird 66 = .ok (.iload_n 1, 1) := by decide +kernel
theorem d_M_goThird_67 : decode b_M_goThird 67 = .ok (.ifCond .ne 31, 3) := by decide +kernel
theorem d_M_goThird_70 : decode b_M_goThird 70 = .ok (.aload_n 0, 1) := by decide +kernel
theorem d_M_goThird_71 : decode b_M_goThird 71 = .ok (.getfield 54, 3) := by decide +kernel
theorem d_M_goThird_74 : decode b_M_goThird 74 = .ok (.iconst 2, 1) := by decide +kernel
theorem d_M_goThird_75 : decode b_M_goThird 75 = .ok (.iaload, 1) := by decide +kernel
theorem d_M_goThird_76 : decode b_M_goThird 76 = .ok (.iconst 2, 1) := by decide +kernel
theorem d_M_goThird_77 : decode b_M_goThird 77 = .ok (.if_icmp .ne 21, 3) := by decide +kernel
theorem d_M_goThird_80 : decode b_M_goThird 80 = .ok (.aload_n 0, 1) := by decide +kernel
theorem d_M_goThird_81 : decode b_M_goThird 81 = .ok (.getfield 213, 3) := by decide +kernel
theorem d_M_goThird_84 : decode b_M_goThird 84 = .ok (.ifCond .ne 14, 3) := by decide +kernel
theorem d_M_goThird_87 : decode b_M_goThird 87 = .ok (.aload_n 0, 1) := by decide +kernel
theorem d_M_goThird_88 : decode b_M_goThird 88 = .ok (.getfield 88, 3) := by decide +kernel
theorem d_M_goThird_91 : decode b_M_goThird 91 = .ok (.iconst 2, 1) := by decide +kernel
theorem d_M_goThird_92 : decode b_M_goThird 92 = .ok (.iconst (-1), 1) := by decide +kernel
theorem d_M_goThird_93 : decode b_M_goThird 93 = .ok (.iastore, 1) := by decide +kernel
theorem d_M_goThird_94 : decode b_M_goThird 94 = .ok (.aload_n 0, 1) := by decide +kernel
theorem d_M_goThird_95 : decode b_M_goThird 95 = .ok (.invokevirtual 283, 3) := by decide +kernel
theorem d_M_goThird_98 : decode b_M_goThird 98 = .ok (.return_, 1) := by decide +kernel
theorem d_M_goSecond_0 : decode b_M_goSecond 0 = .ok (.aload_n 0, 1) := by decide +kernel
theorem d_M_goSecond_1 : decode b_M_goSecond 1 = .ok (.getfield 143, 3) := by decide +kernel
theorem d_M_goSecond_4 : decode b_M_goSecond 4 = .ok (.iconst 2, 1) := by decide +kernel
theorem d_M_goSecond_5 : decode b_M_goSecond 5 = .ok (.if_icmp .ge 8, 3) := by decide +kernel
theorem d_M_goSecond_8 : decode b_M_goSecond 8 = .ok (.aload_n 0, 1) := by decide +kernel
theorem d_M_goSecond_9 : decode b_M_goSecond 9 = .ok (.invokevirtual 283, 3) := by decide +kernel
theorem d_M_goSecond_12 : decode b_M_goSecond 12 = .ok (.return_, 1) := by decide +kernel
theorem d_M_goSecond_13 : decode b_M_goSecond 13 = .ok (.iconst 0, 1) := by decide +kernel
theorem d_M_goSecond_14 : decode b_M_goSecond 14 = .ok (.istore_n 1, 1) := by decide +kernel
theorem d_M_goSecond_15 : decode b_M_goSecond 15 = .ok (.iconst 0, 1) := by decide +kernel
theorem d_M_goSecond_16 : decode b_M_goSecond 16 = .ok (.istore_n 2, 1) := by decide +kernel
theorem d_M_goSecond_17 : decode b_M_goSecond 17 = .ok (.iload_n 2, 1) := by decide +kernel
theorem d_M_goSecond_18 : decode b_M_goSecond 18 = .ok (.aload_n 0, 1) := by decide +kernel
theorem d_M_goSecond_19 : decode b_M_goSecond 19 = .ok (.getfield 13, 3) := by decide +kernel
theorem d_M_goSecond_22 : decode b_M_goSecond 22 = .ok (.aload_n 0, 1) := by decide +kernel
theorem d_M_goSecond_23 : decode b_M_goSecond 23 = .ok (.getfield 51, 3) := by decide +kernel
theorem d_M_goSecond_26 : decode b_M_goSecond 26 = .ok (.iconst 1, 1) := by decide +kernel
theorem d_M_goSecond_27 : decode b_M_goSecond 27 = .ok (.iaload, 1) := by decide +kernel
theorem d_M_goSecond_28 : decode b_M_goSecond 28 = .ok (.iaload, 1) := by decide +kernel
theorem d_M_goSecond_29 : decode b_M_goSecond 29 = .ok (.if_icmp .ge 37, 3) := by decide +kernel
theorem d_M_goSecond_32 : decode b_M_goSecond 32 = .ok (.aload_n 0, 1) := by decide +kernel
theorem d_M_goSecond_33 : decode b_M_goSecond 33 = .ok (.getfield 213, 3) := by decide +kernel
theorem d_M_goSecond_36 : decode b_M_goSecond 36 = .ok (.ifCond .ne 30, 3) := by decide +kernel
theorem d_M_goSecond_39 : decode b_M_goSecond 39 = .ok (.aload_n 0, 1) := by decide +kernel
theorem d_M_goSecond_40 : decode b_M_goSecond 40 = .ok (.getfield 88, 3) := by decide +kernel
theorem d_M_goSecond_43 : decode b_M_goSecond 43 = .ok (.iconst 1, 1) := by decide +kernel
theorem d_M_goSecond_44 : decode b_M_goSecond 44 = .ok (.iload_n 2, 1) := by decide +kernel
theorem d_M_goSecond_45 : decode b_M_goSecond 45 = .ok (.iastore, 1) := by decide +kernel
theorem d_M_goSecond_46 : decode b_M_goSecond 46 = .ok (.aload_n 0, 1) := by decide +kernel
theorem d_M_goSecond_47 : decode b_M_goSecond 47 = .ok (.iconst 1, 1) := by decide +kernel
theorem d_M_goSecond_48 : decode b_M_goSecond 48 = .ok (.invokevirtual 286, 3) := by decide +kernel
theorem d_M_goSecond_51 : decode b_M_goSecond 51 = .ok (.ifCond .eq 9, 3) := by decide +kernel
theorem d_M_goSecond_54 : decode b_M_goSecond 54 = .ok (.iconst 1, 1) := by decide +kernel
theorem d_M_goSecond_55 : decode b_M_goSecond 55 = .ok (.istore_n 1, 1) := by decide +kernel
theorem d_M_goSecond_56 : decode b_M_goSecond 56 = .ok (.aload_n 0, 1) := by decide +kernel
theorem d_M_goSecond_57 : decode b_M_goSecond 57 = .ok (.invokevirtual 289, 3) := by decide +kernel
theorem d_M_goSecond_60 : decode b_M_goSecond 60 = .ok (.iinc 2 1, 3) := by decide +kernel
theorem d_M_goSecond_63 : decode b_M_goSecond 63 = .ok (.goto (-46), 3) := by decide +kernel
theorem d_M_goSecond_66 : decode b_M_goSecond 66 = .ok (.iload_n 1, 1) := by decide +kernel
theorem d_M_goSecond_67 : decode b_M_goSecond 67 = .ok (.ifCond .ne 31, 3) := by decide +kernel
theorem d_M_goSecond_70 : decode b_M_goSecond 70 = .ok (.aload_n 0, 1) := by decide +kernel
theorem d_M_goSecond_71 : decode b_M_goSecond 71 = .ok (.getfield 54, 3) := by decide +kernel
theorem d_M_goSecond_74 : decode b_M_goSecond 74 = .ok (.iconst 1, 1) := by decide +kernel
theorem d_M_goSecond_75 : decode b_M_goSecond 75 = .ok (.iaload, 1) := by decide +kernel
theorem d_M_goSecond_76 : decode b_M_goSecond 76 = .ok (.iconst 2, 1) := by decide +kernel
theorem d_M_goSecond_77 : decode b_M_goSecond 77 = .ok (.if_icmp .ne 21, 3) := by decide +kernel
theorem d_M_goSecond_80 : decode b_M_goSecond 80 = .ok (.aload_n 0, 1) := by decide +kernel
theorem d_M_goSecond_81 : decode b_M_goSecond 81 = .ok (.getfield 213, 3) := by decide +kernel
theorem d_M_goSecond_84 : decode b_M_goSecond 84 = .ok (.ifCond .ne 14, 3) := by decide +kernel
theorem d_M_goSecond_87 : decode b_M_goSecond 87 = .ok (.aload_n 0, 1) := by decide +kernel
theorem d_M_goSecond_88 : decode b_M_goSecond 88 = .ok (.getfield 88, 3) := by decide +kernel
theorem d_M_goSecond_91 : decode b_M_goSecond 91 = .ok (.iconst 1, 1) := by decide +kernel
theorem d_M_goSecond_92 : decode b_M_goSecond 92 = .ok (.iconst (-1), 1) := by decide +kernel
theorem d_M_goSecond_93 : decode b_M_goSecond 93 = .ok (.iastore, 1) := by decide +kernel
theorem d_M_goSecond_94 : decode b_M_goSecond 94 = .ok (.aload_n 0, 1) := by decide +kernel
theorem d_M_goSecond_95 : decode b_M_goSecond 95 = .ok (.invokevirtual 289, 3) := by decide +kernel
theorem d_M_goSecond_98 : decode b_M_goSecond 98 = .ok (.return_, 1) := by decide +kernel
theorem d_M_goFirst_0 : decode b_M_goFirst 0 = .ok (.iconst 0, 1) := by decide +kernel
theorem d_M_goFirst_1 : decode b_M_goFirst 1 = .ok (.istore_n 1, 1) := by decide +kernel
theorem d_M_goFirst_2 : decode b_M_goFirst 2 = .ok (.iload_n 1, 1) := by decide +kernel
theorem d_M_goFirst_3 : decode b_M_goFirst 3 = .ok (.aload_n 0, 1) := by decide +kernel
theorem d_M_goFirst_4 : decode b_M_goFirst 4 = .ok (.getfield 13, 3) := by decide +kernel
theorem d_M_goFirst_7 : decode b_M_goFirst 7 = .ok (.aload_n 0, 1) := by decide +kernel
theorem d_M_goFirst_8 : decode b_M_goFirst 8 = .ok (.getfield 51, 3) := by decide +kernel
theorem d_M_goFirst_11 : decode b_M_goFirst 11 = .ok (.iconst 0, 1) := by decide +kernel
theorem d_M_goFirst_12 : decode b_M_goFirst 12 = .ok (.iaload, 1) := by decide +kernel
theorem d_M_goFirst_13 : decode b_M_goFirst 13 = .ok (.iaload, 1) := by decide +kernel
theorem d_M_goFirst_14 : decode b_M_goFirst 14 = .ok (.if_icmp .ge 27, 3) := by decide +kernel
theorem d_M_goFirst_17 : decode b_M_goFirst 17 = .ok (.aload_n 0, 1) := by decide +kernel
theorem d_M_goFirst_18 : decode b_M_goFirst 18 = .ok (.getfield 213, 3) := by decide +kernel
theorem d_M_goFirst_21 : decode b_M_goFirst 21 = .ok (.ifCond .ne 20, 3) := by decide +kernel
theorem d_M_goFirst_24 : decode b_M_goFirst 24 = .ok (.aload_n 0, 1) := by decide +kernel
theorem d_M_goFirst_25 : decode b_M_goFirst 25 = .ok (.getfield 88, 3) := by decide +kernel
theorem d_M_goFirst_28 : decode b_M_goFirst 28 = .ok (.iconst 0, 1) := by decide +kernel
theorem d_M_goFirst_29 : decode b_M_goFirst 29 = .ok (.iload_n 1, 1) := by decide +kernel
theorem d_M_goFirst_30 : decode b_M_goFirst 30 = .ok (.iastore, 1) := by decide +kernel
theorem d_M_goFirst_31 : decode b_M_goFirst 31 = .ok (.aload_n 0, 1) := by decide +kernel
theorem d_M_goFirst_32 : decode b_M_goFirst 32 = .ok (.invokevirtual 292, 3) := by decide +kernel
theorem d_M_goFirst_35 : decode b_M_goFirst 35 = .ok (.iinc 1 1, 3) := by decide +kernel
theorem d_M_goFirst_38 : decode b_M_goFirst 38 = .ok (.goto (-36), 3) := by decide +kernel
theorem d_M_goFirst_41 : decode b_M_goFirst 41 = .ok (.return_, 1) := by decide +kernel
theorem d_M_moveRow_0 : decode b_M_moveRow 0 = .ok (.iconst 0, 1) := by decide +kernel
theorem d_M_moveRow_1 : decode b_M_moveRow 1 = .ok (.istore_n 3, 1) := by decide +kernel
theorem d_M_moveRow_2 : decode b_M_moveRow 2 = .ok (.iload_n 3, 1) := by decide +kernel
theorem d_M_moveRow_3 : decode b_M_moveRow 3 = .ok (.aload_n 0, 1) := by decide +kernel
theorem d_M_moveRow_4 : decode b_M_moveRow 4 = .ok (.getfield 149, 3) := by decide +kernel
theorem d_M_moveRow_7 : decode b_M_moveRow 7 = .ok (.if_icmp .ge 53, 3) := by decide +kernel
theorem d_M_moveRow_10 : decode b_M_moveRow 10 = .ok (.aload_n 0, 1) := by decide +kernel
theorem d_M_moveRow_11 : decode b_M_moveRow 11 = .ok (.getfield 82, 3) := by decide +kernel
theorem d_M_moveRow_14 : decode b_M_moveRow 14 = .ok (.bipush 6, 2) := by decide +kernel
theorem d_M_moveRow_16 : decode b_M_moveRow 16 = .ok (.iload_n 1, 1) := by decide +kernel
theorem d_M_moveRow_17 : decode b_M_moveRow 17 = .ok (.imul, 1) := by decide +kernel
theorem d_M_moveRow_18 : decode b_M_moveRow 18 = .ok (.iload_n 3, 1) := by decide +kernel
theorem d_M_moveRow_19 : decode b_M_moveRow 19 = .ok (.iadd, 1) := by decide +kernel
theorem d_M_moveRow_20 : decode b_M_moveRow 20 = .ok (.aload_n 0, 1) := by decide +kernel
theorem d_M_moveRow_21 : decode b_M_moveRow 21 = .ok (.getfield 82, 3) := by decide +kernel
theorem d_M_moveRow_24 : decode b_M_moveRow 24 = .ok (.bipush 6, 2) := by decide +kernel
theorem d_M_moveRow_26 : decode b_M_moveRow 26 = .ok (.iload_n 2, 1) := by decide +kernel
theorem d_M_moveRow_27 : decode b_M_moveRow 27 = .ok (.imul, 1) := by decide +kernel
theorem d_M_moveRow_28 : decode b_M_moveRow 28 = .ok (.iload_n 3, 1) := by decide +kernel
theorem d_M_moveRow_29 : decode b_M_moveRow 29 = .ok (.iadd, 1) := by decide +kernel
theorem d_M_moveRow_30 : decode b_M_moveRow 30 = .ok (.laload, 1) := by decide +kernel
theorem d_M_moveRow_31 : decode b_M_moveRow 31 = .ok (.lastore, 1) := by decide +kernel
theorem d_M_moveRow_32 : decode b_M_moveRow 32 = .ok (.aload_n 0, 1) := by decide +kernel
theorem d_M_moveRow_33 : decode b_M_moveRow 33 = .ok (.getfield 85, 3) := by decide +kernel
theorem d_M_moveRow_36 : decode b_M_moveRow 36 = .ok (.bipush 6, 2) := by decide +kernel
theorem d_M_moveRow_38 : decode b_M_moveRow 38 = .ok (.iload_n 1, 1) := by decide +kernel
theorem d_M_moveRow_39 : decode b_M_moveRow 39 = .ok (.imul, 1) := by decide +kernel
theorem d_M_moveRow_40 : decode b_M_moveRow 40 = .ok (.iload_n 3, 1) := by decide +kernel
theorem d_M_moveRow_41 : decode b_M_moveRow 41 = .ok (.iadd, 1) := by decide +kernel
theorem d_M_moveRow_42 : decode b_M_moveRow 42 = .ok (.aload_n 0, 1) := by decide +kernel
theorem d_M_moveRow_43 : decode b_M_moveRow 43 = .ok (.getfield 85, 3) := by decide +kernel
theorem d_M_moveRow_46 : decode b_M_moveRow 46 = .ok (.bipush 6, 2) := by decide +kernel
theorem d_M_moveRow_48 : decode b_M_moveRow 48 = .ok (.iload_n 2, 1) := by decide +kernel
theorem d_M_moveRow_49 : decode b_M_moveRow 49 = .ok (.imul, 1) := by decide +kernel
theorem d_M_moveRow_50 : decode b_M_moveRow 50 = .ok (.iload_n 3, 1) := by decide +kernel
theorem d_M_moveRow_51 : decode b_M_moveRow 51 = .ok (.iadd, 1) := by decide +kernel
theorem d_M_moveRow_52 : decode b_M_moveRow 52 = .ok (.baload, 1) := by decide +kernel
theorem d_M_moveRow_53 : decode b_M_moveRow 53 = .ok (.bastore, 1) := by decide +kernel
theorem d_M_moveRow_54 : decode b_M_moveRow 54 = .ok (.iinc 3 1, 3) := by decide +kernel
theorem d_M_moveRow_57 : decode b_M_moveRow 57 = .ok (.goto (-55), 3) := by decide +kernel
theorem d_M_moveRow_60 : decode b_M_moveRow 60 = .ok (.return_, 1) := by decide +kernel
theorem d_M_isBefore_0 : decode b_M_isBefore 0 = .ok (.iconst 0, 1) := by decide +kernel
theorem d_M_isBefore_1 : decode b_M_isBefore 1 = .ok (.istore_n 3, 1) := by decide +kernel
theorem d_M_isBefore_2 : decode b_M_isBefore 2 = .ok (.iload_n 3, 1) := by decide +kernel
theorem d_M_isBefore_3 : decode b_M_isBefore 3 = .ok (.aload_n 0, 1) := by decide +kernel
theorem d_M_isBefore_4 : decode b_M_isBefore 4 = .ok (.getfield 152, 3) := by decide +kernel
theorem d_M_isBefore_7 : decode b_M_isBefore 7 = .ok (.if_icmp .ge 188, 3) := by decide +kernel
theorem d_M_isBefore_10 : decode b_M_isBefore 10 = .ok (.bipush 6, 2) := by decide +kernel
theorem d_M_isBefore_12 : decode b_M_isBefore 12 = .ok (.iload_n 1, 1) := by decide +kernel
theorem d_M_isBefore_13 : decode b_M_isBefore 13 = .ok (.imul, 1) := by decide +kernel
theorem d_M_isBefore_14 : decode b_M_isBefore 14 = .ok (.aload_n 0, 1) := by decide +kernel
theorem d_M_isBefore_15 : decode b_M_isBefore 15 = .ok (.getfield 73, 3) := by decide +kernel
theorem d_M_isBefore_18 : decode b_M_isBefore 18 = .ok (.iload_n 3, 1) := by decide +kernel
theorem d_M_isBefore_19 : decode b_M_isBefore 19 = .ok (.iaload, 1) := by decide +kernel
theorem d_M_isBefore_20 : decode b_M_isBefore 20 = .ok (.iadd, 1) := by decide +kernel
theorem d_M_isBefore_21 : decode b_M_isBefore 21 = .ok (.istore 4, 2) := by decide +kernel
theorem d_M_isBefore_23 : decode b_M_isBefore 23 = .ok (.bipush 6, 2) := by decide +kernel
theorem d_M_isBefore_25 : decode b_M_isBefore 25 = .ok (.iload_n 2, 1) := by decide +kernel
theorem d_M_isBefore_26 : decode b_M_isBefore 26 = .ok (.imul, 1) := by decide +kernel
theorem d_M_isBefore_27 : decode b_M_isBefore 27 = .ok (.aload_n 0, 1) := by decide +kernel
theorem d_M_isBefore_28 : decode b_M_isBefore 28 = .ok (.getfield 73, 3) := by decide +kernel
theorem d_M_isBefore_31 : decode b_M_isBefore 31 = .ok (.iload_n 3, 1) := by decide +kernel
theorem d_M_isBefore_32 : decode b_M_isBefore 32 = .ok (.iaload, 1) := by decide +kernel
theorem d_M_isBefore_33 : decode b_M_isBefore 33 = .ok (.iadd, 1) := by decide +kernel
theorem d_M_isBefore_34 : decode b_M_isBefore 34 = .ok (.istore 5, 2) := by decide +kernel
theorem d_M_isBefore_36 : decode b_M_isBefore 36 = .ok (.aload_n 0, 1) := by decide +kernel
theorem d_M_isBefore_37 : decode b_M_isBefore 37 = .ok (.getfield 85, 3) := by decide +kernel
theorem d_M_isBefore_40 : decode b_M_isBefore 40 = .ok (.iload 4, 2) := by decide +kernel
theorem d_M_isBefore_42 : decode b_M_isBefore 42 = .ok (.baload, 1) := by decide +kernel
theorem d_M_isBefore_43 : decode b_M_isBefore 43 = .ok (.ifCond .eq 21, 3) := by decide +kernel
theorem d_M_isBefore_46 : decode b_M_isBefore 46 = .ok (.aload_n 0, 1) := by decide +kernel
theorem d_M_isBefore_47 : decode b_M_isBefore 47 = .ok (.getfield 85, 3) := by decide +kernel
theorem d_M_isBefore_50 : decode b_M_isBefore 50 = .ok (.iload 5, 2) := by decide +kernel
theorem d_M_isBefore_52 : decode b_M_isBefore 52 = .ok (.baload, 1) := by decide +kernel
theorem d_M_isBefore_53 : decode b_M_isBefore 53 = .ok (.ifCond .ne 7, 3) := by decide +kernel
theorem d_M_isBefore_56 : decode b_M_isBefore 56 = .ok (.iconst 1, 1) := by decide +kernel
theorem d_M_isBefore_57 : decode b_M_isBefore 57 = .ok (.goto 40, 3) := by decide +kernel
theorem d_M_isBefore_60 : decode b_M_isBefore 60 = .ok (.iconst 0, 1) := by decide +kernel
theorem d_M_isBefore_61 : decode b_M_isBefore 61 = .ok (.goto 36, 3) := by decide +kernel
theorem d_M_isBefore_64 : decode b_M_isBefore 64 = .ok (.aload_n 0, 1) := by decide +kernel
theorem d_M_isBefore_65 : decode b_M_isBefore 65 = .ok (.getfield 85, 3) := by decide +kernel
theorem d_M_isBefore_68 : decode b_M_isBefore 68 = .ok (.iload 5, 2) := by decide +kernel
theorem d_M_isBefore_70 : decode b_M_isBefore 70 = .ok (.baload, 1) := by decide +kernel
theorem d_M_isBefore_71 : decode b_M_isBefore 71 = .ok (.ifCond .ne 25, 3) := by decide +kernel
theorem d_M_isBefore_74 : decode b_M_isBefore 74 = .ok (.aload_n 0, 1) := by decide +kernel
theorem d_M_isBefore_75 : decode b_M_isBefore 75 = .ok (.getfield 82, 3) := by decide +kernel
theorem d_M_isBefore_78 : decode b_M_isBefore 78 = .ok (.iload 4, 2) := by decide +kernel
theorem d_M_isBefore_80 : decode b_M_isBefore 80 = .ok (.laload, 1) := by decide +kernel
theorem d_M_isBefore_81 : decode b_M_isBefore 81 = .ok (.aload_n 0, 1) := by decide +kernel
theorem d_M_isBefore_82 : decode b_M_isBefore 82 = .ok (.getfield 82, 3) := by decide +kernel
theorem d_M_isBefore_85 : decode b_M_isBefore 85 = .ok (.iload 5, 2) := by decide +kernel
theorem d_M_isBefore_87 : decode b_M_isBefore 87 = .ok (.laload, 1) := by decide +kernel
theorem d_M_isBefore_88 : decode b_M_isBefore 88 = .ok (.lcmp, 1) := by decide +kernel
theorem d_M_isBefore_89 : decode b_M_isBefore 89 = .ok (.ifCond .ge 7, 3) := by decide +kernel
theorem d_M_isBefore_92 : decode b_M_isBefore 92 = .ok (.iconst 1, 1) := by decide +kernel
theorem d_M_isBefore_93 : decode b_M_isBefore 93 = .ok (.goto 4, 3) := by decide +kernel
theorem d_M_isBefore_96 : decode b_M_isBefore 96 = .ok (.iconst 0, 1) := by decide +kernel
theorem d_M_isBefore_97 : decode b_M_isBefore 97 = .ok (.istore 6, 2) := by decide +kernel
theorem d_M_isBefore_99 : decode b_M_isBefore 99 = .ok (.aload_n 0, 1) := by decide +kernel
theorem d_M_isBefore_100 : decode b_M_isBefore 100 = .ok (.getfield 85, 3) := by decide +kernel
theorem d_M_isBefore_103 : decode b_M_isBefore 103 = .ok (.iload 5, 2) := by decide +kernel
theorem d_M_isBefore_105 : decode b_M_isBefore 105 = .ok (.baload, 1) := by decide +kernel
theorem d_M_isBefore_106 : decode b_M_isBefore 106 = .ok (.ifCond .eq 21, 3) := by decide +kernel
theorem d_M_isBefore_109 : decode b_M_isBefore 109 = .ok (.aload_n 0, 1) := by decide +kernel
theorem d_M_isBefore_110 : decode b_M_isBefore 110 = .ok (.getfield 85, 3) := by decide +kernel
theorem d_M_isBefore_113 : decode b_M_isBefore 113 = .ok (.iload 4, 2) := by decide +kernel
theorem d_M_isBefore_115 : decode b_M_isBefore 115 = .ok (.baload, 1) := by decide +kernel
theorem d_M_isBefore_116 : decode b_M_isBefore 116 = .ok (.ifCond .ne 7, 3) := by decide +kernel
theorem d_M_isBefore_119 : decode b_M_isBefore 119 = .ok (.iconst 1, 1) := by decide +kernel
theorem d_M_isBefore_120 : decode b_M_isBefore 120 = .ok (.goto 40, 3) := by decide +kernel
theorem d_M_isBefore_123 : decode b_M_isBefore 123 = .ok (.iconst 0, 1) := by decide +kernel
theorem d_M_isBefore_124 : decode b_M_isBefore 124 = .ok (.goto 36, 3) := by decide +kernel
theorem d_M_isBefore_127 : decode b_M_isBefore 127 = .ok (.aload_n 0, 1) := by decide +kernel
theorem d_M_isBefore_128 : decode b_M_isBefore 128 = .ok (.getfield 85, 3) := by decide +kernel
theorem d_M_isBefore_131 : decode b_M_isBefore 131 = .ok (.iload 4, 2) := by decide +kernel
theorem d_M_isBefore_133 : decode b_M_isBefore 133 = .ok (.baload, 1) := by decide +kernel
theorem d_M_isBefore_134 : decode b_M_isBefore 134 = .ok (.ifCond .ne 25, 3) := by decide +kernel
theorem d_M_isBefore_137 : decode b_M_isBefore 137 = .ok (.aload_n 0, 1) := by decide +kernel
theorem d_M_isBefore_138 : decode b_M_isBefore 138 = .ok (.getfield 82, 3) := by decide +kernel
theorem d_M_isBefore_141 : decode b_M_isBefore 141 = .ok (.iload 5, 2) := by decide +kernel
theorem d_M_isBefore_143 : decode b_M_isBefore 143 = .ok (.laload, 1) := by decide +kernel
theorem d_M_isBefore_144 : decode b_M_isBefore 144 = .ok (.aload_n 0, 1) := by decide +kernel
theorem d_M_isBefore_145 : decode b_M_isBefore 145 = .ok (.getfield 82, 3) := by decide +kernel
theorem d_M_isBefore_148 : decode b_M_isBefore 148 = .ok (.iload 4, 2) := by decide +kernel
theorem d_M_isBefore_150 : decode b_M_isBefore 150 = .ok (.laload, 1) := by decide +kernel
theorem d_M_isBefore_151 : decode b_M_isBefore 151 = .ok (.lcmp, 1) := by decide +kernel
theorem d_M_isBefore_152 : decode b_M_isBefore 152 = .ok (.ifCond .ge 7, 3) := by decide +kernel
theorem d_M_isBefore_155 : decode b_M_isBefore 155 = .ok (.iconst 1, 1) := by decide +kernel
theorem d_M_isBefore_156 : decode b_M_isBefore 156 = .ok (.goto 4, 3) := by decide +kernel
theorem d_M_isBefore_159 : decode b_M_isBefore 159 = .ok (.iconst 0, 1) := by decide +kernel
theorem d_M_isBefore_160 : decode b_M_isBefore 160 = .ok (.istore 7, 2) := by decide +kernel
theorem d_M_isBefore_162 : decode b_M_isBefore 162 = .ok (.iload 6, 2) := by decide +kernel
theorem d_M_isBefore_164 : decode b_M_isBefore 164 = .ok (.ifCond .ne 8, 3) := by decide +kernel
theorem d_M_isBefore_167 : decode b_M_isBefore 167 = .ok (.iload 7, 2) := by decide +kernel
theorem d_M_isBefore_169 : decode b_M_isBefore 169 = .ok (.ifCond .eq 20, 3) := by decide +kernel
theorem d_M_isBefore_172 : decode b_M_isBefore 172 = .ok (.aload_n 0, 1) := by decide +kernel
theorem d_M_isBefore_173 : decode b_M_isBefore 173 = .ok (.getfield 76, 3) := by decide +kernel
theorem d_M_isBefore_176 : decode b_M_isBefore 176 = .ok (.iload_n 3, 1) := by decide +kernel
theorem d_M_isBefore_177 : decode b_M_isBefore 177 = .ok (.baload, 1) := by decide +kernel
theorem d_M_isBefore_178 : decode b_M_isBefore 178 = .ok (.ifCond .eq 8, 3) := by decide +kernel
theorem d_M_isBefore_181 : decode b_M_isBefore 181 = .ok (.iload 7, 2) := by decide +kernel
theorem d_M_isBefore_183 : decode b_M_isBefore 183 = .ok (.goto 5, 3) := by decide +kernel
theorem d_M_isBefore_186 : decode b_M_isBefore 186 = .ok (.iload 6, 2) := by decide +kernel
theorem d_M_isBefore_188 : decode b_M_isBefore 188 = .ok (.ireturn, 1) := by decide +kernel
theorem d_M_isBefore_189 : decode b_M_isBefore 189 = .ok (.iinc 3 1, 3) := by decide +kernel
theorem d_M_isBefore_192 : decode b_M_isBefore 192 = .ok (.goto (-190), 3) := by decide +kernel
theorem d_M_isBefore_195 : decode b_M_isBefore 195 = .ok (.iconst 0, 1) := by decide +kernel
theorem d_M_isBefore_196 : decode b_M_isBefore 196 = .ok (.ireturn, 1) := by decide +kernel
theorem d_M_sort_0 : decode b_M_sort 0 = .ok (.iconst 1, 1) := by decide +kernel
theorem d_M_sort_1 : decode b_M_sort 1 = .ok (.istore_n 1, 1) := by decide +kernel
theorem d_M_sort_2 : decode b_M_sort 2 = .ok (.iload_n 1, 1) := by decide +kernel
theorem d_M_sort_3 : decode b_M_sort 3 = .ok (.aload_n 0, 1) := by decide +kernel
theorem d_M_sort_4 : decode b_M_sort 4 = .ok (.getfield 268, 3) := by decide +kernel
theorem d_M_sort_7 : decode b_M_sort 7 = .ok (.if_icmp .ge 58, 3) := by decide +kernel
theorem d_M_sort_10 : decode b_M_sort 10 = .ok (.aload_n 0, 1) := by decide +kernel
theorem d_M_sort_11 : decode b_M_sort 11 = .ok (.sipush 200, 3) := by decide +kernel
theorem d_M_sort_14 : decode b_M_sort 14 = .ok (.iload_n 1, 1) := by decide +kernel
theorem d_M_sort_15 : decode b_M_sort 15 = .ok (.invokevirtual 298, 3) := by decide +kernel
theorem d_M_sort_18 : decode b_M_sort 18 = .ok (.iload_n 1, 1) := by decide +kernel
theorem d_M_sort_19 : decode b_M_sort 19 = .ok (.istore_n 2, 1) := by decide +kernel
theorem d_M_sort_20 : decode b_M_sort 20 = .ok (.iload_n 2, 1) := by decide +kernel
theorem d_M_sort_21 : decode b_M_sort 21 = .ok (.ifCond .le 30, 3) := by decide +kernel
theorem d_M_sort_24 : decode b_M_sort 24 = .ok (.aload_n 0, 1) := by decide +kernel
theorem d_M_sort_25 : decode b_M_sort 25 = .ok (.sipush 200, 3) := by decide +kernel
theorem d_M_sort_28 : decode b_M_sort 28 = .ok (.iload_n 2, 1) := by decide +kernel
theorem d_M_sort_29 : decode b_M_sort 29 = .ok (.iconst 1, 1) := by decide +kernel
theorem d_M_sort_30 : decode b_M_sort 30 = .ok (.isub, 1) := by decide +kernel
theorem d_M_sort_31 : decode b_M_sort 31 = .ok (.invokevirtual 302, 3) := by decide +kernel
theorem d_M_sort_34 : decode b_M_sort 34 = .ok (.ifCond .eq 17, 3) := by decide +kernel
theorem d_M_sort_37 : decode b_M_sort 37 = .ok (.aload_n 0, 1) := by decide +kernel
theorem d_M_sort_38 : decode b_M_sort 38 = .ok (.iload_n 2, 1) := by decide +kernel
theorem d_M_sort_39 : decode b_M_sort 39 = .ok (.iload_n 2, 1) := by decide +kernel
theorem d_M_sort_40 : decode b_M_sort 40 = .ok (.iconst 1, 1) := by decide +kernel
theorem d_M_sort_41 : decode b_M_sort 41 = .ok (.isub, 1) := by decide +kernel
theorem d_M_sort_42 : decode b_M_sort 42 = .ok (.invokevirtual 298, 3) := by decide +kernel
theorem d_M_sort_45 : decode b_M_sort 45 = .ok (.iinc 2 (-1), 3) := by decide +kernel
theorem d_M_sort_48 : decode b_M_sort 48 = .ok (.goto (-28), 3) := by decide +kernel
theorem d_M_sort_51 : decode b_M_sort 51 = .ok (.aload_n 0, 1) := by decide +kernel
theorem d_M_sort_52 : decode b_M_sort 52 = .ok (.iload_n 2, 1) := by decide +kernel
theorem d_M_sort_53 : decode b_M_sort 53 = .ok (.sipush 200, 3) := by decide +kernel
theorem d_M_sort_56 : decode b_M_sort 56 = .ok (.invokevirtual 298, 3) := by decide +kernel
theorem d_M_sort_59 : decode b_M_sort 59 = .ok (.iinc 1 1, 3) := by decide +kernel
theorem d_M_sort_62 : decode b_M_sort 62 = .ok (.goto (-60), 3) := by decide +kernel
theorem d_M_sort_65 : decode b_M_sort 65 = .ok (.return_, 1) := by decide +kernel
theorem d_M_cut_0 : decode b_M_cut 0 = .ok (.iconst 0, 1) := by decide +kernel
theorem d_M_cut_1 : decode b_M_cut 1 = .ok (.istore_n 1, 1) := by decide +kernel
theorem d_M_cut_2 : decode b_M_cut 2 = .ok (.aload_n 0, 1) := by decide +kernel
theorem d_M_cut_3 : decode b_M_cut 3 = .ok (.getfield 159, 3) := by decide +kernel
theorem d_M_cut_6 : decode b_M_cut 6 = .ok (.istore_n 2, 1) := by decide +kernel
theorem d_M_cut_7 : decode b_M_cut 7 = .ok (.iload_n 2, 1) := by decide +kernel
theorem d_M_cut_8 : decode b_M_cut 8 = .ok (.aload_n 0, 1) := by decide +kernel
theorem d_M_cut_9 : decode b_M_cut 9 = .ok (.getfield 268, 3) := by decide +kernel
theorem d_M_cut_12 : decode b_M_cut 12 = .ok (.if_icmp .ge 26, 3) := by decide +kernel
theorem d_M_cut_15 : decode b_M_cut 15 = .ok (.iload_n 1, 1) := by decide +kernel
theorem d_M_cut_16 : decode b_M_cut 16 = .ok (.aload_n 0, 1) := by decide +kernel
theorem d_M_cut_17 : decode b_M_cut 17 = .ok (.getfield 79, 3) := by decide +kernel
theorem d_M_cut_20 : decode b_M_cut 20 = .ok (.if_icmp .ge 18, 3) := by decide +kernel
theorem d_M_cut_23 : decode b_M_cut 23 = .ok (.aload_n 0, 1) := by decide +kernel
theorem d_M_cut_24 : decode b_M_cut 24 = .ok (.iload_n 1, 1) := by decide +kernel
theorem d_M_cut_25 : decode b_M_cut 25 = .ok (.iload_n 2, 1) := by decide +kernel
theorem d_M_cut_26 : decode b_M_cut 26 = .ok (.invokevirtual 298, 3) := by decide +kernel
theorem d_M_cut_29 : decode b_M_cut 29 = .ok (.iinc 1 1, 3) := by decide +kernel
theorem d_M_cut_32 : decode b_M_cut 32 = .ok (.iinc 2 1, 3) := by decide +kernel
theorem d_M_cut_35 : decode b_M_cut 35 = .ok (.goto (-28), 3) := by decide +kernel
theorem d_M_cut_38 : decode b_M_cut 38 = .ok (.aload_n 0, 1) := by decide +kernel
theorem d_M_cut_39 : decode b_M_cut 39 = .ok (.iload_n 1, 1) := by decide +kernel
theorem d_M_cut_40 : decode b_M_cut 40 = .ok (.putfield 268, 3) := by decide +kernel
theorem d_M_cut_43 : decode b_M_cut 43 = .ok (.return_, 1) := by decide +kernel
theorem d_M_isSameRow_0 : decode b_M_isSameRow 0 = .ok (.iconst 1, 1) := by decide +kernel
theorem d_M_isSameRow_1 : decode b_M_isSameRow 1 = .ok (.istore_n 3, 1) := by decide +kernel
theorem d_M_isSameRow_2 : decode b_M_isSameRow 2 = .ok (.iconst 0, 1) := by decide +kernel
theorem d_M_isSameRow_3 : decode b_M_isSameRow 3 = .ok (.istore 4, 2) := by decide +kernel
theorem d_M_isSameRow_5 : decode b_M_isSameRow 5 = .ok (.iload 4, 2) := by decide +kernel
theorem d_M_isSameRow_7 : decode b_M_isSameRow 7 = .ok (.aload_n 0, 1) := by decide +kernel
theorem d_M_isSameRow_8 : decode b_M_isSameRow 8 = .ok (.getfield 149, 3) := by decide +kernel
theorem d_M_isSameRow_11 : decode b_M_isSameRow 11 = .ok (.if_icmp .ge 83, 3) := by decide +kernel
theorem d_M_isSameRow_14 : decode b_M_isSameRow 14 = .ok (.aload_n 0, 1) := by decide +kernel
theorem d_M_isSameRow_15 : decode b_M_isSameRow 15 = .ok (.getfield 85, 3) := by decide +kernel
theorem d_M_isSameRow_18 : decode b_M_isSameRow 18 = .ok (.bipush 6, 2) := by decide +kernel
theorem d_M_isSameRow_20 : decode b_M_isSameRow 20 = .ok (.iload_n 1, 1) := by decide +kernel
theorem d_M_isSameRow_21 : decode b_M_isSameRow 21 = .ok (.imul, 1) := by decide +kernel
theorem d_M_isSameRow_22 : decode b_M_isSameRow 22 = .ok (.iload 4, 2) := by decide +kernel
theorem d_M_isSameRow_24 : decode b_M_isSameRow 24 = .ok (.iadd, 1) := by decide +kernel
theorem d_M_isSameRow_25 : decode b_M_isSameRow 25 = .ok (.baload, 1) := by decide +kernel
theorem d_M_isSameRow_26 : decode b_M_isSameRow 26 = .ok (.istore 5, 2) := by decide +kernel
theorem d_M_isSameRow_28 : decode b_M_isSameRow 28 = .ok (.iload_n 3, 1) := by decide +kernel
theorem d_M_isSameRow_29 : decode b_M_isSameRow 29 = .ok (.ifCond .eq 57, 3) := by decide +kernel
theorem d_M_isSameRow_32 : decode b_M_isSameRow 32 = .ok (.iload 5, 2) := by decide +kernel
theorem d_M_isSameRow_34 : decode b_M_isSameRow 34 = .ok (.aload_n 0, 1) := by decide +kernel
theorem d_M_isSameRow_35 : decode b_M_isSameRow 35 = .ok (.getfield 85, 3) := by decide +kernel
theorem d_M_isSameRow_38 : decode b_M_isSameRow 38 = .ok (.bipush 6, 2) := by decide +kernel
theorem d_M_isSameRow_40 : decode b_M_isSameRow 40 = .ok (.iload_n 2, 1) := by decide +kernel
theorem d_M_isSameRow_41 : decode b_M_isSameRow 41 = .ok (.imul, 1) := by decide +kernel
theorem d_M_isSameRow_42 : decode b_M_isSameRow 42 = .ok (.iload 4, 2) := by decide +kernel
theorem d_M_isSameRow_44 : decode b_M_isSameRow 44 = .ok (.iadd, 1) := by decide +kernel
theorem d_M_isSameRow_45 : decode b_M_isSameRow 45 = .ok (.baload, 1) := by decide +kernel
theorem d_M_isSameRow_46 : decode b_M_isSameRow 46 = .ok (.if_icmp .ne 40, 3) := by decide +kernel
theorem d_M_isSameRow_49 : decode b_M_isSameRow 49 = .ok (.iload 5, 2) := by decide +kernel
theorem d_M_isSameRow_51 : decode b_M_isSameRow 51 = .ok (.ifCond .ne 31, 3) := by decide +kernel
theorem d_M_isSameRow_54 : decode b_M_isSameRow 54 = .ok (.aload_n 0, 1) := by decide +kernel
theorem d_M_isSameRow_55 : decode b_M_isSameRow 55 = .ok (.getfield 82, 3) := by decide +kernel
theorem d_M_isSameRow_58 : decode b_M_isSameRow 58 = .ok (.bipush 6, 2) := by decide +kernel
theorem d_M_isSameRow_60 : decode b_M_isSameRow 60 = .ok (.iload_n 1, 1) := by decide +kernel
theorem d_M_isSameRow_61 : decode b_M_isSameRow 61 = .ok (.imul, 1) := by decide +kernel
theorem d_M_isSameRow_62 : decode b_M_isSameRow 62 = .ok (.iload 4, 2) := by decide +kernel
theorem d_M_isSameRow_64 : decode b_M_isSameRow 64 = .ok (.iadd, 1) := by decide +kernel
theorem d_M_isSameRow_65 : decode b_M_isSameRow 65 = .ok (.laload, 1) := by decide +kernel
theorem d_M_isSameRow_66 : decode b_M_isSameRow 66 = .ok (.aload_n 0, 1) := by decide +kernel
theorem d_M_isSameRow_67 : decode b_M_isSameRow 67 = .ok (.getfield 82, 3) := by decide +kernel
theorem d_M_isSameRow_70 : decode b_M_isSameRow 70 = .ok (.bipush 6, 2) := by decide +kernel
theorem d_M_isSameRow_72 : decode b_M_isSameRow 72 = .ok (.iload_n 2, 1) := by decide +kernel
theorem d_M_isSameRow_73 : decode b_M_isSameRow 73 = .ok (.imul, 1) := by decide +kernel
theorem d_M_isSameRow_74 : decode b_M_isSameRow 74 = .ok (.iload 4, 2) := by decide +kernel
theorem d_M_isSameRow_76 : decode b_M_isSameRow 76 = .ok (.iadd, 1) := by decide +kernel
theorem d_M_isSameRow_77 : decode b_M_isSameRow 77 = .ok (.laload, 1) := by decide +kernel
theorem d_M_isSameRow_78 : decode b_M_isSameRow 78 = .ok (.lcmp, 1) := by decide +kernel
theorem d_M_isSameRow_79 : decode b_M_isSameRow 79 = .ok (.ifCond .ne 7, 3) := by decide +kernel
theorem d_M_isSameRow_82 : decode b_M_isSameRow 82 = .ok (.iconst 1, 1) := by decide +kernel
theorem d_M_isSameRow_83 : decode b_M_isSameRow 83 = .ok (.goto 4, 3) := by decide +kernel
theorem d_M_isSameRow_86 : decode b_M_isSameRow 86 = .ok (.iconst 0, 1) := by decide +kernel
theorem d_M_isSameRow_87 : decode b_M_isSameRow 87 = .ok (.istore_n 3, 1) := by decide +kernel
theorem d_M_isSameRow_88 : decode b_M_isSameRow 88 = .ok (.iinc 4 1, 3) := by decide +kernel
theorem d_M_isSameRow_91 : decode b_M_isSameRow 91 = .ok (.goto (-86), 3) := by decide +kernel
theorem d_M_isSameRow_94 : decode b_M_isSameRow 94 = .ok (.iload_n 3, 1) := by decide +kernel
theorem d_M_isSameRow_95 : decode b_M_isSameRow 95 = .ok (.ireturn, 1) := by decide +kernel
theorem d_M_leaveOut_0 : decode b_M_leaveOut 0 = .ok (.iconst 0, 1) := by decide +kernel
theorem d_M_leaveOut_1 : decode b_M_leaveOut 1 = .ok (.istore_n 1, 1) := by decide +kernel
theorem d_M_leaveOut_2 : decode b_M_leaveOut 2 = .ok (.iconst 0, 1) := by decide +kernel
theorem d_M_leaveOut_3 : decode b_M_leaveOut 3 = .ok (.istore_n 2, 1) := by decide +kernel
theorem d_M_leaveOut_4 : decode b_M_leaveOut 4 = .ok (.iload_n 2, 1) := by decide +kernel
theorem d_M_leaveOut_5 : decode b_M_leaveOut 5 = .ok (.aload_n 0, 1) := by decide +kernel
theorem d_M_leaveOut_6 : decode b_M_leaveOut 6 = .ok (.getfield 268, 3) := by decide +kernel
theorem d_M_leaveOut_9 : decode b_M_leaveOut 9 = .ok (.if_icmp .ge 59, 3) := by decide +kernel
theorem d_M_leaveOut_12 : decode b_M_leaveOut 12 = .ok (.iconst 0, 1) := by decide +kernel
theorem d_M_leaveOut_13 : decode b_M_leaveOut 13 = .ok (.istore_n 3, 1) := by decide +kernel
theorem d_M_leaveOut_14 : decode b_M_leaveOut 14 = .ok (.iconst 0, 1) := by decide +kernel
theorem d_M_leaveOut_15 : decode b_M_leaveOut 15 = .ok (.istore 4, 2) := by decide +kernel
theorem d_M_leaveOut_17 : decode b_M_leaveOut 17 = .ok (.iload 4, 2) := by decide +kernel
theorem d_M_leaveOut_19 : decode b_M_leaveOut 19 = .ok (.iload_n 1, 1) := by decide +kernel
theorem d_M_leaveOut_20 : decode b_M_leaveOut 20 = .ok (.if_icmp .ge 29, 3) := by decide +kernel
theorem d_M_leaveOut_23 : decode b_M_leaveOut 23 = .ok (.iload_n 3, 1) := by decide +kernel
theorem d_M_leaveOut_24 : decode b_M_leaveOut 24 = .ok (.ifCond .ne 13, 3) := by decide +kernel
theorem d_M_leaveOut_27 : decode b_M_leaveOut 27 = .ok (.aload_n 0, 1) := by decide +kernel
theorem d_M_leaveOut_28 : decode b_M_leaveOut 28 = .ok (.iload 4, 2) := by decide +kernel
theorem d_M_leaveOut_30 : decode b_M_leaveOut 30 = .ok (.iload_n 2, 1) := by decide +kernel
theorem d_M_leaveOut_31 : decode b_M_leaveOut 31 = .ok (.invokevirtual 295, 3) := by decide +kernel
theorem d_M_leaveOut_34 : decode b_M_leaveOut 34 = .ok (.ifCond .eq 7, 3) := by decide +kernel
theorem d_M_leaveOut_37 : decode b_M_leaveOut 37 = .ok (.iconst 1, 1) := by decide +kernel
theorem d_M_leaveOut_38 : decode b_M_leaveOut 38 = .ok (.goto 4, 3) := by decide +kernel
theorem d_M_leaveOut_41 : decode b_M_leaveOut 41 = .ok (.iconst 0, 1) := by decide +kernel
theorem d_M_leaveOut_42 : decode b_M_leaveOut 42 = .ok (.istore_n 3, 1) := by decide +kernel
theorem d_M_leaveOut_43 : decode b_M_leaveOut 43 = .ok (.iinc 4 1, 3) := by decide +kernel
theorem d_M_leaveOut_46 : decode b_M_leaveOut 46 = .ok (.goto (-29), 3) := by decide +kernel
theorem d_M_leaveOut_49 : decode b_M_leaveOut 49 = .ok (.iload_n 3, 1) := by decide +kernel
theorem d_M_leaveOut_50 : decode b_M_leaveOut 50 = .ok (.ifCond .ne 12, 3) := by decide +kernel
theorem d_M_leaveOut_53 : decode b_M_leaveOut 53 = .ok (.aload_n 0, 1) := by decide +kernel
theorem d_M_leaveOut_54 : decode b_M_leaveOut 54 = .ok (.iload_n 1, 1) := by decide +kernel
theorem d_M_leaveOut_55 : decode b_M_leaveOut 55 = .ok (.iload_n 2, 1) := by decide +kernel
theorem d_M_leaveOut_56 : decode b_M_leaveOut 56 = .ok (.invokevirtual 298, 3) := by decide +kernel
theorem d_M_leaveOut_59 : decode b_M_leaveOut 59 = .ok (.iinc 1 1, 3) := by decide +kernel
theorem d_M_leaveOut_62 : decode b_M_leaveOut 62 = .ok (.iinc 2 1, 3) := by decide +kernel
theorem d_M_leaveOut_65 : decode b_M_leaveOut 65 = .ok (.goto (-61), 3) := by decide +kernel
theorem d_M_leaveOut_68 : decode b_M_leaveOut 68 = .ok (.aload_n 0, 1) := by decide +kernel
theorem d_M_leaveOut_69 : decode b_M_leaveOut 69 = .ok (.iload_n 1, 1) := by decide +kernel
theorem d_M_leaveOut_70 : decode b_M_leaveOut 70 = .ok (.putfield 268, 3) := by decide +kernel
theorem d_M_leaveOut_73 : decode b_M_leaveOut 73 = .ok (.return_, 1) := by decide +kernel
theorem d_M_goThroughGroups_0 : decode b_M_goThroughGroups 0 = .ok (.aload_n 0, 1) := by decide +kernel
theorem d_M_goThroughGroups_1 : decode b_M_goThroughGroups 1 = .ok (.getfield 146, 3) := by decide +kernel
theorem d_M_goThroughGroups_4 : decode b_M_goThroughGroups 4 = .ok (.ifCond .ne 15, 3) := by decide +kernel
theorem d_M_goThroughGroups_7 : decode b_M_goThroughGroups 7 = .ok (.aload_n 0, 1) := by decide +kernel
theorem d_M_goThroughGroups_8 : decode b_M_goThroughGroups 8 = .ok (.getfield 261, 3) := by decide +kernel
theorem d_M_goThroughGroups_11 : decode b_M_goThroughGroups 11 = .ok (.ifCond .ne 8, 3) := by decide +kernel
theorem d_M_goThroughGroups_14 : decode b_M_goThroughGroups 14 = .ok (.aload_n 0, 1) := by decide +kernel
theorem d_M_goThroughGroups_15 : decode b_M_goThroughGroups 15 = .ok (.iconst 1, 1) := by decide +kernel
theorem d_M_goThroughGroups_16 : decode b_M_goThroughGroups 16 = .ok (.putfield 261, 3) := by decide +kernel
theorem d_M_goThroughGroups_19 : decode b_M_goThroughGroups 19 = .ok (.iconst 0, 1) := by decide +kernel
theorem d_M_goThroughGroups_20 : decode b_M_goThroughGroups 20 = .ok (.istore_n 1, 1) := by decide +kernel
theorem d_M_goThroughGroups_21 : decode b_M_goThroughGroups 21 = .ok (.iload_n 1, 1) := by decide +kernel
theorem d_M_goThroughGroups_22 : decode b_M_goThroughGroups 22 = .ok (.aload_n 0, 1) := by decide +kernel
theorem d_M_goThroughGroups_23 : decode b_M_goThroughGroups 23 = .ok (.getfield 261, 3) := by decide +kernel
theorem d_M_goThroughGroups_26 : decode b_M_goThroughGroups 26 = .ok (.if_icmp .ge 43, 3) := by decide +kernel
theorem d_M_goThroughGroups_29 : decode b_M_goThroughGroups 29 = .ok (.aload_n 0, 1) := by decide +kernel
theorem d_M_goThroughGroups_30 : decode b_M_goThroughGroups 30 = .ok (.getfield 213, 3) := by decide +kernel
theorem d_M_goThroughGroups_33 : decode b_M_goThroughGroups 33 = .ok (.ifCond .ne 36, 3) := by decide +kernel
theorem d_M_goThroughGroups_36 : decode b_M_goThroughGroups 36 = .ok (.aload_n 0, 1) := by decide +kernel
theorem d_M_goThroughGroups_37 : decode b_M_goThroughGroups 37 = .ok (.iload_n 1, 1) := by decide +kernel
theorem d_M_goThroughGroups_38 : decode b_M_goThroughGroups 38 = .ok (.putfield 234, 3) := by decide +kernel
theorem d_M_goThroughGroups_41 : decode b_M_goThroughGroups 41 = .ok (.aload_n 0, 1) := by decide +kernel
theorem d_M_goThroughGroups_42 : decode b_M_goThroughGroups 42 = .ok (.getfield 64, 3) := by decide +kernel
theorem d_M_goThroughGroups_45 : decode b_M_goThroughGroups 45 = .ok (.ifCond .lt 14, 3) := by decide +kernel
theorem d_M_goThroughGroups_48 : decode b_M_goThroughGroups 48 = .ok (.aload_n 0, 1) := by decide +kernel
theorem d_M_goThroughGroups_49 : decode b_M_goThroughGroups 49 = .ok (.aload_n 0, 1) := by decide +kernel
theorem d_M_goThroughGroups_50 : decode b_M_goThroughGroups 50 = .ok (.getfield 64, 3) := by decide +kernel
theorem d_M_goThroughGroups_53 : decode b_M_goThroughGroups 53 = .ok (.invokevirtual 271, 3) := by decide +kernel
theorem d_M_goThroughGroups_56 : decode b_M_goThroughGroups 56 = .ok (.ifCond .eq 7, 3) := by decide +kernel
theorem d_M_goThroughGroups_59 : decode b_M_goThroughGroups 59 = .ok (.aload_n 0, 1) := by decide +kernel
theorem d_M_goThroughGroups_60 : decode b_M_goThroughGroups 60 = .ok (.invokevirtual 280, 3) := by decide +kernel
theorem d_M_goThroughGroups_63 : decode b_M_goThroughGroups 63 = .ok (.iinc 1 1, 3) := by decide +kernel
theorem d_M_goThroughGroups_66 : decode b_M_goThroughGroups 66 = .ok (.goto (-45), 3) := by decide +kernel
theorem d_M_goThroughGroups_69 : decode b_M_goThroughGroups 69 = .ok (.aload_n 0, 1) := by decide +kernel
theorem d_M_goThroughGroups_70 : decode b_M_goThroughGroups 70 = .ok (.iconst (-1), 1) := by decide +kernel
theorem d_M_goThroughGroups_71 : decode b_M_goThroughGroups 71 = .ok (.putfield 234, 3) := by decide +kernel
theorem d_M_goThroughGroups_74 : decode b_M_goThroughGroups 74 = .ok (.return_, 1) := by decide +kernel
theorem d_M_ask_0 : decode b_M_ask 0 = .ok (.aload_n 0, 1) := by decide +kernel
theorem d_M_ask_1 : decode b_M_ask 1 = .ok (.iconst 0, 1) := by decide +kernel
theorem d_M_ask_2 : decode b_M_ask 2 = .ok (.putfield 193, 3) := by decide +kernel
theorem d_M_ask_5 : decode b_M_ask 5 = .ok (.aload_n 0, 1) := by decide +kernel
theorem d_M_ask_6 : decode b_M_ask 6 = .ok (.iload_n 1, 1) := by decide +kernel
theorem d_M_ask_7 : decode b_M_ask 7 = .ok (.invokevirtual 196, 3) := by decide +kernel
theorem d_M_ask_10 : decode b_M_ask 10 = .ok (.aload_n 0, 1) := by decide +kernel
theorem d_M_ask_11 : decode b_M_ask 11 = .ok (.getfield 193, 3) := by decide +kernel
theorem d_M_ask_14 : decode b_M_ask 14 = .ok (.ifCond .le 116, 3) := by decide +kernel
theorem d_M_ask_17 : decode b_M_ask 17 = .ok (.aload_n 0, 1) := by decide +kernel
theorem d_M_ask_18 : decode b_M_ask 18 = .ok (.dup, 1) := by decide +kernel
theorem d_M_ask_19 : decode b_M_ask 19 = .ok (.getfield 193, 3) := by decide +kernel
theorem d_M_ask_22 : decode b_M_ask 22 = .ok (.iconst 1, 1) := by decide +kernel
theorem d_M_ask_23 : decode b_M_ask 23 = .ok (.isub, 1) := by decide +kernel
theorem d_M_ask_24 : decode b_M_ask 24 = .ok (.putfield 193, 3) := by decide +kernel
theorem d_M_ask_27 : decode b_M_ask 27 = .ok (.aload_n 0, 1) := by decide +kernel
theorem d_M_ask_28 : decode b_M_ask 28 = .ok (.getfield 112, 3) := by decide +kernel
theorem d_M_ask_31 : decode b_M_ask 31 = .ok (.aload_n 0, 1) := by decide +kernel
theorem d_M_ask_32 : decode b_M_ask 32 = .ok (.getfield 193, 3) := by decide +kernel
theorem d_M_ask_35 : decode b_M_ask 35 = .ok (.iaload, 1) := by decide +kernel
theorem d_M_ask_36 : decode b_M_ask 36 = .ok (.istore_n 2, 1) := by decide +kernel
theorem d_M_ask_37 : decode b_M_ask 37 = .ok (.iconst 0, 1) := by decide +kernel
theorem d_M_ask_38 : decode b_M_ask 38 = .ok (.istore_n 3, 1) := by decide +kernel
theorem d_M_ask_39 : decode b_M_ask 39 = .ok (.iload_n 3, 1) := by decide +kernel
theorem d_M_ask_40 : decode b_M_ask 40 = .ok (.aload_n 0, 1) := by decide +kernel
theorem d_M_ask_41 : decode b_M_ask 41 = .ok (.getfield 140, 3) := by decide +kernel
theorem d_M_ask_44 : decode b_M_ask 44 = .ok (.if_icmp .ge 39, 3) := by decide +kernel
theorem d_M_ask_47 : decode b_M_ask 47 = .ok (.aload_n 0, 1) := by decide +kernel
theorem d_M_ask_48 : decode b_M_ask 48 = .ok (.getfield 109, 3) := by decide +kernel
theorem d_M_ask_51 : decode b_M_ask 51 = .ok (.iload_n 3, 1) := by decide +kernel
theorem d_M_ask_52 : decode b_M_ask 52 = .ok (.aload_n 0, 1) := by decide +kernel
theorem d_M_ask_53 : decode b_M_ask 53 = .ok (.getfield 109, 3) := by decide +kernel
theorem d_M_ask_56 : decode b_M_ask 56 = .ok (.iload_n 3, 1) := by decide +kernel
theorem d_M_ask_57 : decode b_M_ask 57 = .ok (.baload, 1) := by decide +kernel
theorem d_M_ask_58 : decode b_M_ask 58 = .ok (.ifCond .ne 13, 3) := by decide +kernel
theorem d_M_ask_61 : decode b_M_ask 61 = .ok (.aload_n 0, 1) := by decide +kernel
theorem d_M_ask_62 : decode b_M_ask 62 = .ok (.getfield 48, 3) := by decide +kernel
theorem d_M_ask_65 : decode b_M_ask 65 = .ok (.iload_n 3, 1) := by decide +kernel
theorem d_M_ask_66 : decode b_M_ask 66 = .ok (.iaload, 1) := by decide +kernel
theorem d_M_ask_67 : decode b_M_ask 67 = .ok (.iload_n 2, 1) := by decide +kernel
theorem d_M_ask_68 : decode b_M_ask 68 = .ok (.if_icmp .ne 7, 3) := by decide +kernel
theorem d_M_ask_71 : decode b_M_ask 71 = .ok (.iconst 1, 1) := by decide +kernel
theorem d_M_ask_72 : decode b_M_ask 72 = .ok (.goto 4, 3) := by decide +kernel
theorem d_M_ask_75 : decode b_M_ask 75 = .ok (.iconst 0, 1) := by decide +kernel
theorem d_M_ask_76 : decode b_M_ask 76 = .ok (.bastore, 1) := by decide +kernel
theorem d_M_ask_77 : decode b_M_ask 77 = .ok (.iinc 3 1, 3) := by decide +kernel
theorem d_M_ask_80 : decode b_M_ask 80 = .ok (.goto (-41), 3) := by decide +kernel
theorem d_M_ask_83 : decode b_M_ask 83 = .ok (.aload_n 0, 1) := by decide +kernel
theorem d_M_ask_84 : decode b_M_ask 84 = .ok (.getfield 24, 3) := by decide +kernel
theorem d_M_ask_87 : decode b_M_ask 87 = .ok (.iload_n 2, 1) := by decide +kernel
theorem d_M_ask_88 : decode b_M_ask 88 = .ok (.iaload, 1) := by decide +kernel
theorem d_M_ask_89 : decode b_M_ask 89 = .ok (.bipush 12, 2) := by decide +kernel
theorem d_M_ask_91 : decode b_M_ask 91 = .ok (.if_icmp .gt 36, 3) := by decide +kernel
theorem d_M_ask_94 : decode b_M_ask 94 = .ok (.aload_n 0, 1) := by decide +kernel
theorem d_M_ask_95 : decode b_M_ask 95 = .ok (.aload_n 0, 1) := by decide +kernel
theorem d_M_ask_96 : decode b_M_ask 96 = .ok (.getfield 27, 3) := by decide +kernel
theorem d_M_ask_99 : decode b_M_ask 99 = .ok (.iload_n 2, 1) := by decide +kernel
theorem d_M_ask_100 : decode b_M_ask 100 = .ok (.iaload, 1) := by decide +kernel
theorem d_M_ask_101 : decode b_M_ask 101 = .ok (.invokevirtual 196, 3) := by decide +kernel
theorem d_M_ask_104 : decode b_M_ask 104 = .ok (.aload_n 0, 1) := by decide +kernel
theorem d_M_ask_105 : decode b_M_ask 105 = .ok (.aload_n 0, 1) := by decide +kernel
theorem d_M_ask_106 : decode b_M_ask 106 = .ok (.getfield 24, 3) := by decide +kernel
theorem d_M_ask_109 : decode b_M_ask 109 = .ok (.iload_n 2, 1) := by decide +kernel
theorem d_M_ask_110 : decode b_M_ask 110 = .ok (.iaload, 1) := by decide +kernel
theorem d_M_ask_111 : decode b_M_ask 111 = .ok (.invokevirtual 162, 3) := by decide +kernel
theorem d_M_ask_114 : decode b_M_ask 114 = .ok (.ifCond .eq 13, 3) := by decide +kernel
theorem d_M_ask_117 : decode b_M_ask 117 = .ok (.aload_n 0, 1) := by decide +kernel
theorem d_M_ask_118 : decode b_M_ask 118 = .ok (.aload_n 0, 1) := by decide +kernel
theorem d_M_ask_119 : decode b_M_ask 119 = .ok (.getfield 30, 3) := by decide +kernel
theorem d_M_ask_122 : decode b_M_ask 122 = .ok (.iload_n 2, 1) := by decide +kernel
theorem d_M_ask_123 : decode b_M_ask 123 = .ok (.iaload, 1) := by decide +kernel
theorem d_M_ask_124 : decode b_M_ask 124 = .ok (.invokevirtual 196, 3) := by decide +kernel
theorem d_M_ask_127 : decode b_M_ask 127 = .ok (.goto (-117), 3) := by decide +kernel
theorem d_M_ask_130 : decode b_M_ask 130 = .ok (.return_, 1) := by decide +kernel
