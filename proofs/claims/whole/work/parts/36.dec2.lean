theorem d_G_resultOf_0 : decode b_G_resultOf 0 = .ok (.aload_n 0, 1) := by decide +kernel
theorem d_G_resultOf_1 : decode b_G_resultOf 1 = .ok (.getfield 37, 3) := by decide +kernel
theorem d_G_resultOf_4 : decode b_G_resultOf 4 = .ok (.aload_n 0, 1) := by decide +kernel
theorem d_G_resultOf_5 : decode b_G_resultOf 5 = .ok (.getfield 66, 3) := by decide +kernel
theorem d_G_resultOf_8 : decode b_G_resultOf 8 = .ok (.bipush 8, 2) := by decide +kernel
theorem d_G_resultOf_10 : decode b_G_resultOf 10 = .ok (.imul, 1) := by decide +kernel
theorem d_G_resultOf_11 : decode b_G_resultOf 11 = .ok (.iload_n 1, 1) := by decide +kernel
theorem d_G_resultOf_12 : decode b_G_resultOf 12 = .ok (.iadd, 1) := by decide +kernel
theorem d_G_resultOf_13 : decode b_G_resultOf 13 = .ok (.iaload, 1) := by decide +kernel
theorem d_G_resultOf_14 : decode b_G_resultOf 14 = .ok (.istore_n 2, 1) := by decide +kernel
theorem d_G_resultOf_15 : decode b_G_resultOf 15 = .ok (.aload_n 0, 1) := by decide +kernel
theorem d_G_resultOf_16 : decode b_G_resultOf 16 = .ok (.getfield 40, 3) := by decide +kernel
theorem d_G_resultOf_19 : decode b_G_resultOf 19 = .ok (.aload_n 0, 1) := by decide +kernel
theorem d_G_resultOf_20 : decode b_G_resultOf 20 = .ok (.getfield 66, 3) := by decide +kernel
theorem d_G_resultOf_23 : decode b_G_resultOf 23 = .ok (.bipush 8, 2) := by decide +kernel
theorem d_G_resultOf_25 : decode b_G_resultOf 25 = .ok (.imul, 1) := by decide +kernel
theorem d_G_resultOf_26 : decode b_G_resultOf 26 = .ok (.iload_n 1, 1) := by decide +kernel
theorem d_G_resultOf_27 : decode b_G_resultOf 27 = .ok (.iadd, 1) := by decide +kernel
theorem d_G_resultOf_28 : decode b_G_resultOf 28 = .ok (.laload, 1) := by decide +kernel
theorem d_G_resultOf_29 : decode b_G_resultOf 29 = .ok (.lstore_n 3, 1) := by decide +kernel
theorem d_G_resultOf_30 : decode b_G_resultOf 30 = .ok (.aload_n 0, 1) := by decide +kernel
theorem d_G_resultOf_31 : decode b_G_resultOf 31 = .ok (.getfield 43, 3) := by decide +kernel
theorem d_G_resultOf_34 : decode b_G_resultOf 34 = .ok (.getfield 79, 3) := by decide +kernel
theorem d_G_resultOf_37 : decode b_G_resultOf 37 = .ok (.iload_n 1, 1) := by decide +kernel
theorem d_G_resultOf_38 : decode b_G_resultOf 38 = .ok (.iaload, 1) := by decide +kernel
theorem d_G_resultOf_39 : decode b_G_resultOf 39 = .ok (.lookupswitch 49 #[(0, 33), (1, 33), (5, 36)], 33) := by decide +kernel
theorem d_G_resultOf_72 : decode b_G_resultOf 72 = .ok (.iload_n 2, 1) := by decide +kernel
theorem d_G_resultOf_73 : decode b_G_resultOf 73 = .ok (.i2l, 1) := by decide +kernel
theorem d_G_resultOf_74 : decode b_G_resultOf 74 = .ok (.lreturn, 1) := by decide +kernel
theorem d_G_resultOf_75 : decode b_G_resultOf 75 = .ok (.iload_n 2, 1) := by decide +kernel
theorem d_G_resultOf_76 : decode b_G_resultOf 76 = .ok (.ifCond .ne 7, 3) := by decide +kernel
theorem d_G_resultOf_79 : decode b_G_resultOf 79 = .ok (.lconst 0, 1) := by decide +kernel
theorem d_G_resultOf_80 : decode b_G_resultOf 80 = .ok (.goto 7, 3) := by decide +kernel
theorem d_G_resultOf_83 : decode b_G_resultOf 83 = .ok (.lload_n 3, 1) := by decide +kernel
theorem d_G_resultOf_84 : decode b_G_resultOf 84 = .ok (.iload_n 2, 1) := by decide +kernel
theorem d_G_resultOf_85 : decode b_G_resultOf 85 = .ok (.i2l, 1) := by decide +kernel
theorem d_G_resultOf_86 : decode b_G_resultOf 86 = .ok (.ldiv, 1) := by decide +kernel
theorem d_G_resultOf_87 : decode b_G_resultOf 87 = .ok (.lreturn, 1) := by decide +kernel
theorem d_G_resultOf_88 : decode b_G_resultOf 88 = .ok (.lload_n 3, 1) := by decide +kernel
theorem d_G_resultOf_89 : decode b_G_resultOf 89 = .ok (.lreturn, 1) := by decide +kernel
theorem d_G_hasResult_0 : decode b_G_hasResult 0 = .ok (.aload_n 0, 1) := by decide +kernel
theorem d_G_hasResult_1 : decode b_G_hasResult 1 = .ok (.getfield 43, 3) := by decide +kernel
theorem d_G_hasResult_4 : decode b_G_hasResult 4 = .ok (.getfield 79, 3) := by decide +kernel
theorem d_G_hasResult_7 : decode b_G_hasResult 7 = .ok (.iload_n 1, 1) := by decide +kernel
theorem d_G_hasResult_8 : decode b_G_hasResult 8 = .ok (.iaload, 1) := by decide +kernel
theorem d_G_hasResult_9 : decode b_G_hasResult 9 = .ok (.istore_n 2, 1) := by decide +kernel
theorem d_G_hasResult_10 : decode b_G_hasResult 10 = .ok (.iload_n 2, 1) := by decide +kernel
theorem d_G_hasResult_11 : decode b_G_hasResult 11 = .ok (.ifCond .eq 25, 3) := by decide +kernel
theorem d_G_hasResult_14 : decode b_G_hasResult 14 = .ok (.iload_n 2, 1) := by decide +kernel
theorem d_G_hasResult_15 : decode b_G_hasResult 15 = .ok (.iconst 1, 1) := by decide +kernel
theorem d_G_hasResult_16 : decode b_G_hasResult 16 = .ok (.if_icmp .eq 20, 3) := by decide +kernel
theorem d_G_hasResult_19 : decode b_G_hasResult 19 = .ok (.aload_n 0, 1) := by decide +kernel
theorem d_G_hasResult_20 : decode b_G_hasResult 20 = .ok (.getfield 37, 3) := by decide +kernel
theorem d_G_hasResult_23 : decode b_G_hasResult 23 = .ok (.aload_n 0, 1) := by decide +kernel
theorem d_G_hasResult_24 : decode b_G_hasResult 24 = .ok (.getfield 66, 3) := by decide +kernel
theorem d_G_hasResult_27 : decode b_G_hasResult 27 = .ok (.bipush 8, 2) := by decide +kernel
theorem d_G_hasResult_29 : decode b_G_hasResult 29 = .ok (.imul, 1) := by decide +kernel
theorem d_G_hasResult_30 : decode b_G_hasResult 30 = .ok (.iload_n 1, 1) := by decide +kernel
theorem d_G_hasResult_31 : decode b_G_hasResult 31 = .ok (.iadd, 1) := by decide +kernel
theorem d_G_hasResult_32 : decode b_G_hasResult 32 = .ok (.iaload, 1) := by decide +kernel
theorem d_G_hasResult_33 : decode b_G_hasResult 33 = .ok (.ifCond .eq 7, 3) := by decide +kernel
theorem d_G_hasResult_36 : decode b_G_hasResult 36 = .ok (.iconst 1, 1) := by decide +kernel
theorem d_G_hasResult_37 : decode b_G_hasResult 37 = .ok (.goto 4, 3) := by decide +kernel
theorem d_G_hasResult_40 : decode b_G_hasResult 40 = .ok (.iconst 0, 1) := by decide +kernel
theorem d_G_hasResult_41 : decode b_G_hasResult 41 = .ok (.ireturn, 1) := by decide +kernel
theorem d_V_ofGroup_0 : decode b_V_ofGroup 0 = .ok (.aload_n 0, 1) := by decide +kernel
theorem d_V_ofGroup_1 : decode b_V_ofGroup 1 = .ok (.getfield 91, 3) := by decide +kernel
theorem d_V_ofGroup_4 : decode b_V_ofGroup 4 = .ok (.ifnonnull 5, 3) := by decide +kernel
theorem d_V_ofGroup_7 : decode b_V_ofGroup 7 = .ok (.iconst 0, 1) := by decide +kernel
theorem d_V_ofGroup_8 : decode b_V_ofGroup 8 = .ok (.ireturn, 1) := by decide +kernel
theorem d_V_ofGroup_9 : decode b_V_ofGroup 9 = .ok (.aload_n 0, 1) := by decide +kernel
theorem d_V_ofGroup_10 : decode b_V_ofGroup 10 = .ok (.aload_n 0, 1) := by decide +kernel
theorem d_V_ofGroup_11 : decode b_V_ofGroup 11 = .ok (.getfield 91, 3) := by decide +kernel
theorem d_V_ofGroup_14 : decode b_V_ofGroup 14 = .ok (.iload_n 1, 1) := by decide +kernel
theorem d_V_ofGroup_15 : decode b_V_ofGroup 15 = .ok (.invokevirtual 95, 3) := by decide +kernel
theorem d_V_ofGroup_18 : decode b_V_ofGroup 18 = .ok (.putfield 27, 3) := by decide +kernel
theorem d_V_ofGroup_21 : decode b_V_ofGroup 21 = .ok (.aload_n 0, 1) := by decide +kernel
theorem d_V_ofGroup_22 : decode b_V_ofGroup 22 = .ok (.getfield 91, 3) := by decide +kernel
theorem d_V_ofGroup_25 : decode b_V_ofGroup 25 = .ok (.iload_n 1, 1) := by decide +kernel
theorem d_V_ofGroup_26 : decode b_V_ofGroup 26 = .ok (.invokevirtual 101, 3) := by decide +kernel
theorem d_V_ofGroup_29 : decode b_V_ofGroup 29 = .ok (.ifCond .eq 7, 3) := by decide +kernel
theorem d_V_ofGroup_32 : decode b_V_ofGroup 32 = .ok (.iconst 1, 1) := by decide +kernel
theorem d_V_ofGroup_33 : decode b_V_ofGroup 33 = .ok (.goto 4, 3) := by decide +kernel
theorem d_V_ofGroup_36 : decode b_V_ofGroup 36 = .ok (.iconst 0, 1) := by decide +kernel
theorem d_V_ofGroup_37 : decode b_V_ofGroup 37 = .ok (.ireturn, 1) := by decide +kernel
theorem d_V_calculate_0 : decode b_V_calculate 0 = .ok (.iload_n 1, 1) := by decide +kernel
theorem d_V_calculate_1 : decode b_V_calculate 1 = .ok (.tableswitch 98 0 2 #[27, 36, 45], 27) := by decide +kernel
theorem d_V_calculate_28 : decode b_V_calculate 28 = .ok (.lload_n 2, 1) := by decide +kernel
theorem d_V_calculate_29 : decode b_V_calculate 29 = .ok (.lload 4, 2) := by decide +kernel
theorem d_V_calculate_31 : decode b_V_calculate 31 = .ok (.ladd, 1) := by decide +kernel
theorem d_V_calculate_32 : decode b_V_calculate 32 = .ok (.lstore 6, 2) := by decide +kernel
theorem d_V_calculate_34 : decode b_V_calculate 34 = .ok (.goto 93, 3) := by decide +kernel
theorem d_V_calculate_37 : decode b_V_calculate 37 = .ok (.lload_n 2, 1) := by decide +kernel
theorem d_V_calculate_38 : decode b_V_calculate 38 = .ok (.lload 4, 2) := by decide +kernel
theorem d_V_calculate_40 : decode b_V_calculate 40 = .ok (.lsub, 1) := by decide +kernel
theorem d_V_calculate_41 : decode b_V_calculate 41 = .ok (.lstore 6, 2) := by decide +kernel
theorem d_V_calculate_43 : decode b_V_calculate 43 = .ok (.goto 84, 3) := by decide +kernel
theorem d_V_calculate_46 : decode b_V_calculate 46 = .ok (.lload_n 2, 1) := by decide +kernel
theorem d_V_calculate_47 : decode b_V_calculate 47 = .ok (.lconst 0, 1) := by decide +kernel
theorem d_V_calculate_48 : decode b_V_calculate 48 = .ok (.lcmp, 1) := by decide +kernel
theorem d_V_calculate_49 : decode b_V_calculate 49 = .ok (.ifCond .eq 41, 3) := by decide +kernel
theorem d_V_calculate_52 : decode b_V_calculate 52 = .ok (.lload 4, 2) := by decide +kernel
theorem d_V_calculate_54 : decode b_V_calculate 54 = .ok (.lconst 0, 1) := by decide +kernel
theorem d_V_calculate_55 : decode b_V_calculate 55 = .ok (.lcmp, 1) := by decide +kernel
theorem d_V_calculate_56 : decode b_V_calculate 56 = .ok (.ifCond .ge 9, 3) := by decide +kernel
theorem d_V_calculate_59 : decode b_V_calculate 59 = .ok (.lload 4, 2) := by decide +kernel
theorem d_V_calculate_61 : decode b_V_calculate 61 = .ok (.lneg, 1) := by decide +kernel
theorem d_V_calculate_62 : decode b_V_calculate 62 = .ok (.goto 5, 3) := by decide +kernel
theorem d_V_calculate_65 : decode b_V_calculate 65 = .ok (.lload 4, 2) := by decide +kernel
theorem d_V_calculate_67 : decode b_V_calculate 67 = .ok (.ldc2_w 107, 3) := by decide +kernel
theorem d_V_calculate_70 : decode b_V_calculate 70 = .ok (.lload_n 2, 1) := by decide +kernel
theorem d_V_calculate_71 : decode b_V_calculate 71 = .ok (.lconst 0, 1) := by decide +kernel
theorem d_V_calculate_72 : decode b_V_calculate 72 = .ok (.lcmp, 1) := by decide +kernel
theorem d_V_calculate_73 : decode b_V_calculate 73 = .ok (.ifCond .ge 8, 3) := by decide +kernel
theorem d_V_calculate_76 : decode b_V_calculate 76 = .ok (.lload_n 2, 1) := by decide +kernel
theorem d_V_calculate_77 : decode b_V_calculate 77 = .ok (.lneg, 1) := by decide +kernel
theorem d_V_calculate_78 : decode b_V_calculate 78 = .ok (.goto 4, 3) := by decide +kernel
theorem d_V_calculate_81 : decode b_V_calculate 81 = .ok (.lload_n 2, 1) := by decide +kernel
theorem d_V_calculate_82 : decode b_V_calculate 82 = .ok (.ldiv, 1) := by decide +kernel
theorem d_V_calculate_83 : decode b_V_calculate 83 = .ok (.lcmp, 1) := by decide +kernel
theorem d_V_calculate_84 : decode b_V_calculate 84 = .ok (.ifCond .le 6, 3) := by decide +kernel
theorem d_V_calculate_87 : decode b_V_calculate 87 = .ok (.bipush (-21), 2) := by decide +kernel
theorem d_V_calculate_89 : decode b_V_calculate 89 = .ok (.ireturn, 1) := by decide +kernel
theorem d_V_calculate_90 : decode b_V_calculate 90 = .ok (.lload_n 2, 1) := by decide +kernel
theorem d_V_calculate_91 : decode b_V_calculate 91 = .ok (.lload 4, 2) := by decide +kernel
theorem d_V_calculate_93 : decode b_V_calculate 93 = .ok (.lmul, 1) := by decide +kernel
theorem d_V_calculate_94 : decode b_V_calculate 94 = .ok (.lstore 6, 2) := by decide +kernel
theorem d_V_calculate_96 : decode b_V_calculate 96 = .ok (.goto 31, 3) := by decide +kernel
theorem d_V_calculate_99 : decode b_V_calculate 99 = .ok (.lload 4, 2) := by decide +kernel
theorem d_V_calculate_101 : decode b_V_calculate 101 = .ok (.lconst 0, 1) := by decide +kernel
theorem d_V_calculate_102 : decode b_V_calculate 102 = .ok (.lcmp, 1) := by decide +kernel
theorem d_V_calculate_103 : decode b_V_calculate 103 = .ok (.ifCond .ne 6, 3) := by decide +kernel
theorem d_V_calculate_106 : decode b_V_calculate 106 = .ok (.bipush (-20), 2) := by decide +kernel
theorem d_V_calculate_108 : decode b_V_calculate 108 = .ok (.ireturn, 1) := by decide +kernel
theorem d_V_calculate_109 : decode b_V_calculate 109 = .ok (.iload_n 1, 1) := by decide +kernel
theorem d_V_calculate_110 : decode b_V_calculate 110 = .ok (.iconst 3, 1) := by decide +kernel
theorem d_V_calculate_111 : decode b_V_calculate 111 = .ok (.if_icmp .ne 10, 3) := by decide +kernel
theorem d_V_calculate_114 : decode b_V_calculate 114 = .ok (.lload_n 2, 1) := by decide +kernel
theorem d_V_calculate_115 : decode b_V_calculate 115 = .ok (.lload 4, 2) := by decide +kernel
theorem d_V_calculate_117 : decode b_V_calculate 117 = .ok (.ldiv, 1) := by decide +kernel
theorem d_V_calculate_118 : decode b_V_calculate 118 = .ok (.goto 7, 3) := by decide +kernel
theorem d_V_calculate_121 : decode b_V_calculate 121 = .ok (.lload_n 2, 1) := by decide +kernel
theorem d_V_calculate_122 : decode b_V_calculate 122 = .ok (.lload 4, 2) := by decide +kernel
theorem d_V_calculate_124 : decode b_V_calculate 124 = .ok (.lrem, 1) := by decide +kernel
theorem d_V_calculate_125 : decode b_V_calculate 125 = .ok (.lstore 6, 2) := by decide +kernel
theorem d_V_calculate_127 : decode b_V_calculate 127 = .ok (.lload 6, 2) := by decide +kernel
theorem d_V_calculate_129 : decode b_V_calculate 129 = .ok (.ldc2_w 109, 3) := by decide +kernel
theorem d_V_calculate_132 : decode b_V_calculate 132 = .ok (.lcmp, 1) := by decide +kernel
theorem d_V_calculate_133 : decode b_V_calculate 133 = .ok (.ifCond .lt 12, 3) := by decide +kernel
theorem d_V_calculate_136 : decode b_V_calculate 136 = .ok (.lload 6, 2) := by decide +kernel
theorem d_V_calculate_138 : decode b_V_calculate 138 = .ok (.ldc2_w 107, 3) := by decide +kernel
theorem d_V_calculate_141 : decode b_V_calculate 141 = .ok (.lcmp, 1) := by decide +kernel
theorem d_V_calculate_142 : decode b_V_calculate 142 = .ok (.ifCond .le 6, 3) := by decide +kernel
theorem d_V_calculate_145 : decode b_V_calculate 145 = .ok (.bipush (-21), 2) := by decide +kernel
theorem d_V_calculate_147 : decode b_V_calculate 147 = .ok (.ireturn, 1) := by decide +kernel
theorem d_V_calculate_148 : decode b_V_calculate 148 = .ok (.aload_n 0, 1) := by decide +kernel
theorem d_V_calculate_149 : decode b_V_calculate 149 = .ok (.lload 6, 2) := by decide +kernel
theorem d_V_calculate_151 : decode b_V_calculate 151 = .ok (.putfield 27, 3) := by decide +kernel
theorem d_V_calculate_154 : decode b_V_calculate 154 = .ok (.iconst 1, 1) := by decide +kernel
theorem d_V_calculate_155 : decode b_V_calculate 155 = .ok (.ireturn, 1) := by decide +kernel
theorem d_V_value_0 : decode b_V_value 0 = .ok (.aload_n 0, 1) := by decide +kernel
theorem d_V_value_1 : decode b_V_value 1 = .ok (.lconst 0, 1) := by decide +kernel
theorem d_V_value_2 : decode b_V_value 2 = .ok (.putfield 27, 3) := by decide +kernel
theorem d_V_value_5 : decode b_V_value 5 = .ok (.iload_n 2, 1) := by decide +kernel
theorem d_V_value_6 : decode b_V_value 6 = .ok (.bipush 60, 2) := by decide +kernel
theorem d_V_value_8 : decode b_V_value 8 = .ok (.if_icmp .ge 14, 3) := by decide +kernel
theorem d_V_value_11 : decode b_V_value 11 = .ok (.aload_n 0, 1) := by decide +kernel
theorem d_V_value_12 : decode b_V_value 12 = .ok (.getfield 19, 3) := by decide +kernel
theorem d_V_value_15 : decode b_V_value 15 = .ok (.iload_n 1, 1) := by decide +kernel
theorem d_V_value_16 : decode b_V_value 16 = .ok (.invokevirtual 31, 3) := by decide +kernel
theorem d_V_value_19 : decode b_V_value 19 = .ok (.ifCond .ne 5, 3) := by decide +kernel
theorem d_V_value_22 : decode b_V_value 22 = .ok (.iconst 0, 1) := by decide +kernel
theorem d_V_value_23 : decode b_V_value 23 = .ok (.ireturn, 1) := by decide +kernel
theorem d_V_value_24 : decode b_V_value 24 = .ok (.aload_n 0, 1) := by decide +kernel
theorem d_V_value_25 : decode b_V_value 25 = .ok (.getfield 19, 3) := by decide +kernel
theorem d_V_value_28 : decode b_V_value 28 = .ok (.getfield 37, 3) := by decide +kernel
theorem d_V_value_31 : decode b_V_value 31 = .ok (.iload_n 1, 1) := by decide +kernel
theorem d_V_value_32 : decode b_V_value 32 = .ok (.iaload, 1) := by decide +kernel
theorem d_V_value_33 : decode b_V_value 33 = .ok (.tableswitch 78 13 16 #[31, 46, 48, 63], 31) := by decide +kernel
theorem d_V_value_64 : decode b_V_value 64 = .ok (.aload_n 0, 1) := by decide +kernel
theorem d_V_value_65 : decode b_V_value 65 = .ok (.aload_n 0, 1) := by decide +kernel
theorem d_V_value_66 : decode b_V_value 66 = .ok (.getfield 19, 3) := by decide +kernel
theorem d_V_value_69 : decode b_V_value 69 = .ok (.getfield 40, 3) := by decide +kernel
theorem d_V_value_72 : decode b_V_value 72 = .ok (.iload_n 1, 1) := by decide +kernel
theorem d_V_value_73 : decode b_V_value 73 = .ok (.laload, 1) := by decide +kernel
theorem d_V_value_74 : decode b_V_value 74 = .ok (.putfield 27, 3) := by decide +kernel
theorem d_V_value_77 : decode b_V_value 77 = .ok (.iconst 1, 1) := by decide +kernel
theorem d_V_value_78 : decode b_V_value 78 = .ok (.ireturn, 1) := by decide +kernel
theorem d_V_value_79 : decode b_V_value 79 = .ok (.iconst 0, 1) := by decide +kernel
theorem d_V_value_80 : decode b_V_value 80 = .ok (.ireturn, 1) := by decide +kernel
theorem d_V_value_81 : decode b_V_value 81 = .ok (.aload_n 0, 1) := by decide +kernel
theorem d_V_value_82 : decode b_V_value 82 = .ok (.aload_n 0, 1) := by decide +kernel
theorem d_V_value_83 : decode b_V_value 83 = .ok (.getfield 19, 3) := by decide +kernel
theorem d_V_value_86 : decode b_V_value 86 = .ok (.getfield 40, 3) := by decide +kernel
theorem d_V_value_89 : decode b_V_value 89 = .ok (.iload_n 1, 1) := by decide +kernel
theorem d_V_value_90 : decode b_V_value 90 = .ok (.laload, 1) := by decide +kernel
theorem d_V_value_91 : decode b_V_value 91 = .ok (.l2i, 1) := by decide +kernel
theorem d_V_value_92 : decode b_V_value 92 = .ok (.invokevirtual 44, 3) := by decide +kernel
theorem d_V_value_95 : decode b_V_value 95 = .ok (.ireturn, 1) := by decide +kernel
theorem d_V_value_96 : decode b_V_value 96 = .ok (.aload_n 0, 1) := by decide +kernel
theorem d_V_value_97 : decode b_V_value 97 = .ok (.aload_n 0, 1) := by decide +kernel
theorem d_V_value_98 : decode b_V_value 98 = .ok (.getfield 19, 3) := by decide +kernel
theorem d_V_value_101 : decode b_V_value 101 = .ok (.getfield 40, 3) := by decide +kernel
theorem d_V_value_104 : decode b_V_value 104 = .ok (.iload_n 1, 1) := by decide +kernel
theorem d_V_value_105 : decode b_V_value 105 = .ok (.laload, 1) := by decide +kernel
theorem d_V_value_106 : decode b_V_value 106 = .ok (.l2i, 1) := by decide +kernel
theorem d_V_value_107 : decode b_V_value 107 = .ok (.invokevirtual 48, 3) := by decide +kernel
theorem d_V_value_110 : decode b_V_value 110 = .ok (.ireturn, 1) := by decide +kernel
theorem d_V_value_111 : decode b_V_value 111 = .ok (.aload_n 0, 1) := by decide +kernel
theorem d_V_value_112 : decode b_V_value 112 = .ok (.iload_n 1, 1) := by decide +kernel
theorem d_V_value_113 : decode b_V_value 113 = .ok (.iload_n 2, 1) := by decide +kernel
theorem d_V_value_114 : decode b_V_value 114 = .ok (.invokevirtual 51, 3) := by decide +kernel
theorem d_V_value_117 : decode b_V_value 117 = .ok (.istore_n 3, 1) := by decide +kernel
theorem d_V_value_118 : decode b_V_value 118 = .ok (.iload_n 3, 1) := by decide +kernel
theorem d_V_value_119 : decode b_V_value 119 = .ok (.iconst 1, 1) := by decide +kernel
theorem d_V_value_120 : decode b_V_value 120 = .ok (.if_icmp .ne 27, 3) := by decide +kernel
theorem d_V_value_123 : decode b_V_value 123 = .ok (.aload_n 0, 1) := by decide +kernel
theorem d_V_value_124 : decode b_V_value 124 = .ok (.aload_n 0, 1) := by decide +kernel
theorem d_V_value_125 : decode b_V_value 125 = .ok (.getfield 19, 3) := by decide +kernel
theorem d_V_value_128 : decode b_V_value 128 = .ok (.getfield 37, 3) := by decide +kernel
theorem d_V_value_131 : decode b_V_value 131 = .ok (.iload_n 1, 1) := by decide +kernel
theorem d_V_value_132 : decode b_V_value 132 = .ok (.iaload, 1) := by decide +kernel
theorem d_V_value_133 : decode b_V_value 133 = .ok (.aload_n 0, 1) := by decide +kernel
theorem d_V_value_134 : decode b_V_value 134 = .ok (.getfield 55, 3) := by decide +kernel
theorem d_V_value_137 : decode b_V_value 137 = .ok (.aload_n 0, 1) := by decide +kernel
theorem d_V_value_138 : decode b_V_value 138 = .ok (.getfield 27, 3) := by decide +kernel
theorem d_V_value_141 : decode b_V_value 141 = .ok (.invokevirtual 58, 3) := by decide +kernel
theorem d_V_value_144 : decode b_V_value 144 = .ok (.goto 4, 3) := by decide +kernel
theorem d_V_value_147 : decode b_V_value 147 = .ok (.iload_n 3, 1) := by decide +kernel
theorem d_V_value_148 : decode b_V_value 148 = .ok (.ireturn, 1) := by decide +kernel
theorem d_V_compares_0 : decode b_V_compares 0 = .ok (.iload_n 0, 1) := by decide +kernel
theorem d_V_compares_1 : decode b_V_compares 1 = .ok (.tableswitch 63 5 7 #[27, 39, 51], 27) := by decide +kernel
theorem d_V_compares_28 : decode b_V_compares 28 = .ok (.lload_n 1, 1) := by decide +kernel
theorem d_V_compares_29 : decode b_V_compares 29 = .ok (.lload_n 3, 1) := by decide +kernel
theorem d_V_compares_30 : decode b_V_compares 30 = .ok (.lcmp, 1) := by decide +kernel
theorem d_V_compares_31 : decode b_V_compares 31 = .ok (.ifCond .ne 7, 3) := by decide +kernel
theorem d_V_compares_34 : decode b_V_compares 34 = .ok (.iconst 1, 1) := by decide +kernel
theorem d_V_compares_35 : decode b_V_compares 35 = .ok (.goto 4, 3) := by decide +kernel
theorem d_V_compares_38 : decode b_V_compares 38 = .ok (.iconst 0, 1) := by decide +kernel
theorem d_V_compares_39 : decode b_V_compares 39 = .ok (.ireturn, 1) := by decide +kernel
theorem d_V_compares_40 : decode b_V_compares 40 = .ok (.lload_n 1, 1) := by decide +kernel
theorem d_V_compares_41 : decode b_V_compares 41 = .ok (.lload_n 3, 1) := by decide +kernel
theorem d_V_compares_42 : decode b_V_compares 42 = .ok (.lcmp, 1) := by decide +kernel
theorem d_V_compares_43 : decode b_V_compares 43 = .ok (.ifCond .eq 7, 3) := by decide +kernel
theorem d_V_compares_46 : decode b_V_compares 46 = .ok (.iconst 1, 1) := by decide +kernel
theorem d_V_compares_47 : decode b_V_compares 47 = .ok (.goto 4, 3) := by decide +kernel
theorem d_V_compares_50 : decode b_V_compares 50 = .ok (.iconst 0, 1) := by decide +kernel
theorem d_V_compares_51 : decode b_V_compares 51 = .ok (.ireturn, 1) := by decide +kernel
theorem d_V_compares_52 : decode b_V_compares 52 = .ok (.lload_n 1, 1) := by decide +kernel
theorem d_V_compares_53 : decode b_V_compares 53 = .ok (.lload_n 3, 1) := by decide +kernel
theorem d_V_compares_54 : decode b_V_compares 54 = .ok (.lcmp, 1) := by decide +kernel
theorem d_V_compares_55 : decode b_V_compares 55 = .ok (.ifCond .ge 7, 3) := by decide +kernel
theorem d_V_compares_58 : decode b_V_compares 58 = .ok (.iconst 1, 1) := by decide +kernel
theorem d_V_compares_59 : decode b_V_compares 59 = .ok (.goto 4, 3) := by decide +kernel
theorem d_V_compares_62 : decode b_V_compares 62 = .ok (.iconst 0, 1) := by decide +kernel
theorem d_V_compares_63 : decode b_V_compares 63 = .ok (.ireturn, 1) := by decide +kernel
theorem d_V_compares_64 : decode b_V_compares 64 = .ok (.lload_n 1, 1) := by decide +kernel
theorem d_V_compares_65 : decode b_V_compares 65 = .ok (.lload_n 3, 1) := by decide +kernel
theorem d_V_compares_66 : decode b_V_compares 66 = .ok (.lcmp, 1) := by decide +kernel
theorem d_V_compares_67 : decode b_V_compares 67 = .ok (.ifCond .gt 7, 3) := by decide +kernel
theorem d_V_compares_70 : decode b_V_compares 70 = .ok (.iconst 1, 1) := by decide +kernel
theorem d_V_compares_71 : decode b_V_compares 71 = .ok (.goto 4, 3) := by decide +kernel
theorem d_V_compares_74 : decode b_V_compares 74 = .ok (.iconst 0, 1) := by decide +kernel
theorem d_V_compares_75 : decode b_V_compares 75 = .ok (.ireturn, 1) := by decide +kernel
theorem d_V_truth_0 : decode b_V_truth 0 = .ok (.iload_n 2, 1) := by decide +kernel
theorem d_V_truth_1 : decode b_V_truth 1 = .ok (.bipush 60, 2) := by decide +kernel
theorem d_V_truth_3 : decode b_V_truth 3 = .ok (.if_icmp .ge 14, 3) := by decide +kernel
theorem d_V_truth_6 : decode b_V_truth 6 = .ok (.aload_n 0, 1) := by decide +kernel
theorem d_V_truth_7 : decode b_V_truth 7 = .ok (.getfield 19, 3) := by decide +kernel
theorem d_V_truth_10 : decode b_V_truth 10 = .ok (.iload_n 1, 1) := by decide +kernel
theorem d_V_truth_11 : decode b_V_truth 11 = .ok (.invokevirtual 31, 3) := by decide +kernel
theorem d_V_truth_14 : decode b_V_truth 14 = .ok (.ifCond .ne 5, 3) := by decide +kernel
theorem d_V_truth_17 : decode b_V_truth 17 = .ok (.iconst 2, 1) := by decide +kernel
theorem d_V_truth_18 : decode b_V_truth 18 = .ok (.ireturn, 1) := by decide +kernel
theorem d_V_truth_19 : decode b_V_truth 19 = .ok (.aload_n 0, 1) := by decide +kernel
theorem d_V_truth_20 : decode b_V_truth 20 = .ok (.getfield 19, 3) := by decide +kernel
theorem d_V_truth_23 : decode b_V_truth 23 = .ok (.getfield 37, 3) := by decide +kernel
theorem d_V_truth_26 : decode b_V_truth 26 = .ok (.iload_n 1, 1) := by decide +kernel
theorem d_V_truth_27 : decode b_V_truth 27 = .ok (.iaload, 1) := by decide +kernel
theorem d_V_truth_28 : decode b_V_truth 28 = .ok (.istore_n 3, 1) := by decide +kernel
theorem d_V_truth_29 : decode b_V_truth 29 = .ok (.iload_n 3, 1) := by decide +kernel
theorem d_V_truth_30 : decode b_V_truth 30 = .ok (.bipush 9, 2) := by decide +kernel
theorem d_V_truth_32 : decode b_V_truth 32 = .ok (.if_icmp .eq 9, 3) := by decide +kernel
theorem d_V_truth_35 : decode b_V_truth 35 = .ok (.iload_n 3, 1) := by decide +kernel
theorem d_V_truth_36 : decode b_V_truth 36 = .ok (.bipush 10, 2) := by decide +kernel
theorem d_V_truth_38 : decode b_V_truth 38 = .ok (.if_icmp .ne 10, 3) := by decide +kernel
theorem d_V_truth_41 : decode b_V_truth 41 = .ok (.aload_n 0, 1) := by decide +kernel
theorem d_V_truth_42 : decode b_V_truth 42 = .ok (.iload_n 1, 1) := by decide +kernel
theorem d_V_truth_43 : decode b_V_truth 43 = .ok (.iload_n 2, 1) := by decide +kernel
theorem d_V_truth_44 : decode b_V_truth 44 = .ok (.invokevirtual 62, 3) := by decide +kernel
theorem d_V_truth_47 : decode b_V_truth 47 = .ok (.ireturn, 1) := by decide +kernel
theorem d_V_truth_48 : decode b_V_truth 48 = .ok (.iload_n 3, 1) := by decide +kernel
theorem d_V_truth_49 : decode b_V_truth 49 = .ok (.bipush 11, 2) := by decide +kernel
theorem d_V_truth_51 : decode b_V_truth 51 = .ok (.if_icmp .ne 43, 3) := by decide +kernel
theorem d_V_truth_54 : decode b_V_truth 54 = .ok (.aload_n 0, 1) := by decide +kernel
theorem d_V_truth_55 : decode b_V_truth 55 = .ok (.aload_n 0, 1) := by decide +kernel
theorem d_V_truth_56 : decode b_V_truth 56 = .ok (.getfield 19, 3) := by decide +kernel
theorem d_V_truth_59 : decode b_V_truth 59 = .ok (.getfield 65, 3) := by decide +kernel
theorem d_V_truth_62 : decode b_V_truth 62 = .ok (.iload_n 1, 1) := by decide +kernel
theorem d_V_truth_63 : decode b_V_truth 63 = .ok (.iaload, 1) := by decide +kernel
theorem d_V_truth_64 : decode b_V_truth 64 = .ok (.iload_n 2, 1) := by decide +kernel
theorem d_V_truth_65 : decode b_V_truth 65 = .ok (.iconst 1, 1) := by decide +kernel
theorem d_V_truth_66 : decode b_V_truth 66 = .ok (.iadd, 1) := by decide +kernel
theorem d_V_truth_67 : decode b_V_truth 67 = .ok (.invokevirtual 68, 3) := by decide +kernel
theorem d_V_truth_70 : decode b_V_truth 70 = .ok (.istore 4, 2) := by decide +kernel
theorem d_V_truth_72 : decode b_V_truth 72 = .ok (.iload 4, 2) := by decide +kernel
theorem d_V_truth_74 : decode b_V_truth 74 = .ok (.iconst 1, 1) := by decide +kernel
theorem d_V_truth_75 : decode b_V_truth 75 = .ok (.if_icmp .ne 7, 3) := by decide +kernel
theorem d_V_truth_78 : decode b_V_truth 78 = .ok (.iconst 0, 1) := by decide +kernel
theorem d_V_truth_79 : decode b_V_truth 79 = .ok (.goto 14, 3) := by decide +kernel
theorem d_V_truth_82 : decode b_V_truth 82 = .ok (.iload 4, 2) := by decide +kernel
theorem d_V_truth_84 : decode b_V_truth 84 = .ok (.ifCond .ne 7, 3) := by decide +kernel
theorem d_V_truth_87 : decode b_V_truth 87 = .ok (.iconst 1, 1) := by decide +kernel
theorem d_V_truth_88 : decode b_V_truth 88 = .ok (.goto 5, 3) := by decide +kernel
theorem d_V_truth_91 : decode b_V_truth 91 = .ok (.iload 4, 2) := by decide +kernel
theorem d_V_truth_93 : decode b_V_truth 93 = .ok (.ireturn, 1) := by decide +kernel
theorem d_V_truth_94 : decode b_V_truth 94 = .ok (.iload_n 3, 1) := by decide +kernel
theorem d_V_truth_95 : decode b_V_truth 95 = .ok (.bipush 12, 2) := by decide +kernel
theorem d_V_truth_97 : decode b_V_truth 97 = .ok (.if_icmp .ne 42, 3) := by decide +kernel
theorem d_V_truth_100 : decode b_V_truth 100 = .ok (.aload_n 0, 1) := by decide +kernel
theorem d_V_truth_101 : decode b_V_truth 101 = .ok (.aload_n 0, 1) := by decide +kernel
theorem d_V_truth_102 : decode b_V_truth 102 = .ok (.getfield 19, 3) := by decide +kernel
theorem d_V_truth_105 : decode b_V_truth 105 = .ok (.getfield 65, 3) := by decide +kernel
theorem d_V_truth_108 : decode b_V_truth 108 = .ok (.iload_n 1, 1) := by decide +kernel
theorem d_V_truth_109 : decode b_V_truth 109 = .ok (.iaload, 1) := by decide +kernel
theorem d_V_truth_110 : decode b_V_truth 110 = .ok (.iload_n 2, 1) := by decide +kernel
theorem d_V_truth_111 : decode b_V_truth 111 = .ok (.iconst 1, 1) := by decide +kernel
theorem d_V_truth_112 : decode b_V_truth 112 = .ok (.iadd, 1) := by decide +kernel
theorem d_V_truth_113 : decode b_V_truth 113 = .ok (.invokevirtual 71, 3) := by decide +kernel
theorem d_V_truth_116 : decode b_V_truth 116 = .ok (.istore 4, 2) := by decide +kernel
theorem d_V_truth_118 : decode b_V_truth 118 = .ok (.iload 4, 2) := by decide +kernel
theorem d_V_truth_120 : decode b_V_truth 120 = .ok (.ifCond .ge 8, 3) := by decide +kernel
theorem d_V_truth_123 : decode b_V_truth 123 = .ok (.iload 4, 2) := by decide +kernel
theorem d_V_truth_125 : decode b_V_truth 125 = .ok (.goto 13, 3) := by decide +kernel
theorem d_V_truth_128 : decode b_V_truth 128 = .ok (.iload 4, 2) := by decide +kernel
theorem d_V_truth_130 : decode b_V_truth 130 = .ok (.ifCond .ne 7, 3) := by decide +kernel
theorem d_V_truth_133 : decode b_V_truth 133 = .ok (.iconst 1, 1) := by decide +kernel
theorem d_V_truth_134 : decode b_V_truth 134 = .ok (.goto 4, 3) := by decide +kernel
theorem d_V_truth_137 : decode b_V_truth 137 = .ok (.iconst 0, 1) := by decide +kernel
theorem d_V_truth_138 : decode b_V_truth 138 = .ok (.ireturn, 1) := by decide +kernel
theorem d_V_truth_139 : decode b_V_truth 139 = .ok (.aload_n 0, 1) := by decide +kernel
theorem d_V_truth_140 : decode b_V_truth 140 = .ok (.iload_n 1, 1) := by decide +kernel
theorem d_V_truth_141 : decode b_V_truth 141 = .ok (.iload_n 2, 1) := by decide +kernel
theorem d_V_truth_142 : decode b_V_truth 142 = .ok (.invokevirtual 51, 3) := by decide +kernel
theorem d_V_truth_145 : decode b_V_truth 145 = .ok (.istore 4, 2) := by decide +kernel
theorem d_V_truth_147 : decode b_V_truth 147 = .ok (.iload 4, 2) := by decide +kernel
theorem d_V_truth_149 : decode b_V_truth 149 = .ok (.ifCond .ge 8, 3) := by decide +kernel
theorem d_V_truth_152 : decode b_V_truth 152 = .ok (.iload 4, 2) := by decide +kernel
theorem d_V_truth_154 : decode b_V_truth 154 = .ok (.goto 32, 3) := by decide +kernel
theorem d_V_truth_157 : decode b_V_truth 157 = .ok (.iload 4, 2) := by decide +kernel
theorem d_V_truth_159 : decode b_V_truth 159 = .ok (.ifCond .ne 7, 3) := by decide +kernel
theorem d_V_truth_162 : decode b_V_truth 162 = .ok (.iconst 2, 1) := by decide +kernel
theorem d_V_truth_163 : decode b_V_truth 163 = .ok (.goto 23, 3) := by decide +kernel
theorem d_V_truth_166 : decode b_V_truth 166 = .ok (.iload_n 3, 1) := by decide +kernel
theorem d_V_truth_167 : decode b_V_truth 167 = .ok (.aload_n 0, 1) := by decide +kernel
theorem d_V_truth_168 : decode b_V_truth 168 = .ok (.getfield 55, 3) := by decide +kernel
theorem d_V_truth_171 : decode b_V_truth 171 = .ok (.aload_n 0, 1) := by decide +kernel
theorem d_V_truth_172 : decode b_V_truth 172 = .ok (.getfield 27, 3) := by decide +kernel
theorem d_V_truth_175 : decode b_V_truth 175 = .ok (.invokestatic 74, 3) := by decide +kernel
theorem d_V_truth_178 : decode b_V_truth 178 = .ok (.ifCond .eq 7, 3) := by decide +kernel
theorem d_V_truth_181 : decode b_V_truth 181 = .ok (.iconst 1, 1) := by decide +kernel
theorem d_V_truth_182 : decode b_V_truth 182 = .ok (.goto 4, 3) := by decide +kernel
theorem d_V_truth_185 : decode b_V_truth 185 = .ok (.iconst 0, 1) := by decide +kernel
theorem d_V_truth_186 : decode b_V_truth 186 = .ok (.ireturn, 1) := by decide +kernel
theorem d_V_operands_0 : decode b_V_operands 0 = .ok (.aload_n 0, 1) := by decide +kernel
theorem d_V_operands_1 : decode b_V_operands 1 = .ok (.aload_n 0, 1) := by decide +kernel
theorem d_V_operands_2 : decode b_V_operands 2 = .ok (.getfield 19, 3) := by decide +kernel
theorem d_V_operands_5 : decode b_V_operands 5 = .ok (.getfield 65, 3) := by decide +kernel
theorem d_V_operands_8 : decode b_V_operands 8 = .ok (.iload_n 1, 1) := by decide +kernel
theorem d_V_operands_9 : decode b_V_operands 9 = .ok (.iaload, 1) := by decide +kernel
theorem d_V_operands_10 : decode b_V_operands 10 = .ok (.iload_n 2, 1) := by decide +kernel
theorem d_V_operands_11 : decode b_V_operands 11 = .ok (.iconst 1, 1) := by decide +kernel
theorem d_V_operands_12 : decode b_V_operands 12 = .ok (.iadd, 1) := by decide +kernel
theorem d_V_operands_13 : decode b_V_operands 13 = .ok (.invokevirtual 71, 3) := by decide +kernel
theorem d_V_operands_16 : decode b_V_operands 16 = .ok (.istore_n 3, 1) := by decide +kernel
theorem d_V_operands_17 : decode b_V_operands 17 = .ok (.aload_n 0, 1) := by decide +kernel
theorem d_V_operands_18 : decode b_V_operands 18 = .ok (.getfield 27, 3) := by decide +kernel
theorem d_V_operands_21 : decode b_V_operands 21 = .ok (.lstore 4, 2) := by decide +kernel
theorem d_V_operands_23 : decode b_V_operands 23 = .ok (.iload_n 3, 1) := by decide +kernel
theorem d_V_operands_24 : decode b_V_operands 24 = .ok (.ifCond .ge 5, 3) := by decide +kernel
theorem d_V_operands_27 : decode b_V_operands 27 = .ok (.iload_n 3, 1) := by decide +kernel
theorem d_V_operands_28 : decode b_V_operands 28 = .ok (.ireturn, 1) := by decide +kernel
theorem d_V_operands_29 : decode b_V_operands 29 = .ok (.aload_n 0, 1) := by decide +kernel
theorem d_V_operands_30 : decode b_V_operands 30 = .ok (.aload_n 0, 1) := by decide +kernel
theorem d_V_operands_31 : decode b_V_operands 31 = .ok (.getfield 19, 3) := by decide +kernel
theorem d_V_operands_34 : decode b_V_operands 34 = .ok (.getfield 104, 3) := by decide +kernel
theorem d_V_operands_37 : decode b_V_operands 37 = .ok (.iload_n 1, 1) := by decide +kernel
theorem d_V_operands_38 : decode b_V_operands 38 = .ok (.iaload, 1) := by decide +kernel
theorem d_V_operands_39 : decode b_V_operands 39 = .ok (.iload_n 2, 1) := by decide +kernel
theorem d_V_operands_40 : decode b_V_operands 40 = .ok (.iconst 1, 1) := by decide +kernel
theorem d_V_operands_41 : decode b_V_operands 41 = .ok (.iadd, 1) := by decide +kernel
theorem d_V_operands_42 : decode b_V_operands 42 = .ok (.invokevirtual 71, 3) := by decide +kernel
theorem d_V_operands_45 : decode b_V_operands 45 = .ok (.istore 6, 2) := by decide +kernel
theorem d_V_operands_47 : decode b_V_operands 47 = .ok (.iload 6, 2) := by decide +kernel
theorem d_V_operands_49 : decode b_V_operands 49 = .ok (.ifCond .ge 6, 3) := by decide +kernel
theorem d_V_operands_52 : decode b_V_operands 52 = .ok (.iload 6, 2) := by decide +kernel
theorem d_V_operands_54 : decode b_V_operands 54 = .ok (.ireturn, 1) := by decide +kernel
theorem d_V_operands_55 : decode b_V_operands 55 = .ok (.iload_n 3, 1) := by decide +kernel
theorem d_V_operands_56 : decode b_V_operands 56 = .ok (.ifCond .eq 8, 3) := by decide +kernel
theorem d_V_operands_59 : decode b_V_operands 59 = .ok (.iload 6, 2) := by decide +kernel
theorem d_V_operands_61 : decode b_V_operands 61 = .ok (.ifCond .ne 10, 3) := by decide +kernel
theorem d_V_operands_64 : decode b_V_operands 64 = .ok (.aload_n 0, 1) := by decide +kernel
theorem d_V_operands_65 : decode b_V_operands 65 = .ok (.lconst 0, 1) := by decide +kernel
theorem d_V_operands_66 : decode b_V_operands 66 = .ok (.putfield 27, 3) := by decide +kernel
theorem d_V_operands_69 : decode b_V_operands 69 = .ok (.iconst 0, 1) := by decide +kernel
theorem d_V_operands_70 : decode b_V_operands 70 = .ok (.ireturn, 1) := by decide +kernel
theorem d_V_operands_71 : decode b_V_operands 71 = .ok (.aload_n 0, 1) := by decide +kernel
theorem d_V_operands_72 : decode b_V_operands 72 = .ok (.lload 4, 2) := by decide +kernel
theorem d_V_operands_74 : decode b_V_operands 74 = .ok (.putfield 55, 3) := by decide +kernel
theorem d_V_operands_77 : decode b_V_operands 77 = .ok (.iconst 1, 1) := by decide +kernel
theorem d_V_operands_78 : decode b_V_operands 78 = .ok (.ireturn, 1) := by decide +kernel
theorem d_V_junction_0 : decode b_V_junction 0 = .ok (.aload_n 0, 1) := by decide +kernel
theorem d_V_junction_1 : decode b_V_junction 1 = .ok (.getfield 19, 3) := by decide +kernel
theorem d_V_junction_4 : decode b_V_junction 4 = .ok (.getfield 37, 3) := by decide +kernel
theorem d_V_junction_7 : decode b_V_junction 7 = .ok (.iload_n 1, 1) := by decide +kernel
theorem d_V_junction_8 : decode b_V_junction 8 = .ok (.iaload, 1) := by decide +kernel
theorem d_V_junction_9 : decode b_V_junction 9 = .ok (.bipush 9, 2) := by decide +kernel
theorem d_V_junction_11 : decode b_V_junction 11 = .ok (.if_icmp .ne 7, 3) := by decide +kernel
theorem d_V_junction_14 : decode b_V_junction 14 = .ok (.iconst 0, 1) := by decide +kernel
theorem d_V_junction_15 : decode b_V_junction 15 = .ok (.goto 4, 3) := by decide +kernel
theorem d_V_junction_18 : decode b_V_junction 18 = .ok (.iconst 1, 1) := by decide +kernel
theorem d_V_junction_19 : decode b_V_junction 19 = .ok (.istore_n 3, 1) := by decide +kernel
theorem d_V_junction_20 : decode b_V_junction 20 = .ok (.aload_n 0, 1) := by decide +kernel
theorem d_V_junction_21 : decode b_V_junction 21 = .ok (.aload_n 0, 1) := by decide +kernel
theorem d_V_junction_22 : decode b_V_junction 22 = .ok (.getfield 19, 3) := by decide +kernel
theorem d_V_junction_25 : decode b_V_junction 25 = .ok (.getfield 65, 3) := by decide +kernel
theorem d_V_junction_28 : decode b_V_junction 28 = .ok (.iload_n 1, 1) := by decide +kernel
theorem d_V_junction_29 : decode b_V_junction 29 = .ok (.iaload, 1) := by decide +kernel
theorem d_V_junction_30 : decode b_V_junction 30 = .ok (.iload_n 2, 1) := by decide +kernel
theorem d_V_junction_31 : decode b_V_junction 31 = .ok (.iconst 1, 1) := by decide +kernel
theorem d_V_junction_32 : decode b_V_junction 32 = .ok (.iadd, 1) := by decide +kernel
theorem d_V_junction_33 : decode b_V_junction 33 = .ok (.invokevirtual 68, 3) := by decide +kernel
theorem d_V_junction_36 : decode b_V_junction 36 = .ok (.istore 4, 2) := by decide +kernel
theorem d_V_junction_38 : decode b_V_junction 38 = .ok (.iload 4, 2) := by decide +kernel
theorem d_V_junction_40 : decode b_V_junction 40 = .ok (.ifCond .lt 9, 3) := by decide +kernel
theorem d_V_junction_43 : decode b_V_junction 43 = .ok (.iload 4, 2) := by decide +kernel
theorem d_V_junction_45 : decode b_V_junction 45 = .ok (.iload_n 3, 1) := by decide +kernel
theorem d_V_junction_46 : decode b_V_junction 46 = .ok (.if_icmp .ne 6, 3) := by decide +kernel
theorem d_V_junction_49 : decode b_V_junction 49 = .ok (.iload 4, 2) := by decide +kernel
theorem d_V_junction_51 : decode b_V_junction 51 = .ok (.ireturn, 1) := by decide +kernel
theorem d_V_junction_52 : decode b_V_junction 52 = .ok (.aload_n 0, 1) := by decide +kernel
theorem d_V_junction_53 : decode b_V_junction 53 = .ok (.aload_n 0, 1) := by decide +kernel
theorem d_V_junction_54 : decode b_V_junction 54 = .ok (.getfield 19, 3) := by decide +kernel
theorem d_V_junction_57 : decode b_V_junction 57 = .ok (.getfield 104, 3) := by decide +kernel
theorem d_V_junction_60 : decode b_V_junction 60 = .ok (.iload_n 1, 1) := by decide +kernel
theorem d_V_junction_61 : decode b_V_junction 61 = .ok (.iaload, 1) := by decide +kernel
theorem d_V_junction_62 : decode b_V_junction 62 = .ok (.iload_n 2, 1) := by decide +kernel
theorem d_V_junction_63 : decode b_V_junction 63 = .ok (.iconst 1, 1) := by decide +kernel
theorem d_V_junction_64 : decode b_V_junction 64 = .ok (.iadd, 1) := by decide +kernel
theorem d_V_junction_65 : decode b_V_junction 65 = .ok (.invokevirtual 68, 3) := by decide +kernel
theorem d_V_junction_68 : decode b_V_junction 68 = .ok (.istore 5, 2) := by decide +kernel
theorem d_V_junction_70 : decode b_V_junction 70 = .ok (.iload 5, 2) := by decide +kernel
theorem d_V_junction_72 : decode b_V_junction 72 = .ok (.ifCond .lt 9, 3) := by decide +kernel
theorem d_V_junction_75 : decode b_V_junction 75 = .ok (.iload 5, 2) := by decide +kernel
theorem d_V_junction_77 : decode b_V_junction 77 = .ok (.iload_n 3, 1) := by decide +kernel
theorem d_V_junction_78 : decode b_V_junction 78 = .ok (.if_icmp .ne 6, 3) := by decide +kernel
theorem d_V_junction_81 : decode b_V_junction 81 = .ok (.iload 5, 2) := by decide +kernel
theorem d_V_junction_83 : decode b_V_junction 83 = .ok (.ireturn, 1) := by decide +kernel
theorem d_V_junction_84 : decode b_V_junction 84 = .ok (.iload 4, 2) := by decide +kernel
theorem d_V_junction_86 : decode b_V_junction 86 = .ok (.iconst 2, 1) := by decide +kernel
theorem d_V_junction_87 : decode b_V_junction 87 = .ok (.if_icmp .ne 7, 3) := by decide +kernel
theorem d_V_junction_90 : decode b_V_junction 90 = .ok (.iconst 2, 1) := by decide +kernel
theorem d_V_junction_91 : decode b_V_junction 91 = .ok (.goto 5, 3) := by decide +kernel
theorem d_V_junction_94 : decode b_V_junction 94 = .ok (.iload 5, 2) := by decide +kernel
theorem d_V_junction_96 : decode b_V_junction 96 = .ok (.ireturn, 1) := by decide +kernel
theorem d_A_setItem_0 : decode b_A_setItem 0 = .ok (.aload_n 0, 1) := by decide +kernel
theorem d_A_setItem_1 : decode b_A_setItem 1 = .ok (.getfield 9, 3) := by decide +kernel
theorem d_A_setItem_4 : decode b_A_setItem 4 = .ok (.aload_n 0, 1) := by decide +kernel
theorem d_A_setItem_5 : decode b_A_setItem 5 = .ok (.getfield 29, 3) := by decide +kernel
theorem d_A_setItem_8 : decode b_A_setItem 8 = .ok (.bipush 6, 2) := by decide +kernel
theorem d_A_setItem_10 : decode b_A_setItem 10 = .ok (.imul, 1) := by decide +kernel
theorem d_A_setItem_11 : decode b_A_setItem 11 = .ok (.iload_n 1, 1) := by decide +kernel
theorem d_A_setItem_12 : decode b_A_setItem 12 = .ok (.iadd, 1) := by decide +kernel
theorem d_A_setItem_13 : decode b_A_setItem 13 = .ok (.iload_n 2, 1) := by decide +kernel
theorem d_A_setItem_14 : decode b_A_setItem 14 = .ok (.ifCond .ne 7, 3) := by decide +kernel
theorem d_A_setItem_17 : decode b_A_setItem 17 = .ok (.lconst 0, 1) := by decide +kernel
theorem d_A_setItem_18 : decode b_A_setItem 18 = .ok (.goto 4, 3) := by decide +kernel
theorem d_A_setItem_21 : decode b_A_setItem 21 = .ok (.lload_n 3, 1) := by decide +kernel
theorem d_A_setItem_22 : decode b_A_setItem 22 = .ok (.lastore, 1) := by decide +kernel
theorem d_A_setItem_23 : decode b_A_setItem 23 = .ok (.iload_n 2, 1) := by decide +kernel
theorem d_A_setItem_24 : decode b_A_setItem 24 = .ok (.ifCond .ne 18, 3) := by decide +kernel
theorem d_A_setItem_27 : decode b_A_setItem 27 = .ok (.aload_n 0, 1) := by decide +kernel
theorem d_A_setItem_28 : decode b_A_setItem 28 = .ok (.getfield 15, 3) := by decide +kernel
theorem d_A_setItem_31 : decode b_A_setItem 31 = .ok (.aload_n 0, 1) := by decide +kernel
theorem d_A_setItem_32 : decode b_A_setItem 32 = .ok (.getfield 29, 3) := by decide +kernel
theorem d_A_setItem_35 : decode b_A_setItem 35 = .ok (.dup2, 1) := by decide +kernel
theorem d_A_setItem_36 : decode b_A_setItem 36 = .ok (.iaload, 1) := by decide +kernel
theorem d_A_setItem_37 : decode b_A_setItem 37 = .ok (.iconst 1, 1) := by decide +kernel
theorem d_A_setItem_38 : decode b_A_setItem 38 = .ok (.iload_n 1, 1) := by decide +kernel
theorem d_A_setItem_39 : decode b_A_setItem 39 = .ok (.ishl, 1) := by decide +kernel
theorem d_A_setItem_40 : decode b_A_setItem 40 = .ok (.ior, 1) := by decide +kernel
theorem d_A_setItem_41 : decode b_A_setItem 41 = .ok (.iastore, 1) := by decide +kernel
theorem d_A_setItem_42 : decode b_A_setItem 42 = .ok (.return_, 1) := by decide +kernel
theorem d_R_giveRow_0 : decode b_R_giveRow 0 = .ok (.aload_n 0, 1) := by decide +kernel
theorem d_R_giveRow_1 : decode b_R_giveRow 1 = .ok (.getfield 23, 3) := by decide +kernel
theorem d_R_giveRow_4 : decode b_R_giveRow 4 = .ok (.invokevirtual 128, 3) := by decide +kernel
theorem d_R_giveRow_7 : decode b_R_giveRow 7 = .ok (.ifCond .eq 6, 3) := by decide +kernel
theorem d_R_giveRow_10 : decode b_R_giveRow 10 = .ok (.bipush (-15), 2) := by decide +kernel
theorem d_R_giveRow_12 : decode b_R_giveRow 12 = .ok (.ireturn, 1) := by decide +kernel
theorem d_R_giveRow_13 : decode b_R_giveRow 13 = .ok (.aload_n 0, 1) := by decide +kernel
theorem d_R_giveRow_14 : decode b_R_giveRow 14 = .ok (.getfield 23, 3) := by decide +kernel
theorem d_R_giveRow_17 : decode b_R_giveRow 17 = .ok (.invokevirtual 133, 3) := by decide +kernel
theorem d_R_giveRow_20 : decode b_R_giveRow 20 = .ok (.iconst 0, 1) := by decide +kernel
theorem d_R_giveRow_21 : decode b_R_giveRow 21 = .ok (.istore_n 1, 1) := by decide +kernel
theorem d_R_giveRow_22 : decode b_R_giveRow 22 = .ok (.iload_n 1, 1) := by decide +kernel
theorem d_R_giveRow_23 : decode b_R_giveRow 23 = .ok (.aload_n 0, 1) := by decide +kernel
theorem d_R_giveRow_24 : decode b_R_giveRow 24 = .ok (.getfield 19, 3) := by decide +kernel
theorem d_R_giveRow_27 : decode b_R_giveRow 27 = .ok (.getfield 136, 3) := by decide +kernel
theorem d_R_giveRow_30 : decode b_R_giveRow 30 = .ok (.if_icmp .ge 49, 3) := by decide +kernel
theorem d_R_giveRow_33 : decode b_R_giveRow 33 = .ok (.aload_n 0, 1) := by decide +kernel
theorem d_R_giveRow_34 : decode b_R_giveRow 34 = .ok (.getfield 39, 3) := by decide +kernel
theorem d_R_giveRow_37 : decode b_R_giveRow 37 = .ok (.aload_n 0, 1) := by decide +kernel
theorem d_R_giveRow_38 : decode b_R_giveRow 38 = .ok (.getfield 19, 3) := by decide +kernel
theorem d_R_giveRow_41 : decode b_R_giveRow 41 = .ok (.getfield 139, 3) := by decide +kernel
theorem d_R_giveRow_44 : decode b_R_giveRow 44 = .ok (.iload_n 1, 1) := by decide +kernel
theorem d_R_giveRow_45 : decode b_R_giveRow 45 = .ok (.iaload, 1) := by decide +kernel
theorem d_R_giveRow_46 : decode b_R_giveRow 46 = .ok (.iconst 0, 1) := by decide +kernel
theorem d_R_giveRow_47 : decode b_R_giveRow 47 = .ok (.invokevirtual 142, 3) := by decide +kernel
theorem d_R_giveRow_50 : decode b_R_giveRow 50 = .ok (.istore_n 2, 1) := by decide +kernel
theorem d_R_giveRow_51 : decode b_R_giveRow 51 = .ok (.iload_n 2, 1) := by decide +kernel
theorem d_R_giveRow_52 : decode b_R_giveRow 52 = .ok (.ifCond .ge 5, 3) := by decide +kernel
theorem d_R_giveRow_55 : decode b_R_giveRow 55 = .ok (.iload_n 2, 1) := by decide +kernel
theorem d_R_giveRow_56 : decode b_R_giveRow 56 = .ok (.ireturn, 1) := by decide +kernel
theorem d_R_giveRow_57 : decode b_R_giveRow 57 = .ok (.aload_n 0, 1) := by decide +kernel
theorem d_R_giveRow_58 : decode b_R_giveRow 58 = .ok (.getfield 23, 3) := by decide +kernel
theorem d_R_giveRow_61 : decode b_R_giveRow 61 = .ok (.iload_n 1, 1) := by decide +kernel
theorem d_R_giveRow_62 : decode b_R_giveRow 62 = .ok (.iload_n 2, 1) := by decide +kernel
theorem d_R_giveRow_63 : decode b_R_giveRow 63 = .ok (.aload_n 0, 1) := by decide +kernel
theorem d_R_giveRow_64 : decode b_R_giveRow 64 = .ok (.getfield 39, 3) := by decide +kernel
theorem d_R_giveRow_67 : decode b_R_giveRow 67 = .ok (.getfield 145, 3) := by decide +kernel
theorem d_R_giveRow_70 : decode b_R_giveRow 70 = .ok (.invokevirtual 149, 3) := by decide +kernel
theorem d_R_giveRow_73 : decode b_R_giveRow 73 = .ok (.iinc 1 1, 3) := by decide +kernel
theorem d_R_giveRow_76 : decode b_R_giveRow 76 = .ok (.goto (-54), 3) := by decide +kernel
theorem d_R_giveRow_79 : decode b_R_giveRow 79 = .ok (.aload_n 0, 1) := by decide +kernel
theorem d_R_giveRow_80 : decode b_R_giveRow 80 = .ok (.getfield 23, 3) := by decide +kernel
theorem d_R_giveRow_83 : decode b_R_giveRow 83 = .ok (.invokevirtual 153, 3) := by decide +kernel
theorem d_R_giveRow_86 : decode b_R_giveRow 86 = .ok (.iconst 0, 1) := by decide +kernel
theorem d_R_giveRow_87 : decode b_R_giveRow 87 = .ok (.ireturn, 1) := by decide +kernel
theorem d_R_giveGroups_0 : decode b_R_giveGroups 0 = .ok (.aload_n 0, 1) := by decide +kernel
theorem d_R_giveGroups_1 : decode b_R_giveGroups 1 = .ok (.getfield 39, 3) := by decide +kernel
theorem d_R_giveGroups_4 : decode b_R_giveGroups 4 = .ok (.getfield 61, 3) := by decide +kernel
theorem d_R_giveGroups_7 : decode b_R_giveGroups 7 = .ok (.astore_n 1, 1) := by decide +kernel
theorem d_R_giveGroups_8 : decode b_R_giveGroups 8 = .ok (.aload_n 0, 1) := by decide +kernel
theorem d_R_giveGroups_9 : decode b_R_giveGroups 9 = .ok (.getfield 51, 3) := by decide +kernel
theorem d_R_giveGroups_12 : decode b_R_giveGroups 12 = .ok (.ifCond .eq 7, 3) := by decide +kernel
theorem d_R_giveGroups_15 : decode b_R_giveGroups 15 = .ok (.aload_n 1, 1) := by decide +kernel
theorem d_R_giveGroups_16 : decode b_R_giveGroups 16 = .ok (.ifnonnull 5, 3) := by decide +kernel
theorem d_R_giveGroups_19 : decode b_R_giveGroups 19 = .ok (.iconst 0, 1) := by decide +kernel
theorem d_R_giveGroups_20 : decode b_R_giveGroups 20 = .ok (.ireturn, 1) := by decide +kernel
theorem d_R_giveGroups_21 : decode b_R_giveGroups 21 = .ok (.iconst 0, 1) := by decide +kernel
theorem d_R_giveGroups_22 : decode b_R_giveGroups 22 = .ok (.istore_n 2, 1) := by decide +kernel
theorem d_R_giveGroups_23 : decode b_R_giveGroups 23 = .ok (.iload_n 2, 1) := by decide +kernel
theorem d_R_giveGroups_24 : decode b_R_giveGroups 24 = .ok (.aload_n 1, 1) := by decide +kernel
theorem d_R_giveGroups_25 : decode b_R_giveGroups 25 = .ok (.getfield 111, 3) := by decide +kernel
theorem d_R_giveGroups_28 : decode b_R_giveGroups 28 = .ok (.if_icmp .ge 83, 3) := by decide +kernel
theorem d_R_giveGroups_31 : decode b_R_giveGroups 31 = .ok (.aload_n 1, 1) := by decide +kernel
theorem d_R_giveGroups_32 : decode b_R_giveGroups 32 = .ok (.iload_n 2, 1) := by decide +kernel
theorem d_R_giveGroups_33 : decode b_R_giveGroups 33 = .ok (.aload_n 0, 1) := by decide +kernel
theorem d_R_giveGroups_34 : decode b_R_giveGroups 34 = .ok (.getfield 39, 3) := by decide +kernel
theorem d_R_giveGroups_37 : decode b_R_giveGroups 37 = .ok (.getfield 94, 3) := by decide +kernel
theorem d_R_giveGroups_40 : decode b_R_giveGroups 40 = .ok (.invokevirtual 112, 3) := by decide +kernel
theorem d_R_giveGroups_43 : decode b_R_giveGroups 43 = .ok (.aload_n 0, 1) := by decide +kernel
theorem d_R_giveGroups_44 : decode b_R_giveGroups 44 = .ok (.getfield 19, 3) := by decide +kernel
theorem d_R_giveGroups_47 : decode b_R_giveGroups 47 = .ok (.getfield 116, 3) := by decide +kernel
theorem d_R_giveGroups_50 : decode b_R_giveGroups 50 = .ok (.iconst (-1), 1) := by decide +kernel
theorem d_R_giveGroups_51 : decode b_R_giveGroups 51 = .ok (.if_icmp .ne 7, 3) := by decide +kernel
theorem d_R_giveGroups_54 : decode b_R_giveGroups 54 = .ok (.iconst 1, 1) := by decide +kernel
theorem d_R_giveGroups_55 : decode b_R_giveGroups 55 = .ok (.goto 18, 3) := by decide +kernel
theorem d_R_giveGroups_58 : decode b_R_giveGroups 58 = .ok (.aload_n 0, 1) := by decide +kernel
theorem d_R_giveGroups_59 : decode b_R_giveGroups 59 = .ok (.getfield 39, 3) := by decide +kernel
theorem d_R_giveGroups_62 : decode b_R_giveGroups 62 = .ok (.aload_n 0, 1) := by decide +kernel
theorem d_R_giveGroups_63 : decode b_R_giveGroups 63 = .ok (.getfield 19, 3) := by decide +kernel
theorem d_R_giveGroups_66 : decode b_R_giveGroups 66 = .ok (.getfield 116, 3) := by decide +kernel
theorem d_R_giveGroups_69 : decode b_R_giveGroups 69 = .ok (.iconst 0, 1) := by decide +kernel
theorem d_R_giveGroups_70 : decode b_R_giveGroups 70 = .ok (.invokevirtual 103, 3) := by decide +kernel
theorem d_R_giveGroups_73 : decode b_R_giveGroups 73 = .ok (.istore_n 3, 1) := by decide +kernel
theorem d_R_giveGroups_74 : decode b_R_giveGroups 74 = .ok (.iload_n 3, 1) := by decide +kernel
theorem d_R_giveGroups_75 : decode b_R_giveGroups 75 = .ok (.iconst 1, 1) := by decide +kernel
theorem d_R_giveGroups_76 : decode b_R_giveGroups 76 = .ok (.if_icmp .ne 10, 3) := by decide +kernel
theorem d_R_giveGroups_79 : decode b_R_giveGroups 79 = .ok (.aload_n 0, 1) := by decide +kernel
theorem d_R_giveGroups_80 : decode b_R_giveGroups 80 = .ok (.invokevirtual 119, 3) := by decide +kernel
theorem d_R_giveGroups_83 : decode b_R_giveGroups 83 = .ok (.goto 12, 3) := by decide +kernel
theorem d_R_giveGroups_86 : decode b_R_giveGroups 86 = .ok (.iload_n 3, 1) := by decide +kernel
theorem d_R_giveGroups_87 : decode b_R_giveGroups 87 = .ok (.ifCond .ge 7, 3) := by decide +kernel
theorem d_R_giveGroups_90 : decode b_R_giveGroups 90 = .ok (.iload_n 3, 1) := by decide +kernel
theorem d_R_giveGroups_91 : decode b_R_giveGroups 91 = .ok (.goto 4, 3) := by decide +kernel
theorem d_R_giveGroups_94 : decode b_R_giveGroups 94 = .ok (.iconst 0, 1) := by decide +kernel
theorem d_R_giveGroups_95 : decode b_R_giveGroups 95 = .ok (.istore 4, 2) := by decide +kernel
theorem d_R_giveGroups_97 : decode b_R_giveGroups 97 = .ok (.iload 4, 2) := by decide +kernel
theorem d_R_giveGroups_99 : decode b_R_giveGroups 99 = .ok (.ifCond .eq 6, 3) := by decide +kernel
theorem d_R_giveGroups_102 : decode b_R_giveGroups 102 = .ok (.iload 4, 2) := by decide +kernel
theorem d_R_giveGroups_104 : decode b_R_giveGroups 104 = .ok (.ireturn, 1) := by decide +kernel
theorem d_R_giveGroups_105 : decode b_R_giveGroups 105 = .ok (.iinc 2 1, 3) := by decide +kernel
theorem d_R_giveGroups_108 : decode b_R_giveGroups 108 = .ok (.goto (-85), 3) := by decide +kernel
theorem d_R_giveGroups_111 : decode b_R_giveGroups 111 = .ok (.iconst 0, 1) := by decide +kernel
theorem d_R_giveGroups_112 : decode b_R_giveGroups 112 = .ok (.ireturn, 1) := by decide +kernel
theorem d_G_isFull_0 : decode b_G_isFull 0 = .ok (.aload_n 0, 1) := by decide +kernel
theorem d_G_isFull_1 : decode b_G_isFull 1 = .ok (.getfield 47, 3) := by decide +kernel
theorem d_G_isFull_4 : decode b_G_isFull 4 = .ok (.sipush 512, 3) := by decide +kernel
theorem d_G_isFull_7 : decode b_G_isFull 7 = .ok (.if_icmp .ge 13, 3) := by decide +kernel
theorem d_G_isFull_10 : decode b_G_isFull 10 = .ok (.aload_n 0, 1) := by decide +kernel
theorem d_G_isFull_11 : decode b_G_isFull 11 = .ok (.getfield 51, 3) := by decide +kernel
theorem d_G_isFull_14 : decode b_G_isFull 14 = .ok (.sipush 512, 3) := by decide +kernel
theorem d_G_isFull_17 : decode b_G_isFull 17 = .ok (.if_icmp .lt 7, 3) := by decide +kernel
theorem d_G_isFull_20 : decode b_G_isFull 20 = .ok (.iconst 1, 1) := by decide +kernel
theorem d_G_isFull_21 : decode b_G_isFull 21 = .ok (.goto 4, 3) := by decide +kernel
theorem d_G_isFull_24 : decode b_G_isFull 24 = .ok (.iconst 0, 1) := by decide +kernel
theorem d_G_isFull_25 : decode b_G_isFull 25 = .ok (.ireturn, 1) := by decide +kernel
theorem d_G_pack_0 : decode b_G_pack 0 = .ok (.iconst 0, 1) := by decide +kernel
theorem d_G_pack_1 : decode b_G_pack 1 = .ok (.istore_n 1, 1) := by decide +kernel
theorem d_G_pack_2 : decode b_G_pack 2 = .ok (.iconst 0, 1) := by decide +kernel
theorem d_G_pack_3 : decode b_G_pack 3 = .ok (.istore_n 2, 1) := by decide +kernel
theorem d_G_pack_4 : decode b_G_pack 4 = .ok (.iload_n 2, 1) := by decide +kernel
theorem d_G_pack_5 : decode b_G_pack 5 = .ok (.aload_n 0, 1) := by decide +kernel
theorem d_G_pack_6 : decode b_G_pack 6 = .ok (.arraylength, 1) := by decide +kernel
theorem d_G_pack_7 : decode b_G_pack 7 = .ok (.if_icmp .ge 21, 3) := by decide +kernel
theorem d_G_pack_10 : decode b_G_pack 10 = .ok (.iload_n 1, 1) := by decide +kernel
theorem d_G_pack_11 : decode b_G_pack 11 = .ok (.aload_n 0, 1) := by decide +kernel
theorem d_G_pack_12 : decode b_G_pack 12 = .ok (.iload_n 2, 1) := by decide +kernel
theorem d_G_pack_13 : decode b_G_pack 13 = .ok (.iaload, 1) := by decide +kernel
theorem d_G_pack_14 : decode b_G_pack 14 = .ok (.iconst 1, 1) := by decide +kernel
theorem d_G_pack_15 : decode b_G_pack 15 = .ok (.iadd, 1) := by decide +kernel
theorem d_G_pack_16 : decode b_G_pack 16 = .ok (.iconst 4, 1) := by decide +kernel
theorem d_G_pack_17 : decode b_G_pack 17 = .ok (.iload_n 2, 1) := by decide +kernel
theorem d_G_pack_18 : decode b_G_pack 18 = .ok (.imul, 1) := by decide +kernel
theorem d_G_pack_19 : decode b_G_pack 19 = .ok (.ishl, 1) := by decide +kernel
theorem d_G_pack_20 : decode b_G_pack 20 = .ok (.ior, 1) := by decide +kernel
theorem d_G_pack_21 : decode b_G_pack 21 = .ok (.istore_n 1, 1) := by decide +kernel
theorem d_G_pack_22 : decode b_G_pack 22 = .ok (.iinc 2 1, 3) := by decide +kernel
theorem d_G_pack_25 : decode b_G_pack 25 = .ok (.goto (-21), 3) := by decide +kernel
theorem d_G_pack_28 : decode b_G_pack 28 = .ok (.iload_n 1, 1) := by decide +kernel
theorem d_G_pack_29 : decode b_G_pack 29 = .ok (.ireturn, 1) := by decide +kernel
theorem d_G_startRow_0 : decode b_G_startRow 0 = .ok (.aload_n 0, 1) := by decide +kernel
theorem d_G_startRow_1 : decode b_G_startRow 1 = .ok (.getfield 28, 3) := by decide +kernel
theorem d_G_startRow_4 : decode b_G_startRow 4 = .ok (.aload_n 0, 1) := by decide +kernel
theorem d_G_startRow_5 : decode b_G_startRow 5 = .ok (.getfield 47, 3) := by decide +kernel
theorem d_G_startRow_8 : decode b_G_startRow 8 = .ok (.aload_n 1, 1) := by decide +kernel
theorem d_G_startRow_9 : decode b_G_startRow 9 = .ok (.invokestatic 58, 3) := by decide +kernel
theorem d_G_startRow_12 : decode b_G_startRow 12 = .ok (.iastore, 1) := by decide +kernel
theorem d_G_startRow_13 : decode b_G_startRow 13 = .ok (.aload_n 0, 1) := by decide +kernel
theorem d_G_startRow_14 : decode b_G_startRow 14 = .ok (.getfield 34, 3) := by decide +kernel
theorem d_G_startRow_17 : decode b_G_startRow 17 = .ok (.aload_n 0, 1) := by decide +kernel
theorem d_G_startRow_18 : decode b_G_startRow 18 = .ok (.getfield 47, 3) := by decide +kernel
theorem d_G_startRow_21 : decode b_G_startRow 21 = .ok (.iconst 0, 1) := by decide +kernel
theorem d_G_startRow_22 : decode b_G_startRow 22 = .ok (.iastore, 1) := by decide +kernel
theorem d_G_startRow_23 : decode b_G_startRow 23 = .ok (.aload_n 0, 1) := by decide +kernel
theorem d_G_startRow_24 : decode b_G_startRow 24 = .ok (.getfield 15, 3) := by decide +kernel
theorem d_G_startRow_27 : decode b_G_startRow 27 = .ok (.aload_n 0, 1) := by decide +kernel
theorem d_G_startRow_28 : decode b_G_startRow 28 = .ok (.getfield 51, 3) := by decide +kernel
theorem d_G_startRow_31 : decode b_G_startRow 31 = .ok (.iconst 0, 1) := by decide +kernel
theorem d_G_startRow_32 : decode b_G_startRow 32 = .ok (.iastore, 1) := by decide +kernel
theorem d_G_startRow_33 : decode b_G_startRow 33 = .ok (.return_, 1) := by decide +kernel
theorem d_G_groupOfKeys_0 : decode b_G_groupOfKeys 0 = .ok (.iconst 0, 1) := by decide +kernel
theorem d_G_groupOfKeys_1 : decode b_G_groupOfKeys 1 = .ok (.istore_n 2, 1) := by decide +kernel
theorem d_G_groupOfKeys_2 : decode b_G_groupOfKeys 2 = .ok (.iload_n 2, 1) := by decide +kernel
theorem d_G_groupOfKeys_3 : decode b_G_groupOfKeys 3 = .ok (.aload_n 0, 1) := by decide +kernel
theorem d_G_groupOfKeys_4 : decode b_G_groupOfKeys 4 = .ok (.getfield 51, 3) := by decide +kernel
theorem d_G_groupOfKeys_7 : decode b_G_groupOfKeys 7 = .ok (.if_icmp .ge 93, 3) := by decide +kernel
theorem d_G_groupOfKeys_10 : decode b_G_groupOfKeys 10 = .ok (.aload_n 0, 1) := by decide +kernel
theorem d_G_groupOfKeys_11 : decode b_G_groupOfKeys 11 = .ok (.getfield 15, 3) := by decide +kernel
theorem d_G_groupOfKeys_14 : decode b_G_groupOfKeys 14 = .ok (.iload_n 2, 1) := by decide +kernel
theorem d_G_groupOfKeys_15 : decode b_G_groupOfKeys 15 = .ok (.iaload, 1) := by decide +kernel
theorem d_G_groupOfKeys_16 : decode b_G_groupOfKeys 16 = .ok (.aload_n 0, 1) := by decide +kernel
theorem d_G_groupOfKeys_17 : decode b_G_groupOfKeys 17 = .ok (.getfield 15, 3) := by decide +kernel
theorem d_G_groupOfKeys_20 : decode b_G_groupOfKeys 20 = .ok (.aload_n 0, 1) := by decide +kernel
theorem d_G_groupOfKeys_21 : decode b_G_groupOfKeys 21 = .ok (.getfield 51, 3) := by decide +kernel
theorem d_G_groupOfKeys_24 : decode b_G_groupOfKeys 24 = .ok (.iaload, 1) := by decide +kernel
theorem d_G_groupOfKeys_25 : decode b_G_groupOfKeys 25 = .ok (.if_icmp .ne 7, 3) := by decide +kernel
theorem d_G_groupOfKeys_28 : decode b_G_groupOfKeys 28 = .ok (.iconst 1, 1) := by decide +kernel
theorem d_G_groupOfKeys_29 : decode b_G_groupOfKeys 29 = .ok (.goto 4, 3) := by decide +kernel
theorem d_G_groupOfKeys_32 : decode b_G_groupOfKeys 32 = .ok (.iconst 0, 1) := by decide +kernel
theorem d_G_groupOfKeys_33 : decode b_G_groupOfKeys 33 = .ok (.istore_n 3, 1) := by decide +kernel
theorem d_G_groupOfKeys_34 : decode b_G_groupOfKeys 34 = .ok (.iconst 0, 1) := by decide +kernel
theorem d_G_groupOfKeys_35 : decode b_G_groupOfKeys 35 = .ok (.istore 4, 2) := by decide +kernel
theorem d_G_groupOfKeys_37 : decode b_G_groupOfKeys 37 = .ok (.iload_n 3, 1) := by decide +kernel
theorem d_G_groupOfKeys_38 : decode b_G_groupOfKeys 38 = .ok (.ifCond .eq 50, 3) := by decide +kernel
theorem d_G_groupOfKeys_41 : decode b_G_groupOfKeys 41 = .ok (.iload 4, 2) := by decide +kernel
theorem d_G_groupOfKeys_43 : decode b_G_groupOfKeys 43 = .ok (.iload_n 1, 1) := by decide +kernel
theorem d_G_groupOfKeys_44 : decode b_G_groupOfKeys 44 = .ok (.if_icmp .ge 44, 3) := by decide +kernel
theorem d_G_groupOfKeys_47 : decode b_G_groupOfKeys 47 = .ok (.aload_n 0, 1) := by decide +kernel
theorem d_G_groupOfKeys_48 : decode b_G_groupOfKeys 48 = .ok (.getfield 9, 3) := by decide +kernel
theorem d_G_groupOfKeys_51 : decode b_G_groupOfKeys 51 = .ok (.iload_n 2, 1) := by decide +kernel
theorem d_G_groupOfKeys_52 : decode b_G_groupOfKeys 52 = .ok (.iconst 4, 1) := by decide +kernel
theorem d_G_groupOfKeys_53 : decode b_G_groupOfKeys 53 = .ok (.imul, 1) := by decide +kernel
theorem d_G_groupOfKeys_54 : decode b_G_groupOfKeys 54 = .ok (.iload 4, 2) := by decide +kernel
theorem d_G_groupOfKeys_56 : decode b_G_groupOfKeys 56 = .ok (.iadd, 1) := by decide +kernel
theorem d_G_groupOfKeys_57 : decode b_G_groupOfKeys 57 = .ok (.laload, 1) := by decide +kernel
theorem d_G_groupOfKeys_58 : decode b_G_groupOfKeys 58 = .ok (.aload_n 0, 1) := by decide +kernel
theorem d_G_groupOfKeys_59 : decode b_G_groupOfKeys 59 = .ok (.getfield 9, 3) := by decide +kernel
theorem d_G_groupOfKeys_62 : decode b_G_groupOfKeys 62 = .ok (.aload_n 0, 1) := by decide +kernel
theorem d_G_groupOfKeys_63 : decode b_G_groupOfKeys 63 = .ok (.getfield 51, 3) := by decide +kernel
theorem d_G_groupOfKeys_66 : decode b_G_groupOfKeys 66 = .ok (.iconst 4, 1) := by decide +kernel
theorem d_G_groupOfKeys_67 : decode b_G_groupOfKeys 67 = .ok (.imul, 1) := by decide +kernel
theorem d_G_groupOfKeys_68 : decode b_G_groupOfKeys 68 = .ok (.iload 4, 2) := by decide +kernel
theorem d_G_groupOfKeys_70 : decode b_G_groupOfKeys 70 = .ok (.iadd, 1) := by decide +kernel
theorem d_G_groupOfKeys_71 : decode b_G_groupOfKeys 71 = .ok (.laload, 1) := by decide +kernel
theorem d_G_groupOfKeys_72 : decode b_G_groupOfKeys 72 = .ok (.lcmp, 1) := by decide +kernel
theorem d_G_groupOfKeys_73 : decode b_G_groupOfKeys 73 = .ok (.ifCond .ne 7, 3) := by decide +kernel
theorem d_G_groupOfKeys_76 : decode b_G_groupOfKeys 76 = .ok (.iconst 1, 1) := by decide +kernel
theorem d_G_groupOfKeys_77 : decode b_G_groupOfKeys 77 = .ok (.goto 4, 3) := by decide +kernel
theorem d_G_groupOfKeys_80 : decode b_G_groupOfKeys 80 = .ok (.iconst 0, 1) := by decide +kernel
theorem d_G_groupOfKeys_81 : decode b_G_groupOfKeys 81 = .ok (.istore_n 3, 1) := by decide +kernel
theorem d_G_groupOfKeys_82 : decode b_G_groupOfKeys 82 = .ok (.iinc 4 1, 3) := by decide +kernel
theorem d_G_groupOfKeys_85 : decode b_G_groupOfKeys 85 = .ok (.goto (-48), 3) := by decide +kernel
theorem d_G_groupOfKeys_88 : decode b_G_groupOfKeys 88 = .ok (.iload_n 3, 1) := by decide +kernel
theorem d_G_groupOfKeys_89 : decode b_G_groupOfKeys 89 = .ok (.ifCond .eq 5, 3) := by decide +kernel
theorem d_G_groupOfKeys_92 : decode b_G_groupOfKeys 92 = .ok (.iload_n 2, 1) := by decide +kernel
theorem d_G_groupOfKeys_93 : decode b_G_groupOfKeys 93 = .ok (.ireturn, 1) := by decide +kernel
theorem d_G_groupOfKeys_94 : decode b_G_groupOfKeys 94 = .ok (.iinc 2 1, 3) := by decide +kernel
theorem d_G_groupOfKeys_97 : decode b_G_groupOfKeys 97 = .ok (.goto (-95), 3) := by decide +kernel
theorem d_G_groupOfKeys_100 : decode b_G_groupOfKeys 100 = .ok (.aload_n 0, 1) := by decide +kernel
theorem d_G_groupOfKeys_101 : decode b_G_groupOfKeys 101 = .ok (.getfield 51, 3) := by decide +kernel
theorem d_G_groupOfKeys_104 : decode b_G_groupOfKeys 104 = .ok (.ireturn, 1) := by decide +kernel
theorem d_G_placeRow_0 : decode b_G_placeRow 0 = .ok (.iload_n 1, 1) := by decide +kernel
theorem d_G_placeRow_1 : decode b_G_placeRow 1 = .ok (.ifCond .ne 7, 3) := by decide +kernel
theorem d_G_placeRow_4 : decode b_G_placeRow 4 = .ok (.iconst 0, 1) := by decide +kernel
theorem d_G_placeRow_5 : decode b_G_placeRow 5 = .ok (.goto 8, 3) := by decide +kernel
theorem d_G_placeRow_8 : decode b_G_placeRow 8 = .ok (.aload_n 0, 1) := by decide +kernel
theorem d_G_placeRow_9 : decode b_G_placeRow 9 = .ok (.iload_n 1, 1) := by decide +kernel
theorem d_G_placeRow_10 : decode b_G_placeRow 10 = .ok (.invokevirtual 62, 3) := by decide +kernel
theorem d_G_placeRow_13 : decode b_G_placeRow 13 = .ok (.istore_n 2, 1) := by decide +kernel
theorem d_G_placeRow_14 : decode b_G_placeRow 14 = .ok (.iload_n 2, 1) := by decide +kernel
theorem d_G_placeRow_15 : decode b_G_placeRow 15 = .ok (.aload_n 0, 1) := by decide +kernel
theorem d_G_placeRow_16 : decode b_G_placeRow 16 = .ok (.getfield 51, 3) := by decide +kernel
theorem d_G_placeRow_19 : decode b_G_placeRow 19 = .ok (.if_icmp .ne 8, 3) := by decide +kernel
theorem d_G_placeRow_22 : decode b_G_placeRow 22 = .ok (.aload_n 0, 1) := by decide +kernel
theorem d_G_placeRow_23 : decode b_G_placeRow 23 = .ok (.iload_n 2, 1) := by decide +kernel
theorem d_G_placeRow_24 : decode b_G_placeRow 24 = .ok (.invokevirtual 54, 3) := by decide +kernel
theorem d_G_placeRow_27 : decode b_G_placeRow 27 = .ok (.aload_n 0, 1) := by decide +kernel
theorem d_G_placeRow_28 : decode b_G_placeRow 28 = .ok (.getfield 19, 3) := by decide +kernel
theorem d_G_placeRow_31 : decode b_G_placeRow 31 = .ok (.iload_n 2, 1) := by decide +kernel
theorem d_G_placeRow_32 : decode b_G_placeRow 32 = .ok (.iaload, 1) := by decide +kernel
theorem d_G_placeRow_33 : decode b_G_placeRow 33 = .ok (.iconst (-1), 1) := by decide +kernel
theorem d_G_placeRow_34 : decode b_G_placeRow 34 = .ok (.if_icmp .ne 16, 3) := by decide +kernel
theorem d_G_placeRow_37 : decode b_G_placeRow 37 = .ok (.aload_n 0, 1) := by decide +kernel
theorem d_G_placeRow_38 : decode b_G_placeRow 38 = .ok (.getfield 19, 3) := by decide +kernel
theorem d_G_placeRow_41 : decode b_G_placeRow 41 = .ok (.iload_n 2, 1) := by decide +kernel
theorem d_G_placeRow_42 : decode b_G_placeRow 42 = .ok (.aload_n 0, 1) := by decide +kernel
theorem d_G_placeRow_43 : decode b_G_placeRow 43 = .ok (.getfield 47, 3) := by decide +kernel
theorem d_G_placeRow_46 : decode b_G_placeRow 46 = .ok (.iastore, 1) := by decide +kernel
theorem d_G_placeRow_47 : decode b_G_placeRow 47 = .ok (.goto 18, 3) := by decide +kernel
theorem d_G_placeRow_50 : decode b_G_placeRow 50 = .ok (.aload_n 0, 1) := by decide +kernel
theorem d_G_placeRow_51 : decode b_G_placeRow 51 = .ok (.getfield 25, 3) := by decide +kernel
theorem d_G_placeRow_54 : decode b_G_placeRow 54 = .ok (.aload_n 0, 1) := by decide +kernel
theorem d_G_placeRow_55 : decode b_G_placeRow 55 = .ok (.getfield 22, 3) := by decide +kernel
theorem d_G_placeRow_58 : decode b_G_placeRow 58 = .ok (.iload_n 2, 1) := by decide +kernel
theorem d_G_placeRow_59 : decode b_G_placeRow 59 = .ok (.iaload, 1) := by decide +kernel
theorem d_G_placeRow_60 : decode b_G_placeRow 60 = .ok (.aload_n 0, 1) := by decide +kernel
theorem d_G_placeRow_61 : decode b_G_placeRow 61 = .ok (.getfield 47, 3) := by decide +kernel
theorem d_G_placeRow_64 : decode b_G_placeRow 64 = .ok (.iastore, 1) := by decide +kernel
theorem d_G_placeRow_65 : decode b_G_placeRow 65 = .ok (.aload_n 0, 1) := by decide +kernel
theorem d_G_placeRow_66 : decode b_G_placeRow 66 = .ok (.getfield 22, 3) := by decide +kernel
theorem d_G_placeRow_69 : decode b_G_placeRow 69 = .ok (.iload_n 2, 1) := by decide +kernel
theorem d_G_placeRow_70 : decode b_G_placeRow 70 = .ok (.aload_n 0, 1) := by decide +kernel
theorem d_G_placeRow_71 : decode b_G_placeRow 71 = .ok (.getfield 47, 3) := by decide +kernel
theorem d_G_placeRow_74 : decode b_G_placeRow 74 = .ok (.iastore, 1) := by decide +kernel
theorem d_G_placeRow_75 : decode b_G_placeRow 75 = .ok (.aload_n 0, 1) := by decide +kernel
theorem d_G_placeRow_76 : decode b_G_placeRow 76 = .ok (.getfield 25, 3) := by decide +kernel
theorem d_G_placeRow_79 : decode b_G_placeRow 79 = .ok (.aload_n 0, 1) := by decide +kernel
theorem d_G_placeRow_80 : decode b_G_placeRow 80 = .ok (.getfield 47, 3) := by decide +kernel
theorem d_G_placeRow_83 : decode b_G_placeRow 83 = .ok (.iconst (-1), 1) := by decide +kernel
theorem d_G_placeRow_84 : decode b_G_placeRow 84 = .ok (.iastore, 1) := by decide +kernel
theorem d_G_placeRow_85 : decode b_G_placeRow 85 = .ok (.aload_n 0, 1) := by decide +kernel
theorem d_G_placeRow_86 : decode b_G_placeRow 86 = .ok (.iload_n 2, 1) := by decide +kernel
theorem d_G_placeRow_87 : decode b_G_placeRow 87 = .ok (.putfield 66, 3) := by decide +kernel
theorem d_G_placeRow_90 : decode b_G_placeRow 90 = .ok (.return_, 1) := by decide +kernel
theorem d_G_endRow_0 : decode b_G_endRow 0 = .ok (.aload_n 0, 1) := by decide +kernel
theorem d_G_endRow_1 : decode b_G_endRow 1 = .ok (.dup, 1) := by decide +kernel
theorem d_G_endRow_2 : decode b_G_endRow 2 = .ok (.getfield 47, 3) := by decide +kernel
theorem d_G_endRow_5 : decode b_G_endRow 5 = .ok (.iconst 1, 1) := by decide +kernel
theorem d_G_endRow_6 : decode b_G_endRow 6 = .ok (.iadd, 1) := by decide +kernel
theorem d_G_endRow_7 : decode b_G_endRow 7 = .ok (.putfield 47, 3) := by decide +kernel
theorem d_G_endRow_10 : decode b_G_endRow 10 = .ok (.return_, 1) := by decide +kernel
theorem d_G_combine_0 : decode b_G_combine 0 = .ok (.iload_n 0, 1) := by decide +kernel
theorem d_G_combine_1 : decode b_G_combine 1 = .ok (.tableswitch 47 2 5 #[31, 35, 41, 31], 31) := by decide +kernel
theorem d_G_combine_32 : decode b_G_combine 32 = .ok (.lload_n 1, 1) := by decide +kernel
theorem d_G_combine_33 : decode b_G_combine 33 = .ok (.lload_n 3, 1) := by decide +kernel
theorem d_G_combine_34 : decode b_G_combine 34 = .ok (.ladd, 1) := by decide +kernel
theorem d_G_combine_35 : decode b_G_combine 35 = .ok (.lreturn, 1) := by decide +kernel
theorem d_G_combine_36 : decode b_G_combine 36 = .ok (.lload_n 1, 1) := by decide +kernel
theorem d_G_combine_37 : decode b_G_combine 37 = .ok (.lload_n 3, 1) := by decide +kernel
theorem d_G_combine_38 : decode b_G_combine 38 = .ok (.invokestatic 90, 3) := by decide +kernel
theorem d_G_combine_41 : decode b_G_combine 41 = .ok (.lreturn, 1) := by decide +kernel
theorem d_G_combine_42 : decode b_G_combine 42 = .ok (.lload_n 1, 1) := by decide +kernel
theorem d_G_combine_43 : decode b_G_combine 43 = .ok (.lload_n 3, 1) := by decide +kernel
theorem d_G_combine_44 : decode b_G_combine 44 = .ok (.invokestatic 96, 3) := by decide +kernel
theorem d_G_combine_47 : decode b_G_combine 47 = .ok (.lreturn, 1) := by decide +kernel
theorem d_G_combine_48 : decode b_G_combine 48 = .ok (.lload_n 1, 1) := by decide +kernel
theorem d_G_combine_49 : decode b_G_combine 49 = .ok (.lreturn, 1) := by decide +kernel
theorem d_G_wasCounted_0 : decode b_G_wasCounted 0 = .ok (.aload_n 0, 1) := by decide +kernel
theorem d_G_wasCounted_1 : decode b_G_wasCounted 1 = .ok (.getfield 19, 3) := by decide +kernel
theorem d_G_wasCounted_4 : decode b_G_wasCounted 4 = .ok (.aload_n 0, 1) := by decide +kernel
theorem d_G_wasCounted_5 : decode b_G_wasCounted 5 = .ok (.getfield 66, 3) := by decide +kernel
theorem d_G_wasCounted_8 : decode b_G_wasCounted 8 = .ok (.iaload, 1) := by decide +kernel
theorem d_G_wasCounted_9 : decode b_G_wasCounted 9 = .ok (.istore 4, 2) := by decide +kernel
theorem d_G_wasCounted_11 : decode b_G_wasCounted 11 = .ok (.iconst 0, 1) := by decide +kernel
theorem d_G_wasCounted_12 : decode b_G_wasCounted 12 = .ok (.istore 5, 2) := by decide +kernel
theorem d_G_wasCounted_14 : decode b_G_wasCounted 14 = .ok (.iload 5, 2) := by decide +kernel
theorem d_G_wasCounted_16 : decode b_G_wasCounted 16 = .ok (.aload_n 0, 1) := by decide +kernel
theorem d_G_wasCounted_17 : decode b_G_wasCounted 17 = .ok (.getfield 47, 3) := by decide +kernel
theorem d_G_wasCounted_20 : decode b_G_wasCounted 20 = .ok (.if_icmp .ge 57, 3) := by decide +kernel
theorem d_G_wasCounted_23 : decode b_G_wasCounted 23 = .ok (.iload 4, 2) := by decide +kernel
theorem d_G_wasCounted_25 : decode b_G_wasCounted 25 = .ok (.iconst (-1), 1) := by decide +kernel
theorem d_G_wasCounted_26 : decode b_G_wasCounted 26 = .ok (.if_icmp .eq 51, 3) := by decide +kernel
theorem d_G_wasCounted_29 : decode b_G_wasCounted 29 = .ok (.aload_n 0, 1) := by decide +kernel
theorem d_G_wasCounted_30 : decode b_G_wasCounted 30 = .ok (.getfield 34, 3) := by decide +kernel
theorem d_G_wasCounted_33 : decode b_G_wasCounted 33 = .ok (.iload 4, 2) := by decide +kernel
theorem d_G_wasCounted_35 : decode b_G_wasCounted 35 = .ok (.iaload, 1) := by decide +kernel
theorem d_G_wasCounted_36 : decode b_G_wasCounted 36 = .ok (.iload_n 1, 1) := by decide +kernel
theorem d_G_wasCounted_37 : decode b_G_wasCounted 37 = .ok (.ishr, 1) := by decide +kernel
theorem d_G_wasCounted_38 : decode b_G_wasCounted 38 = .ok (.iconst 1, 1) := by decide +kernel
theorem d_G_wasCounted_39 : decode b_G_wasCounted 39 = .ok (.iand, 1) := by decide +kernel
theorem d_G_wasCounted_40 : decode b_G_wasCounted 40 = .ok (.ifCond .eq 22, 3) := by decide +kernel
theorem d_G_wasCounted_43 : decode b_G_wasCounted 43 = .ok (.aload_n 0, 1) := by decide +kernel
theorem d_G_wasCounted_44 : decode b_G_wasCounted 44 = .ok (.getfield 31, 3) := by decide +kernel
theorem d_G_wasCounted_47 : decode b_G_wasCounted 47 = .ok (.iload 4, 2) := by decide +kernel
theorem d_G_wasCounted_49 : decode b_G_wasCounted 49 = .ok (.bipush 8, 2) := by decide +kernel
theorem d_G_wasCounted_51 : decode b_G_wasCounted 51 = .ok (.imul, 1) := by decide +kernel
theorem d_G_wasCounted_52 : decode b_G_wasCounted 52 = .ok (.iload_n 1, 1) := by decide +kernel
theorem d_G_wasCounted_53 : decode b_G_wasCounted 53 = .ok (.iadd, 1) := by decide +kernel
theorem d_G_wasCounted_54 : decode b_G_wasCounted 54 = .ok (.laload, 1) := by decide +kernel
theorem d_G_wasCounted_55 : decode b_G_wasCounted 55 = .ok (.lload_n 2, 1) := by decide +kernel
theorem d_G_wasCounted_56 : decode b_G_wasCounted 56 = .ok (.lcmp, 1) := by decide +kernel
theorem d_G_wasCounted_57 : decode b_G_wasCounted 57 = .ok (.ifCond .ne 5, 3) := by decide +kernel
theorem d_G_wasCounted_60 : decode b_G_wasCounted 60 = .ok (.iconst 1, 1) := by decide +kernel
theorem d_G_wasCounted_61 : decode b_G_wasCounted 61 = .ok (.ireturn, 1) := by decide +kernel
theorem d_G_wasCounted_62 : decode b_G_wasCounted 62 = .ok (.aload_n 0, 1) := by decide +kernel
theorem d_G_wasCounted_63 : decode b_G_wasCounted 63 = .ok (.getfield 25, 3) := by decide +kernel
theorem d_G_wasCounted_66 : decode b_G_wasCounted 66 = .ok (.iload 4, 2) := by decide +kernel
theorem d_G_wasCounted_68 : decode b_G_wasCounted 68 = .ok (.iaload, 1) := by decide +kernel
theorem d_G_wasCounted_69 : decode b_G_wasCounted 69 = .ok (.istore 4, 2) := by decide +kernel
theorem d_G_wasCounted_71 : decode b_G_wasCounted 71 = .ok (.iinc 5 1, 3) := by decide +kernel
theorem d_G_wasCounted_74 : decode b_G_wasCounted 74 = .ok (.goto (-60), 3) := by decide +kernel
theorem d_G_wasCounted_77 : decode b_G_wasCounted 77 = .ok (.iconst 0, 1) := by decide +kernel
theorem d_G_wasCounted_78 : decode b_G_wasCounted 78 = .ok (.ireturn, 1) := by decide +kernel
theorem d_G_takeNumber_0 : decode b_G_takeNumber 0 = .ok (.iload_n 2, 1) := by decide +kernel
theorem d_G_takeNumber_1 : decode b_G_takeNumber 1 = .ok (.ifCond .eq 24, 3) := by decide +kernel
theorem d_G_takeNumber_4 : decode b_G_takeNumber 4 = .ok (.aload_n 0, 1) := by decide +kernel
theorem d_G_takeNumber_5 : decode b_G_takeNumber 5 = .ok (.getfield 43, 3) := by decide +kernel
theorem d_G_takeNumber_8 : decode b_G_takeNumber 8 = .ok (.getfield 69, 3) := by decide +kernel
theorem d_G_takeNumber_11 : decode b_G_takeNumber 11 = .ok (.iload_n 1, 1) := by decide +kernel
theorem d_G_takeNumber_12 : decode b_G_takeNumber 12 = .ok (.baload, 1) := by decide +kernel
theorem d_G_takeNumber_13 : decode b_G_takeNumber 13 = .ok (.ifCond .eq 14, 3) := by decide +kernel
theorem d_G_takeNumber_16 : decode b_G_takeNumber 16 = .ok (.aload_n 0, 1) := by decide +kernel
theorem d_G_takeNumber_17 : decode b_G_takeNumber 17 = .ok (.iload_n 1, 1) := by decide +kernel
theorem d_G_takeNumber_18 : decode b_G_takeNumber 18 = .ok (.lload_n 3, 1) := by decide +kernel
theorem d_G_takeNumber_19 : decode b_G_takeNumber 19 = .ok (.invokevirtual 75, 3) := by decide +kernel
theorem d_G_takeNumber_22 : decode b_G_takeNumber 22 = .ok (.ifCond .eq 5, 3) := by decide +kernel
theorem d_G_takeNumber_25 : decode b_G_takeNumber 25 = .ok (.iconst 0, 1) := by decide +kernel
theorem d_G_takeNumber_26 : decode b_G_takeNumber 26 = .ok (.ireturn, 1) := by decide +kernel
theorem d_G_takeNumber_27 : decode b_G_takeNumber 27 = .ok (.aload_n 0, 1) := by decide +kernel
theorem d_G_takeNumber_28 : decode b_G_takeNumber 28 = .ok (.getfield 31, 3) := by decide +kernel
theorem d_G_takeNumber_31 : decode b_G_takeNumber 31 = .ok (.aload_n 0, 1) := by decide +kernel
theorem d_G_takeNumber_32 : decode b_G_takeNumber 32 = .ok (.getfield 47, 3) := by decide +kernel
theorem d_G_takeNumber_35 : decode b_G_takeNumber 35 = .ok (.bipush 8, 2) := by decide +kernel
theorem d_G_takeNumber_37 : decode b_G_takeNumber 37 = .ok (.imul, 1) := by decide +kernel
theorem d_G_takeNumber_38 : decode b_G_takeNumber 38 = .ok (.iload_n 1, 1) := by decide +kernel
theorem d_G_takeNumber_39 : decode b_G_takeNumber 39 = .ok (.iadd, 1) := by decide +kernel
theorem d_G_takeNumber_40 : decode b_G_takeNumber 40 = .ok (.lload_n 3, 1) := by decide +kernel
theorem d_G_takeNumber_41 : decode b_G_takeNumber 41 = .ok (.lastore, 1) := by decide +kernel
theorem d_G_takeNumber_42 : decode b_G_takeNumber 42 = .ok (.aload_n 0, 1) := by decide +kernel
theorem d_G_takeNumber_43 : decode b_G_takeNumber 43 = .ok (.getfield 34, 3) := by decide +kernel
theorem d_G_takeNumber_46 : decode b_G_takeNumber 46 = .ok (.aload_n 0, 1) := by decide +kernel
theorem d_G_takeNumber_47 : decode b_G_takeNumber 47 = .ok (.getfield 47, 3) := by decide +kernel
theorem d_G_takeNumber_50 : decode b_G_takeNumber 50 = .ok (.dup2, 1) := by decide +kernel
theorem d_G_takeNumber_51 : decode b_G_takeNumber 51 = .ok (.iaload, 1) := by decide +kernel
theorem d_G_takeNumber_52 : decode b_G_takeNumber 52 = .ok (.iconst 1, 1) := by decide +kernel
theorem d_G_takeNumber_53 : decode b_G_takeNumber 53 = .ok (.iload_n 1, 1) := by decide +kernel
theorem d_G_takeNumber_54 : decode b_G_takeNumber 54 = .ok (.ishl, 1) := by decide +kernel
theorem d_G_takeNumber_55 : decode b_G_takeNumber 55 = .ok (.ior, 1) := by decide +kernel
theorem d_G_takeNumber_56 : decode b_G_takeNumber 56 = .ok (.iastore, 1) := by decide +kernel
theorem d_G_takeNumber_57 : decode b_G_takeNumber 57 = .ok (.aload_n 0, 1) := by decide +kernel
theorem d_G_takeNumber_58 : decode b_G_takeNumber 58 = .ok (.getfield 66, 3) := by decide +kernel
theorem d_G_takeNumber_61 : decode b_G_takeNumber 61 = .ok (.bipush 8, 2) := by decide +kernel
theorem d_G_takeNumber_63 : decode b_G_takeNumber 63 = .ok (.imul, 1) := by decide +kernel
theorem d_G_takeNumber_64 : decode b_G_takeNumber 64 = .ok (.iload_n 1, 1) := by decide +kernel
theorem d_G_takeNumber_65 : decode b_G_takeNumber 65 = .ok (.iadd, 1) := by decide +kernel
theorem d_G_takeNumber_66 : decode b_G_takeNumber 66 = .ok (.istore 5, 2) := by decide +kernel
theorem d_G_takeNumber_68 : decode b_G_takeNumber 68 = .ok (.aload_n 0, 1) := by decide +kernel
theorem d_G_takeNumber_69 : decode b_G_takeNumber 69 = .ok (.getfield 37, 3) := by decide +kernel
theorem d_G_takeNumber_72 : decode b_G_takeNumber 72 = .ok (.iload 5, 2) := by decide +kernel
theorem d_G_takeNumber_74 : decode b_G_takeNumber 74 = .ok (.iaload, 1) := by decide +kernel
theorem d_G_takeNumber_75 : decode b_G_takeNumber 75 = .ok (.ifCond .ne 7, 3) := by decide +kernel
theorem d_G_takeNumber_78 : decode b_G_takeNumber 78 = .ok (.lload_n 3, 1) := by decide +kernel
theorem d_G_takeNumber_79 : decode b_G_takeNumber 79 = .ok (.goto 23, 3) := by decide +kernel
theorem d_G_takeNumber_82 : decode b_G_takeNumber 82 = .ok (.aload_n 0, 1) := by decide +kernel
theorem d_G_takeNumber_83 : decode b_G_takeNumber 83 = .ok (.getfield 43, 3) := by decide +kernel
theorem d_G_takeNumber_86 : decode b_G_takeNumber 86 = .ok (.getfield 79, 3) := by decide +kernel
theorem d_G_takeNumber_89 : decode b_G_takeNumber 89 = .ok (.iload_n 1, 1) := by decide +kernel
theorem d_G_takeNumber_90 : decode b_G_takeNumber 90 = .ok (.iaload, 1) := by decide +kernel
theorem d_G_takeNumber_91 : decode b_G_takeNumber 91 = .ok (.aload_n 0, 1) := by decide +kernel
theorem d_G_takeNumber_92 : decode b_G_takeNumber 92 = .ok (.getfield 40, 3) := by decide +kernel
theorem d_G_takeNumber_95 : decode b_G_takeNumber 95 = .ok (.iload 5, 2) := by decide +kernel
theorem d_G_takeNumber_97 : decode b_G_takeNumber 97 = .ok (.laload, 1) := by decide +kernel
theorem d_G_takeNumber_98 : decode b_G_takeNumber 98 = .ok (.lload_n 3, 1) := by decide +kernel
theorem d_G_takeNumber_99 : decode b_G_takeNumber 99 = .ok (.invokestatic 82, 3) := by decide +kernel
theorem d_G_takeNumber_102 : decode b_G_takeNumber 102 = .ok (.lstore 6, 2) := by decide +kernel
theorem d_G_takeNumber_104 : decode b_G_takeNumber 104 = .ok (.lload 6, 2) := by decide +kernel
theorem d_G_takeNumber_106 : decode b_G_takeNumber 106 = .ok (.ldc2_w 86, 3) := by decide +kernel
theorem d_G_takeNumber_109 : decode b_G_takeNumber 109 = .ok (.lcmp, 1) := by decide +kernel
theorem d_G_takeNumber_110 : decode b_G_takeNumber 110 = .ok (.ifCond .lt 12, 3) := by decide +kernel
theorem d_G_takeNumber_113 : decode b_G_takeNumber 113 = .ok (.lload 6, 2) := by decide +kernel
theorem d_G_takeNumber_115 : decode b_G_takeNumber 115 = .ok (.ldc2_w 88, 3) := by decide +kernel
theorem d_G_takeNumber_118 : decode b_G_takeNumber 118 = .ok (.lcmp, 1) := by decide +kernel
theorem d_G_takeNumber_119 : decode b_G_takeNumber 119 = .ok (.ifCond .le 6, 3) := by decide +kernel
theorem d_G_takeNumber_122 : decode b_G_takeNumber 122 = .ok (.bipush (-21), 2) := by decide +kernel
theorem d_G_takeNumber_124 : decode b_G_takeNumber 124 = .ok (.ireturn, 1) := by decide +kernel
theorem d_G_takeNumber_125 : decode b_G_takeNumber 125 = .ok (.aload_n 0, 1) := by decide +kernel
theorem d_G_takeNumber_126 : decode b_G_takeNumber 126 = .ok (.getfield 37, 3) := by decide +kernel
theorem d_G_takeNumber_129 : decode b_G_takeNumber 129 = .ok (.iload 5, 2) := by decide +kernel
theorem d_G_takeNumber_131 : decode b_G_takeNumber 131 = .ok (.dup2, 1) := by decide +kernel
theorem d_G_takeNumber_132 : decode b_G_takeNumber 132 = .ok (.iaload, 1) := by decide +kernel
theorem d_G_takeNumber_133 : decode b_G_takeNumber 133 = .ok (.iconst 1, 1) := by decide +kernel
theorem d_G_takeNumber_134 : decode b_G_takeNumber 134 = .ok (.iadd, 1) := by decide +kernel
theorem d_G_takeNumber_135 : decode b_G_takeNumber 135 = .ok (.iastore, 1) := by decide +kernel
theorem d_G_takeNumber_136 : decode b_G_takeNumber 136 = .ok (.aload_n 0, 1) := by decide +kernel
theorem d_G_takeNumber_137 : decode b_G_takeNumber 137 = .ok (.getfield 40, 3) := by decide +kernel
theorem d_G_takeNumber_140 : decode b_G_takeNumber 140 = .ok (.iload 5, 2) := by decide +kernel
theorem d_G_takeNumber_142 : decode b_G_takeNumber 142 = .ok (.lload 6, 2) := by decide +kernel
theorem d_G_takeNumber_144 : decode b_G_takeNumber 144 = .ok (.lastore, 1) := by decide +kernel
theorem d_G_takeNumber_145 : decode b_G_takeNumber 145 = .ok (.iconst 0, 1) := by decide +kernel
theorem d_G_takeNumber_146 : decode b_G_takeNumber 146 = .ok (.ireturn, 1) := by decide +kernel
