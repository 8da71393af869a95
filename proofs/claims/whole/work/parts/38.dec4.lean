theorem d_M_isExpression_0 : decode b_M_isExpression 0 = .ok (.iload_n 1, 1) := by decide +kernel
theorem d_M_isExpression_1 : decode b_M_isExpression 1 = .ok (.ifCond .lt 15, 3) := by decide +kernel
theorem d_M_isExpression_4 : decode b_M_isExpression 4 = .ok (.iload_n 1, 1) := by decide +kernel
theorem d_M_isExpression_5 : decode b_M_isExpression 5 = .ok (.aload_n 0, 1) := by decide +kernel
theorem d_M_isExpression_6 : decode b_M_isExpression 6 = .ok (.getfield 137, 3) := by decide +kernel
theorem d_M_isExpression_9 : decode b_M_isExpression 9 = .ok (.if_icmp .ge 7, 3) := by decide +kernel
theorem d_M_isExpression_12 : decode b_M_isExpression 12 = .ok (.iconst 1, 1) := by decide +kernel
theorem d_M_isExpression_13 : decode b_M_isExpression 13 = .ok (.goto 4, 3) := by decide +kernel
theorem d_M_isExpression_16 : decode b_M_isExpression 16 = .ok (.iconst 0, 1) := by decide +kernel
theorem d_M_isExpression_17 : decode b_M_isExpression 17 = .ok (.ireturn, 1) := by decide +kernel
theorem d_M_isOne_0 : decode b_M_isOne 0 = .ok (.iload_n 1, 1) := by decide +kernel
theorem d_M_isOne_1 : decode b_M_isOne 1 = .ok (.bipush 11, 2) := by decide +kernel
theorem d_M_isOne_3 : decode b_M_isOne 3 = .ok (.if_icmp .eq 9, 3) := by decide +kernel
theorem d_M_isOne_6 : decode b_M_isOne 6 = .ok (.iload_n 1, 1) := by decide +kernel
theorem d_M_isOne_7 : decode b_M_isOne 7 = .ok (.bipush 12, 2) := by decide +kernel
theorem d_M_isOne_9 : decode b_M_isOne 9 = .ok (.if_icmp .ne 7, 3) := by decide +kernel
theorem d_M_isOne_12 : decode b_M_isOne 12 = .ok (.iconst 1, 1) := by decide +kernel
theorem d_M_isOne_13 : decode b_M_isOne 13 = .ok (.goto 4, 3) := by decide +kernel
theorem d_M_isOne_16 : decode b_M_isOne 16 = .ok (.iconst 0, 1) := by decide +kernel
theorem d_M_isOne_17 : decode b_M_isOne 17 = .ok (.ireturn, 1) := by decide +kernel
theorem d_M_isTruth_0 : decode b_M_isTruth 0 = .ok (.aload_n 0, 1) := by decide +kernel
theorem d_M_isTruth_1 : decode b_M_isTruth 1 = .ok (.getfield 24, 3) := by decide +kernel
theorem d_M_isTruth_4 : decode b_M_isTruth 4 = .ok (.iload_n 1, 1) := by decide +kernel
theorem d_M_isTruth_5 : decode b_M_isTruth 5 = .ok (.iaload, 1) := by decide +kernel
theorem d_M_isTruth_6 : decode b_M_isTruth 6 = .ok (.iconst 5, 1) := by decide +kernel
theorem d_M_isTruth_7 : decode b_M_isTruth 7 = .ok (.if_icmp .lt 18, 3) := by decide +kernel
theorem d_M_isTruth_10 : decode b_M_isTruth 10 = .ok (.aload_n 0, 1) := by decide +kernel
theorem d_M_isTruth_11 : decode b_M_isTruth 11 = .ok (.getfield 24, 3) := by decide +kernel
theorem d_M_isTruth_14 : decode b_M_isTruth 14 = .ok (.iload_n 1, 1) := by decide +kernel
theorem d_M_isTruth_15 : decode b_M_isTruth 15 = .ok (.iaload, 1) := by decide +kernel
theorem d_M_isTruth_16 : decode b_M_isTruth 16 = .ok (.bipush 12, 2) := by decide +kernel
theorem d_M_isTruth_18 : decode b_M_isTruth 18 = .ok (.if_icmp .gt 7, 3) := by decide +kernel
theorem d_M_isTruth_21 : decode b_M_isTruth 21 = .ok (.iconst 1, 1) := by decide +kernel
theorem d_M_isTruth_22 : decode b_M_isTruth 22 = .ok (.goto 4, 3) := by decide +kernel
theorem d_M_isTruth_25 : decode b_M_isTruth 25 = .ok (.iconst 0, 1) := by decide +kernel
theorem d_M_isTruth_26 : decode b_M_isTruth 26 = .ok (.ireturn, 1) := by decide +kernel
theorem d_M_op_0 : decode b_M_op 0 = .ok (.aload_n 0, 1) := by decide +kernel
theorem d_M_op_1 : decode b_M_op 1 = .ok (.iload_n 2, 1) := by decide +kernel
theorem d_M_op_2 : decode b_M_op 2 = .ok (.invokevirtual 178, 3) := by decide +kernel
theorem d_M_op_5 : decode b_M_op 5 = .ok (.ifCond .eq 19, 3) := by decide +kernel
theorem d_M_op_8 : decode b_M_op 8 = .ok (.aload_n 0, 1) := by decide +kernel
theorem d_M_op_9 : decode b_M_op 9 = .ok (.iload_n 1, 1) := by decide +kernel
theorem d_M_op_10 : decode b_M_op 10 = .ok (.invokevirtual 181, 3) := by decide +kernel
theorem d_M_op_13 : decode b_M_op 13 = .ok (.ifCond .ne 14, 3) := by decide +kernel
theorem d_M_op_16 : decode b_M_op 16 = .ok (.aload_n 0, 1) := by decide +kernel
theorem d_M_op_17 : decode b_M_op 17 = .ok (.iload_n 3, 1) := by decide +kernel
theorem d_M_op_18 : decode b_M_op 18 = .ok (.invokevirtual 178, 3) := by decide +kernel
theorem d_M_op_21 : decode b_M_op 21 = .ok (.ifCond .ne 6, 3) := by decide +kernel
theorem d_M_op_24 : decode b_M_op 24 = .ok (.bipush (-101), 2) := by decide +kernel
theorem d_M_op_26 : decode b_M_op 26 = .ok (.ireturn, 1) := by decide +kernel
theorem d_M_op_27 : decode b_M_op 27 = .ok (.iload_n 1, 1) := by decide +kernel
theorem d_M_op_28 : decode b_M_op 28 = .ok (.i2l, 1) := by decide +kernel
theorem d_M_op_29 : decode b_M_op 29 = .ok (.lconst 0, 1) := by decide +kernel
theorem d_M_op_30 : decode b_M_op 30 = .ok (.ldc2_w 184, 3) := by decide +kernel
theorem d_M_op_33 : decode b_M_op 33 = .ok (.invokestatic 126, 3) := by decide +kernel
theorem d_M_op_36 : decode b_M_op 36 = .ok (.ifCond .ne 6, 3) := by decide +kernel
theorem d_M_op_39 : decode b_M_op 39 = .ok (.bipush (-102), 2) := by decide +kernel
theorem d_M_op_41 : decode b_M_op 41 = .ok (.ireturn, 1) := by decide +kernel
theorem d_M_op_42 : decode b_M_op 42 = .ok (.iload_n 1, 1) := by decide +kernel
theorem d_M_op_43 : decode b_M_op 43 = .ok (.bipush 9, 2) := by decide +kernel
theorem d_M_op_45 : decode b_M_op 45 = .ok (.if_icmp .lt 13, 3) := by decide +kernel
theorem d_M_op_48 : decode b_M_op 48 = .ok (.iload_n 1, 1) := by decide +kernel
theorem d_M_op_49 : decode b_M_op 49 = .ok (.bipush 11, 2) := by decide +kernel
theorem d_M_op_51 : decode b_M_op 51 = .ok (.if_icmp .gt 7, 3) := by decide +kernel
theorem d_M_op_54 : decode b_M_op 54 = .ok (.iconst 1, 1) := by decide +kernel
theorem d_M_op_55 : decode b_M_op 55 = .ok (.goto 4, 3) := by decide +kernel
theorem d_M_op_58 : decode b_M_op 58 = .ok (.iconst 0, 1) := by decide +kernel
theorem d_M_op_59 : decode b_M_op 59 = .ok (.istore 4, 2) := by decide +kernel
theorem d_M_op_61 : decode b_M_op 61 = .ok (.aload_n 0, 1) := by decide +kernel
theorem d_M_op_62 : decode b_M_op 62 = .ok (.iload_n 2, 1) := by decide +kernel
theorem d_M_op_63 : decode b_M_op 63 = .ok (.invokevirtual 186, 3) := by decide +kernel
theorem d_M_op_66 : decode b_M_op 66 = .ok (.iload 4, 2) := by decide +kernel
theorem d_M_op_68 : decode b_M_op 68 = .ok (.if_icmp .ne 21, 3) := by decide +kernel
theorem d_M_op_71 : decode b_M_op 71 = .ok (.aload_n 0, 1) := by decide +kernel
theorem d_M_op_72 : decode b_M_op 72 = .ok (.iload_n 1, 1) := by decide +kernel
theorem d_M_op_73 : decode b_M_op 73 = .ok (.invokevirtual 162, 3) := by decide +kernel
theorem d_M_op_76 : decode b_M_op 76 = .ok (.ifCond .eq 16, 3) := by decide +kernel
theorem d_M_op_79 : decode b_M_op 79 = .ok (.aload_n 0, 1) := by decide +kernel
theorem d_M_op_80 : decode b_M_op 80 = .ok (.iload_n 3, 1) := by decide +kernel
theorem d_M_op_81 : decode b_M_op 81 = .ok (.invokevirtual 186, 3) := by decide +kernel
theorem d_M_op_84 : decode b_M_op 84 = .ok (.iload 4, 2) := by decide +kernel
theorem d_M_op_86 : decode b_M_op 86 = .ok (.if_icmp .eq 6, 3) := by decide +kernel
theorem d_M_op_89 : decode b_M_op 89 = .ok (.bipush (-103), 2) := by decide +kernel
theorem d_M_op_91 : decode b_M_op 91 = .ok (.ireturn, 1) := by decide +kernel
theorem d_M_op_92 : decode b_M_op 92 = .ok (.aload_n 0, 1) := by decide +kernel
theorem d_M_op_93 : decode b_M_op 93 = .ok (.getfield 137, 3) := by decide +kernel
theorem d_M_op_96 : decode b_M_op 96 = .ok (.bipush 60, 2) := by decide +kernel
theorem d_M_op_98 : decode b_M_op 98 = .ok (.if_icmp .eq 35, 3) := by decide +kernel
theorem d_M_op_101 : decode b_M_op 101 = .ok (.iconst 1, 1) := by decide +kernel
theorem d_M_op_102 : decode b_M_op 102 = .ok (.aload_n 0, 1) := by decide +kernel
theorem d_M_op_103 : decode b_M_op 103 = .ok (.getfield 39, 3) := by decide +kernel
theorem d_M_op_106 : decode b_M_op 106 = .ok (.iload_n 2, 1) := by decide +kernel
theorem d_M_op_107 : decode b_M_op 107 = .ok (.iaload, 1) := by decide +kernel
theorem d_M_op_108 : decode b_M_op 108 = .ok (.iadd, 1) := by decide +kernel
theorem d_M_op_109 : decode b_M_op 109 = .ok (.aload_n 0, 1) := by decide +kernel
theorem d_M_op_110 : decode b_M_op 110 = .ok (.iload_n 1, 1) := by decide +kernel
theorem d_M_op_111 : decode b_M_op 111 = .ok (.invokevirtual 162, 3) := by decide +kernel
theorem d_M_op_114 : decode b_M_op 114 = .ok (.ifCond .eq 12, 3) := by decide +kernel
theorem d_M_op_117 : decode b_M_op 117 = .ok (.aload_n 0, 1) := by decide +kernel
theorem d_M_op_118 : decode b_M_op 118 = .ok (.getfield 39, 3) := by decide +kernel
theorem d_M_op_121 : decode b_M_op 121 = .ok (.iload_n 3, 1) := by decide +kernel
theorem d_M_op_122 : decode b_M_op 122 = .ok (.iaload, 1) := by decide +kernel
theorem d_M_op_123 : decode b_M_op 123 = .ok (.goto 4, 3) := by decide +kernel
theorem d_M_op_126 : decode b_M_op 126 = .ok (.iconst 0, 1) := by decide +kernel
theorem d_M_op_127 : decode b_M_op 127 = .ok (.iadd, 1) := by decide +kernel
theorem d_M_op_128 : decode b_M_op 128 = .ok (.bipush 60, 2) := by decide +kernel
theorem d_M_op_130 : decode b_M_op 130 = .ok (.if_icmp .le 6, 3) := by decide +kernel
theorem d_M_op_133 : decode b_M_op 133 = .ok (.bipush (-104), 2) := by decide +kernel
theorem d_M_op_135 : decode b_M_op 135 = .ok (.ireturn, 1) := by decide +kernel
theorem d_M_op_136 : decode b_M_op 136 = .ok (.aload_n 0, 1) := by decide +kernel
theorem d_M_op_137 : decode b_M_op 137 = .ok (.iload_n 1, 1) := by decide +kernel
theorem d_M_op_138 : decode b_M_op 138 = .ok (.iload_n 2, 1) := by decide +kernel
theorem d_M_op_139 : decode b_M_op 139 = .ok (.aload_n 0, 1) := by decide +kernel
theorem d_M_op_140 : decode b_M_op 140 = .ok (.iload_n 1, 1) := by decide +kernel
theorem d_M_op_141 : decode b_M_op 141 = .ok (.invokevirtual 162, 3) := by decide +kernel
theorem d_M_op_144 : decode b_M_op 144 = .ok (.ifCond .eq 7, 3) := by decide +kernel
theorem d_M_op_147 : decode b_M_op 147 = .ok (.iload_n 3, 1) := by decide +kernel
theorem d_M_op_148 : decode b_M_op 148 = .ok (.goto 4, 3) := by decide +kernel
theorem d_M_op_151 : decode b_M_op 151 = .ok (.iconst 0, 1) := by decide +kernel
theorem d_M_op_152 : decode b_M_op 152 = .ok (.lconst 0, 1) := by decide +kernel
theorem d_M_op_153 : decode b_M_op 153 = .ok (.iconst 0, 1) := by decide +kernel
theorem d_M_op_154 : decode b_M_op 154 = .ok (.invokevirtual 170, 3) := by decide +kernel
theorem d_M_op_157 : decode b_M_op 157 = .ok (.ireturn, 1) := by decide +kernel
theorem d_M_aggregate_0 : decode b_M_aggregate 0 = .ok (.aload_n 0, 1) := by decide +kernel
theorem d_M_aggregate_1 : decode b_M_aggregate 1 = .ok (.iload_n 2, 1) := by decide +kernel
theorem d_M_aggregate_2 : decode b_M_aggregate 2 = .ok (.invokevirtual 178, 3) := by decide +kernel
theorem d_M_aggregate_5 : decode b_M_aggregate 5 = .ok (.ifCond .ne 6, 3) := by decide +kernel
theorem d_M_aggregate_8 : decode b_M_aggregate 8 = .ok (.bipush (-101), 2) := by decide +kernel
theorem d_M_aggregate_10 : decode b_M_aggregate 10 = .ok (.ireturn, 1) := by decide +kernel
theorem d_M_aggregate_11 : decode b_M_aggregate 11 = .ok (.iload_n 1, 1) := by decide +kernel
theorem d_M_aggregate_12 : decode b_M_aggregate 12 = .ok (.i2l, 1) := by decide +kernel
theorem d_M_aggregate_13 : decode b_M_aggregate 13 = .ok (.lconst 0, 1) := by decide +kernel
theorem d_M_aggregate_14 : decode b_M_aggregate 14 = .ok (.ldc2_w 189, 3) := by decide +kernel
theorem d_M_aggregate_17 : decode b_M_aggregate 17 = .ok (.invokestatic 126, 3) := by decide +kernel
theorem d_M_aggregate_20 : decode b_M_aggregate 20 = .ok (.ifCond .ne 6, 3) := by decide +kernel
theorem d_M_aggregate_23 : decode b_M_aggregate 23 = .ok (.bipush (-102), 2) := by decide +kernel
theorem d_M_aggregate_25 : decode b_M_aggregate 25 = .ok (.ireturn, 1) := by decide +kernel
theorem d_M_aggregate_26 : decode b_M_aggregate 26 = .ok (.aload_n 0, 1) := by decide +kernel
theorem d_M_aggregate_27 : decode b_M_aggregate 27 = .ok (.iload_n 2, 1) := by decide +kernel
theorem d_M_aggregate_28 : decode b_M_aggregate 28 = .ok (.invokevirtual 186, 3) := by decide +kernel
theorem d_M_aggregate_31 : decode b_M_aggregate 31 = .ok (.ifCond .ne 12, 3) := by decide +kernel
theorem d_M_aggregate_34 : decode b_M_aggregate 34 = .ok (.aload_n 0, 1) := by decide +kernel
theorem d_M_aggregate_35 : decode b_M_aggregate 35 = .ok (.getfield 42, 3) := by decide +kernel
theorem d_M_aggregate_38 : decode b_M_aggregate 38 = .ok (.iload_n 2, 1) := by decide +kernel
theorem d_M_aggregate_39 : decode b_M_aggregate 39 = .ok (.baload, 1) := by decide +kernel
theorem d_M_aggregate_40 : decode b_M_aggregate 40 = .ok (.ifCond .eq 6, 3) := by decide +kernel
theorem d_M_aggregate_43 : decode b_M_aggregate 43 = .ok (.bipush (-103), 2) := by decide +kernel
theorem d_M_aggregate_45 : decode b_M_aggregate 45 = .ok (.ireturn, 1) := by decide +kernel
theorem d_M_aggregate_46 : decode b_M_aggregate 46 = .ok (.aload_n 0, 1) := by decide +kernel
theorem d_M_aggregate_47 : decode b_M_aggregate 47 = .ok (.getfield 137, 3) := by decide +kernel
theorem d_M_aggregate_50 : decode b_M_aggregate 50 = .ok (.bipush 60, 2) := by decide +kernel
theorem d_M_aggregate_52 : decode b_M_aggregate 52 = .ok (.if_icmp .eq 25, 3) := by decide +kernel
theorem d_M_aggregate_55 : decode b_M_aggregate 55 = .ok (.aload_n 0, 1) := by decide +kernel
theorem d_M_aggregate_56 : decode b_M_aggregate 56 = .ok (.getfield 140, 3) := by decide +kernel
theorem d_M_aggregate_59 : decode b_M_aggregate 59 = .ok (.bipush 8, 2) := by decide +kernel
theorem d_M_aggregate_61 : decode b_M_aggregate 61 = .ok (.if_icmp .eq 16, 3) := by decide +kernel
theorem d_M_aggregate_64 : decode b_M_aggregate 64 = .ok (.iconst 1, 1) := by decide +kernel
theorem d_M_aggregate_65 : decode b_M_aggregate 65 = .ok (.aload_n 0, 1) := by decide +kernel
theorem d_M_aggregate_66 : decode b_M_aggregate 66 = .ok (.getfield 39, 3) := by decide +kernel
theorem d_M_aggregate_69 : decode b_M_aggregate 69 = .ok (.iload_n 2, 1) := by decide +kernel
theorem d_M_aggregate_70 : decode b_M_aggregate 70 = .ok (.iaload, 1) := by decide +kernel
theorem d_M_aggregate_71 : decode b_M_aggregate 71 = .ok (.iadd, 1) := by decide +kernel
theorem d_M_aggregate_72 : decode b_M_aggregate 72 = .ok (.bipush 60, 2) := by decide +kernel
theorem d_M_aggregate_74 : decode b_M_aggregate 74 = .ok (.if_icmp .le 6, 3) := by decide +kernel
theorem d_M_aggregate_77 : decode b_M_aggregate 77 = .ok (.bipush (-104), 2) := by decide +kernel
theorem d_M_aggregate_79 : decode b_M_aggregate 79 = .ok (.ireturn, 1) := by decide +kernel
theorem d_M_aggregate_80 : decode b_M_aggregate 80 = .ok (.aload_n 0, 1) := by decide +kernel
theorem d_M_aggregate_81 : decode b_M_aggregate 81 = .ok (.getfield 48, 3) := by decide +kernel
theorem d_M_aggregate_84 : decode b_M_aggregate 84 = .ok (.aload_n 0, 1) := by decide +kernel
theorem d_M_aggregate_85 : decode b_M_aggregate 85 = .ok (.getfield 140, 3) := by decide +kernel
theorem d_M_aggregate_88 : decode b_M_aggregate 88 = .ok (.aload_n 0, 1) := by decide +kernel
theorem d_M_aggregate_89 : decode b_M_aggregate 89 = .ok (.getfield 137, 3) := by decide +kernel
theorem d_M_aggregate_92 : decode b_M_aggregate 92 = .ok (.iastore, 1) := by decide +kernel
theorem d_M_aggregate_93 : decode b_M_aggregate 93 = .ok (.aload_n 0, 1) := by decide +kernel
theorem d_M_aggregate_94 : decode b_M_aggregate 94 = .ok (.dup, 1) := by decide +kernel
theorem d_M_aggregate_95 : decode b_M_aggregate 95 = .ok (.getfield 140, 3) := by decide +kernel
theorem d_M_aggregate_98 : decode b_M_aggregate 98 = .ok (.iconst 1, 1) := by decide +kernel
theorem d_M_aggregate_99 : decode b_M_aggregate 99 = .ok (.iadd, 1) := by decide +kernel
theorem d_M_aggregate_100 : decode b_M_aggregate 100 = .ok (.putfield 140, 3) := by decide +kernel
theorem d_M_aggregate_103 : decode b_M_aggregate 103 = .ok (.aload_n 0, 1) := by decide +kernel
theorem d_M_aggregate_104 : decode b_M_aggregate 104 = .ok (.bipush 30, 2) := by decide +kernel
theorem d_M_aggregate_106 : decode b_M_aggregate 106 = .ok (.iload_n 1, 1) := by decide +kernel
theorem d_M_aggregate_107 : decode b_M_aggregate 107 = .ok (.iadd, 1) := by decide +kernel
theorem d_M_aggregate_108 : decode b_M_aggregate 108 = .ok (.iload_n 2, 1) := by decide +kernel
theorem d_M_aggregate_109 : decode b_M_aggregate 109 = .ok (.iconst 0, 1) := by decide +kernel
theorem d_M_aggregate_110 : decode b_M_aggregate 110 = .ok (.lconst 0, 1) := by decide +kernel
theorem d_M_aggregate_111 : decode b_M_aggregate 111 = .ok (.iload_n 3, 1) := by decide +kernel
theorem d_M_aggregate_112 : decode b_M_aggregate 112 = .ok (.invokevirtual 170, 3) := by decide +kernel
theorem d_M_aggregate_115 : decode b_M_aggregate 115 = .ok (.ireturn, 1) := by decide +kernel
theorem d_M_source_0 : decode b_M_source 0 = .ok (.iload_n 1, 1) := by decide +kernel
theorem d_M_source_1 : decode b_M_source 1 = .ok (.i2l, 1) := by decide +kernel
theorem d_M_source_2 : decode b_M_source 2 = .ok (.lconst 0, 1) := by decide +kernel
theorem d_M_source_3 : decode b_M_source 3 = .ok (.aload_n 0, 1) := by decide +kernel
theorem d_M_source_4 : decode b_M_source 4 = .ok (.getfield 130, 3) := by decide +kernel
theorem d_M_source_7 : decode b_M_source 7 = .ok (.iconst 1, 1) := by decide +kernel
theorem d_M_source_8 : decode b_M_source 8 = .ok (.isub, 1) := by decide +kernel
theorem d_M_source_9 : decode b_M_source 9 = .ok (.i2l, 1) := by decide +kernel
theorem d_M_source_10 : decode b_M_source 10 = .ok (.invokestatic 126, 3) := by decide +kernel
theorem d_M_source_13 : decode b_M_source 13 = .ok (.ifCond .eq 16, 3) := by decide +kernel
theorem d_M_source_16 : decode b_M_source 16 = .ok (.iload_n 3, 1) := by decide +kernel
theorem d_M_source_17 : decode b_M_source 17 = .ok (.iconst (-1), 1) := by decide +kernel
theorem d_M_source_18 : decode b_M_source 18 = .ok (.if_icmp .eq 14, 3) := by decide +kernel
theorem d_M_source_21 : decode b_M_source 21 = .ok (.aload_n 0, 1) := by decide +kernel
theorem d_M_source_22 : decode b_M_source 22 = .ok (.iload_n 3, 1) := by decide +kernel
theorem d_M_source_23 : decode b_M_source 23 = .ok (.invokevirtual 178, 3) := by decide +kernel
theorem d_M_source_26 : decode b_M_source 26 = .ok (.ifCond .ne 6, 3) := by decide +kernel
theorem d_M_source_29 : decode b_M_source 29 = .ok (.bipush (-101), 2) := by decide +kernel
theorem d_M_source_31 : decode b_M_source 31 = .ok (.ireturn, 1) := by decide +kernel
theorem d_M_source_32 : decode b_M_source 32 = .ok (.iload_n 2, 1) := by decide +kernel
theorem d_M_source_33 : decode b_M_source 33 = .ok (.i2l, 1) := by decide +kernel
theorem d_M_source_34 : decode b_M_source 34 = .ok (.lconst 0, 1) := by decide +kernel
theorem d_M_source_35 : decode b_M_source 35 = .ok (.ldc2_w 174, 3) := by decide +kernel
theorem d_M_source_38 : decode b_M_source 38 = .ok (.invokestatic 126, 3) := by decide +kernel
theorem d_M_source_41 : decode b_M_source 41 = .ok (.ifCond .ne 6, 3) := by decide +kernel
theorem d_M_source_44 : decode b_M_source 44 = .ok (.bipush (-102), 2) := by decide +kernel
theorem d_M_source_46 : decode b_M_source 46 = .ok (.ireturn, 1) := by decide +kernel
theorem d_M_source_47 : decode b_M_source 47 = .ok (.aload_n 0, 1) := by decide +kernel
theorem d_M_source_48 : decode b_M_source 48 = .ok (.getfield 143, 3) := by decide +kernel
theorem d_M_source_51 : decode b_M_source 51 = .ok (.ifCond .ne 7, 3) := by decide +kernel
theorem d_M_source_54 : decode b_M_source 54 = .ok (.iload_n 2, 1) := by decide +kernel
theorem d_M_source_55 : decode b_M_source 55 = .ok (.ifCond .ne 29, 3) := by decide +kernel
theorem d_M_source_58 : decode b_M_source 58 = .ok (.iload_n 2, 1) := by decide +kernel
theorem d_M_source_59 : decode b_M_source 59 = .ok (.ifCond .ne 8, 3) := by decide +kernel
theorem d_M_source_62 : decode b_M_source 62 = .ok (.iload_n 3, 1) := by decide +kernel
theorem d_M_source_63 : decode b_M_source 63 = .ok (.iconst (-1), 1) := by decide +kernel
theorem d_M_source_64 : decode b_M_source 64 = .ok (.if_icmp .ne 20, 3) := by decide +kernel
theorem d_M_source_67 : decode b_M_source 67 = .ok (.iload_n 2, 1) := by decide +kernel
theorem d_M_source_68 : decode b_M_source 68 = .ok (.ifCond .le 19, 3) := by decide +kernel
theorem d_M_source_71 : decode b_M_source 71 = .ok (.iload_n 3, 1) := by decide +kernel
theorem d_M_source_72 : decode b_M_source 72 = .ok (.iconst (-1), 1) := by decide +kernel
theorem d_M_source_73 : decode b_M_source 73 = .ok (.if_icmp .eq 11, 3) := by decide +kernel
theorem d_M_source_76 : decode b_M_source 76 = .ok (.aload_n 0, 1) := by decide +kernel
theorem d_M_source_77 : decode b_M_source 77 = .ok (.iload_n 3, 1) := by decide +kernel
theorem d_M_source_78 : decode b_M_source 78 = .ok (.invokevirtual 186, 3) := by decide +kernel
theorem d_M_source_81 : decode b_M_source 81 = .ok (.ifCond .ne 6, 3) := by decide +kernel
theorem d_M_source_84 : decode b_M_source 84 = .ok (.bipush (-103), 2) := by decide +kernel
theorem d_M_source_86 : decode b_M_source 86 = .ok (.ireturn, 1) := by decide +kernel
theorem d_M_source_87 : decode b_M_source 87 = .ok (.aload_n 0, 1) := by decide +kernel
theorem d_M_source_88 : decode b_M_source 88 = .ok (.getfield 143, 3) := by decide +kernel
theorem d_M_source_91 : decode b_M_source 91 = .ok (.iconst 3, 1) := by decide +kernel
theorem d_M_source_92 : decode b_M_source 92 = .ok (.if_icmp .ne 6, 3) := by decide +kernel
theorem d_M_source_95 : decode b_M_source 95 = .ok (.bipush (-104), 2) := by decide +kernel
theorem d_M_source_97 : decode b_M_source 97 = .ok (.ireturn, 1) := by decide +kernel
theorem d_M_source_98 : decode b_M_source 98 = .ok (.aload_n 0, 1) := by decide +kernel
theorem d_M_source_99 : decode b_M_source 99 = .ok (.getfield 51, 3) := by decide +kernel
theorem d_M_source_102 : decode b_M_source 102 = .ok (.aload_n 0, 1) := by decide +kernel
theorem d_M_source_103 : decode b_M_source 103 = .ok (.getfield 143, 3) := by decide +kernel
theorem d_M_source_106 : decode b_M_source 106 = .ok (.iload_n 1, 1) := by decide +kernel
theorem d_M_source_107 : decode b_M_source 107 = .ok (.iastore, 1) := by decide +kernel
theorem d_M_source_108 : decode b_M_source 108 = .ok (.aload_n 0, 1) := by decide +kernel
theorem d_M_source_109 : decode b_M_source 109 = .ok (.getfield 54, 3) := by decide +kernel
theorem d_M_source_112 : decode b_M_source 112 = .ok (.aload_n 0, 1) := by decide +kernel
theorem d_M_source_113 : decode b_M_source 113 = .ok (.getfield 143, 3) := by decide +kernel
theorem d_M_source_116 : decode b_M_source 116 = .ok (.iload_n 2, 1) := by decide +kernel
theorem d_M_source_117 : decode b_M_source 117 = .ok (.iastore, 1) := by decide +kernel
theorem d_M_source_118 : decode b_M_source 118 = .ok (.aload_n 0, 1) := by decide +kernel
theorem d_M_source_119 : decode b_M_source 119 = .ok (.getfield 57, 3) := by decide +kernel
theorem d_M_source_122 : decode b_M_source 122 = .ok (.aload_n 0, 1) := by decide +kernel
theorem d_M_source_123 : decode b_M_source 123 = .ok (.getfield 143, 3) := by decide +kernel
theorem d_M_source_126 : decode b_M_source 126 = .ok (.iload_n 3, 1) := by decide +kernel
theorem d_M_source_127 : decode b_M_source 127 = .ok (.iastore, 1) := by decide +kernel
theorem d_M_source_128 : decode b_M_source 128 = .ok (.aload_n 0, 1) := by decide +kernel
theorem d_M_source_129 : decode b_M_source 129 = .ok (.dup, 1) := by decide +kernel
theorem d_M_source_130 : decode b_M_source 130 = .ok (.getfield 143, 3) := by decide +kernel
theorem d_M_source_133 : decode b_M_source 133 = .ok (.iconst 1, 1) := by decide +kernel
theorem d_M_source_134 : decode b_M_source 134 = .ok (.iadd, 1) := by decide +kernel
theorem d_M_source_135 : decode b_M_source 135 = .ok (.putfield 143, 3) := by decide +kernel
theorem d_M_source_138 : decode b_M_source 138 = .ok (.aload_n 0, 1) := by decide +kernel
theorem d_M_source_139 : decode b_M_source 139 = .ok (.getfield 143, 3) := by decide +kernel
theorem d_M_source_142 : decode b_M_source 142 = .ok (.ireturn, 1) := by decide +kernel
theorem d_M_condition_0 : decode b_M_condition 0 = .ok (.aload_n 0, 1) := by decide +kernel
theorem d_M_condition_1 : decode b_M_condition 1 = .ok (.iload_n 2, 1) := by decide +kernel
theorem d_M_condition_2 : decode b_M_condition 2 = .ok (.invokevirtual 178, 3) := by decide +kernel
theorem d_M_condition_5 : decode b_M_condition 5 = .ok (.ifCond .ne 6, 3) := by decide +kernel
theorem d_M_condition_8 : decode b_M_condition 8 = .ok (.bipush (-101), 2) := by decide +kernel
theorem d_M_condition_10 : decode b_M_condition 10 = .ok (.ireturn, 1) := by decide +kernel
theorem d_M_condition_11 : decode b_M_condition 11 = .ok (.iload_n 1, 1) := by decide +kernel
theorem d_M_condition_12 : decode b_M_condition 12 = .ok (.i2l, 1) := by decide +kernel
theorem d_M_condition_13 : decode b_M_condition 13 = .ok (.lconst 0, 1) := by decide +kernel
theorem d_M_condition_14 : decode b_M_condition 14 = .ok (.lconst 1, 1) := by decide +kernel
theorem d_M_condition_15 : decode b_M_condition 15 = .ok (.invokestatic 126, 3) := by decide +kernel
theorem d_M_condition_18 : decode b_M_condition 18 = .ok (.ifCond .ne 6, 3) := by decide +kernel
theorem d_M_condition_21 : decode b_M_condition 21 = .ok (.bipush (-102), 2) := by decide +kernel
theorem d_M_condition_23 : decode b_M_condition 23 = .ok (.ireturn, 1) := by decide +kernel
theorem d_M_condition_24 : decode b_M_condition 24 = .ok (.aload_n 0, 1) := by decide +kernel
theorem d_M_condition_25 : decode b_M_condition 25 = .ok (.iload_n 2, 1) := by decide +kernel
theorem d_M_condition_26 : decode b_M_condition 26 = .ok (.invokevirtual 186, 3) := by decide +kernel
theorem d_M_condition_29 : decode b_M_condition 29 = .ok (.ifCond .ne 6, 3) := by decide +kernel
theorem d_M_condition_32 : decode b_M_condition 32 = .ok (.bipush (-103), 2) := by decide +kernel
theorem d_M_condition_34 : decode b_M_condition 34 = .ok (.ireturn, 1) := by decide +kernel
theorem d_M_condition_35 : decode b_M_condition 35 = .ok (.aload_n 0, 1) := by decide +kernel
theorem d_M_condition_36 : decode b_M_condition 36 = .ok (.iload_n 1, 1) := by decide +kernel
theorem d_M_condition_37 : decode b_M_condition 37 = .ok (.ifCond .ne 7, 3) := by decide +kernel
theorem d_M_condition_40 : decode b_M_condition 40 = .ok (.iload_n 2, 1) := by decide +kernel
theorem d_M_condition_41 : decode b_M_condition 41 = .ok (.goto 7, 3) := by decide +kernel
theorem d_M_condition_44 : decode b_M_condition 44 = .ok (.aload_n 0, 1) := by decide +kernel
theorem d_M_condition_45 : decode b_M_condition 45 = .ok (.getfield 60, 3) := by decide +kernel
theorem d_M_condition_48 : decode b_M_condition 48 = .ok (.putfield 60, 3) := by decide +kernel
theorem d_M_condition_51 : decode b_M_condition 51 = .ok (.aload_n 0, 1) := by decide +kernel
theorem d_M_condition_52 : decode b_M_condition 52 = .ok (.iload_n 1, 1) := by decide +kernel
theorem d_M_condition_53 : decode b_M_condition 53 = .ok (.iconst 1, 1) := by decide +kernel
theorem d_M_condition_54 : decode b_M_condition 54 = .ok (.if_icmp .ne 7, 3) := by decide +kernel
theorem d_M_condition_57 : decode b_M_condition 57 = .ok (.iload_n 2, 1) := by decide +kernel
theorem d_M_condition_58 : decode b_M_condition 58 = .ok (.goto 7, 3) := by decide +kernel
theorem d_M_condition_61 : decode b_M_condition 61 = .ok (.aload_n 0, 1) := by decide +kernel
theorem d_M_condition_62 : decode b_M_condition 62 = .ok (.getfield 64, 3) := by decide +kernel
theorem d_M_condition_65 : decode b_M_condition 65 = .ok (.putfield 64, 3) := by decide +kernel
theorem d_M_condition_68 : decode b_M_condition 68 = .ok (.iconst 1, 1) := by decide +kernel
theorem d_M_condition_69 : decode b_M_condition 69 = .ok (.ireturn, 1) := by decide +kernel
theorem d_M_group_0 : decode b_M_group 0 = .ok (.aload_n 0, 1) := by decide +kernel
theorem d_M_group_1 : decode b_M_group 1 = .ok (.iload_n 1, 1) := by decide +kernel
theorem d_M_group_2 : decode b_M_group 2 = .ok (.invokevirtual 178, 3) := by decide +kernel
theorem d_M_group_5 : decode b_M_group 5 = .ok (.ifCond .ne 6, 3) := by decide +kernel
theorem d_M_group_8 : decode b_M_group 8 = .ok (.bipush (-101), 2) := by decide +kernel
theorem d_M_group_10 : decode b_M_group 10 = .ok (.ireturn, 1) := by decide +kernel
theorem d_M_group_11 : decode b_M_group 11 = .ok (.aload_n 0, 1) := by decide +kernel
theorem d_M_group_12 : decode b_M_group 12 = .ok (.iload_n 1, 1) := by decide +kernel
theorem d_M_group_13 : decode b_M_group 13 = .ok (.invokevirtual 186, 3) := by decide +kernel
theorem d_M_group_16 : decode b_M_group 16 = .ok (.ifCond .eq 6, 3) := by decide +kernel
theorem d_M_group_19 : decode b_M_group 19 = .ok (.bipush (-103), 2) := by decide +kernel
theorem d_M_group_21 : decode b_M_group 21 = .ok (.ireturn, 1) := by decide +kernel
theorem d_M_group_22 : decode b_M_group 22 = .ok (.aload_n 0, 1) := by decide +kernel
theorem d_M_group_23 : decode b_M_group 23 = .ok (.getfield 146, 3) := by decide +kernel
theorem d_M_group_26 : decode b_M_group 26 = .ok (.iconst 4, 1) := by decide +kernel
theorem d_M_group_27 : decode b_M_group 27 = .ok (.if_icmp .ne 6, 3) := by decide +kernel
theorem d_M_group_30 : decode b_M_group 30 = .ok (.bipush (-104), 2) := by decide +kernel
theorem d_M_group_32 : decode b_M_group 32 = .ok (.ireturn, 1) := by decide +kernel
theorem d_M_group_33 : decode b_M_group 33 = .ok (.aload_n 0, 1) := by decide +kernel
theorem d_M_group_34 : decode b_M_group 34 = .ok (.getfield 67, 3) := by decide +kernel
theorem d_M_group_37 : decode b_M_group 37 = .ok (.aload_n 0, 1) := by decide +kernel
theorem d_M_group_38 : decode b_M_group 38 = .ok (.getfield 146, 3) := by decide +kernel
theorem d_M_group_41 : decode b_M_group 41 = .ok (.iload_n 1, 1) := by decide +kernel
theorem d_M_group_42 : decode b_M_group 42 = .ok (.iastore, 1) := by decide +kernel
theorem d_M_group_43 : decode b_M_group 43 = .ok (.aload_n 0, 1) := by decide +kernel
theorem d_M_group_44 : decode b_M_group 44 = .ok (.dup, 1) := by decide +kernel
theorem d_M_group_45 : decode b_M_group 45 = .ok (.getfield 146, 3) := by decide +kernel
theorem d_M_group_48 : decode b_M_group 48 = .ok (.iconst 1, 1) := by decide +kernel
theorem d_M_group_49 : decode b_M_group 49 = .ok (.iadd, 1) := by decide +kernel
theorem d_M_group_50 : decode b_M_group 50 = .ok (.putfield 146, 3) := by decide +kernel
theorem d_M_group_53 : decode b_M_group 53 = .ok (.aload_n 0, 1) := by decide +kernel
theorem d_M_group_54 : decode b_M_group 54 = .ok (.getfield 146, 3) := by decide +kernel
theorem d_M_group_57 : decode b_M_group 57 = .ok (.ireturn, 1) := by decide +kernel
theorem d_M_item_0 : decode b_M_item 0 = .ok (.aload_n 0, 1) := by decide +kernel
theorem d_M_item_1 : decode b_M_item 1 = .ok (.iload_n 1, 1) := by decide +kernel
theorem d_M_item_2 : decode b_M_item 2 = .ok (.invokevirtual 178, 3) := by decide +kernel
theorem d_M_item_5 : decode b_M_item 5 = .ok (.ifCond .ne 6, 3) := by decide +kernel
theorem d_M_item_8 : decode b_M_item 8 = .ok (.bipush (-101), 2) := by decide +kernel
theorem d_M_item_10 : decode b_M_item 10 = .ok (.ireturn, 1) := by decide +kernel
theorem d_M_item_11 : decode b_M_item 11 = .ok (.aload_n 0, 1) := by decide +kernel
theorem d_M_item_12 : decode b_M_item 12 = .ok (.iload_n 1, 1) := by decide +kernel
theorem d_M_item_13 : decode b_M_item 13 = .ok (.invokevirtual 186, 3) := by decide +kernel
theorem d_M_item_16 : decode b_M_item 16 = .ok (.ifCond .eq 6, 3) := by decide +kernel
theorem d_M_item_19 : decode b_M_item 19 = .ok (.bipush (-103), 2) := by decide +kernel
theorem d_M_item_21 : decode b_M_item 21 = .ok (.ireturn, 1) := by decide +kernel
theorem d_M_item_22 : decode b_M_item 22 = .ok (.aload_n 0, 1) := by decide +kernel
theorem d_M_item_23 : decode b_M_item 23 = .ok (.getfield 149, 3) := by decide +kernel
theorem d_M_item_26 : decode b_M_item 26 = .ok (.bipush 6, 2) := by decide +kernel
theorem d_M_item_28 : decode b_M_item 28 = .ok (.if_icmp .ne 6, 3) := by decide +kernel
theorem d_M_item_31 : decode b_M_item 31 = .ok (.bipush (-104), 2) := by decide +kernel
theorem d_M_item_33 : decode b_M_item 33 = .ok (.ireturn, 1) := by decide +kernel
theorem d_M_item_34 : decode b_M_item 34 = .ok (.aload_n 0, 1) := by decide +kernel
theorem d_M_item_35 : decode b_M_item 35 = .ok (.getfield 70, 3) := by decide +kernel
theorem d_M_item_38 : decode b_M_item 38 = .ok (.aload_n 0, 1) := by decide +kernel
theorem d_M_item_39 : decode b_M_item 39 = .ok (.getfield 149, 3) := by decide +kernel
theorem d_M_item_42 : decode b_M_item 42 = .ok (.iload_n 1, 1) := by decide +kernel
theorem d_M_item_43 : decode b_M_item 43 = .ok (.iastore, 1) := by decide +kernel
theorem d_M_item_44 : decode b_M_item 44 = .ok (.aload_n 0, 1) := by decide +kernel
theorem d_M_item_45 : decode b_M_item 45 = .ok (.dup, 1) := by decide +kernel
theorem d_M_item_46 : decode b_M_item 46 = .ok (.getfield 149, 3) := by decide +kernel
theorem d_M_item_49 : decode b_M_item 49 = .ok (.iconst 1, 1) := by decide +kernel
theorem d_M_item_50 : decode b_M_item 50 = .ok (.iadd, 1) := by decide +kernel
theorem d_M_item_51 : decode b_M_item 51 = .ok (.putfield 149, 3) := by decide +kernel
theorem d_M_item_54 : decode b_M_item 54 = .ok (.aload_n 0, 1) := by decide +kernel
theorem d_M_item_55 : decode b_M_item 55 = .ok (.getfield 149, 3) := by decide +kernel
theorem d_M_item_58 : decode b_M_item 58 = .ok (.iconst 1, 1) := by decide +kernel
theorem d_M_item_59 : decode b_M_item 59 = .ok (.isub, 1) := by decide +kernel
theorem d_M_item_60 : decode b_M_item 60 = .ok (.ireturn, 1) := by decide +kernel
theorem d_M_order_0 : decode b_M_order 0 = .ok (.iload_n 1, 1) := by decide +kernel
theorem d_M_order_1 : decode b_M_order 1 = .ok (.i2l, 1) := by decide +kernel
theorem d_M_order_2 : decode b_M_order 2 = .ok (.lconst 0, 1) := by decide +kernel
theorem d_M_order_3 : decode b_M_order 3 = .ok (.aload_n 0, 1) := by decide +kernel
theorem d_M_order_4 : decode b_M_order 4 = .ok (.getfield 149, 3) := by decide +kernel
theorem d_M_order_7 : decode b_M_order 7 = .ok (.iconst 1, 1) := by decide +kernel
theorem d_M_order_8 : decode b_M_order 8 = .ok (.isub, 1) := by decide +kernel
theorem d_M_order_9 : decode b_M_order 9 = .ok (.i2l, 1) := by decide +kernel
theorem d_M_order_10 : decode b_M_order 10 = .ok (.invokestatic 126, 3) := by decide +kernel
theorem d_M_order_13 : decode b_M_order 13 = .ok (.ifCond .ne 6, 3) := by decide +kernel
theorem d_M_order_16 : decode b_M_order 16 = .ok (.bipush (-101), 2) := by decide +kernel
theorem d_M_order_18 : decode b_M_order 18 = .ok (.ireturn, 1) := by decide +kernel
theorem d_M_order_19 : decode b_M_order 19 = .ok (.aload_n 0, 1) := by decide +kernel
theorem d_M_order_20 : decode b_M_order 20 = .ok (.getfield 152, 3) := by decide +kernel
theorem d_M_order_23 : decode b_M_order 23 = .ok (.iconst 4, 1) := by decide +kernel
theorem d_M_order_24 : decode b_M_order 24 = .ok (.if_icmp .ne 6, 3) := by decide +kernel
theorem d_M_order_27 : decode b_M_order 27 = .ok (.bipush (-104), 2) := by decide +kernel
theorem d_M_order_29 : decode b_M_order 29 = .ok (.ireturn, 1) := by decide +kernel
theorem d_M_order_30 : decode b_M_order 30 = .ok (.aload_n 0, 1) := by decide +kernel
theorem d_M_order_31 : decode b_M_order 31 = .ok (.getfield 73, 3) := by decide +kernel
theorem d_M_order_34 : decode b_M_order 34 = .ok (.aload_n 0, 1) := by decide +kernel
theorem d_M_order_35 : decode b_M_order 35 = .ok (.getfield 152, 3) := by decide +kernel
theorem d_M_order_38 : decode b_M_order 38 = .ok (.iload_n 1, 1) := by decide +kernel
theorem d_M_order_39 : decode b_M_order 39 = .ok (.iastore, 1) := by decide +kernel
theorem d_M_order_40 : decode b_M_order 40 = .ok (.aload_n 0, 1) := by decide +kernel
theorem d_M_order_41 : decode b_M_order 41 = .ok (.getfield 76, 3) := by decide +kernel
theorem d_M_order_44 : decode b_M_order 44 = .ok (.aload_n 0, 1) := by decide +kernel
theorem d_M_order_45 : decode b_M_order 45 = .ok (.getfield 152, 3) := by decide +kernel
theorem d_M_order_48 : decode b_M_order 48 = .ok (.iload_n 2, 1) := by decide +kernel
theorem d_M_order_49 : decode b_M_order 49 = .ok (.bastore, 1) := by decide +kernel
theorem d_M_order_50 : decode b_M_order 50 = .ok (.aload_n 0, 1) := by decide +kernel
theorem d_M_order_51 : decode b_M_order 51 = .ok (.dup, 1) := by decide +kernel
theorem d_M_order_52 : decode b_M_order 52 = .ok (.getfield 152, 3) := by decide +kernel
theorem d_M_order_55 : decode b_M_order 55 = .ok (.iconst 1, 1) := by decide +kernel
theorem d_M_order_56 : decode b_M_order 56 = .ok (.iadd, 1) := by decide +kernel
theorem d_M_order_57 : decode b_M_order 57 = .ok (.putfield 152, 3) := by decide +kernel
theorem d_M_order_60 : decode b_M_order 60 = .ok (.aload_n 0, 1) := by decide +kernel
theorem d_M_order_61 : decode b_M_order 61 = .ok (.getfield 152, 3) := by decide +kernel
theorem d_M_order_64 : decode b_M_order 64 = .ok (.ireturn, 1) := by decide +kernel
theorem d_M_shape_0 : decode b_M_shape 0 = .ok (.iload_n 2, 1) := by decide +kernel
theorem d_M_shape_1 : decode b_M_shape 1 = .ok (.i2l, 1) := by decide +kernel
theorem d_M_shape_2 : decode b_M_shape 2 = .ok (.lconst 0, 1) := by decide +kernel
theorem d_M_shape_3 : decode b_M_shape 3 = .ok (.ldc2_w 191, 3) := by decide +kernel
theorem d_M_shape_6 : decode b_M_shape 6 = .ok (.invokestatic 126, 3) := by decide +kernel
theorem d_M_shape_9 : decode b_M_shape 9 = .ok (.ifCond .eq 15, 3) := by decide +kernel
theorem d_M_shape_12 : decode b_M_shape 12 = .ok (.iload_n 3, 1) := by decide +kernel
theorem d_M_shape_13 : decode b_M_shape 13 = .ok (.i2l, 1) := by decide +kernel
theorem d_M_shape_14 : decode b_M_shape 14 = .ok (.lconst 0, 1) := by decide +kernel
theorem d_M_shape_15 : decode b_M_shape 15 = .ok (.ldc2_w 191, 3) := by decide +kernel
theorem d_M_shape_18 : decode b_M_shape 18 = .ok (.invokestatic 126, 3) := by decide +kernel
theorem d_M_shape_21 : decode b_M_shape 21 = .ok (.ifCond .ne 6, 3) := by decide +kernel
theorem d_M_shape_24 : decode b_M_shape 24 = .ok (.bipush (-102), 2) := by decide +kernel
theorem d_M_shape_26 : decode b_M_shape 26 = .ok (.ireturn, 1) := by decide +kernel
theorem d_M_shape_27 : decode b_M_shape 27 = .ok (.aload_n 0, 1) := by decide +kernel
theorem d_M_shape_28 : decode b_M_shape 28 = .ok (.iload_n 1, 1) := by decide +kernel
theorem d_M_shape_29 : decode b_M_shape 29 = .ok (.putfield 155, 3) := by decide +kernel
theorem d_M_shape_32 : decode b_M_shape 32 = .ok (.aload_n 0, 1) := by decide +kernel
theorem d_M_shape_33 : decode b_M_shape 33 = .ok (.iload_n 2, 1) := by decide +kernel
theorem d_M_shape_34 : decode b_M_shape 34 = .ok (.putfield 79, 3) := by decide +kernel
theorem d_M_shape_37 : decode b_M_shape 37 = .ok (.aload_n 0, 1) := by decide +kernel
theorem d_M_shape_38 : decode b_M_shape 38 = .ok (.iload_n 3, 1) := by decide +kernel
theorem d_M_shape_39 : decode b_M_shape 39 = .ok (.putfield 159, 3) := by decide +kernel
theorem d_M_shape_42 : decode b_M_shape 42 = .ok (.iconst 1, 1) := by decide +kernel
theorem d_M_shape_43 : decode b_M_shape 43 = .ok (.ireturn, 1) := by decide +kernel
theorem d_M_give_0 : decode b_M_give 0 = .ok (.aload_n 0, 1) := by decide +kernel
theorem d_M_give_1 : decode b_M_give 1 = .ok (.getfield 118, 3) := by decide +kernel
theorem d_M_give_4 : decode b_M_give 4 = .ok (.aload_n 0, 1) := by decide +kernel
theorem d_M_give_5 : decode b_M_give 5 = .ok (.getfield 210, 3) := by decide +kernel
theorem d_M_give_8 : decode b_M_give 8 = .ok (.lload_n 1, 1) := by decide +kernel
theorem d_M_give_9 : decode b_M_give 9 = .ok (.lastore, 1) := by decide +kernel
theorem d_M_give_10 : decode b_M_give 10 = .ok (.aload_n 0, 1) := by decide +kernel
theorem d_M_give_11 : decode b_M_give 11 = .ok (.getfield 121, 3) := by decide +kernel
theorem d_M_give_14 : decode b_M_give 14 = .ok (.aload_n 0, 1) := by decide +kernel
theorem d_M_give_15 : decode b_M_give 15 = .ok (.getfield 210, 3) := by decide +kernel
theorem d_M_give_18 : decode b_M_give 18 = .ok (.iload_n 3, 1) := by decide +kernel
theorem d_M_give_19 : decode b_M_give 19 = .ok (.bastore, 1) := by decide +kernel
theorem d_M_give_20 : decode b_M_give 20 = .ok (.aload_n 0, 1) := by decide +kernel
theorem d_M_give_21 : decode b_M_give 21 = .ok (.dup, 1) := by decide +kernel
theorem d_M_give_22 : decode b_M_give 22 = .ok (.getfield 210, 3) := by decide +kernel
theorem d_M_give_25 : decode b_M_give 25 = .ok (.iconst 1, 1) := by decide +kernel
theorem d_M_give_26 : decode b_M_give 26 = .ok (.iadd, 1) := by decide +kernel
theorem d_M_give_27 : decode b_M_give 27 = .ok (.putfield 210, 3) := by decide +kernel
theorem d_M_give_30 : decode b_M_give 30 = .ok (.return_, 1) := by decide +kernel
theorem d_M_size_0 : decode b_M_size 0 = .ok (.lload_n 0, 1) := by decide +kernel
theorem d_M_size_1 : decode b_M_size 1 = .ok (.lconst 0, 1) := by decide +kernel
theorem d_M_size_2 : decode b_M_size 2 = .ok (.lcmp, 1) := by decide +kernel
theorem d_M_size_3 : decode b_M_size 3 = .ok (.ifCond .ge 8, 3) := by decide +kernel
theorem d_M_size_6 : decode b_M_size 6 = .ok (.lload_n 0, 1) := by decide +kernel
theorem d_M_size_7 : decode b_M_size 7 = .ok (.lneg, 1) := by decide +kernel
theorem d_M_size_8 : decode b_M_size 8 = .ok (.goto 4, 3) := by decide +kernel
theorem d_M_size_11 : decode b_M_size 11 = .ok (.lload_n 0, 1) := by decide +kernel
theorem d_M_size_12 : decode b_M_size 12 = .ok (.lreturn, 1) := by decide +kernel
theorem d_M_reckon_0 : decode b_M_reckon 0 = .ok (.iload_n 1, 1) := by decide +kernel
theorem d_M_reckon_1 : decode b_M_reckon 1 = .ok (.iconst 3, 1) := by decide +kernel
theorem d_M_reckon_2 : decode b_M_reckon 2 = .ok (.if_icmp .lt 18, 3) := by decide +kernel
theorem d_M_reckon_5 : decode b_M_reckon 5 = .ok (.lload 4, 2) := by decide +kernel
theorem d_M_reckon_7 : decode b_M_reckon 7 = .ok (.lconst 0, 1) := by decide +kernel
theorem d_M_reckon_8 : decode b_M_reckon 8 = .ok (.lcmp, 1) := by decide +kernel
theorem d_M_reckon_9 : decode b_M_reckon 9 = .ok (.ifCond .ne 11, 3) := by decide +kernel
theorem d_M_reckon_12 : decode b_M_reckon 12 = .ok (.aload_n 0, 1) := by decide +kernel
theorem d_M_reckon_13 : decode b_M_reckon 13 = .ok (.bipush (-20), 2) := by decide +kernel
theorem d_M_reckon_15 : decode b_M_reckon 15 = .ok (.putfield 213, 3) := by decide +kernel
theorem d_M_reckon_18 : decode b_M_reckon 18 = .ok (.lconst 0, 1) := by decide +kernel
theorem d_M_reckon_19 : decode b_M_reckon 19 = .ok (.lreturn, 1) := by decide +kernel
theorem d_M_reckon_20 : decode b_M_reckon 20 = .ok (.iload_n 1, 1) := by decide +kernel
theorem d_M_reckon_21 : decode b_M_reckon 21 = .ok (.iconst 2, 1) := by decide +kernel
theorem d_M_reckon_22 : decode b_M_reckon 22 = .ok (.if_icmp .ne 65, 3) := by decide +kernel
theorem d_M_reckon_25 : decode b_M_reckon 25 = .ok (.lload_n 2, 1) := by decide +kernel
theorem d_M_reckon_26 : decode b_M_reckon 26 = .ok (.lconst 0, 1) := by decide +kernel
theorem d_M_reckon_27 : decode b_M_reckon 27 = .ok (.lcmp, 1) := by decide +kernel
theorem d_M_reckon_28 : decode b_M_reckon 28 = .ok (.ifCond .eq 24, 3) := by decide +kernel
theorem d_M_reckon_31 : decode b_M_reckon 31 = .ok (.lload 4, 2) := by decide +kernel
theorem d_M_reckon_33 : decode b_M_reckon 33 = .ok (.invokestatic 216, 3) := by decide +kernel
theorem d_M_reckon_36 : decode b_M_reckon 36 = .ok (.ldc2_w 220, 3) := by decide +kernel
theorem d_M_reckon_39 : decode b_M_reckon 39 = .ok (.lload_n 2, 1) := by decide +kernel
theorem d_M_reckon_40 : decode b_M_reckon 40 = .ok (.invokestatic 216, 3) := by decide +kernel
theorem d_M_reckon_43 : decode b_M_reckon 43 = .ok (.ldiv, 1) := by decide +kernel
theorem d_M_reckon_44 : decode b_M_reckon 44 = .ok (.lcmp, 1) := by decide +kernel
theorem d_M_reckon_45 : decode b_M_reckon 45 = .ok (.ifCond .le 7, 3) := by decide +kernel
theorem d_M_reckon_48 : decode b_M_reckon 48 = .ok (.iconst 1, 1) := by decide +kernel
theorem d_M_reckon_49 : decode b_M_reckon 49 = .ok (.goto 4, 3) := by decide +kernel
theorem d_M_reckon_52 : decode b_M_reckon 52 = .ok (.iconst 0, 1) := by decide +kernel
theorem d_M_reckon_53 : decode b_M_reckon 53 = .ok (.istore 6, 2) := by decide +kernel
theorem d_M_reckon_55 : decode b_M_reckon 55 = .ok (.aload_n 0, 1) := by decide +kernel
theorem d_M_reckon_56 : decode b_M_reckon 56 = .ok (.iload 6, 2) := by decide +kernel
theorem d_M_reckon_58 : decode b_M_reckon 58 = .ok (.ifCond .eq 8, 3) := by decide +kernel
theorem d_M_reckon_61 : decode b_M_reckon 61 = .ok (.bipush (-21), 2) := by decide +kernel
theorem d_M_reckon_63 : decode b_M_reckon 63 = .ok (.goto 7, 3) := by decide +kernel
theorem d_M_reckon_66 : decode b_M_reckon 66 = .ok (.aload_n 0, 1) := by decide +kernel
theorem d_M_reckon_67 : decode b_M_reckon 67 = .ok (.getfield 213, 3) := by decide +kernel
theorem d_M_reckon_70 : decode b_M_reckon 70 = .ok (.putfield 213, 3) := by decide +kernel
theorem d_M_reckon_73 : decode b_M_reckon 73 = .ok (.iload 6, 2) := by decide +kernel
theorem d_M_reckon_75 : decode b_M_reckon 75 = .ok (.ifCond .eq 7, 3) := by decide +kernel
theorem d_M_reckon_78 : decode b_M_reckon 78 = .ok (.lconst 0, 1) := by decide +kernel
theorem d_M_reckon_79 : decode b_M_reckon 79 = .ok (.goto 7, 3) := by decide +kernel
theorem d_M_reckon_82 : decode b_M_reckon 82 = .ok (.lload_n 2, 1) := by decide +kernel
theorem d_M_reckon_83 : decode b_M_reckon 83 = .ok (.lload 4, 2) := by decide +kernel
theorem d_M_reckon_85 : decode b_M_reckon 85 = .ok (.lmul, 1) := by decide +kernel
theorem d_M_reckon_86 : decode b_M_reckon 86 = .ok (.lreturn, 1) := by decide +kernel
theorem d_M_reckon_87 : decode b_M_reckon 87 = .ok (.iload_n 1, 1) := by decide +kernel
theorem d_M_reckon_88 : decode b_M_reckon 88 = .ok (.ifCond .ne 10, 3) := by decide +kernel
theorem d_M_reckon_91 : decode b_M_reckon 91 = .ok (.lload_n 2, 1) := by decide +kernel
theorem d_M_reckon_92 : decode b_M_reckon 92 = .ok (.lload 4, 2) := by decide +kernel
theorem d_M_reckon_94 : decode b_M_reckon 94 = .ok (.ladd, 1) := by decide +kernel
theorem d_M_reckon_95 : decode b_M_reckon 95 = .ok (.goto 31, 3) := by decide +kernel
theorem d_M_reckon_98 : decode b_M_reckon 98 = .ok (.iload_n 1, 1) := by decide +kernel
theorem d_M_reckon_99 : decode b_M_reckon 99 = .ok (.iconst 1, 1) := by decide +kernel
theorem d_M_reckon_100 : decode b_M_reckon 100 = .ok (.if_icmp .ne 10, 3) := by decide +kernel
theorem d_M_reckon_103 : decode b_M_reckon 103 = .ok (.lload_n 2, 1) := by decide +kernel
theorem d_M_reckon_104 : decode b_M_reckon 104 = .ok (.lload 4, 2) := by decide +kernel
theorem d_M_reckon_106 : decode b_M_reckon 106 = .ok (.lsub, 1) := by decide +kernel
theorem d_M_reckon_107 : decode b_M_reckon 107 = .ok (.goto 19, 3) := by decide +kernel
theorem d_M_reckon_110 : decode b_M_reckon 110 = .ok (.iload_n 1, 1) := by decide +kernel
theorem d_M_reckon_111 : decode b_M_reckon 111 = .ok (.iconst 3, 1) := by decide +kernel
theorem d_M_reckon_112 : decode b_M_reckon 112 = .ok (.if_icmp .ne 10, 3) := by decide +kernel
theorem d_M_reckon_115 : decode b_M_reckon 115 = .ok (.lload_n 2, 1) := by decide +kernel
theorem d_M_reckon_116 : decode b_M_reckon 116 = .ok (.lload 4, 2) := by decide +kernel
theorem d_M_reckon_118 : decode b_M_reckon 118 = .ok (.ldiv, 1) := by decide +kernel
theorem d_M_reckon_119 : decode b_M_reckon 119 = .ok (.goto 7, 3) := by decide +kernel
theorem d_M_reckon_122 : decode b_M_reckon 122 = .ok (.lload_n 2, 1) := by decide +kernel
theorem d_M_reckon_123 : decode b_M_reckon 123 = .ok (.lload 4, 2) := by decide +kernel
theorem d_M_reckon_125 : decode b_M_reckon 125 = .ok (.lrem, 1) := by decide +kernel
theorem d_M_reckon_126 : decode b_M_reckon 126 = .ok (.lstore 6, 2) := by decide +kernel
theorem d_M_reckon_128 : decode b_M_reckon 128 = .ok (.aload_n 0, 1) := by decide +kernel
theorem d_M_reckon_129 : decode b_M_reckon 129 = .ok (.lload 6, 2) := by decide +kernel
theorem d_M_reckon_131 : decode b_M_reckon 131 = .ok (.invokestatic 216, 3) := by decide +kernel
theorem d_M_reckon_134 : decode b_M_reckon 134 = .ok (.ldc2_w 220, 3) := by decide +kernel
theorem d_M_reckon_137 : decode b_M_reckon 137 = .ok (.lcmp, 1) := by decide +kernel
theorem d_M_reckon_138 : decode b_M_reckon 138 = .ok (.ifCond .le 8, 3) := by decide +kernel
theorem d_M_reckon_141 : decode b_M_reckon 141 = .ok (.bipush (-21), 2) := by decide +kernel
theorem d_M_reckon_143 : decode b_M_reckon 143 = .ok (.goto 7, 3) := by decide +kernel
theorem d_M_reckon_146 : decode b_M_reckon 146 = .ok (.aload_n 0, 1) := by decide +kernel
theorem d_M_reckon_147 : decode b_M_reckon 147 = .ok (.getfield 213, 3) := by decide +kernel
theorem d_M_reckon_150 : decode b_M_reckon 150 = .ok (.putfield 213, 3) := by decide +kernel
theorem d_M_reckon_153 : decode b_M_reckon 153 = .ok (.lload 6, 2) := by decide +kernel
theorem d_M_reckon_155 : decode b_M_reckon 155 = .ok (.lreturn, 1) := by decide +kernel
theorem d_M_truthOf_0 : decode b_M_truthOf 0 = .ok (.iload_n 0, 1) := by decide +kernel
theorem d_M_truthOf_1 : decode b_M_truthOf 1 = .ok (.ifCond .eq 7, 3) := by decide +kernel
theorem d_M_truthOf_4 : decode b_M_truthOf 4 = .ok (.lconst 1, 1) := by decide +kernel
theorem d_M_truthOf_5 : decode b_M_truthOf 5 = .ok (.goto 4, 3) := by decide +kernel
theorem d_M_truthOf_8 : decode b_M_truthOf 8 = .ok (.lconst 0, 1) := by decide +kernel
theorem d_M_truthOf_9 : decode b_M_truthOf 9 = .ok (.lreturn, 1) := by decide +kernel
theorem d_M_combine_0 : decode b_M_combine 0 = .ok (.aload_n 0, 1) := by decide +kernel
theorem d_M_combine_1 : decode b_M_combine 1 = .ok (.dup, 1) := by decide +kernel
theorem d_M_combine_2 : decode b_M_combine 2 = .ok (.getfield 210, 3) := by decide +kernel
theorem d_M_combine_5 : decode b_M_combine 5 = .ok (.iconst 2, 1) := by decide +kernel
theorem d_M_combine_6 : decode b_M_combine 6 = .ok (.isub, 1) := by decide +kernel
theorem d_M_combine_7 : decode b_M_combine 7 = .ok (.putfield 210, 3) := by decide +kernel
theorem d_M_combine_10 : decode b_M_combine 10 = .ok (.aload_n 0, 1) := by decide +kernel
theorem d_M_combine_11 : decode b_M_combine 11 = .ok (.getfield 118, 3) := by decide +kernel
theorem d_M_combine_14 : decode b_M_combine 14 = .ok (.aload_n 0, 1) := by decide +kernel
theorem d_M_combine_15 : decode b_M_combine 15 = .ok (.getfield 210, 3) := by decide +kernel
theorem d_M_combine_18 : decode b_M_combine 18 = .ok (.laload, 1) := by decide +kernel
theorem d_M_combine_19 : decode b_M_combine 19 = .ok (.lstore_n 2, 1) := by decide +kernel
theorem d_M_combine_20 : decode b_M_combine 20 = .ok (.aload_n 0, 1) := by decide +kernel
theorem d_M_combine_21 : decode b_M_combine 21 = .ok (.getfield 118, 3) := by decide +kernel
theorem d_M_combine_24 : decode b_M_combine 24 = .ok (.aload_n 0, 1) := by decide +kernel
theorem d_M_combine_25 : decode b_M_combine 25 = .ok (.getfield 210, 3) := by decide +kernel
theorem d_M_combine_28 : decode b_M_combine 28 = .ok (.iconst 1, 1) := by decide +kernel
theorem d_M_combine_29 : decode b_M_combine 29 = .ok (.iadd, 1) := by decide +kernel
theorem d_M_combine_30 : decode b_M_combine 30 = .ok (.laload, 1) := by decide +kernel
theorem d_M_combine_31 : decode b_M_combine 31 = .ok (.lstore 4, 2) := by decide +kernel
theorem d_M_combine_33 : decode b_M_combine 33 = .ok (.aload_n 0, 1) := by decide +kernel
theorem d_M_combine_34 : decode b_M_combine 34 = .ok (.getfield 121, 3) := by decide +kernel
theorem d_M_combine_37 : decode b_M_combine 37 = .ok (.aload_n 0, 1) := by decide +kernel
theorem d_M_combine_38 : decode b_M_combine 38 = .ok (.getfield 210, 3) := by decide +kernel
theorem d_M_combine_41 : decode b_M_combine 41 = .ok (.baload, 1) := by decide +kernel
theorem d_M_combine_42 : decode b_M_combine 42 = .ok (.ifCond .ne 17, 3) := by decide +kernel
theorem d_M_combine_45 : decode b_M_combine 45 = .ok (.aload_n 0, 1) := by decide +kernel
theorem d_M_combine_46 : decode b_M_combine 46 = .ok (.getfield 121, 3) := by decide +kernel
theorem d_M_combine_49 : decode b_M_combine 49 = .ok (.aload_n 0, 1) := by decide +kernel
theorem d_M_combine_50 : decode b_M_combine 50 = .ok (.getfield 210, 3) := by decide +kernel
theorem d_M_combine_53 : decode b_M_combine 53 = .ok (.iconst 1, 1) := by decide +kernel
theorem d_M_combine_54 : decode b_M_combine 54 = .ok (.iadd, 1) := by decide +kernel
theorem d_M_combine_55 : decode b_M_combine 55 = .ok (.baload, 1) := by decide +kernel
theorem d_M_combine_56 : decode b_M_combine 56 = .ok (.ifCond .eq 7, 3) := by decide +kernel
theorem d_M_combine_59 : decode b_M_combine 59 = .ok (.iconst 1, 1) := by decide +kernel
theorem d_M_combine_60 : decode b_M_combine 60 = .ok (.goto 4, 3) := by decide +kernel
theorem d_M_combine_63 : decode b_M_combine 63 = .ok (.iconst 0, 1) := by decide +kernel
theorem d_M_combine_64 : decode b_M_combine 64 = .ok (.istore 6, 2) := by decide +kernel
theorem d_M_combine_66 : decode b_M_combine 66 = .ok (.iload_n 1, 1) := by decide +kernel
theorem d_M_combine_67 : decode b_M_combine 67 = .ok (.bipush 9, 2) := by decide +kernel
theorem d_M_combine_69 : decode b_M_combine 69 = .ok (.if_icmp .ne 48, 3) := by decide +kernel
theorem d_M_combine_72 : decode b_M_combine 72 = .ok (.aload_n 0, 1) := by decide +kernel
theorem d_M_combine_73 : decode b_M_combine 73 = .ok (.lload_n 2, 1) := by decide +kernel
theorem d_M_combine_74 : decode b_M_combine 74 = .ok (.lconst 0, 1) := by decide +kernel
theorem d_M_combine_75 : decode b_M_combine 75 = .ok (.lcmp, 1) := by decide +kernel
theorem d_M_combine_76 : decode b_M_combine 76 = .ok (.ifCond .eq 10, 3) := by decide +kernel
theorem d_M_combine_79 : decode b_M_combine 79 = .ok (.lload 4, 2) := by decide +kernel
theorem d_M_combine_81 : decode b_M_combine 81 = .ok (.lconst 0, 1) := by decide +kernel
theorem d_M_combine_82 : decode b_M_combine 82 = .ok (.lcmp, 1) := by decide +kernel
theorem d_M_combine_83 : decode b_M_combine 83 = .ok (.ifCond .ne 7, 3) := by decide +kernel
theorem d_M_combine_86 : decode b_M_combine 86 = .ok (.lconst 0, 1) := by decide +kernel
theorem d_M_combine_87 : decode b_M_combine 87 = .ok (.goto 23, 3) := by decide +kernel
theorem d_M_combine_90 : decode b_M_combine 90 = .ok (.lload_n 2, 1) := by decide +kernel
theorem d_M_combine_91 : decode b_M_combine 91 = .ok (.lconst 1, 1) := by decide +kernel
theorem d_M_combine_92 : decode b_M_combine 92 = .ok (.lcmp, 1) := by decide +kernel
theorem d_M_combine_93 : decode b_M_combine 93 = .ok (.ifCond .ne 14, 3) := by decide +kernel
theorem d_M_combine_96 : decode b_M_combine 96 = .ok (.lload 4, 2) := by decide +kernel
theorem d_M_combine_98 : decode b_M_combine 98 = .ok (.lconst 1, 1) := by decide +kernel
theorem d_M_combine_99 : decode b_M_combine 99 = .ok (.lcmp, 1) := by decide +kernel
theorem d_M_combine_100 : decode b_M_combine 100 = .ok (.ifCond .ne 7, 3) := by decide +kernel
theorem d_M_combine_103 : decode b_M_combine 103 = .ok (.lconst 1, 1) := by decide +kernel
theorem d_M_combine_104 : decode b_M_combine 104 = .ok (.goto 6, 3) := by decide +kernel
theorem d_M_combine_107 : decode b_M_combine 107 = .ok (.ldc2_w 174, 3) := by decide +kernel
theorem d_M_combine_110 : decode b_M_combine 110 = .ok (.iconst 0, 1) := by decide +kernel
theorem d_M_combine_111 : decode b_M_combine 111 = .ok (.invokevirtual 222, 3) := by decide +kernel
theorem d_M_combine_114 : decode b_M_combine 114 = .ok (.goto 182, 3) := by decide +kernel
theorem d_M_combine_117 : decode b_M_combine 117 = .ok (.iload_n 1, 1) := by decide +kernel
theorem d_M_combine_118 : decode b_M_combine 118 = .ok (.bipush 10, 2) := by decide +kernel
theorem d_M_combine_120 : decode b_M_combine 120 = .ok (.if_icmp .ne 48, 3) := by decide +kernel
theorem d_M_combine_123 : decode b_M_combine 123 = .ok (.aload_n 0, 1) := by decide +kernel
theorem d_M_combine_124 : decode b_M_combine 124 = .ok (.lload_n 2, 1) := by decide +kernel
theorem d_M_combine_125 : decode b_M_combine 125 = .ok (.lconst 1, 1) := by decide +kernel
theorem d_M_combine_126 : decode b_M_combine 126 = .ok (.lcmp, 1) := by decide +kernel
theorem d_M_combine_127 : decode b_M_combine 127 = .ok (.ifCond .eq 10, 3) := by decide +kernel
theorem d_M_combine_130 : decode b_M_combine 130 = .ok (.lload 4, 2) := by decide +kernel
theorem d_M_combine_132 : decode b_M_combine 132 = .ok (.lconst 1, 1) := by decide +kernel
theorem d_M_combine_133 : decode b_M_combine 133 = .ok (.lcmp, 1) := by decide +kernel
theorem d_M_combine_134 : decode b_M_combine 134 = .ok (.ifCond .ne 7, 3) := by decide +kernel
theorem d_M_combine_137 : decode b_M_combine 137 = .ok (.lconst 1, 1) := by decide +kernel
theorem d_M_combine_138 : decode b_M_combine 138 = .ok (.goto 23, 3) := by decide +kernel
theorem d_M_combine_141 : decode b_M_combine 141 = .ok (.lload_n 2, 1) := by decide +kernel
theorem d_M_combine_142 : decode b_M_combine 142 = .ok (.lconst 0, 1) := by decide +kernel
theorem d_M_combine_143 : decode b_M_combine 143 = .ok (.lcmp, 1) := by decide +kernel
theorem d_M_combine_144 : decode b_M_combine 144 = .ok (.ifCond .ne 14, 3) := by decide +kernel
theorem d_M_combine_147 : decode b_M_combine 147 = .ok (.lload 4, 2) := by decide +kernel
theorem d_M_combine_149 : decode b_M_combine 149 = .ok (.lconst 0, 1) := by decide +kernel
theorem d_M_combine_150 : decode b_M_combine 150 = .ok (.lcmp, 1) := by decide +kernel
theorem d_M_combine_151 : decode b_M_combine 151 = .ok (.ifCond .ne 7, 3) := by decide +kernel
theorem d_M_combine_154 : decode b_M_combine 154 = .ok (.lconst 0, 1) := by decide +kernel
theorem d_M_combine_155 : decode b_M_combine 155 = .ok (.goto 6, 3) := by decide +kernel
theorem d_M_combine_158 : decode b_M_combine 158 = .ok (.ldc2_w 174, 3) := by decide +kernel
theorem d_M_combine_161 : decode b_M_combine 161 = .ok (.iconst 0, 1) := by decide +kernel
theorem d_M_combine_162 : decode b_M_combine 162 = .ok (.invokevirtual 222, 3) := by decide +kernel
theorem d_M_combine_165 : decode b_M_combine 165 = .ok (.goto 131, 3) := by decide +kernel
theorem d_M_combine_168 : decode b_M_combine 168 = .ok (.iload_n 1, 1) := by decide +kernel
theorem d_M_combine_169 : decode b_M_combine 169 = .ok (.iconst 5, 1) := by decide +kernel
theorem d_M_combine_170 : decode b_M_combine 170 = .ok (.if_icmp .lt 103, 3) := by decide +kernel
theorem d_M_combine_173 : decode b_M_combine 173 = .ok (.iload_n 1, 1) := by decide +kernel
theorem d_M_combine_174 : decode b_M_combine 174 = .ok (.iconst 5, 1) := by decide +kernel
theorem d_M_combine_175 : decode b_M_combine 175 = .ok (.if_icmp .ne 18, 3) := by decide +kernel
theorem d_M_combine_178 : decode b_M_combine 178 = .ok (.lload_n 2, 1) := by decide +kernel
theorem d_M_combine_179 : decode b_M_combine 179 = .ok (.lload 4, 2) := by decide +kernel
theorem d_M_combine_181 : decode b_M_combine 181 = .ok (.lcmp, 1) := by decide +kernel
theorem d_M_combine_182 : decode b_M_combine 182 = .ok (.ifCond .ne 7, 3) := by decide +kernel
theorem d_M_combine_185 : decode b_M_combine 185 = .ok (.iconst 1, 1) := by decide +kernel
theorem d_M_combine_186 : decode b_M_combine 186 = .ok (.goto 61, 3) := by decide +kernel
theorem d_M_combine_189 : decode b_M_combine 189 = .ok (.iconst 0, 1) := by decide +kernel
theorem d_M_combine_190 : decode b_M_combine 190 = .ok (.goto 57, 3) := by decide +kernel
theorem d_M_combine_193 : decode b_M_combine 193 = .ok (.iload_n 1, 1) := by decide +kernel
theorem d_M_combine_194 : decode b_M_combine 194 = .ok (.bipush 6, 2) := by decide +kernel
theorem d_M_combine_196 : decode b_M_combine 196 = .ok (.if_icmp .ne 18, 3) := by decide +kernel
theorem d_M_combine_199 : decode b_M_combine 199 = .ok (.lload_n 2, 1) := by decide +kernel
theorem d_M_combine_200 : decode b_M_combine 200 = .ok (.lload 4, 2) := by decide +kernel
theorem d_M_combine_202 : decode b_M_combine 202 = .ok (.lcmp, 1) := by decide +kernel
theorem d_M_combine_203 : decode b_M_combine 203 = .ok (.ifCond .eq 7, 3) := by decide +kernel
theorem d_M_combine_206 : decode b_M_combine 206 = .ok (.iconst 1, 1) := by decide +kernel
theorem d_M_combine_207 : decode b_M_combine 207 = .ok (.goto 40, 3) := by decide +kernel
theorem d_M_combine_210 : decode b_M_combine 210 = .ok (.iconst 0, 1) := by decide +kernel
theorem d_M_combine_211 : decode b_M_combine 211 = .ok (.goto 36, 3) := by decide +kernel
theorem d_M_combine_214 : decode b_M_combine 214 = .ok (.iload_n 1, 1) := by decide +kernel
theorem d_M_combine_215 : decode b_M_combine 215 = .ok (.bipush 7, 2) := by decide +kernel
theorem d_M_combine_217 : decode b_M_combine 217 = .ok (.if_icmp .ne 18, 3) := by decide +kernel
theorem d_M_combine_220 : decode b_M_combine 220 = .ok (.lload_n 2, 1) := by decide +kernel
theorem d_M_combine_221 : decode b_M_combine 221 = .ok (.lload 4, 2) := by decide +kernel
theorem d_M_combine_223 : decode b_M_combine 223 = .ok (.lcmp, 1) := by decide +kernel
theorem d_M_combine_224 : decode b_M_combine 224 = .ok (.ifCond .ge 7, 3) := by decide +kernel
theorem d_M_combine_227 : decode b_M_combine 227 = .ok (.iconst 1, 1) := by decide +kernel
theorem d_M_combine_228 : decode b_M_combine 228 = .ok (.goto 19, 3) := by decide +kernel
theorem d_M_combine_231 : decode b_M_combine 231 = .ok (.iconst 0, 1) := by decide +kernel
theorem d_M_combine_232 : decode b_M_combine 232 = .ok (.goto 15, 3) := by decide +kernel
theorem d_M_combine_235 : decode b_M_combine 235 = .ok (.lload_n 2, 1) := by decide +kernel
theorem d_M_combine_236 : decode b_M_combine 236 = .ok (.lload 4, 2) := by decide +kernel
theorem d_M_combine_238 : decode b_M_combine 238 = .ok (.lcmp, 1) := by decide +kernel
theorem d_M_combine_239 : decode b_M_combine 239 = .ok (.ifCond .gt 7, 3) := by decide +kernel
theorem d_M_combine_242 : decode b_M_combine 242 = .ok (.iconst 1, 1) := by decide +kernel
theorem d_M_combine_243 : decode b_M_combine 243 = .ok (.goto 4, 3) := by decide +kernel
theorem d_M_combine_246 : decode b_M_combine 246 = .ok (.iconst 0, 1) := by decide +kernel
theorem d_M_combine_247 : decode b_M_combine 247 = .ok (.istore 7, 2) := by decide +kernel
theorem d_M_combine_249 : decode b_M_combine 249 = .ok (.aload_n 0, 1) := by decide +kernel
theorem d_M_combine_250 : decode b_M_combine 250 = .ok (.iload 6, 2) := by decide +kernel
theorem d_M_combine_252 : decode b_M_combine 252 = .ok (.ifCond .eq 9, 3) := by decide +kernel
theorem d_M_combine_255 : decode b_M_combine 255 = .ok (.ldc2_w 174, 3) := by decide +kernel
theorem d_M_combine_258 : decode b_M_combine 258 = .ok (.goto 8, 3) := by decide +kernel
theorem d_M_combine_261 : decode b_M_combine 261 = .ok (.iload 7, 2) := by decide +kernel
theorem d_M_combine_263 : decode b_M_combine 263 = .ok (.invokestatic 226, 3) := by decide +kernel
theorem d_M_combine_266 : decode b_M_combine 266 = .ok (.iconst 0, 1) := by decide +kernel
theorem d_M_combine_267 : decode b_M_combine 267 = .ok (.invokevirtual 222, 3) := by decide +kernel
theorem d_M_combine_270 : decode b_M_combine 270 = .ok (.goto 26, 3) := by decide +kernel
theorem d_M_combine_273 : decode b_M_combine 273 = .ok (.aload_n 0, 1) := by decide +kernel
theorem d_M_combine_274 : decode b_M_combine 274 = .ok (.iload 6, 2) := by decide +kernel
theorem d_M_combine_276 : decode b_M_combine 276 = .ok (.ifCond .eq 7, 3) := by decide +kernel
theorem d_M_combine_279 : decode b_M_combine 279 = .ok (.lconst 0, 1) := by decide +kernel
theorem d_M_combine_280 : decode b_M_combine 280 = .ok (.goto 11, 3) := by decide +kernel
theorem d_M_combine_283 : decode b_M_combine 283 = .ok (.aload_n 0, 1) := by decide +kernel
theorem d_M_combine_284 : decode b_M_combine 284 = .ok (.iload_n 1, 1) := by decide +kernel
theorem d_M_combine_285 : decode b_M_combine 285 = .ok (.lload_n 2, 1) := by decide +kernel
theorem d_M_combine_286 : decode b_M_combine 286 = .ok (.lload 4, 2) := by decide +kernel
theorem d_M_combine_288 : decode b_M_combine 288 = .ok (.invokevirtual 230, 3) := by decide +kernel
theorem d_M_combine_291 : decode b_M_combine 291 = .ok (.iload 6, 2) := by decide +kernel
theorem d_M_combine_293 : decode b_M_combine 293 = .ok (.invokevirtual 222, 3) := by decide +kernel
theorem d_M_combine_296 : decode b_M_combine 296 = .ok (.return_, 1) := by decide +kernel
theorem d_M_push_0 : decode b_M_push 0 = .ok (.aload_n 0, 1) := by decide +kernel
theorem d_M_push_1 : decode b_M_push 1 = .ok (.getfield 112, 3) := by decide +kernel
theorem d_M_push_4 : decode b_M_push 4 = .ok (.aload_n 0, 1) := by decide +kernel
theorem d_M_push_5 : decode b_M_push 5 = .ok (.getfield 193, 3) := by decide +kernel
theorem d_M_push_8 : decode b_M_push 8 = .ok (.iload_n 1, 1) := by decide +kernel
theorem d_M_push_9 : decode b_M_push 9 = .ok (.iastore, 1) := by decide +kernel
theorem d_M_push_10 : decode b_M_push 10 = .ok (.aload_n 0, 1) := by decide +kernel
theorem d_M_push_11 : decode b_M_push 11 = .ok (.getfield 115, 3) := by decide +kernel
theorem d_M_push_14 : decode b_M_push 14 = .ok (.aload_n 0, 1) := by decide +kernel
theorem d_M_push_15 : decode b_M_push 15 = .ok (.getfield 193, 3) := by decide +kernel
theorem d_M_push_18 : decode b_M_push 18 = .ok (.iconst 0, 1) := by decide +kernel
theorem d_M_push_19 : decode b_M_push 19 = .ok (.iastore, 1) := by decide +kernel
theorem d_M_push_20 : decode b_M_push 20 = .ok (.aload_n 0, 1) := by decide +kernel
theorem d_M_push_21 : decode b_M_push 21 = .ok (.dup, 1) := by decide +kernel
theorem d_M_push_22 : decode b_M_push 22 = .ok (.getfield 193, 3) := by decide +kernel
theorem d_M_push_25 : decode b_M_push 25 = .ok (.iconst 1, 1) := by decide +kernel
theorem d_M_push_26 : decode b_M_push 26 = .ok (.iadd, 1) := by decide +kernel
theorem d_M_push_27 : decode b_M_push 27 = .ok (.putfield 193, 3) := by decide +kernel
theorem d_M_push_30 : decode b_M_push 30 = .ok (.return_, 1) := by decide +kernel
theorem d_M_aggregateNumber_0 : decode b_M_aggregateNumber 0 = .ok (.iconst (-1), 1) := by decide +kernel
theorem d_M_aggregateNumber_1 : decode b_M_aggregateNumber 1 = .ok (.istore_n 2, 1) := by decide +kernel
theorem d_M_aggregateNumber_2 : decode b_M_aggregateNumber 2 = .ok (.iconst 0, 1) := by decide +kernel
theorem d_M_aggregateNumber_3 : decode b_M_aggregateNumber 3 = .ok (.istore_n 3, 1) := by decide +kernel
theorem d_M_aggregateNumber_4 : decode b_M_aggregateNumber 4 = .ok (.iload_n 3, 1) := by decide +kernel
theorem d_M_aggregateNumber_5 : decode b_M_aggregateNumber 5 = .ok (.aload_n 0, 1) := by decide +kernel
theorem d_M_aggregateNumber_6 : decode b_M_aggregateNumber 6 = .ok (.getfield 140, 3) := by decide +kernel
theorem d_M_aggregateNumber_9 : decode b_M_aggregateNumber 9 = .ok (.if_icmp .ge 25, 3) := by decide +kernel
theorem d_M_aggregateNumber_12 : decode b_M_aggregateNumber 12 = .ok (.aload_n 0, 1) := by decide +kernel
theorem d_M_aggregateNumber_13 : decode b_M_aggregateNumber 13 = .ok (.getfield 48, 3) := by decide +kernel
theorem d_M_aggregateNumber_16 : decode b_M_aggregateNumber 16 = .ok (.iload_n 3, 1) := by decide +kernel
theorem d_M_aggregateNumber_17 : decode b_M_aggregateNumber 17 = .ok (.iaload, 1) := by decide +kernel
theorem d_M_aggregateNumber_18 : decode b_M_aggregateNumber 18 = .ok (.iload_n 1, 1) := by decide +kernel
theorem d_M_aggregateNumber_19 : decode b_M_aggregateNumber 19 = .ok (.if_icmp .ne 7, 3) := by decide +kernel
theorem d_M_aggregateNumber_22 : decode b_M_aggregateNumber 22 = .ok (.iload_n 3, 1) := by decide +kernel
theorem d_M_aggregateNumber_23 : decode b_M_aggregateNumber 23 = .ok (.goto 4, 3) := by decide +kernel
theorem d_M_aggregateNumber_26 : decode b_M_aggregateNumber 26 = .ok (.iload_n 2, 1) := by decide +kernel
theorem d_M_aggregateNumber_27 : decode b_M_aggregateNumber 27 = .ok (.istore_n 2, 1) := by decide +kernel
theorem d_M_aggregateNumber_28 : decode b_M_aggregateNumber 28 = .ok (.iinc 3 1, 3) := by decide +kernel
theorem d_M_aggregateNumber_31 : decode b_M_aggregateNumber 31 = .ok (.goto (-27), 3) := by decide +kernel
theorem d_M_aggregateNumber_34 : decode b_M_aggregateNumber 34 = .ok (.iload_n 2, 1) := by decide +kernel
theorem d_M_aggregateNumber_35 : decode b_M_aggregateNumber 35 = .ok (.ireturn, 1) := by decide +kernel
theorem d_M_countsIn_0 : decode b_M_countsIn 0 = .ok (.aload_n 0, 1) := by decide +kernel
theorem d_M_countsIn_1 : decode b_M_countsIn 1 = .ok (.getfield 97, 3) := by decide +kernel
theorem d_M_countsIn_4 : decode b_M_countsIn 4 = .ok (.bipush 8, 2) := by decide +kernel
theorem d_M_countsIn_6 : decode b_M_countsIn 6 = .ok (.iload_n 1, 1) := by decide +kernel
theorem d_M_countsIn_7 : decode b_M_countsIn 7 = .ok (.imul, 1) := by decide +kernel
theorem d_M_countsIn_8 : decode b_M_countsIn 8 = .ok (.iload_n 2, 1) := by decide +kernel
theorem d_M_countsIn_9 : decode b_M_countsIn 9 = .ok (.iadd, 1) := by decide +kernel
theorem d_M_countsIn_10 : decode b_M_countsIn 10 = .ok (.baload, 1) := by decide +kernel
theorem d_M_countsIn_11 : decode b_M_countsIn 11 = .ok (.ifCond .eq 5, 3) := by decide +kernel
theorem d_M_countsIn_14 : decode b_M_countsIn 14 = .ok (.iconst 0, 1) := by decide +kernel
theorem d_M_countsIn_15 : decode b_M_countsIn 15 = .ok (.ireturn, 1) := by decide +kernel
theorem d_M_countsIn_16 : decode b_M_countsIn 16 = .ok (.iconst 0, 1) := by decide +kernel
theorem d_M_countsIn_17 : decode b_M_countsIn 17 = .ok (.istore_n 3, 1) := by decide +kernel
theorem d_M_countsIn_18 : decode b_M_countsIn 18 = .ok (.iconst 0, 1) := by decide +kernel
theorem d_M_countsIn_19 : decode b_M_countsIn 19 = .ok (.istore 4, 2) := by decide +kernel
theorem d_M_countsIn_21 : decode b_M_countsIn 21 = .ok (.iload 4, 2) := by decide +kernel
theorem d_M_countsIn_23 : decode b_M_countsIn 23 = .ok (.iload_n 1, 1) := by decide +kernel
theorem d_M_countsIn_24 : decode b_M_countsIn 24 = .ok (.if_icmp .ge 91, 3) := by decide +kernel
theorem d_M_countsIn_27 : decode b_M_countsIn 27 = .ok (.aload_n 0, 1) := by decide +kernel
theorem d_M_countsIn_28 : decode b_M_countsIn 28 = .ok (.getfield 36, 3) := by decide +kernel
theorem d_M_countsIn_31 : decode b_M_countsIn 31 = .ok (.aload_n 0, 1) := by decide +kernel
theorem d_M_countsIn_32 : decode b_M_countsIn 32 = .ok (.getfield 48, 3) := by decide +kernel
theorem d_M_countsIn_35 : decode b_M_countsIn 35 = .ok (.iload_n 2, 1) := by decide +kernel
theorem d_M_countsIn_36 : decode b_M_countsIn 36 = .ok (.iaload, 1) := by decide +kernel
theorem d_M_countsIn_37 : decode b_M_countsIn 37 = .ok (.baload, 1) := by decide +kernel
theorem d_M_countsIn_38 : decode b_M_countsIn 38 = .ok (.ifCond .eq 77, 3) := by decide +kernel
theorem d_M_countsIn_41 : decode b_M_countsIn 41 = .ok (.iload_n 3, 1) := by decide +kernel
theorem d_M_countsIn_42 : decode b_M_countsIn 42 = .ok (.ifCond .ne 61, 3) := by decide +kernel
theorem d_M_countsIn_45 : decode b_M_countsIn 45 = .ok (.aload_n 0, 1) := by decide +kernel
theorem d_M_countsIn_46 : decode b_M_countsIn 46 = .ok (.getfield 91, 3) := by decide +kernel
theorem d_M_countsIn_49 : decode b_M_countsIn 49 = .ok (.iload 4, 2) := by decide +kernel
theorem d_M_countsIn_51 : decode b_M_countsIn 51 = .ok (.iaload, 1) := by decide +kernel
theorem d_M_countsIn_52 : decode b_M_countsIn 52 = .ok (.aload_n 0, 1) := by decide +kernel
theorem d_M_countsIn_53 : decode b_M_countsIn 53 = .ok (.getfield 91, 3) := by decide +kernel
theorem d_M_countsIn_56 : decode b_M_countsIn 56 = .ok (.iload_n 1, 1) := by decide +kernel
theorem d_M_countsIn_57 : decode b_M_countsIn 57 = .ok (.iaload, 1) := by decide +kernel
theorem d_M_countsIn_58 : decode b_M_countsIn 58 = .ok (.if_icmp .ne 49, 3) := by decide +kernel
theorem d_M_countsIn_61 : decode b_M_countsIn 61 = .ok (.aload_n 0, 1) := by decide +kernel
theorem d_M_countsIn_62 : decode b_M_countsIn 62 = .ok (.getfield 97, 3) := by decide +kernel
theorem d_M_countsIn_65 : decode b_M_countsIn 65 = .ok (.bipush 8, 2) := by decide +kernel
theorem d_M_countsIn_67 : decode b_M_countsIn 67 = .ok (.iload 4, 2) := by decide +kernel
theorem d_M_countsIn_69 : decode b_M_countsIn 69 = .ok (.imul, 1) := by decide +kernel
theorem d_M_countsIn_70 : decode b_M_countsIn 70 = .ok (.iload_n 2, 1) := by decide +kernel
theorem d_M_countsIn_71 : decode b_M_countsIn 71 = .ok (.iadd, 1) := by decide +kernel
theorem d_M_countsIn_72 : decode b_M_countsIn 72 = .ok (.baload, 1) := by decide +kernel
theorem d_M_countsIn_73 : decode b_M_countsIn 73 = .ok (.ifCond .ne 34, 3) := by decide +kernel
theorem d_M_countsIn_76 : decode b_M_countsIn 76 = .ok (.aload_n 0, 1) := by decide +kernel
theorem d_M_countsIn_77 : decode b_M_countsIn 77 = .ok (.getfield 94, 3) := by decide +kernel
theorem d_M_countsIn_80 : decode b_M_countsIn 80 = .ok (.bipush 8, 2) := by decide +kernel
theorem d_M_countsIn_82 : decode b_M_countsIn 82 = .ok (.iload 4, 2) := by decide +kernel
theorem d_M_countsIn_84 : decode b_M_countsIn 84 = .ok (.imul, 1) := by decide +kernel
theorem d_M_countsIn_85 : decode b_M_countsIn 85 = .ok (.iload_n 2, 1) := by decide +kernel
theorem d_M_countsIn_86 : decode b_M_countsIn 86 = .ok (.iadd, 1) := by decide +kernel
theorem d_M_countsIn_87 : decode b_M_countsIn 87 = .ok (.laload, 1) := by decide +kernel
theorem d_M_countsIn_88 : decode b_M_countsIn 88 = .ok (.aload_n 0, 1) := by decide +kernel
theorem d_M_countsIn_89 : decode b_M_countsIn 89 = .ok (.getfield 94, 3) := by decide +kernel
theorem d_M_countsIn_92 : decode b_M_countsIn 92 = .ok (.bipush 8, 2) := by decide +kernel
theorem d_M_countsIn_94 : decode b_M_countsIn 94 = .ok (.iload_n 1, 1) := by decide +kernel
theorem d_M_countsIn_95 : decode b_M_countsIn 95 = .ok (.imul, 1) := by decide +kernel
theorem d_M_countsIn_96 : decode b_M_countsIn 96 = .ok (.iload_n 2, 1) := by decide +kernel
theorem d_M_countsIn_97 : decode b_M_countsIn 97 = .ok (.iadd, 1) := by decide +kernel
theorem d_M_countsIn_98 : decode b_M_countsIn 98 = .ok (.laload, 1) := by decide +kernel
theorem d_M_countsIn_99 : decode b_M_countsIn 99 = .ok (.lcmp, 1) := by decide +kernel
theorem d_M_countsIn_100 : decode b_M_countsIn 100 = .ok (.ifCond .ne 7, 3) := by decide +kernel
theorem d_M_countsIn_103 : decode b_M_countsIn 103 = .ok (.iconst 1, 1) := by decide +kernel
theorem d_M_countsIn_104 : decode b_M_countsIn 104 = .ok (.goto 4, 3) := by decide +kernel
theorem d_M_countsIn_107 : decode b_M_countsIn 107 = .ok (.iconst 0, 1) := by decide +kernel
theorem d_M_countsIn_108 : decode b_M_countsIn 108 = .ok (.istore_n 3, 1) := by decide +kernel
theorem d_M_countsIn_109 : decode b_M_countsIn 109 = .ok (.iinc 4 1, 3) := by decide +kernel
theorem d_M_countsIn_112 : decode b_M_countsIn 112 = .ok (.goto (-91), 3) := by decide +kernel
theorem d_M_countsIn_115 : decode b_M_countsIn 115 = .ok (.iload_n 3, 1) := by decide +kernel
theorem d_M_countsIn_116 : decode b_M_countsIn 116 = .ok (.ifCond .ne 7, 3) := by decide +kernel
theorem d_M_countsIn_119 : decode b_M_countsIn 119 = .ok (.iconst 1, 1) := by decide +kernel
theorem d_M_countsIn_120 : decode b_M_countsIn 120 = .ok (.goto 4, 3) := by decide +kernel
theorem d_M_countsIn_123 : decode b_M_countsIn 123 = .ok (.iconst 0, 1) := by decide +kernel
theorem d_M_countsIn_124 : decode b_M_countsIn 124 = .ok (.ireturn, 1) := by decide +kernel
theorem d_M_giveAggregate_0 : decode b_M_giveAggregate 0 = .ok (.aload_n 0, 1) := by decide +kernel
theorem d_M_giveAggregate_1 : decode b_M_giveAggregate 1 = .ok (.iload_n 1, 1) := by decide +kernel
theorem d_M_giveAggregate_2 : decode b_M_giveAggregate 2 = .ok (.invokevirtual 252, 3) := by decide +kernel
theorem d_M_giveAggregate_5 : decode b_M_giveAggregate 5 = .ok (.istore_n 2, 1) := by decide +kernel
theorem d_M_giveAggregate_6 : decode b_M_giveAggregate 6 = .ok (.aload_n 0, 1) := by decide +kernel
theorem d_M_giveAggregate_7 : decode b_M_giveAggregate 7 = .ok (.getfield 24, 3) := by decide +kernel
theorem d_M_giveAggregate_10 : decode b_M_giveAggregate 10 = .ok (.iload_n 1, 1) := by decide +kernel
theorem d_M_giveAggregate_11 : decode b_M_giveAggregate 11 = .ok (.iaload, 1) := by decide +kernel
theorem d_M_giveAggregate_12 : decode b_M_giveAggregate 12 = .ok (.bipush 30, 2) := by decide +kernel
theorem d_M_giveAggregate_14 : decode b_M_giveAggregate 14 = .ok (.isub, 1) := by decide +kernel
theorem d_M_giveAggregate_15 : decode b_M_giveAggregate 15 = .ok (.istore_n 3, 1) := by decide +kernel
theorem d_M_giveAggregate_16 : decode b_M_giveAggregate 16 = .ok (.lconst 0, 1) := by decide +kernel
theorem d_M_giveAggregate_17 : decode b_M_giveAggregate 17 = .ok (.lstore 4, 2) := by decide +kernel
theorem d_M_giveAggregate_19 : decode b_M_giveAggregate 19 = .ok (.lconst 0, 1) := by decide +kernel
theorem d_M_giveAggregate_20 : decode b_M_giveAggregate 20 = .ok (.lstore 6, 2) := by decide +kernel
theorem d_M_giveAggregate_22 : decode b_M_giveAggregate 22 = .ok (.lconst 0, 1) := by decide +kernel
theorem d_M_giveAggregate_23 : decode b_M_giveAggregate 23 = .ok (.lstore 8, 2) := by decide +kernel
theorem d_M_giveAggregate_25 : decode b_M_giveAggregate 25 = .ok (.lconst 0, 1) := by decide +kernel
theorem d_M_giveAggregate_26 : decode b_M_giveAggregate 26 = .ok (.lstore 10, 2) := by decide +kernel
theorem d_M_giveAggregate_28 : decode b_M_giveAggregate 28 = .ok (.lconst 0, 1) := by decide +kernel
theorem d_M_giveAggregate_29 : decode b_M_giveAggregate 29 = .ok (.lstore 12, 2) := by decide +kernel
theorem d_M_giveAggregate_31 : decode b_M_giveAggregate 31 = .ok (.iconst 0, 1) := by decide +kernel
theorem d_M_giveAggregate_32 : decode b_M_giveAggregate 32 = .ok (.istore 14, 2) := by decide +kernel
theorem d_M_giveAggregate_34 : decode b_M_giveAggregate 34 = .ok (.iload 14, 2) := by decide +kernel
theorem d_M_giveAggregate_36 : decode b_M_giveAggregate 36 = .ok (.aload_n 0, 1) := by decide +kernel
theorem d_M_giveAggregate_37 : decode b_M_giveAggregate 37 = .ok (.getfield 255, 3) := by decide +kernel
theorem d_M_giveAggregate_40 : decode b_M_giveAggregate 40 = .ok (.if_icmp .ge 121, 3) := by decide +kernel
theorem d_M_giveAggregate_43 : decode b_M_giveAggregate 43 = .ok (.aload_n 0, 1) := by decide +kernel
theorem d_M_giveAggregate_44 : decode b_M_giveAggregate 44 = .ok (.getfield 91, 3) := by decide +kernel
theorem d_M_giveAggregate_47 : decode b_M_giveAggregate 47 = .ok (.iload 14, 2) := by decide +kernel
theorem d_M_giveAggregate_49 : decode b_M_giveAggregate 49 = .ok (.iaload, 1) := by decide +kernel
theorem d_M_giveAggregate_50 : decode b_M_giveAggregate 50 = .ok (.aload_n 0, 1) := by decide +kernel
theorem d_M_giveAggregate_51 : decode b_M_giveAggregate 51 = .ok (.getfield 234, 3) := by decide +kernel
theorem d_M_giveAggregate_54 : decode b_M_giveAggregate 54 = .ok (.if_icmp .eq 6, 3) := by decide +kernel
theorem d_M_giveAggregate_57 : decode b_M_giveAggregate 57 = .ok (.goto 98, 3) := by decide +kernel
theorem d_M_giveAggregate_60 : decode b_M_giveAggregate 60 = .ok (.lload 4, 2) := by decide +kernel
theorem d_M_giveAggregate_62 : decode b_M_giveAggregate 62 = .ok (.lconst 1, 1) := by decide +kernel
theorem d_M_giveAggregate_63 : decode b_M_giveAggregate 63 = .ok (.ladd, 1) := by decide +kernel
theorem d_M_giveAggregate_64 : decode b_M_giveAggregate 64 = .ok (.lstore 4, 2) := by decide +kernel
theorem d_M_giveAggregate_66 : decode b_M_giveAggregate 66 = .ok (.iload_n 3, 1) := by decide +kernel
theorem d_M_giveAggregate_67 : decode b_M_giveAggregate 67 = .ok (.ifCond .le 88, 3) := by decide +kernel
theorem d_M_giveAggregate_70 : decode b_M_giveAggregate 70 = .ok (.aload_n 0, 1) := by decide +kernel
theorem d_M_giveAggregate_71 : decode b_M_giveAggregate 71 = .ok (.iload 14, 2) := by decide +kernel
theorem d_M_giveAggregate_73 : decode b_M_giveAggregate 73 = .ok (.iload_n 2, 1) := by decide +kernel
theorem d_M_giveAggregate_74 : decode b_M_giveAggregate 74 = .ok (.invokevirtual 258, 3) := by decide +kernel
theorem d_M_giveAggregate_77 : decode b_M_giveAggregate 77 = .ok (.ifCond .eq 78, 3) := by decide +kernel
theorem d_M_giveAggregate_80 : decode b_M_giveAggregate 80 = .ok (.aload_n 0, 1) := by decide +kernel
theorem d_M_giveAggregate_81 : decode b_M_giveAggregate 81 = .ok (.getfield 94, 3) := by decide +kernel
theorem d_M_giveAggregate_84 : decode b_M_giveAggregate 84 = .ok (.bipush 8, 2) := by decide +kernel
theorem d_M_giveAggregate_86 : decode b_M_giveAggregate 86 = .ok (.iload 14, 2) := by decide +kernel
theorem d_M_giveAggregate_88 : decode b_M_giveAggregate 88 = .ok (.imul, 1) := by decide +kernel
theorem d_M_giveAggregate_89 : decode b_M_giveAggregate 89 = .ok (.iload_n 2, 1) := by decide +kernel
theorem d_M_giveAggregate_90 : decode b_M_giveAggregate 90 = .ok (.iadd, 1) := by decide +kernel
theorem d_M_giveAggregate_91 : decode b_M_giveAggregate 91 = .ok (.laload, 1) := by decide +kernel
theorem d_M_giveAggregate_92 : decode b_M_giveAggregate 92 = .ok (.lstore 15, 2) := by decide +kernel
theorem d_M_giveAggregate_94 : decode b_M_giveAggregate 94 = .ok (.lload 6, 2) := by decide +kernel
theorem d_M_giveAggregate_96 : decode b_M_giveAggregate 96 = .ok (.lconst 0, 1) := by decide +kernel
theorem d_M_giveAggregate_97 : decode b_M_giveAggregate 97 = .ok (.lcmp, 1) := by decide +kernel
theorem d_M_giveAggregate_98 : decode b_M_giveAggregate 98 = .ok (.ifCond .eq 11, 3) := by decide +kernel
theorem d_M_giveAggregate_101 : decode b_M_giveAggregate 101 = .ok (.lload 15, 2) := by decide +kernel
theorem d_M_giveAggregate_103 : decode b_M_giveAggregate 103 = .ok (.lload 10, 2) := by decide +kernel
theorem d_M_giveAggregate_105 : decode b_M_giveAggregate 105 = .ok (.lcmp, 1) := by decide +kernel
theorem d_M_giveAggregate_106 : decode b_M_giveAggregate 106 = .ok (.ifCond .ge 8, 3) := by decide +kernel
theorem d_M_giveAggregate_109 : decode b_M_giveAggregate 109 = .ok (.lload 15, 2) := by decide +kernel
theorem d_M_giveAggregate_111 : decode b_M_giveAggregate 111 = .ok (.goto 5, 3) := by decide +kernel
theorem d_M_giveAggregate_114 : decode b_M_giveAggregate 114 = .ok (.lload 10, 2) := by decide +kernel
theorem d_M_giveAggregate_116 : decode b_M_giveAggregate 116 = .ok (.lstore 10, 2) := by decide +kernel
theorem d_M_giveAggregate_118 : decode b_M_giveAggregate 118 = .ok (.lload 6, 2) := by decide +kernel
theorem d_M_giveAggregate_120 : decode b_M_giveAggregate 120 = .ok (.lconst 0, 1) := by decide +kernel
theorem d_M_giveAggregate_121 : decode b_M_giveAggregate 121 = .ok (.lcmp, 1) := by decide +kernel
theorem d_M_giveAggregate_122 : decode b_M_giveAggregate 122 = .ok (.ifCond .eq 11, 3) := by decide +kernel
theorem d_M_giveAggregate_125 : decode b_M_giveAggregate 125 = .ok (.lload 15, 2) := by decide +kernel
theorem d_M_giveAggregate_127 : decode b_M_giveAggregate 127 = .ok (.lload 12, 2) := by decide +kernel
theorem d_M_giveAggregate_129 : decode b_M_giveAggregate 129 = .ok (.lcmp, 1) := by decide +kernel
theorem d_M_giveAggregate_130 : decode b_M_giveAggregate 130 = .ok (.ifCond .le 8, 3) := by decide +kernel
theorem d_M_giveAggregate_133 : decode b_M_giveAggregate 133 = .ok (.lload 15, 2) := by decide +kernel
theorem d_M_giveAggregate_135 : decode b_M_giveAggregate 135 = .ok (.goto 5, 3) := by decide +kernel
theorem d_M_giveAggregate_138 : decode b_M_giveAggregate 138 = .ok (.lload 12, 2) := by decide +kernel
theorem d_M_giveAggregate_140 : decode b_M_giveAggregate 140 = .ok (.lstore 12, 2) := by decide +kernel
theorem d_M_giveAggregate_142 : decode b_M_giveAggregate 142 = .ok (.lload 8, 2) := by decide +kernel
theorem d_M_giveAggregate_144 : decode b_M_giveAggregate 144 = .ok (.lload 15, 2) := by decide +kernel
theorem d_M_giveAggregate_146 : decode b_M_giveAggregate 146 = .ok (.ladd, 1) := by decide +kernel
theorem d_M_giveAggregate_147 : decode b_M_giveAggregate 147 = .ok (.lstore 8, 2) := by decide +kernel
theorem d_M_giveAggregate_149 : decode b_M_giveAggregate 149 = .ok (.lload 6, 2) := by decide +kernel
theorem d_M_giveAggregate_151 : decode b_M_giveAggregate 151 = .ok (.lconst 1, 1) := by decide +kernel
theorem d_M_giveAggregate_152 : decode b_M_giveAggregate 152 = .ok (.ladd, 1) := by decide +kernel
theorem d_M_giveAggregate_153 : decode b_M_giveAggregate 153 = .ok (.lstore 6, 2) := by decide +kernel
theorem d_M_giveAggregate_155 : decode b_M_giveAggregate 155 = .ok (.iinc 14 1, 3) := by decide +kernel
theorem d_M_giveAggregate_158 : decode b_M_giveAggregate 158 = .ok (.goto (-124), 3) := by decide +kernel
theorem d_M_giveAggregate_161 : decode b_M_giveAggregate 161 = .ok (.iload_n 3, 1) := by decide +kernel
theorem d_M_giveAggregate_162 : decode b_M_giveAggregate 162 = .ok (.iconst 2, 1) := by decide +kernel
theorem d_M_giveAggregate_163 : decode b_M_giveAggregate 163 = .ok (.if_icmp .ge 20, 3) := by decide +kernel
theorem d_M_giveAggregate_166 : decode b_M_giveAggregate 166 = .ok (.aload_n 0, 1) := by decide +kernel
theorem d_M_giveAggregate_167 : decode b_M_giveAggregate 167 = .ok (.iload_n 3, 1) := by decide +kernel
theorem d_M_giveAggregate_168 : decode b_M_giveAggregate 168 = .ok (.ifCond .ne 8, 3) := by decide +kernel
theorem d_M_giveAggregate_171 : decode b_M_giveAggregate 171 = .ok (.lload 4, 2) := by decide +kernel
theorem d_M_giveAggregate_173 : decode b_M_giveAggregate 173 = .ok (.goto 5, 3) := by decide +kernel
theorem d_M_giveAggregate_176 : decode b_M_giveAggregate 176 = .ok (.lload 6, 2) := by decide +kernel
theorem d_M_giveAggregate_178 : decode b_M_giveAggregate 178 = .ok (.iconst 0, 1) := by decide +kernel
theorem d_M_giveAggregate_179 : decode b_M_giveAggregate 179 = .ok (.invokevirtual 222, 3) := by decide +kernel
theorem d_M_giveAggregate_182 : decode b_M_giveAggregate 182 = .ok (.return_, 1) := by decide +kernel
theorem d_M_giveAggregate_183 : decode b_M_giveAggregate 183 = .ok (.lload 6, 2) := by decide +kernel
theorem d_M_giveAggregate_185 : decode b_M_giveAggregate 185 = .ok (.lconst 0, 1) := by decide +kernel
theorem d_M_giveAggregate_186 : decode b_M_giveAggregate 186 = .ok (.lcmp, 1) := by decide +kernel
theorem d_M_giveAggregate_187 : decode b_M_giveAggregate 187 = .ok (.ifCond .ne 7, 3) := by decide +kernel
theorem d_M_giveAggregate_190 : decode b_M_giveAggregate 190 = .ok (.iconst 1, 1) := by decide +kernel
theorem d_M_giveAggregate_191 : decode b_M_giveAggregate 191 = .ok (.goto 4, 3) := by decide +kernel
theorem d_M_giveAggregate_194 : decode b_M_giveAggregate 194 = .ok (.iconst 0, 1) := by decide +kernel
theorem d_M_giveAggregate_195 : decode b_M_giveAggregate 195 = .ok (.istore 14, 2) := by decide +kernel
theorem d_M_giveAggregate_197 : decode b_M_giveAggregate 197 = .ok (.iload 14, 2) := by decide +kernel
theorem d_M_giveAggregate_199 : decode b_M_giveAggregate 199 = .ok (.ifCond .eq 7, 3) := by decide +kernel
theorem d_M_giveAggregate_202 : decode b_M_giveAggregate 202 = .ok (.lconst 0, 1) := by decide +kernel
theorem d_M_giveAggregate_203 : decode b_M_giveAggregate 203 = .ok (.goto 38, 3) := by decide +kernel
theorem d_M_giveAggregate_206 : decode b_M_giveAggregate 206 = .ok (.iload_n 3, 1) := by decide +kernel
theorem d_M_giveAggregate_207 : decode b_M_giveAggregate 207 = .ok (.iconst 2, 1) := by decide +kernel
theorem d_M_giveAggregate_208 : decode b_M_giveAggregate 208 = .ok (.if_icmp .ne 8, 3) := by decide +kernel
theorem d_M_giveAggregate_211 : decode b_M_giveAggregate 211 = .ok (.lload 8, 2) := by decide +kernel
theorem d_M_giveAggregate_213 : decode b_M_giveAggregate 213 = .ok (.goto 28, 3) := by decide +kernel
theorem d_M_giveAggregate_216 : decode b_M_giveAggregate 216 = .ok (.iload_n 3, 1) := by decide +kernel
theorem d_M_giveAggregate_217 : decode b_M_giveAggregate 217 = .ok (.iconst 3, 1) := by decide +kernel
theorem d_M_giveAggregate_218 : decode b_M_giveAggregate 218 = .ok (.if_icmp .ne 8, 3) := by decide +kernel
theorem d_M_giveAggregate_221 : decode b_M_giveAggregate 221 = .ok (.lload 10, 2) := by decide +kernel
theorem d_M_giveAggregate_223 : decode b_M_giveAggregate 223 = .ok (.goto 18, 3) := by decide +kernel
theorem d_M_giveAggregate_226 : decode b_M_giveAggregate 226 = .ok (.iload_n 3, 1) := by decide +kernel
theorem d_M_giveAggregate_227 : decode b_M_giveAggregate 227 = .ok (.iconst 4, 1) := by decide +kernel
theorem d_M_giveAggregate_228 : decode b_M_giveAggregate 228 = .ok (.if_icmp .ne 8, 3) := by decide +kernel
theorem d_M_giveAggregate_231 : decode b_M_giveAggregate 231 = .ok (.lload 12, 2) := by decide +kernel
theorem d_M_giveAggregate_233 : decode b_M_giveAggregate 233 = .ok (.goto 8, 3) := by decide +kernel
theorem d_M_giveAggregate_236 : decode b_M_giveAggregate 236 = .ok (.lload 8, 2) := by decide +kernel
theorem d_M_giveAggregate_238 : decode b_M_giveAggregate 238 = .ok (.lload 6, 2) := by decide +kernel
theorem d_M_giveAggregate_240 : decode b_M_giveAggregate 240 = .ok (.ldiv, 1) := by decide +kernel
theorem d_M_giveAggregate_241 : decode b_M_giveAggregate 241 = .ok (.lstore 15, 2) := by decide +kernel
theorem d_M_giveAggregate_243 : decode b_M_giveAggregate 243 = .ok (.aload_n 0, 1) := by decide +kernel
theorem d_M_giveAggregate_244 : decode b_M_giveAggregate 244 = .ok (.lload 15, 2) := by decide +kernel
theorem d_M_giveAggregate_246 : decode b_M_giveAggregate 246 = .ok (.iload 14, 2) := by decide +kernel
theorem d_M_giveAggregate_248 : decode b_M_giveAggregate 248 = .ok (.invokevirtual 222, 3) := by decide +kernel
theorem d_M_giveAggregate_251 : decode b_M_giveAggregate 251 = .ok (.return_, 1) := by decide +kernel
