theorem d_T_addTable_0 : decode b_T_addTable 0 = .ok (.aload_n 0, 1) := by decide +kernel
theorem d_T_addTable_1 : decode b_T_addTable 1 = .ok (.getfield 9, 3) := by decide +kernel
theorem d_T_addTable_4 : decode b_T_addTable 4 = .ok (.aload_n 0, 1) := by decide +kernel
theorem d_T_addTable_5 : decode b_T_addTable 5 = .ok (.getfield 25, 3) := by decide +kernel
theorem d_T_addTable_8 : decode b_T_addTable 8 = .ok (.iload_n 1, 1) := by decide +kernel
theorem d_T_addTable_9 : decode b_T_addTable 9 = .ok (.iastore, 1) := by decide +kernel
theorem d_T_addTable_10 : decode b_T_addTable 10 = .ok (.aload_n 0, 1) := by decide +kernel
theorem d_T_addTable_11 : decode b_T_addTable 11 = .ok (.dup, 1) := by decide +kernel
theorem d_T_addTable_12 : decode b_T_addTable 12 = .ok (.getfield 25, 3) := by decide +kernel
theorem d_T_addTable_15 : decode b_T_addTable 15 = .ok (.iconst 1, 1) := by decide +kernel
theorem d_T_addTable_16 : decode b_T_addTable 16 = .ok (.iadd, 1) := by decide +kernel
theorem d_T_addTable_17 : decode b_T_addTable 17 = .ok (.putfield 25, 3) := by decide +kernel
theorem d_T_addTable_20 : decode b_T_addTable 20 = .ok (.aload_n 0, 1) := by decide +kernel
theorem d_T_addTable_21 : decode b_T_addTable 21 = .ok (.getfield 25, 3) := by decide +kernel
theorem d_T_addTable_24 : decode b_T_addTable 24 = .ok (.iconst 1, 1) := by decide +kernel
theorem d_T_addTable_25 : decode b_T_addTable 25 = .ok (.isub, 1) := by decide +kernel
theorem d_T_addTable_26 : decode b_T_addTable 26 = .ok (.ireturn, 1) := by decide +kernel
theorem d_Q_table_0 : decode b_Q_table 0 = .ok (.iload_n 1, 1) := by decide +kernel
theorem d_Q_table_1 : decode b_Q_table 1 = .ok (.iconst 1, 1) := by decide +kernel
theorem d_Q_table_2 : decode b_Q_table 2 = .ok (.if_icmp .lt 8, 3) := by decide +kernel
theorem d_Q_table_5 : decode b_Q_table 5 = .ok (.iload_n 1, 1) := by decide +kernel
theorem d_Q_table_6 : decode b_Q_table 6 = .ok (.iconst 4, 1) := by decide +kernel
theorem d_Q_table_7 : decode b_Q_table 7 = .ok (.if_icmp .le 6, 3) := by decide +kernel
theorem d_Q_table_10 : decode b_Q_table 10 = .ok (.bipush (-102), 2) := by decide +kernel
theorem d_Q_table_12 : decode b_Q_table 12 = .ok (.ireturn, 1) := by decide +kernel
theorem d_Q_table_13 : decode b_Q_table 13 = .ok (.aload_n 0, 1) := by decide +kernel
theorem d_Q_table_14 : decode b_Q_table 14 = .ok (.getfield 10, 3) := by decide +kernel
theorem d_Q_table_17 : decode b_Q_table 17 = .ok (.getfield 46, 3) := by decide +kernel
theorem d_Q_table_20 : decode b_Q_table 20 = .ok (.bipush 6, 2) := by decide +kernel
theorem d_Q_table_22 : decode b_Q_table 22 = .ok (.if_icmp .lt 6, 3) := by decide +kernel
theorem d_Q_table_25 : decode b_Q_table 25 = .ok (.bipush (-104), 2) := by decide +kernel
theorem d_Q_table_27 : decode b_Q_table 27 = .ok (.ireturn, 1) := by decide +kernel
theorem d_Q_table_28 : decode b_Q_table 28 = .ok (.aload_n 0, 1) := by decide +kernel
theorem d_Q_table_29 : decode b_Q_table 29 = .ok (.getfield 10, 3) := by decide +kernel
theorem d_Q_table_32 : decode b_Q_table 32 = .ok (.iload_n 1, 1) := by decide +kernel
theorem d_Q_table_33 : decode b_Q_table 33 = .ok (.invokevirtual 50, 3) := by decide +kernel
theorem d_Q_table_36 : decode b_Q_table 36 = .ok (.ireturn, 1) := by decide +kernel
theorem d_T_has_0 : decode b_T_has 0 = .ok (.iload_n 1, 1) := by decide +kernel
theorem d_T_has_1 : decode b_T_has 1 = .ok (.ifCond .lt 15, 3) := by decide +kernel
theorem d_T_has_4 : decode b_T_has 4 = .ok (.iload_n 1, 1) := by decide +kernel
theorem d_T_has_5 : decode b_T_has 5 = .ok (.aload_n 0, 1) := by decide +kernel
theorem d_T_has_6 : decode b_T_has 6 = .ok (.getfield 25, 3) := by decide +kernel
theorem d_T_has_9 : decode b_T_has 9 = .ok (.if_icmp .ge 7, 3) := by decide +kernel
theorem d_T_has_12 : decode b_T_has 12 = .ok (.iconst 1, 1) := by decide +kernel
theorem d_T_has_13 : decode b_T_has 13 = .ok (.goto 4, 3) := by decide +kernel
theorem d_T_has_16 : decode b_T_has 16 = .ok (.iconst 0, 1) := by decide +kernel
theorem d_T_has_17 : decode b_T_has 17 = .ok (.ireturn, 1) := by decide +kernel
theorem d_T_addRow_0 : decode b_T_addRow 0 = .ok (.iload_n 1, 1) := by decide +kernel
theorem d_T_addRow_1 : decode b_T_addRow 1 = .ok (.bipush 8, 2) := by decide +kernel
theorem d_T_addRow_3 : decode b_T_addRow 3 = .ok (.imul, 1) := by decide +kernel
theorem d_T_addRow_4 : decode b_T_addRow 4 = .ok (.aload_n 0, 1) := by decide +kernel
theorem d_T_addRow_5 : decode b_T_addRow 5 = .ok (.getfield 15, 3) := by decide +kernel
theorem d_T_addRow_8 : decode b_T_addRow 8 = .ok (.iload_n 1, 1) := by decide +kernel
theorem d_T_addRow_9 : decode b_T_addRow 9 = .ok (.iaload, 1) := by decide +kernel
theorem d_T_addRow_10 : decode b_T_addRow 10 = .ok (.iadd, 1) := by decide +kernel
theorem d_T_addRow_11 : decode b_T_addRow 11 = .ok (.istore 4, 2) := by decide +kernel
theorem d_T_addRow_13 : decode b_T_addRow 13 = .ok (.aload_n 0, 1) := by decide +kernel
theorem d_T_addRow_14 : decode b_T_addRow 14 = .ok (.getfield 22, 3) := by decide +kernel
theorem d_T_addRow_17 : decode b_T_addRow 17 = .ok (.iload 4, 2) := by decide +kernel
theorem d_T_addRow_19 : decode b_T_addRow 19 = .ok (.iload_n 3, 1) := by decide +kernel
theorem d_T_addRow_20 : decode b_T_addRow 20 = .ok (.iastore, 1) := by decide +kernel
theorem d_T_addRow_21 : decode b_T_addRow 21 = .ok (.aload_n 2, 1) := by decide +kernel
theorem d_T_addRow_22 : decode b_T_addRow 22 = .ok (.iconst 0, 1) := by decide +kernel
theorem d_T_addRow_23 : decode b_T_addRow 23 = .ok (.aload_n 0, 1) := by decide +kernel
theorem d_T_addRow_24 : decode b_T_addRow 24 = .ok (.getfield 18, 3) := by decide +kernel
theorem d_T_addRow_27 : decode b_T_addRow 27 = .ok (.iload 4, 2) := by decide +kernel
theorem d_T_addRow_29 : decode b_T_addRow 29 = .ok (.iconst 4, 1) := by decide +kernel
theorem d_T_addRow_30 : decode b_T_addRow 30 = .ok (.imul, 1) := by decide +kernel
theorem d_T_addRow_31 : decode b_T_addRow 31 = .ok (.iconst 4, 1) := by decide +kernel
theorem d_T_addRow_32 : decode b_T_addRow 32 = .ok (.invokestatic 29, 3) := by decide +kernel
theorem d_T_addRow_35 : decode b_T_addRow 35 = .ok (.aload_n 0, 1) := by decide +kernel
theorem d_T_addRow_36 : decode b_T_addRow 36 = .ok (.getfield 15, 3) := by decide +kernel
theorem d_T_addRow_39 : decode b_T_addRow 39 = .ok (.iload_n 1, 1) := by decide +kernel
theorem d_T_addRow_40 : decode b_T_addRow 40 = .ok (.dup2, 1) := by decide +kernel
theorem d_T_addRow_41 : decode b_T_addRow 41 = .ok (.iaload, 1) := by decide +kernel
theorem d_T_addRow_42 : decode b_T_addRow 42 = .ok (.iconst 1, 1) := by decide +kernel
theorem d_T_addRow_43 : decode b_T_addRow 43 = .ok (.iadd, 1) := by decide +kernel
theorem d_T_addRow_44 : decode b_T_addRow 44 = .ok (.iastore, 1) := by decide +kernel
theorem d_T_addRow_45 : decode b_T_addRow 45 = .ok (.aload_n 0, 1) := by decide +kernel
theorem d_T_addRow_46 : decode b_T_addRow 46 = .ok (.getfield 15, 3) := by decide +kernel
theorem d_T_addRow_49 : decode b_T_addRow 49 = .ok (.iload_n 1, 1) := by decide +kernel
theorem d_T_addRow_50 : decode b_T_addRow 50 = .ok (.iaload, 1) := by decide +kernel
theorem d_T_addRow_51 : decode b_T_addRow 51 = .ok (.ireturn, 1) := by decide +kernel
theorem d_Q_isOutside_0 : decode b_Q_isOutside 0 = .ok (.lload_n 0, 1) := by decide +kernel
theorem d_Q_isOutside_1 : decode b_Q_isOutside 1 = .ok (.ldc2_w 172, 3) := by decide +kernel
theorem d_Q_isOutside_4 : decode b_Q_isOutside 4 = .ok (.lcmp, 1) := by decide +kernel
theorem d_Q_isOutside_5 : decode b_Q_isOutside 5 = .ok (.ifCond .lt 11, 3) := by decide +kernel
theorem d_Q_isOutside_8 : decode b_Q_isOutside 8 = .ok (.lload_n 0, 1) := by decide +kernel
theorem d_Q_isOutside_9 : decode b_Q_isOutside 9 = .ok (.ldc2_w 174, 3) := by decide +kernel
theorem d_Q_isOutside_12 : decode b_Q_isOutside 12 = .ok (.lcmp, 1) := by decide +kernel
theorem d_Q_isOutside_13 : decode b_Q_isOutside 13 = .ok (.ifCond .le 7, 3) := by decide +kernel
theorem d_Q_isOutside_16 : decode b_Q_isOutside 16 = .ok (.iconst 1, 1) := by decide +kernel
theorem d_Q_isOutside_17 : decode b_Q_isOutside 17 = .ok (.goto 4, 3) := by decide +kernel
theorem d_Q_isOutside_20 : decode b_Q_isOutside 20 = .ok (.iconst 0, 1) := by decide +kernel
theorem d_Q_isOutside_21 : decode b_Q_isOutside 21 = .ok (.ireturn, 1) := by decide +kernel
theorem d_Q_insert_0 : decode b_Q_insert 0 = .ok (.aload_n 0, 1) := by decide +kernel
theorem d_Q_insert_1 : decode b_Q_insert 1 = .ok (.getfield 10, 3) := by decide +kernel
theorem d_Q_insert_4 : decode b_Q_insert 4 = .ok (.iload_n 1, 1) := by decide +kernel
theorem d_Q_insert_5 : decode b_Q_insert 5 = .ok (.invokevirtual 54, 3) := by decide +kernel
theorem d_Q_insert_8 : decode b_Q_insert 8 = .ok (.ifCond .ne 6, 3) := by decide +kernel
theorem d_Q_insert_11 : decode b_Q_insert 11 = .ok (.bipush (-101), 2) := by decide +kernel
theorem d_Q_insert_13 : decode b_Q_insert 13 = .ok (.ireturn, 1) := by decide +kernel
theorem d_Q_insert_14 : decode b_Q_insert 14 = .ok (.iconst 4, 1) := by decide +kernel
theorem d_Q_insert_15 : decode b_Q_insert 15 = .ok (.newarray .long, 2) := by decide +kernel
theorem d_Q_insert_17 : decode b_Q_insert 17 = .ok (.dup, 1) := by decide +kernel
theorem d_Q_insert_18 : decode b_Q_insert 18 = .ok (.iconst 0, 1) := by decide +kernel
theorem d_Q_insert_19 : decode b_Q_insert 19 = .ok (.lload_n 2, 1) := by decide +kernel
theorem d_Q_insert_20 : decode b_Q_insert 20 = .ok (.lastore, 1) := by decide +kernel
theorem d_Q_insert_21 : decode b_Q_insert 21 = .ok (.dup, 1) := by decide +kernel
theorem d_Q_insert_22 : decode b_Q_insert 22 = .ok (.iconst 1, 1) := by decide +kernel
theorem d_Q_insert_23 : decode b_Q_insert 23 = .ok (.lload 4, 2) := by decide +kernel
theorem d_Q_insert_25 : decode b_Q_insert 25 = .ok (.lastore, 1) := by decide +kernel
theorem d_Q_insert_26 : decode b_Q_insert 26 = .ok (.dup, 1) := by decide +kernel
theorem d_Q_insert_27 : decode b_Q_insert 27 = .ok (.iconst 2, 1) := by decide +kernel
theorem d_Q_insert_28 : decode b_Q_insert 28 = .ok (.lload 6, 2) := by decide +kernel
theorem d_Q_insert_30 : decode b_Q_insert 30 = .ok (.lastore, 1) := by decide +kernel
theorem d_Q_insert_31 : decode b_Q_insert 31 = .ok (.dup, 1) := by decide +kernel
theorem d_Q_insert_32 : decode b_Q_insert 32 = .ok (.iconst 3, 1) := by decide +kernel
theorem d_Q_insert_33 : decode b_Q_insert 33 = .ok (.lload 8, 2) := by decide +kernel
theorem d_Q_insert_35 : decode b_Q_insert 35 = .ok (.lastore, 1) := by decide +kernel
theorem d_Q_insert_36 : decode b_Q_insert 36 = .ok (.astore 11, 2) := by decide +kernel
theorem d_Q_insert_38 : decode b_Q_insert 38 = .ok (.aload_n 0, 1) := by decide +kernel
theorem d_Q_insert_39 : decode b_Q_insert 39 = .ok (.getfield 10, 3) := by decide +kernel
theorem d_Q_insert_42 : decode b_Q_insert 42 = .ok (.getfield 58, 3) := by decide +kernel
theorem d_Q_insert_45 : decode b_Q_insert 45 = .ok (.iload_n 1, 1) := by decide +kernel
theorem d_Q_insert_46 : decode b_Q_insert 46 = .ok (.iaload, 1) := by decide +kernel
theorem d_Q_insert_47 : decode b_Q_insert 47 = .ok (.aload 11, 2) := by decide +kernel
theorem d_Q_insert_49 : decode b_Q_insert 49 = .ok (.arraylength, 1) := by decide +kernel
theorem d_Q_insert_50 : decode b_Q_insert 50 = .ok (.invokestatic 62, 3) := by decide +kernel
theorem d_Q_insert_53 : decode b_Q_insert 53 = .ok (.istore 12, 2) := by decide +kernel
theorem d_Q_insert_55 : decode b_Q_insert 55 = .ok (.iconst 0, 1) := by decide +kernel
theorem d_Q_insert_56 : decode b_Q_insert 56 = .ok (.istore 13, 2) := by decide +kernel
theorem d_Q_insert_58 : decode b_Q_insert 58 = .ok (.iload 13, 2) := by decide +kernel
theorem d_Q_insert_60 : decode b_Q_insert 60 = .ok (.iload 12, 2) := by decide +kernel
theorem d_Q_insert_62 : decode b_Q_insert 62 = .ok (.if_icmp .ge 33, 3) := by decide +kernel
theorem d_Q_insert_65 : decode b_Q_insert 65 = .ok (.iload 10, 2) := by decide +kernel
theorem d_Q_insert_67 : decode b_Q_insert 67 = .ok (.iload 13, 2) := by decide +kernel
theorem d_Q_insert_69 : decode b_Q_insert 69 = .ok (.ishr, 1) := by decide +kernel
theorem d_Q_insert_70 : decode b_Q_insert 70 = .ok (.iconst 1, 1) := by decide +kernel
theorem d_Q_insert_71 : decode b_Q_insert 71 = .ok (.iand, 1) := by decide +kernel
theorem d_Q_insert_72 : decode b_Q_insert 72 = .ok (.ifCond .ne 17, 3) := by decide +kernel
theorem d_Q_insert_75 : decode b_Q_insert 75 = .ok (.aload 11, 2) := by decide +kernel
theorem d_Q_insert_77 : decode b_Q_insert 77 = .ok (.iload 13, 2) := by decide +kernel
theorem d_Q_insert_79 : decode b_Q_insert 79 = .ok (.laload, 1) := by decide +kernel
theorem d_Q_insert_80 : decode b_Q_insert 80 = .ok (.invokestatic 68, 3) := by decide +kernel
theorem d_Q_insert_83 : decode b_Q_insert 83 = .ok (.ifCond .eq 6, 3) := by decide +kernel
theorem d_Q_insert_86 : decode b_Q_insert 86 = .ok (.bipush (-102), 2) := by decide +kernel
theorem d_Q_insert_88 : decode b_Q_insert 88 = .ok (.ireturn, 1) := by decide +kernel
theorem d_Q_insert_89 : decode b_Q_insert 89 = .ok (.iinc 13 1, 3) := by decide +kernel
theorem d_Q_insert_92 : decode b_Q_insert 92 = .ok (.goto (-34), 3) := by decide +kernel
theorem d_Q_insert_95 : decode b_Q_insert 95 = .ok (.aload_n 0, 1) := by decide +kernel
theorem d_Q_insert_96 : decode b_Q_insert 96 = .ok (.getfield 10, 3) := by decide +kernel
theorem d_Q_insert_99 : decode b_Q_insert 99 = .ok (.getfield 72, 3) := by decide +kernel
theorem d_Q_insert_102 : decode b_Q_insert 102 = .ok (.iload_n 1, 1) := by decide +kernel
theorem d_Q_insert_103 : decode b_Q_insert 103 = .ok (.iaload, 1) := by decide +kernel
theorem d_Q_insert_104 : decode b_Q_insert 104 = .ok (.bipush 8, 2) := by decide +kernel
theorem d_Q_insert_106 : decode b_Q_insert 106 = .ok (.if_icmp .lt 6, 3) := by decide +kernel
theorem d_Q_insert_109 : decode b_Q_insert 109 = .ok (.bipush (-104), 2) := by decide +kernel
theorem d_Q_insert_111 : decode b_Q_insert 111 = .ok (.ireturn, 1) := by decide +kernel
theorem d_Q_insert_112 : decode b_Q_insert 112 = .ok (.aload_n 0, 1) := by decide +kernel
theorem d_Q_insert_113 : decode b_Q_insert 113 = .ok (.getfield 10, 3) := by decide +kernel
theorem d_Q_insert_116 : decode b_Q_insert 116 = .ok (.iload_n 1, 1) := by decide +kernel
theorem d_Q_insert_117 : decode b_Q_insert 117 = .ok (.aload 11, 2) := by decide +kernel
theorem d_Q_insert_119 : decode b_Q_insert 119 = .ok (.iload 10, 2) := by decide +kernel
theorem d_Q_insert_121 : decode b_Q_insert 121 = .ok (.invokevirtual 75, 3) := by decide +kernel
theorem d_Q_insert_124 : decode b_Q_insert 124 = .ok (.ireturn, 1) := by decide +kernel
theorem d_E_clear_0 : decode b_E_clear 0 = .ok (.aload_n 0, 1) := by decide +kernel
theorem d_E_clear_1 : decode b_E_clear 1 = .ok (.iconst 0, 1) := by decide +kernel
theorem d_E_clear_2 : decode b_E_clear 2 = .ok (.putfield 47, 3) := by decide +kernel
theorem d_E_clear_5 : decode b_E_clear 5 = .ok (.aload_n 0, 1) := by decide +kernel
theorem d_E_clear_6 : decode b_E_clear 6 = .ok (.iconst 0, 1) := by decide +kernel
theorem d_E_clear_7 : decode b_E_clear 7 = .ok (.putfield 51, 3) := by decide +kernel
theorem d_E_clear_10 : decode b_E_clear 10 = .ok (.return_, 1) := by decide +kernel
theorem d_Y_setShape_0 : decode b_Y_setShape 0 = .ok (.aload_n 0, 1) := by decide +kernel
theorem d_Y_setShape_1 : decode b_Y_setShape 1 = .ok (.iload_n 1, 1) := by decide +kernel
theorem d_Y_setShape_2 : decode b_Y_setShape 2 = .ok (.putfield 60, 3) := by decide +kernel
theorem d_Y_setShape_5 : decode b_Y_setShape 5 = .ok (.aload_n 0, 1) := by decide +kernel
theorem d_Y_setShape_6 : decode b_Y_setShape 6 = .ok (.iload_n 2, 1) := by decide +kernel
theorem d_Y_setShape_7 : decode b_Y_setShape 7 = .ok (.putfield 41, 3) := by decide +kernel
theorem d_Y_setShape_10 : decode b_Y_setShape 10 = .ok (.aload_n 0, 1) := by decide +kernel
theorem d_Y_setShape_11 : decode b_Y_setShape 11 = .ok (.iload_n 3, 1) := by decide +kernel
theorem d_Y_setShape_12 : decode b_Y_setShape 12 = .ok (.putfield 64, 3) := by decide +kernel
theorem d_Y_setShape_15 : decode b_Y_setShape 15 = .ok (.return_, 1) := by decide +kernel
theorem d_Y_clear_0 : decode b_Y_clear 0 = .ok (.aload_n 0, 1) := by decide +kernel
theorem d_Y_clear_1 : decode b_Y_clear 1 = .ok (.iconst 0, 1) := by decide +kernel
theorem d_Y_clear_2 : decode b_Y_clear 2 = .ok (.putfield 44, 3) := by decide +kernel
theorem d_Y_clear_5 : decode b_Y_clear 5 = .ok (.aload_n 0, 1) := by decide +kernel
theorem d_Y_clear_6 : decode b_Y_clear 6 = .ok (.iconst (-1), 1) := by decide +kernel
theorem d_Y_clear_7 : decode b_Y_clear 7 = .ok (.putfield 21, 3) := by decide +kernel
theorem d_Y_clear_10 : decode b_Y_clear 10 = .ok (.aload_n 0, 1) := by decide +kernel
theorem d_Y_clear_11 : decode b_Y_clear 11 = .ok (.iconst (-1), 1) := by decide +kernel
theorem d_Y_clear_12 : decode b_Y_clear 12 = .ok (.putfield 25, 3) := by decide +kernel
theorem d_Y_clear_15 : decode b_Y_clear 15 = .ok (.aload_n 0, 1) := by decide +kernel
theorem d_Y_clear_16 : decode b_Y_clear 16 = .ok (.iconst 0, 1) := by decide +kernel
theorem d_Y_clear_17 : decode b_Y_clear 17 = .ok (.putfield 47, 3) := by decide +kernel
theorem d_Y_clear_20 : decode b_Y_clear 20 = .ok (.aload_n 0, 1) := by decide +kernel
theorem d_Y_clear_21 : decode b_Y_clear 21 = .ok (.iconst 0, 1) := by decide +kernel
theorem d_Y_clear_22 : decode b_Y_clear 22 = .ok (.putfield 50, 3) := by decide +kernel
theorem d_Y_clear_25 : decode b_Y_clear 25 = .ok (.aload_n 0, 1) := by decide +kernel
theorem d_Y_clear_26 : decode b_Y_clear 26 = .ok (.iconst 0, 1) := by decide +kernel
theorem d_Y_clear_27 : decode b_Y_clear 27 = .ok (.putfield 53, 3) := by decide +kernel
theorem d_Y_clear_30 : decode b_Y_clear 30 = .ok (.aload_n 0, 1) := by decide +kernel
theorem d_Y_clear_31 : decode b_Y_clear 31 = .ok (.iconst 0, 1) := by decide +kernel
theorem d_Y_clear_32 : decode b_Y_clear 32 = .ok (.sipush 1000, 3) := by decide +kernel
theorem d_Y_clear_35 : decode b_Y_clear 35 = .ok (.iconst 0, 1) := by decide +kernel
theorem d_Y_clear_36 : decode b_Y_clear 36 = .ok (.invokevirtual 56, 3) := by decide +kernel
theorem d_Y_clear_39 : decode b_Y_clear 39 = .ok (.return_, 1) := by decide +kernel
theorem d_Q_fresh_0 : decode b_Q_fresh 0 = .ok (.aload_n 0, 1) := by decide +kernel
theorem d_Q_fresh_1 : decode b_Q_fresh 1 = .ok (.getfield 19, 3) := by decide +kernel
theorem d_Q_fresh_4 : decode b_Q_fresh 4 = .ok (.getfield 79, 3) := by decide +kernel
theorem d_Q_fresh_7 : decode b_Q_fresh 7 = .ok (.istore_n 1, 1) := by decide +kernel
theorem d_Q_fresh_8 : decode b_Q_fresh 8 = .ok (.aload_n 0, 1) := by decide +kernel
theorem d_Q_fresh_9 : decode b_Q_fresh 9 = .ok (.getfield 19, 3) := by decide +kernel
theorem d_Q_fresh_12 : decode b_Q_fresh 12 = .ok (.invokevirtual 80, 3) := by decide +kernel
theorem d_Q_fresh_15 : decode b_Q_fresh 15 = .ok (.aload_n 0, 1) := by decide +kernel
theorem d_Q_fresh_16 : decode b_Q_fresh 16 = .ok (.getfield 26, 3) := by decide +kernel
theorem d_Q_fresh_19 : decode b_Q_fresh 19 = .ok (.invokevirtual 83, 3) := by decide +kernel
theorem d_Q_fresh_22 : decode b_Q_fresh 22 = .ok (.iload_n 1, 1) := by decide +kernel
theorem d_Q_fresh_23 : decode b_Q_fresh 23 = .ok (.ireturn, 1) := by decide +kernel
theorem d_E_has_0 : decode b_E_has 0 = .ok (.iload_n 1, 1) := by decide +kernel
theorem d_E_has_1 : decode b_E_has 1 = .ok (.ifCond .lt 15, 3) := by decide +kernel
theorem d_E_has_4 : decode b_E_has 4 = .ok (.iload_n 1, 1) := by decide +kernel
theorem d_E_has_5 : decode b_E_has 5 = .ok (.aload_n 0, 1) := by decide +kernel
theorem d_E_has_6 : decode b_E_has 6 = .ok (.getfield 47, 3) := by decide +kernel
theorem d_E_has_9 : decode b_E_has 9 = .ok (.if_icmp .ge 7, 3) := by decide +kernel
theorem d_E_has_12 : decode b_E_has 12 = .ok (.iconst 1, 1) := by decide +kernel
theorem d_E_has_13 : decode b_E_has 13 = .ok (.goto 4, 3) := by decide +kernel
theorem d_E_has_16 : decode b_E_has 16 = .ok (.iconst 0, 1) := by decide +kernel
theorem d_E_has_17 : decode b_E_has 17 = .ok (.ireturn, 1) := by decide +kernel
theorem d_E_partsOf_0 : decode b_E_partsOf 0 = .ok (.aload_n 0, 1) := by decide +kernel
theorem d_E_partsOf_1 : decode b_E_partsOf 1 = .ok (.iload_n 1, 1) := by decide +kernel
theorem d_E_partsOf_2 : decode b_E_partsOf 2 = .ok (.invokevirtual 69, 3) := by decide +kernel
theorem d_E_partsOf_5 : decode b_E_partsOf 5 = .ok (.ifCond .eq 12, 3) := by decide +kernel
theorem d_E_partsOf_8 : decode b_E_partsOf 8 = .ok (.aload_n 0, 1) := by decide +kernel
theorem d_E_partsOf_9 : decode b_E_partsOf 9 = .ok (.getfield 25, 3) := by decide +kernel
theorem d_E_partsOf_12 : decode b_E_partsOf 12 = .ok (.iload_n 1, 1) := by decide +kernel
theorem d_E_partsOf_13 : decode b_E_partsOf 13 = .ok (.iaload, 1) := by decide +kernel
theorem d_E_partsOf_14 : decode b_E_partsOf 14 = .ok (.goto 4, 3) := by decide +kernel
theorem d_E_partsOf_17 : decode b_E_partsOf 17 = .ok (.iconst 0, 1) := by decide +kernel
theorem d_E_partsOf_18 : decode b_E_partsOf 18 = .ok (.ireturn, 1) := by decide +kernel
theorem d_E_hasRoom_0 : decode b_E_hasRoom 0 = .ok (.aload_n 0, 1) := by decide +kernel
theorem d_E_hasRoom_1 : decode b_E_hasRoom 1 = .ok (.getfield 47, 3) := by decide +kernel
theorem d_E_hasRoom_4 : decode b_E_hasRoom 4 = .ok (.bipush 60, 2) := by decide +kernel
theorem d_E_hasRoom_6 : decode b_E_hasRoom 6 = .ok (.if_icmp .ge 25, 3) := by decide +kernel
theorem d_E_hasRoom_9 : decode b_E_hasRoom 9 = .ok (.iconst 1, 1) := by decide +kernel
theorem d_E_hasRoom_10 : decode b_E_hasRoom 10 = .ok (.aload_n 0, 1) := by decide +kernel
theorem d_E_hasRoom_11 : decode b_E_hasRoom 11 = .ok (.iload_n 1, 1) := by decide +kernel
theorem d_E_hasRoom_12 : decode b_E_hasRoom 12 = .ok (.invokevirtual 54, 3) := by decide +kernel
theorem d_E_hasRoom_15 : decode b_E_hasRoom 15 = .ok (.iadd, 1) := by decide +kernel
theorem d_E_hasRoom_16 : decode b_E_hasRoom 16 = .ok (.aload_n 0, 1) := by decide +kernel
theorem d_E_hasRoom_17 : decode b_E_hasRoom 17 = .ok (.iload_n 2, 1) := by decide +kernel
theorem d_E_hasRoom_18 : decode b_E_hasRoom 18 = .ok (.invokevirtual 54, 3) := by decide +kernel
theorem d_E_hasRoom_21 : decode b_E_hasRoom 21 = .ok (.iadd, 1) := by decide +kernel
theorem d_E_hasRoom_22 : decode b_E_hasRoom 22 = .ok (.bipush 60, 2) := by decide +kernel
theorem d_E_hasRoom_24 : decode b_E_hasRoom 24 = .ok (.if_icmp .gt 7, 3) := by decide +kernel
theorem d_E_hasRoom_27 : decode b_E_hasRoom 27 = .ok (.iconst 1, 1) := by decide +kernel
theorem d_E_hasRoom_28 : decode b_E_hasRoom 28 = .ok (.goto 4, 3) := by decide +kernel
theorem d_E_hasRoom_31 : decode b_E_hasRoom 31 = .ok (.iconst 0, 1) := by decide +kernel
theorem d_E_hasRoom_32 : decode b_E_hasRoom 32 = .ok (.ireturn, 1) := by decide +kernel
theorem d_E_likeOf_0 : decode b_E_likeOf 0 = .ok (.aload_n 0, 1) := by decide +kernel
theorem d_E_likeOf_1 : decode b_E_likeOf 1 = .ok (.iload_n 1, 1) := by decide +kernel
theorem d_E_likeOf_2 : decode b_E_likeOf 2 = .ok (.invokevirtual 69, 3) := by decide +kernel
theorem d_E_likeOf_5 : decode b_E_likeOf 5 = .ok (.ifCond .eq 12, 3) := by decide +kernel
theorem d_E_likeOf_8 : decode b_E_likeOf 8 = .ok (.aload_n 0, 1) := by decide +kernel
theorem d_E_likeOf_9 : decode b_E_likeOf 9 = .ok (.getfield 28, 3) := by decide +kernel
theorem d_E_likeOf_12 : decode b_E_likeOf 12 = .ok (.iload_n 1, 1) := by decide +kernel
theorem d_E_likeOf_13 : decode b_E_likeOf 13 = .ok (.iaload, 1) := by decide +kernel
theorem d_E_likeOf_14 : decode b_E_likeOf 14 = .ok (.goto 4, 3) := by decide +kernel
theorem d_E_likeOf_17 : decode b_E_likeOf 17 = .ok (.iconst (-1), 1) := by decide +kernel
theorem d_E_likeOf_18 : decode b_E_likeOf 18 = .ok (.ireturn, 1) := by decide +kernel
theorem d_E_firstLike_0 : decode b_E_firstLike 0 = .ok (.iconst 0, 1) := by decide +kernel
theorem d_E_firstLike_1 : decode b_E_firstLike 1 = .ok (.istore_n 2, 1) := by decide +kernel
theorem d_E_firstLike_2 : decode b_E_firstLike 2 = .ok (.iload_n 2, 1) := by decide +kernel
theorem d_E_firstLike_3 : decode b_E_firstLike 3 = .ok (.iload_n 1, 1) := by decide +kernel
theorem d_E_firstLike_4 : decode b_E_firstLike 4 = .ok (.if_icmp .ge 93, 3) := by decide +kernel
theorem d_E_firstLike_7 : decode b_E_firstLike 7 = .ok (.aload_n 0, 1) := by decide +kernel
theorem d_E_firstLike_8 : decode b_E_firstLike 8 = .ok (.getfield 9, 3) := by decide +kernel
theorem d_E_firstLike_11 : decode b_E_firstLike 11 = .ok (.iload_n 2, 1) := by decide +kernel
theorem d_E_firstLike_12 : decode b_E_firstLike 12 = .ok (.iaload, 1) := by decide +kernel
theorem d_E_firstLike_13 : decode b_E_firstLike 13 = .ok (.aload_n 0, 1) := by decide +kernel
theorem d_E_firstLike_14 : decode b_E_firstLike 14 = .ok (.getfield 9, 3) := by decide +kernel
theorem d_E_firstLike_17 : decode b_E_firstLike 17 = .ok (.iload_n 1, 1) := by decide +kernel
theorem d_E_firstLike_18 : decode b_E_firstLike 18 = .ok (.iaload, 1) := by decide +kernel
theorem d_E_firstLike_19 : decode b_E_firstLike 19 = .ok (.if_icmp .ne 72, 3) := by decide +kernel
theorem d_E_firstLike_22 : decode b_E_firstLike 22 = .ok (.aload_n 0, 1) := by decide +kernel
theorem d_E_firstLike_23 : decode b_E_firstLike 23 = .ok (.getfield 15, 3) := by decide +kernel
theorem d_E_firstLike_26 : decode b_E_firstLike 26 = .ok (.iload_n 2, 1) := by decide +kernel
theorem d_E_firstLike_27 : decode b_E_firstLike 27 = .ok (.laload, 1) := by decide +kernel
theorem d_E_firstLike_28 : decode b_E_firstLike 28 = .ok (.aload_n 0, 1) := by decide +kernel
theorem d_E_firstLike_29 : decode b_E_firstLike 29 = .ok (.getfield 15, 3) := by decide +kernel
theorem d_E_firstLike_32 : decode b_E_firstLike 32 = .ok (.iload_n 1, 1) := by decide +kernel
theorem d_E_firstLike_33 : decode b_E_firstLike 33 = .ok (.laload, 1) := by decide +kernel
theorem d_E_firstLike_34 : decode b_E_firstLike 34 = .ok (.lcmp, 1) := by decide +kernel
theorem d_E_firstLike_35 : decode b_E_firstLike 35 = .ok (.ifCond .ne 56, 3) := by decide +kernel
theorem d_E_firstLike_38 : decode b_E_firstLike 38 = .ok (.aload_n 0, 1) := by decide +kernel
theorem d_E_firstLike_39 : decode b_E_firstLike 39 = .ok (.aload_n 0, 1) := by decide +kernel
theorem d_E_firstLike_40 : decode b_E_firstLike 40 = .ok (.getfield 19, 3) := by decide +kernel
theorem d_E_firstLike_43 : decode b_E_firstLike 43 = .ok (.iload_n 2, 1) := by decide +kernel
theorem d_E_firstLike_44 : decode b_E_firstLike 44 = .ok (.iaload, 1) := by decide +kernel
theorem d_E_firstLike_45 : decode b_E_firstLike 45 = .ok (.invokevirtual 73, 3) := by decide +kernel
theorem d_E_firstLike_48 : decode b_E_firstLike 48 = .ok (.aload_n 0, 1) := by decide +kernel
theorem d_E_firstLike_49 : decode b_E_firstLike 49 = .ok (.aload_n 0, 1) := by decide +kernel
theorem d_E_firstLike_50 : decode b_E_firstLike 50 = .ok (.getfield 19, 3) := by decide +kernel
theorem d_E_firstLike_53 : decode b_E_firstLike 53 = .ok (.iload_n 1, 1) := by decide +kernel
theorem d_E_firstLike_54 : decode b_E_firstLike 54 = .ok (.iaload, 1) := by decide +kernel
theorem d_E_firstLike_55 : decode b_E_firstLike 55 = .ok (.invokevirtual 73, 3) := by decide +kernel
theorem d_E_firstLike_58 : decode b_E_firstLike 58 = .ok (.if_icmp .ne 33, 3) := by decide +kernel
theorem d_E_firstLike_61 : decode b_E_firstLike 61 = .ok (.aload_n 0, 1) := by decide +kernel
theorem d_E_firstLike_62 : decode b_E_firstLike 62 = .ok (.aload_n 0, 1) := by decide +kernel
theorem d_E_firstLike_63 : decode b_E_firstLike 63 = .ok (.getfield 22, 3) := by decide +kernel
theorem d_E_firstLike_66 : decode b_E_firstLike 66 = .ok (.iload_n 2, 1) := by decide +kernel
theorem d_E_firstLike_67 : decode b_E_firstLike 67 = .ok (.iaload, 1) := by decide +kernel
theorem d_E_firstLike_68 : decode b_E_firstLike 68 = .ok (.invokevirtual 73, 3) := by decide +kernel
theorem d_E_firstLike_71 : decode b_E_firstLike 71 = .ok (.aload_n 0, 1) := by decide +kernel
theorem d_E_firstLike_72 : decode b_E_firstLike 72 = .ok (.aload_n 0, 1) := by decide +kernel
theorem d_E_firstLike_73 : decode b_E_firstLike 73 = .ok (.getfield 22, 3) := by decide +kernel
theorem d_E_firstLike_76 : decode b_E_firstLike 76 = .ok (.iload_n 1, 1) := by decide +kernel
theorem d_E_firstLike_77 : decode b_E_firstLike 77 = .ok (.iaload, 1) := by decide +kernel
theorem d_E_firstLike_78 : decode b_E_firstLike 78 = .ok (.invokevirtual 73, 3) := by decide +kernel
theorem d_E_firstLike_81 : decode b_E_firstLike 81 = .ok (.if_icmp .ne 10, 3) := by decide +kernel
theorem d_E_firstLike_84 : decode b_E_firstLike 84 = .ok (.aload_n 0, 1) := by decide +kernel
theorem d_E_firstLike_85 : decode b_E_firstLike 85 = .ok (.getfield 28, 3) := by decide +kernel
theorem d_E_firstLike_88 : decode b_E_firstLike 88 = .ok (.iload_n 2, 1) := by decide +kernel
theorem d_E_firstLike_89 : decode b_E_firstLike 89 = .ok (.iaload, 1) := by decide +kernel
theorem d_E_firstLike_90 : decode b_E_firstLike 90 = .ok (.ireturn, 1) := by decide +kernel
theorem d_E_firstLike_91 : decode b_E_firstLike 91 = .ok (.iinc 2 1, 3) := by decide +kernel
theorem d_E_firstLike_94 : decode b_E_firstLike 94 = .ok (.goto (-92), 3) := by decide +kernel
theorem d_E_firstLike_97 : decode b_E_firstLike 97 = .ok (.iload_n 1, 1) := by decide +kernel
theorem d_E_firstLike_98 : decode b_E_firstLike 98 = .ok (.ireturn, 1) := by decide +kernel
theorem d_E_bitsOf_0 : decode b_E_bitsOf 0 = .ok (.aload_n 0, 1) := by decide +kernel
theorem d_E_bitsOf_1 : decode b_E_bitsOf 1 = .ok (.iload_n 2, 1) := by decide +kernel
theorem d_E_bitsOf_2 : decode b_E_bitsOf 2 = .ok (.invokevirtual 69, 3) := by decide +kernel
theorem d_E_bitsOf_5 : decode b_E_bitsOf 5 = .ok (.ifCond .eq 9, 3) := by decide +kernel
theorem d_E_bitsOf_8 : decode b_E_bitsOf 8 = .ok (.aload_n 1, 1) := by decide +kernel
theorem d_E_bitsOf_9 : decode b_E_bitsOf 9 = .ok (.iload_n 2, 1) := by decide +kernel
theorem d_E_bitsOf_10 : decode b_E_bitsOf 10 = .ok (.iaload, 1) := by decide +kernel
theorem d_E_bitsOf_11 : decode b_E_bitsOf 11 = .ok (.goto 4, 3) := by decide +kernel
theorem d_E_bitsOf_14 : decode b_E_bitsOf 14 = .ok (.iconst 0, 1) := by decide +kernel
theorem d_E_bitsOf_15 : decode b_E_bitsOf 15 = .ok (.ireturn, 1) := by decide +kernel
theorem d_E_add_0 : decode b_E_add 0 = .ok (.aload_n 0, 1) := by decide +kernel
theorem d_E_add_1 : decode b_E_add 1 = .ok (.getfield 47, 3) := by decide +kernel
theorem d_E_add_4 : decode b_E_add 4 = .ok (.istore 6, 2) := by decide +kernel
theorem d_E_add_6 : decode b_E_add 6 = .ok (.aload_n 0, 1) := by decide +kernel
theorem d_E_add_7 : decode b_E_add 7 = .ok (.getfield 9, 3) := by decide +kernel
theorem d_E_add_10 : decode b_E_add 10 = .ok (.iload 6, 2) := by decide +kernel
theorem d_E_add_12 : decode b_E_add 12 = .ok (.iload_n 1, 1) := by decide +kernel
theorem d_E_add_13 : decode b_E_add 13 = .ok (.iastore, 1) := by decide +kernel
theorem d_E_add_14 : decode b_E_add 14 = .ok (.aload_n 0, 1) := by decide +kernel
theorem d_E_add_15 : decode b_E_add 15 = .ok (.getfield 15, 3) := by decide +kernel
theorem d_E_add_18 : decode b_E_add 18 = .ok (.iload 6, 2) := by decide +kernel
theorem d_E_add_20 : decode b_E_add 20 = .ok (.lload_n 2, 1) := by decide +kernel
theorem d_E_add_21 : decode b_E_add 21 = .ok (.lastore, 1) := by decide +kernel
theorem d_E_add_22 : decode b_E_add 22 = .ok (.aload_n 0, 1) := by decide +kernel
theorem d_E_add_23 : decode b_E_add 23 = .ok (.getfield 19, 3) := by decide +kernel
theorem d_E_add_26 : decode b_E_add 26 = .ok (.iload 6, 2) := by decide +kernel
theorem d_E_add_28 : decode b_E_add 28 = .ok (.iload 4, 2) := by decide +kernel
theorem d_E_add_30 : decode b_E_add 30 = .ok (.iastore, 1) := by decide +kernel
theorem d_E_add_31 : decode b_E_add 31 = .ok (.aload_n 0, 1) := by decide +kernel
theorem d_E_add_32 : decode b_E_add 32 = .ok (.getfield 22, 3) := by decide +kernel
theorem d_E_add_35 : decode b_E_add 35 = .ok (.iload 6, 2) := by decide +kernel
theorem d_E_add_37 : decode b_E_add 37 = .ok (.iload 5, 2) := by decide +kernel
theorem d_E_add_39 : decode b_E_add 39 = .ok (.iastore, 1) := by decide +kernel
theorem d_E_add_40 : decode b_E_add 40 = .ok (.aload_n 0, 1) := by decide +kernel
theorem d_E_add_41 : decode b_E_add 41 = .ok (.getfield 25, 3) := by decide +kernel
theorem d_E_add_44 : decode b_E_add 44 = .ok (.iload 6, 2) := by decide +kernel
theorem d_E_add_46 : decode b_E_add 46 = .ok (.iconst 1, 1) := by decide +kernel
theorem d_E_add_47 : decode b_E_add 47 = .ok (.aload_n 0, 1) := by decide +kernel
theorem d_E_add_48 : decode b_E_add 48 = .ok (.iload 4, 2) := by decide +kernel
theorem d_E_add_50 : decode b_E_add 50 = .ok (.invokevirtual 54, 3) := by decide +kernel
theorem d_E_add_53 : decode b_E_add 53 = .ok (.iadd, 1) := by decide +kernel
theorem d_E_add_54 : decode b_E_add 54 = .ok (.aload_n 0, 1) := by decide +kernel
theorem d_E_add_55 : decode b_E_add 55 = .ok (.iload 5, 2) := by decide +kernel
theorem d_E_add_57 : decode b_E_add 57 = .ok (.invokevirtual 54, 3) := by decide +kernel
theorem d_E_add_60 : decode b_E_add 60 = .ok (.iadd, 1) := by decide +kernel
theorem d_E_add_61 : decode b_E_add 61 = .ok (.iastore, 1) := by decide +kernel
theorem d_E_add_62 : decode b_E_add 62 = .ok (.aload_n 0, 1) := by decide +kernel
theorem d_E_add_63 : decode b_E_add 63 = .ok (.getfield 31, 3) := by decide +kernel
theorem d_E_add_66 : decode b_E_add 66 = .ok (.iload 6, 2) := by decide +kernel
theorem d_E_add_68 : decode b_E_add 68 = .ok (.iload_n 1, 1) := by decide +kernel
theorem d_E_add_69 : decode b_E_add 69 = .ok (.bipush 15, 2) := by decide +kernel
theorem d_E_add_71 : decode b_E_add 71 = .ok (.if_icmp .ne 10, 3) := by decide +kernel
theorem d_E_add_74 : decode b_E_add 74 = .ok (.iconst 1, 1) := by decide +kernel
theorem d_E_add_75 : decode b_E_add 75 = .ok (.lload_n 2, 1) := by decide +kernel
theorem d_E_add_76 : decode b_E_add 76 = .ok (.l2i, 1) := by decide +kernel
theorem d_E_add_77 : decode b_E_add 77 = .ok (.ishl, 1) := by decide +kernel
theorem d_E_add_78 : decode b_E_add 78 = .ok (.goto 24, 3) := by decide +kernel
theorem d_E_add_81 : decode b_E_add 81 = .ok (.aload_n 0, 1) := by decide +kernel
theorem d_E_add_82 : decode b_E_add 82 = .ok (.aload_n 0, 1) := by decide +kernel
theorem d_E_add_83 : decode b_E_add 83 = .ok (.getfield 31, 3) := by decide +kernel
theorem d_E_add_86 : decode b_E_add 86 = .ok (.iload 4, 2) := by decide +kernel
theorem d_E_add_88 : decode b_E_add 88 = .ok (.invokevirtual 58, 3) := by decide +kernel
theorem d_E_add_91 : decode b_E_add 91 = .ok (.aload_n 0, 1) := by decide +kernel
theorem d_E_add_92 : decode b_E_add 92 = .ok (.aload_n 0, 1) := by decide +kernel
theorem d_E_add_93 : decode b_E_add 93 = .ok (.getfield 31, 3) := by decide +kernel
theorem d_E_add_96 : decode b_E_add 96 = .ok (.iload 5, 2) := by decide +kernel
theorem d_E_add_98 : decode b_E_add 98 = .ok (.invokevirtual 58, 3) := by decide +kernel
theorem d_E_add_101 : decode b_E_add 101 = .ok (.ior, 1) := by decide +kernel
theorem d_E_add_102 : decode b_E_add 102 = .ok (.iastore, 1) := by decide +kernel
theorem d_E_add_103 : decode b_E_add 103 = .ok (.aload_n 0, 1) := by decide +kernel
theorem d_E_add_104 : decode b_E_add 104 = .ok (.getfield 34, 3) := by decide +kernel
theorem d_E_add_107 : decode b_E_add 107 = .ok (.iload 6, 2) := by decide +kernel
theorem d_E_add_109 : decode b_E_add 109 = .ok (.iload_n 1, 1) := by decide +kernel
theorem d_E_add_110 : decode b_E_add 110 = .ok (.bipush 16, 2) := by decide +kernel
theorem d_E_add_112 : decode b_E_add 112 = .ok (.if_icmp .ne 10, 3) := by decide +kernel
theorem d_E_add_115 : decode b_E_add 115 = .ok (.iconst 1, 1) := by decide +kernel
theorem d_E_add_116 : decode b_E_add 116 = .ok (.lload_n 2, 1) := by decide +kernel
theorem d_E_add_117 : decode b_E_add 117 = .ok (.l2i, 1) := by decide +kernel
theorem d_E_add_118 : decode b_E_add 118 = .ok (.ishl, 1) := by decide +kernel
theorem d_E_add_119 : decode b_E_add 119 = .ok (.goto 24, 3) := by decide +kernel
theorem d_E_add_122 : decode b_E_add 122 = .ok (.aload_n 0, 1) := by decide +kernel
theorem d_E_add_123 : decode b_E_add 123 = .ok (.aload_n 0, 1) := by decide +kernel
theorem d_E_add_124 : decode b_E_add 124 = .ok (.getfield 34, 3) := by decide +kernel
theorem d_E_add_127 : decode b_E_add 127 = .ok (.iload 4, 2) := by decide +kernel
theorem d_E_add_129 : decode b_E_add 129 = .ok (.invokevirtual 58, 3) := by decide +kernel
theorem d_E_add_132 : decode b_E_add 132 = .ok (.aload_n 0, 1) := by decide +kernel
theorem d_E_add_133 : decode b_E_add 133 = .ok (.aload_n 0, 1) := by decide +kernel
theorem d_E_add_134 : decode b_E_add 134 = .ok (.getfield 34, 3) := by decide +kernel
theorem d_E_add_137 : decode b_E_add 137 = .ok (.iload 5, 2) := by decide +kernel
theorem d_E_add_139 : decode b_E_add 139 = .ok (.invokevirtual 58, 3) := by decide +kernel
theorem d_E_add_142 : decode b_E_add 142 = .ok (.ior, 1) := by decide +kernel
theorem d_E_add_143 : decode b_E_add 143 = .ok (.iastore, 1) := by decide +kernel
theorem d_E_add_144 : decode b_E_add 144 = .ok (.aload_n 0, 1) := by decide +kernel
theorem d_E_add_145 : decode b_E_add 145 = .ok (.getfield 28, 3) := by decide +kernel
theorem d_E_add_148 : decode b_E_add 148 = .ok (.iload 6, 2) := by decide +kernel
theorem d_E_add_150 : decode b_E_add 150 = .ok (.aload_n 0, 1) := by decide +kernel
theorem d_E_add_151 : decode b_E_add 151 = .ok (.iload 6, 2) := by decide +kernel
theorem d_E_add_153 : decode b_E_add 153 = .ok (.invokevirtual 62, 3) := by decide +kernel
theorem d_E_add_156 : decode b_E_add 156 = .ok (.iastore, 1) := by decide +kernel
theorem d_E_add_157 : decode b_E_add 157 = .ok (.aload_n 0, 1) := by decide +kernel
theorem d_E_add_158 : decode b_E_add 158 = .ok (.dup, 1) := by decide +kernel
theorem d_E_add_159 : decode b_E_add 159 = .ok (.getfield 47, 3) := by decide +kernel
theorem d_E_add_162 : decode b_E_add 162 = .ok (.iconst 1, 1) := by decide +kernel
theorem d_E_add_163 : decode b_E_add 163 = .ok (.iadd, 1) := by decide +kernel
theorem d_E_add_164 : decode b_E_add 164 = .ok (.putfield 47, 3) := by decide +kernel
theorem d_E_add_167 : decode b_E_add 167 = .ok (.iload 6, 2) := by decide +kernel
theorem d_E_add_169 : decode b_E_add 169 = .ok (.ireturn, 1) := by decide +kernel
theorem d_Q_constant_0 : decode b_Q_constant 0 = .ok (.lload_n 1, 1) := by decide +kernel
theorem d_Q_constant_1 : decode b_Q_constant 1 = .ok (.invokestatic 68, 3) := by decide +kernel
theorem d_Q_constant_4 : decode b_Q_constant 4 = .ok (.ifCond .eq 6, 3) := by decide +kernel
theorem d_Q_constant_7 : decode b_Q_constant 7 = .ok (.bipush (-102), 2) := by decide +kernel
theorem d_Q_constant_9 : decode b_Q_constant 9 = .ok (.ireturn, 1) := by decide +kernel
theorem d_Q_constant_10 : decode b_Q_constant 10 = .ok (.aload_n 0, 1) := by decide +kernel
theorem d_Q_constant_11 : decode b_Q_constant 11 = .ok (.getfield 19, 3) := by decide +kernel
theorem d_Q_constant_14 : decode b_Q_constant 14 = .ok (.iconst (-1), 1) := by decide +kernel
theorem d_Q_constant_15 : decode b_Q_constant 15 = .ok (.iconst (-1), 1) := by decide +kernel
theorem d_Q_constant_16 : decode b_Q_constant 16 = .ok (.invokevirtual 84, 3) := by decide +kernel
theorem d_Q_constant_19 : decode b_Q_constant 19 = .ok (.ifCond .ne 6, 3) := by decide +kernel
theorem d_Q_constant_22 : decode b_Q_constant 22 = .ok (.bipush (-104), 2) := by decide +kernel
theorem d_Q_constant_24 : decode b_Q_constant 24 = .ok (.ireturn, 1) := by decide +kernel
theorem d_Q_constant_25 : decode b_Q_constant 25 = .ok (.iload_n 3, 1) := by decide +kernel
theorem d_Q_constant_26 : decode b_Q_constant 26 = .ok (.ifCond .eq 18, 3) := by decide +kernel
theorem d_Q_constant_29 : decode b_Q_constant 29 = .ok (.aload_n 0, 1) := by decide +kernel
theorem d_Q_constant_30 : decode b_Q_constant 30 = .ok (.getfield 19, 3) := by decide +kernel
theorem d_Q_constant_33 : decode b_Q_constant 33 = .ok (.bipush 14, 2) := by decide +kernel
theorem d_Q_constant_35 : decode b_Q_constant 35 = .ok (.lconst 0, 1) := by decide +kernel
theorem d_Q_constant_36 : decode b_Q_constant 36 = .ok (.iconst (-1), 1) := by decide +kernel
theorem d_Q_constant_37 : decode b_Q_constant 37 = .ok (.iconst (-1), 1) := by decide +kernel
theorem d_Q_constant_38 : decode b_Q_constant 38 = .ok (.invokevirtual 88, 3) := by decide +kernel
theorem d_Q_constant_41 : decode b_Q_constant 41 = .ok (.goto 15, 3) := by decide +kernel
theorem d_Q_constant_44 : decode b_Q_constant 44 = .ok (.aload_n 0, 1) := by decide +kernel
theorem d_Q_constant_45 : decode b_Q_constant 45 = .ok (.getfield 19, 3) := by decide +kernel
theorem d_Q_constant_48 : decode b_Q_constant 48 = .ok (.bipush 13, 2) := by decide +kernel
theorem d_Q_constant_50 : decode b_Q_constant 50 = .ok (.lload_n 1, 1) := by decide +kernel
theorem d_Q_constant_51 : decode b_Q_constant 51 = .ok (.iconst (-1), 1) := by decide +kernel
theorem d_Q_constant_52 : decode b_Q_constant 52 = .ok (.iconst (-1), 1) := by decide +kernel
theorem d_Q_constant_53 : decode b_Q_constant 53 = .ok (.invokevirtual 88, 3) := by decide +kernel
theorem d_Q_constant_56 : decode b_Q_constant 56 = .ok (.ireturn, 1) := by decide +kernel
theorem d_Q_column_0 : decode b_Q_column 0 = .ok (.iload_n 1, 1) := by decide +kernel
theorem d_Q_column_1 : decode b_Q_column 1 = .ok (.ifCond .lt 17, 3) := by decide +kernel
theorem d_Q_column_4 : decode b_Q_column 4 = .ok (.iload_n 1, 1) := by decide +kernel
theorem d_Q_column_5 : decode b_Q_column 5 = .ok (.iconst 3, 1) := by decide +kernel
theorem d_Q_column_6 : decode b_Q_column 6 = .ok (.if_icmp .ge 12, 3) := by decide +kernel
theorem d_Q_column_9 : decode b_Q_column 9 = .ok (.iload_n 2, 1) := by decide +kernel
theorem d_Q_column_10 : decode b_Q_column 10 = .ok (.ifCond .lt 8, 3) := by decide +kernel
theorem d_Q_column_13 : decode b_Q_column 13 = .ok (.iload_n 2, 1) := by decide +kernel
theorem d_Q_column_14 : decode b_Q_column 14 = .ok (.iconst 4, 1) := by decide +kernel
theorem d_Q_column_15 : decode b_Q_column 15 = .ok (.if_icmp .lt 6, 3) := by decide +kernel
theorem d_Q_column_18 : decode b_Q_column 18 = .ok (.bipush (-102), 2) := by decide +kernel
theorem d_Q_column_20 : decode b_Q_column 20 = .ok (.ireturn, 1) := by decide +kernel
theorem d_Q_column_21 : decode b_Q_column 21 = .ok (.aload_n 0, 1) := by decide +kernel
theorem d_Q_column_22 : decode b_Q_column 22 = .ok (.getfield 19, 3) := by decide +kernel
theorem d_Q_column_25 : decode b_Q_column 25 = .ok (.iconst (-1), 1) := by decide +kernel
theorem d_Q_column_26 : decode b_Q_column 26 = .ok (.iconst (-1), 1) := by decide +kernel
theorem d_Q_column_27 : decode b_Q_column 27 = .ok (.invokevirtual 84, 3) := by decide +kernel
theorem d_Q_column_30 : decode b_Q_column 30 = .ok (.ifCond .ne 6, 3) := by decide +kernel
theorem d_Q_column_33 : decode b_Q_column 33 = .ok (.bipush (-104), 2) := by decide +kernel
theorem d_Q_column_35 : decode b_Q_column 35 = .ok (.ireturn, 1) := by decide +kernel
theorem d_Q_column_36 : decode b_Q_column 36 = .ok (.aload_n 0, 1) := by decide +kernel
theorem d_Q_column_37 : decode b_Q_column 37 = .ok (.getfield 19, 3) := by decide +kernel
theorem d_Q_column_40 : decode b_Q_column 40 = .ok (.bipush 15, 2) := by decide +kernel
theorem d_Q_column_42 : decode b_Q_column 42 = .ok (.iload_n 1, 1) := by decide +kernel
theorem d_Q_column_43 : decode b_Q_column 43 = .ok (.iconst 4, 1) := by decide +kernel
theorem d_Q_column_44 : decode b_Q_column 44 = .ok (.imul, 1) := by decide +kernel
theorem d_Q_column_45 : decode b_Q_column 45 = .ok (.iload_n 2, 1) := by decide +kernel
theorem d_Q_column_46 : decode b_Q_column 46 = .ok (.iadd, 1) := by decide +kernel
theorem d_Q_column_47 : decode b_Q_column 47 = .ok (.i2l, 1) := by decide +kernel
theorem d_Q_column_48 : decode b_Q_column 48 = .ok (.iconst (-1), 1) := by decide +kernel
theorem d_Q_column_49 : decode b_Q_column 49 = .ok (.iconst (-1), 1) := by decide +kernel
theorem d_Q_column_50 : decode b_Q_column 50 = .ok (.invokevirtual 88, 3) := by decide +kernel
theorem d_Q_column_53 : decode b_Q_column 53 = .ok (.ireturn, 1) := by decide +kernel
theorem d_E_isTruth_0 : decode b_E_isTruth 0 = .ok (.aload_n 0, 1) := by decide +kernel
theorem d_E_isTruth_1 : decode b_E_isTruth 1 = .ok (.getfield 9, 3) := by decide +kernel
theorem d_E_isTruth_4 : decode b_E_isTruth 4 = .ok (.iload_n 1, 1) := by decide +kernel
theorem d_E_isTruth_5 : decode b_E_isTruth 5 = .ok (.iaload, 1) := by decide +kernel
theorem d_E_isTruth_6 : decode b_E_isTruth 6 = .ok (.iconst 5, 1) := by decide +kernel
theorem d_E_isTruth_7 : decode b_E_isTruth 7 = .ok (.if_icmp .lt 18, 3) := by decide +kernel
theorem d_E_isTruth_10 : decode b_E_isTruth 10 = .ok (.aload_n 0, 1) := by decide +kernel
theorem d_E_isTruth_11 : decode b_E_isTruth 11 = .ok (.getfield 9, 3) := by decide +kernel
theorem d_E_isTruth_14 : decode b_E_isTruth 14 = .ok (.iload_n 1, 1) := by decide +kernel
theorem d_E_isTruth_15 : decode b_E_isTruth 15 = .ok (.iaload, 1) := by decide +kernel
theorem d_E_isTruth_16 : decode b_E_isTruth 16 = .ok (.bipush 12, 2) := by decide +kernel
theorem d_E_isTruth_18 : decode b_E_isTruth 18 = .ok (.if_icmp .gt 7, 3) := by decide +kernel
theorem d_E_isTruth_21 : decode b_E_isTruth 21 = .ok (.iconst 1, 1) := by decide +kernel
theorem d_E_isTruth_22 : decode b_E_isTruth 22 = .ok (.goto 4, 3) := by decide +kernel
theorem d_E_isTruth_25 : decode b_E_isTruth 25 = .ok (.iconst 0, 1) := by decide +kernel
theorem d_E_isTruth_26 : decode b_E_isTruth 26 = .ok (.ireturn, 1) := by decide +kernel
theorem d_Q_op_0 : decode b_Q_op 0 = .ok (.iload_n 1, 1) := by decide +kernel
theorem d_Q_op_1 : decode b_Q_op 1 = .ok (.bipush 11, 2) := by decide +kernel
theorem d_Q_op_3 : decode b_Q_op 3 = .ok (.if_icmp .eq 9, 3) := by decide +kernel
theorem d_Q_op_6 : decode b_Q_op 6 = .ok (.iload_n 1, 1) := by decide +kernel
theorem d_Q_op_7 : decode b_Q_op 7 = .ok (.bipush 12, 2) := by decide +kernel
theorem d_Q_op_9 : decode b_Q_op 9 = .ok (.if_icmp .ne 7, 3) := by decide +kernel
theorem d_Q_op_12 : decode b_Q_op 12 = .ok (.iconst 1, 1) := by decide +kernel
theorem d_Q_op_13 : decode b_Q_op 13 = .ok (.goto 4, 3) := by decide +kernel
theorem d_Q_op_16 : decode b_Q_op 16 = .ok (.iconst 0, 1) := by decide +kernel
theorem d_Q_op_17 : decode b_Q_op 17 = .ok (.istore 4, 2) := by decide +kernel
theorem d_Q_op_19 : decode b_Q_op 19 = .ok (.aload_n 0, 1) := by decide +kernel
theorem d_Q_op_20 : decode b_Q_op 20 = .ok (.getfield 19, 3) := by decide +kernel
theorem d_Q_op_23 : decode b_Q_op 23 = .ok (.iload_n 2, 1) := by decide +kernel
theorem d_Q_op_24 : decode b_Q_op 24 = .ok (.invokevirtual 92, 3) := by decide +kernel
theorem d_Q_op_27 : decode b_Q_op 27 = .ok (.ifCond .eq 19, 3) := by decide +kernel
theorem d_Q_op_30 : decode b_Q_op 30 = .ok (.iload 4, 2) := by decide +kernel
theorem d_Q_op_32 : decode b_Q_op 32 = .ok (.ifCond .ne 17, 3) := by decide +kernel
theorem d_Q_op_35 : decode b_Q_op 35 = .ok (.aload_n 0, 1) := by decide +kernel
theorem d_Q_op_36 : decode b_Q_op 36 = .ok (.getfield 19, 3) := by decide +kernel
theorem d_Q_op_39 : decode b_Q_op 39 = .ok (.iload_n 3, 1) := by decide +kernel
theorem d_Q_op_40 : decode b_Q_op 40 = .ok (.invokevirtual 92, 3) := by decide +kernel
theorem d_Q_op_43 : decode b_Q_op 43 = .ok (.ifCond .ne 6, 3) := by decide +kernel
theorem d_Q_op_46 : decode b_Q_op 46 = .ok (.bipush (-101), 2) := by decide +kernel
theorem d_Q_op_48 : decode b_Q_op 48 = .ok (.ireturn, 1) := by decide +kernel
theorem d_Q_op_49 : decode b_Q_op 49 = .ok (.iload_n 1, 1) := by decide +kernel
theorem d_Q_op_50 : decode b_Q_op 50 = .ok (.ifCond .lt 9, 3) := by decide +kernel
theorem d_Q_op_53 : decode b_Q_op 53 = .ok (.iload_n 1, 1) := by decide +kernel
theorem d_Q_op_54 : decode b_Q_op 54 = .ok (.bipush 12, 2) := by decide +kernel
theorem d_Q_op_56 : decode b_Q_op 56 = .ok (.if_icmp .le 6, 3) := by decide +kernel
theorem d_Q_op_59 : decode b_Q_op 59 = .ok (.bipush (-102), 2) := by decide +kernel
theorem d_Q_op_61 : decode b_Q_op 61 = .ok (.ireturn, 1) := by decide +kernel
theorem d_Q_op_62 : decode b_Q_op 62 = .ok (.iload_n 1, 1) := by decide +kernel
theorem d_Q_op_63 : decode b_Q_op 63 = .ok (.bipush 9, 2) := by decide +kernel
theorem d_Q_op_65 : decode b_Q_op 65 = .ok (.if_icmp .eq 15, 3) := by decide +kernel
theorem d_Q_op_68 : decode b_Q_op 68 = .ok (.iload_n 1, 1) := by decide +kernel
theorem d_Q_op_69 : decode b_Q_op 69 = .ok (.bipush 10, 2) := by decide +kernel
theorem d_Q_op_71 : decode b_Q_op 71 = .ok (.if_icmp .eq 9, 3) := by decide +kernel
theorem d_Q_op_74 : decode b_Q_op 74 = .ok (.iload_n 1, 1) := by decide +kernel
theorem d_Q_op_75 : decode b_Q_op 75 = .ok (.bipush 11, 2) := by decide +kernel
theorem d_Q_op_77 : decode b_Q_op 77 = .ok (.if_icmp .ne 7, 3) := by decide +kernel
theorem d_Q_op_80 : decode b_Q_op 80 = .ok (.iconst 1, 1) := by decide +kernel
theorem d_Q_op_81 : decode b_Q_op 81 = .ok (.goto 4, 3) := by decide +kernel
theorem d_Q_op_84 : decode b_Q_op 84 = .ok (.iconst 0, 1) := by decide +kernel
theorem d_Q_op_85 : decode b_Q_op 85 = .ok (.istore 5, 2) := by decide +kernel
theorem d_Q_op_87 : decode b_Q_op 87 = .ok (.aload_n 0, 1) := by decide +kernel
theorem d_Q_op_88 : decode b_Q_op 88 = .ok (.getfield 19, 3) := by decide +kernel
theorem d_Q_op_91 : decode b_Q_op 91 = .ok (.iload_n 2, 1) := by decide +kernel
theorem d_Q_op_92 : decode b_Q_op 92 = .ok (.invokevirtual 93, 3) := by decide +kernel
theorem d_Q_op_95 : decode b_Q_op 95 = .ok (.iload 5, 2) := by decide +kernel
theorem d_Q_op_97 : decode b_Q_op 97 = .ok (.if_icmp .ne 21, 3) := by decide +kernel
theorem d_Q_op_100 : decode b_Q_op 100 = .ok (.iload 4, 2) := by decide +kernel
theorem d_Q_op_102 : decode b_Q_op 102 = .ok (.ifCond .ne 19, 3) := by decide +kernel
theorem d_Q_op_105 : decode b_Q_op 105 = .ok (.aload_n 0, 1) := by decide +kernel
theorem d_Q_op_106 : decode b_Q_op 106 = .ok (.getfield 19, 3) := by decide +kernel
theorem d_Q_op_109 : decode b_Q_op 109 = .ok (.iload_n 3, 1) := by decide +kernel
theorem d_Q_op_110 : decode b_Q_op 110 = .ok (.invokevirtual 93, 3) := by decide +kernel
theorem d_Q_op_113 : decode b_Q_op 113 = .ok (.iload 5, 2) := by decide +kernel
theorem d_Q_op_115 : decode b_Q_op 115 = .ok (.if_icmp .eq 6, 3) := by decide +kernel
theorem d_Q_op_118 : decode b_Q_op 118 = .ok (.bipush (-103), 2) := by decide +kernel
theorem d_Q_op_120 : decode b_Q_op 120 = .ok (.ireturn, 1) := by decide +kernel
theorem d_Q_op_121 : decode b_Q_op 121 = .ok (.iload 4, 2) := by decide +kernel
theorem d_Q_op_123 : decode b_Q_op 123 = .ok (.ifCond .eq 7, 3) := by decide +kernel
theorem d_Q_op_126 : decode b_Q_op 126 = .ok (.iconst (-1), 1) := by decide +kernel
theorem d_Q_op_127 : decode b_Q_op 127 = .ok (.goto 4, 3) := by decide +kernel
theorem d_Q_op_130 : decode b_Q_op 130 = .ok (.iload_n 3, 1) := by decide +kernel
theorem d_Q_op_131 : decode b_Q_op 131 = .ok (.istore 6, 2) := by decide +kernel
theorem d_Q_op_133 : decode b_Q_op 133 = .ok (.aload_n 0, 1) := by decide +kernel
theorem d_Q_op_134 : decode b_Q_op 134 = .ok (.getfield 19, 3) := by decide +kernel
theorem d_Q_op_137 : decode b_Q_op 137 = .ok (.iload_n 2, 1) := by decide +kernel
theorem d_Q_op_138 : decode b_Q_op 138 = .ok (.iload 6, 2) := by decide +kernel
theorem d_Q_op_140 : decode b_Q_op 140 = .ok (.invokevirtual 84, 3) := by decide +kernel
theorem d_Q_op_143 : decode b_Q_op 143 = .ok (.ifCond .ne 6, 3) := by decide +kernel
theorem d_Q_op_146 : decode b_Q_op 146 = .ok (.bipush (-104), 2) := by decide +kernel
theorem d_Q_op_148 : decode b_Q_op 148 = .ok (.ireturn, 1) := by decide +kernel
theorem d_Q_op_149 : decode b_Q_op 149 = .ok (.aload_n 0, 1) := by decide +kernel
theorem d_Q_op_150 : decode b_Q_op 150 = .ok (.getfield 19, 3) := by decide +kernel
theorem d_Q_op_153 : decode b_Q_op 153 = .ok (.iload_n 1, 1) := by decide +kernel
theorem d_Q_op_154 : decode b_Q_op 154 = .ok (.lconst 0, 1) := by decide +kernel
theorem d_Q_op_155 : decode b_Q_op 155 = .ok (.iload_n 2, 1) := by decide +kernel
theorem d_Q_op_156 : decode b_Q_op 156 = .ok (.iload 6, 2) := by decide +kernel
theorem d_Q_op_158 : decode b_Q_op 158 = .ok (.invokevirtual 88, 3) := by decide +kernel
theorem d_Q_op_161 : decode b_Q_op 161 = .ok (.ireturn, 1) := by decide +kernel
theorem d_E_addAggregate_0 : decode b_E_addAggregate 0 = .ok (.aload_n 0, 1) := by decide +kernel
theorem d_E_addAggregate_1 : decode b_E_addAggregate 1 = .ok (.getfield 51, 3) := by decide +kernel
theorem d_E_addAggregate_4 : decode b_E_addAggregate 4 = .ok (.istore 4, 2) := by decide +kernel
theorem d_E_addAggregate_6 : decode b_E_addAggregate 6 = .ok (.aload_n 0, 1) := by decide +kernel
theorem d_E_addAggregate_7 : decode b_E_addAggregate 7 = .ok (.getfield 37, 3) := by decide +kernel
theorem d_E_addAggregate_10 : decode b_E_addAggregate 10 = .ok (.iload 4, 2) := by decide +kernel
theorem d_E_addAggregate_12 : decode b_E_addAggregate 12 = .ok (.iload_n 1, 1) := by decide +kernel
theorem d_E_addAggregate_13 : decode b_E_addAggregate 13 = .ok (.iastore, 1) := by decide +kernel
theorem d_E_addAggregate_14 : decode b_E_addAggregate 14 = .ok (.aload_n 0, 1) := by decide +kernel
theorem d_E_addAggregate_15 : decode b_E_addAggregate 15 = .ok (.getfield 40, 3) := by decide +kernel
theorem d_E_addAggregate_18 : decode b_E_addAggregate 18 = .ok (.iload 4, 2) := by decide +kernel
theorem d_E_addAggregate_20 : decode b_E_addAggregate 20 = .ok (.iload_n 2, 1) := by decide +kernel
theorem d_E_addAggregate_21 : decode b_E_addAggregate 21 = .ok (.iastore, 1) := by decide +kernel
theorem d_E_addAggregate_22 : decode b_E_addAggregate 22 = .ok (.aload_n 0, 1) := by decide +kernel
theorem d_E_addAggregate_23 : decode b_E_addAggregate 23 = .ok (.getfield 43, 3) := by decide +kernel
theorem d_E_addAggregate_26 : decode b_E_addAggregate 26 = .ok (.iload 4, 2) := by decide +kernel
theorem d_E_addAggregate_28 : decode b_E_addAggregate 28 = .ok (.iload_n 3, 1) := by decide +kernel
theorem d_E_addAggregate_29 : decode b_E_addAggregate 29 = .ok (.ifCond .eq 11, 3) := by decide +kernel
theorem d_E_addAggregate_32 : decode b_E_addAggregate 32 = .ok (.iload_n 1, 1) := by decide +kernel
theorem d_E_addAggregate_33 : decode b_E_addAggregate 33 = .ok (.ifCond .eq 7, 3) := by decide +kernel
theorem d_E_addAggregate_36 : decode b_E_addAggregate 36 = .ok (.iconst 1, 1) := by decide +kernel
theorem d_E_addAggregate_37 : decode b_E_addAggregate 37 = .ok (.goto 4, 3) := by decide +kernel
theorem d_E_addAggregate_40 : decode b_E_addAggregate 40 = .ok (.iconst 0, 1) := by decide +kernel
theorem d_E_addAggregate_41 : decode b_E_addAggregate 41 = .ok (.bastore, 1) := by decide +kernel
theorem d_E_addAggregate_42 : decode b_E_addAggregate 42 = .ok (.aload_n 0, 1) := by decide +kernel
theorem d_E_addAggregate_43 : decode b_E_addAggregate 43 = .ok (.dup, 1) := by decide +kernel
theorem d_E_addAggregate_44 : decode b_E_addAggregate 44 = .ok (.getfield 51, 3) := by decide +kernel
theorem d_E_addAggregate_47 : decode b_E_addAggregate 47 = .ok (.iconst 1, 1) := by decide +kernel
theorem d_E_addAggregate_48 : decode b_E_addAggregate 48 = .ok (.iadd, 1) := by decide +kernel
theorem d_E_addAggregate_49 : decode b_E_addAggregate 49 = .ok (.putfield 51, 3) := by decide +kernel
theorem d_E_addAggregate_52 : decode b_E_addAggregate 52 = .ok (.aload_n 0, 1) := by decide +kernel
theorem d_E_addAggregate_53 : decode b_E_addAggregate 53 = .ok (.bipush 16, 2) := by decide +kernel
theorem d_E_addAggregate_55 : decode b_E_addAggregate 55 = .ok (.iload 4, 2) := by decide +kernel
theorem d_E_addAggregate_57 : decode b_E_addAggregate 57 = .ok (.i2l, 1) := by decide +kernel
theorem d_E_addAggregate_58 : decode b_E_addAggregate 58 = .ok (.iload_n 2, 1) := by decide +kernel
theorem d_E_addAggregate_59 : decode b_E_addAggregate 59 = .ok (.iconst (-1), 1) := by decide +kernel
theorem d_E_addAggregate_60 : decode b_E_addAggregate 60 = .ok (.invokevirtual 65, 3) := by decide +kernel
theorem d_E_addAggregate_63 : decode b_E_addAggregate 63 = .ok (.ireturn, 1) := by decide +kernel
theorem d_Q_aggregate_0 : decode b_Q_aggregate 0 = .ok (.aload_n 0, 1) := by decide +kernel
theorem d_Q_aggregate_1 : decode b_Q_aggregate 1 = .ok (.getfield 19, 3) := by decide +kernel
theorem d_Q_aggregate_4 : decode b_Q_aggregate 4 = .ok (.iload_n 2, 1) := by decide +kernel
theorem d_Q_aggregate_5 : decode b_Q_aggregate 5 = .ok (.invokevirtual 92, 3) := by decide +kernel
theorem d_Q_aggregate_8 : decode b_Q_aggregate 8 = .ok (.ifCond .ne 6, 3) := by decide +kernel
theorem d_Q_aggregate_11 : decode b_Q_aggregate 11 = .ok (.bipush (-101), 2) := by decide +kernel
theorem d_Q_aggregate_13 : decode b_Q_aggregate 13 = .ok (.ireturn, 1) := by decide +kernel
theorem d_Q_aggregate_14 : decode b_Q_aggregate 14 = .ok (.iload_n 1, 1) := by decide +kernel
theorem d_Q_aggregate_15 : decode b_Q_aggregate 15 = .ok (.ifCond .lt 8, 3) := by decide +kernel
theorem d_Q_aggregate_18 : decode b_Q_aggregate 18 = .ok (.iload_n 1, 1) := by decide +kernel
theorem d_Q_aggregate_19 : decode b_Q_aggregate 19 = .ok (.iconst 5, 1) := by decide +kernel
theorem d_Q_aggregate_20 : decode b_Q_aggregate 20 = .ok (.if_icmp .le 6, 3) := by decide +kernel
theorem d_Q_aggregate_23 : decode b_Q_aggregate 23 = .ok (.bipush (-102), 2) := by decide +kernel
theorem d_Q_aggregate_25 : decode b_Q_aggregate 25 = .ok (.ireturn, 1) := by decide +kernel
theorem d_Q_aggregate_26 : decode b_Q_aggregate 26 = .ok (.aload_n 0, 1) := by decide +kernel
theorem d_Q_aggregate_27 : decode b_Q_aggregate 27 = .ok (.getfield 19, 3) := by decide +kernel
theorem d_Q_aggregate_30 : decode b_Q_aggregate 30 = .ok (.iload_n 2, 1) := by decide +kernel
theorem d_Q_aggregate_31 : decode b_Q_aggregate 31 = .ok (.invokevirtual 93, 3) := by decide +kernel
theorem d_Q_aggregate_34 : decode b_Q_aggregate 34 = .ok (.ifCond .ne 15, 3) := by decide +kernel
theorem d_Q_aggregate_37 : decode b_Q_aggregate 37 = .ok (.aload_n 0, 1) := by decide +kernel
theorem d_Q_aggregate_38 : decode b_Q_aggregate 38 = .ok (.getfield 19, 3) := by decide +kernel
theorem d_Q_aggregate_41 : decode b_Q_aggregate 41 = .ok (.getfield 96, 3) := by decide +kernel
theorem d_Q_aggregate_44 : decode b_Q_aggregate 44 = .ok (.iload_n 2, 1) := by decide +kernel
theorem d_Q_aggregate_45 : decode b_Q_aggregate 45 = .ok (.iaload, 1) := by decide +kernel
theorem d_Q_aggregate_46 : decode b_Q_aggregate 46 = .ok (.ifCond .eq 6, 3) := by decide +kernel
theorem d_Q_aggregate_49 : decode b_Q_aggregate 49 = .ok (.bipush (-103), 2) := by decide +kernel
theorem d_Q_aggregate_51 : decode b_Q_aggregate 51 = .ok (.ireturn, 1) := by decide +kernel
theorem d_Q_aggregate_52 : decode b_Q_aggregate 52 = .ok (.aload_n 0, 1) := by decide +kernel
theorem d_Q_aggregate_53 : decode b_Q_aggregate 53 = .ok (.getfield 19, 3) := by decide +kernel
theorem d_Q_aggregate_56 : decode b_Q_aggregate 56 = .ok (.getfield 99, 3) := by decide +kernel
theorem d_Q_aggregate_59 : decode b_Q_aggregate 59 = .ok (.bipush 8, 2) := by decide +kernel
theorem d_Q_aggregate_61 : decode b_Q_aggregate 61 = .ok (.if_icmp .ge 15, 3) := by decide +kernel
theorem d_Q_aggregate_64 : decode b_Q_aggregate 64 = .ok (.aload_n 0, 1) := by decide +kernel
theorem d_Q_aggregate_65 : decode b_Q_aggregate 65 = .ok (.getfield 19, 3) := by decide +kernel
theorem d_Q_aggregate_68 : decode b_Q_aggregate 68 = .ok (.iload_n 2, 1) := by decide +kernel
theorem d_Q_aggregate_69 : decode b_Q_aggregate 69 = .ok (.iconst (-1), 1) := by decide +kernel
theorem d_Q_aggregate_70 : decode b_Q_aggregate 70 = .ok (.invokevirtual 84, 3) := by decide +kernel
theorem d_Q_aggregate_73 : decode b_Q_aggregate 73 = .ok (.ifCond .ne 6, 3) := by decide +kernel
theorem d_Q_aggregate_76 : decode b_Q_aggregate 76 = .ok (.bipush (-104), 2) := by decide +kernel
theorem d_Q_aggregate_78 : decode b_Q_aggregate 78 = .ok (.ireturn, 1) := by decide +kernel
theorem d_Q_aggregate_79 : decode b_Q_aggregate 79 = .ok (.aload_n 0, 1) := by decide +kernel
theorem d_Q_aggregate_80 : decode b_Q_aggregate 80 = .ok (.getfield 19, 3) := by decide +kernel
theorem d_Q_aggregate_83 : decode b_Q_aggregate 83 = .ok (.iload_n 1, 1) := by decide +kernel
theorem d_Q_aggregate_84 : decode b_Q_aggregate 84 = .ok (.iload_n 2, 1) := by decide +kernel
theorem d_Q_aggregate_85 : decode b_Q_aggregate 85 = .ok (.iload_n 3, 1) := by decide +kernel
theorem d_Q_aggregate_86 : decode b_Q_aggregate 86 = .ok (.invokevirtual 102, 3) := by decide +kernel
theorem d_Q_aggregate_89 : decode b_Q_aggregate 89 = .ok (.ireturn, 1) := by decide +kernel
theorem d_Y_addSource_0 : decode b_Y_addSource 0 = .ok (.aload_n 0, 1) := by decide +kernel
theorem d_Y_addSource_1 : decode b_Y_addSource 1 = .ok (.getfield 9, 3) := by decide +kernel
theorem d_Y_addSource_4 : decode b_Y_addSource 4 = .ok (.aload_n 0, 1) := by decide +kernel
theorem d_Y_addSource_5 : decode b_Y_addSource 5 = .ok (.getfield 44, 3) := by decide +kernel
theorem d_Y_addSource_8 : decode b_Y_addSource 8 = .ok (.iload_n 1, 1) := by decide +kernel
theorem d_Y_addSource_9 : decode b_Y_addSource 9 = .ok (.iastore, 1) := by decide +kernel
theorem d_Y_addSource_10 : decode b_Y_addSource 10 = .ok (.aload_n 0, 1) := by decide +kernel
theorem d_Y_addSource_11 : decode b_Y_addSource 11 = .ok (.getfield 15, 3) := by decide +kernel
theorem d_Y_addSource_14 : decode b_Y_addSource 14 = .ok (.aload_n 0, 1) := by decide +kernel
theorem d_Y_addSource_15 : decode b_Y_addSource 15 = .ok (.getfield 44, 3) := by decide +kernel
theorem d_Y_addSource_18 : decode b_Y_addSource 18 = .ok (.iload_n 2, 1) := by decide +kernel
theorem d_Y_addSource_19 : decode b_Y_addSource 19 = .ok (.iastore, 1) := by decide +kernel
theorem d_Y_addSource_20 : decode b_Y_addSource 20 = .ok (.aload_n 0, 1) := by decide +kernel
theorem d_Y_addSource_21 : decode b_Y_addSource 21 = .ok (.getfield 18, 3) := by decide +kernel
theorem d_Y_addSource_24 : decode b_Y_addSource 24 = .ok (.aload_n 0, 1) := by decide +kernel
theorem d_Y_addSource_25 : decode b_Y_addSource 25 = .ok (.getfield 44, 3) := by decide +kernel
theorem d_Y_addSource_28 : decode b_Y_addSource 28 = .ok (.iload_n 3, 1) := by decide +kernel
theorem d_Y_addSource_29 : decode b_Y_addSource 29 = .ok (.iastore, 1) := by decide +kernel
theorem d_Y_addSource_30 : decode b_Y_addSource 30 = .ok (.aload_n 0, 1) := by decide +kernel
theorem d_Y_addSource_31 : decode b_Y_addSource 31 = .ok (.dup, 1) := by decide +kernel
theorem d_Y_addSource_32 : decode b_Y_addSource 32 = .ok (.getfield 44, 3) := by decide +kernel
theorem d_Y_addSource_35 : decode b_Y_addSource 35 = .ok (.iconst 1, 1) := by decide +kernel
theorem d_Y_addSource_36 : decode b_Y_addSource 36 = .ok (.iadd, 1) := by decide +kernel
theorem d_Y_addSource_37 : decode b_Y_addSource 37 = .ok (.putfield 44, 3) := by decide +kernel
theorem d_Y_addSource_40 : decode b_Y_addSource 40 = .ok (.aload_n 0, 1) := by decide +kernel
theorem d_Y_addSource_41 : decode b_Y_addSource 41 = .ok (.getfield 44, 3) := by decide +kernel
theorem d_Y_addSource_44 : decode b_Y_addSource 44 = .ok (.ireturn, 1) := by decide +kernel
theorem d_Q_source_0 : decode b_Q_source 0 = .ok (.aload_n 0, 1) := by decide +kernel
theorem d_Q_source_1 : decode b_Q_source 1 = .ok (.getfield 10, 3) := by decide +kernel
theorem d_Q_source_4 : decode b_Q_source 4 = .ok (.iload_n 1, 1) := by decide +kernel
theorem d_Q_source_5 : decode b_Q_source 5 = .ok (.invokevirtual 54, 3) := by decide +kernel
theorem d_Q_source_8 : decode b_Q_source 8 = .ok (.ifCond .eq 19, 3) := by decide +kernel
theorem d_Q_source_11 : decode b_Q_source 11 = .ok (.iload_n 3, 1) := by decide +kernel
theorem d_Q_source_12 : decode b_Q_source 12 = .ok (.iconst (-1), 1) := by decide +kernel
theorem d_Q_source_13 : decode b_Q_source 13 = .ok (.if_icmp .eq 17, 3) := by decide +kernel
theorem d_Q_source_16 : decode b_Q_source 16 = .ok (.aload_n 0, 1) := by decide +kernel
theorem d_Q_source_17 : decode b_Q_source 17 = .ok (.getfield 19, 3) := by decide +kernel
theorem d_Q_source_20 : decode b_Q_source 20 = .ok (.iload_n 3, 1) := by decide +kernel
theorem d_Q_source_21 : decode b_Q_source 21 = .ok (.invokevirtual 92, 3) := by decide +kernel
theorem d_Q_source_24 : decode b_Q_source 24 = .ok (.ifCond .ne 6, 3) := by decide +kernel
theorem d_Q_source_27 : decode b_Q_source 27 = .ok (.bipush (-101), 2) := by decide +kernel
theorem d_Q_source_29 : decode b_Q_source 29 = .ok (.ireturn, 1) := by decide +kernel
theorem d_Q_source_30 : decode b_Q_source 30 = .ok (.iload_n 2, 1) := by decide +kernel
theorem d_Q_source_31 : decode b_Q_source 31 = .ok (.ifCond .lt 8, 3) := by decide +kernel
theorem d_Q_source_34 : decode b_Q_source 34 = .ok (.iload_n 2, 1) := by decide +kernel
theorem d_Q_source_35 : decode b_Q_source 35 = .ok (.iconst 2, 1) := by decide +kernel
theorem d_Q_source_36 : decode b_Q_source 36 = .ok (.if_icmp .le 6, 3) := by decide +kernel
theorem d_Q_source_39 : decode b_Q_source 39 = .ok (.bipush (-102), 2) := by decide +kernel
theorem d_Q_source_41 : decode b_Q_source 41 = .ok (.ireturn, 1) := by decide +kernel
theorem d_Q_source_42 : decode b_Q_source 42 = .ok (.aload_n 0, 1) := by decide +kernel
theorem d_Q_source_43 : decode b_Q_source 43 = .ok (.getfield 26, 3) := by decide +kernel
theorem d_Q_source_46 : decode b_Q_source 46 = .ok (.getfield 106, 3) := by decide +kernel
theorem d_Q_source_49 : decode b_Q_source 49 = .ok (.ifCond .ne 10, 3) := by decide +kernel
theorem d_Q_source_52 : decode b_Q_source 52 = .ok (.iload_n 2, 1) := by decide +kernel
theorem d_Q_source_53 : decode b_Q_source 53 = .ok (.ifCond .eq 6, 3) := by decide +kernel
theorem d_Q_source_56 : decode b_Q_source 56 = .ok (.bipush (-103), 2) := by decide +kernel
theorem d_Q_source_58 : decode b_Q_source 58 = .ok (.ireturn, 1) := by decide +kernel
theorem d_Q_source_59 : decode b_Q_source 59 = .ok (.iload_n 2, 1) := by decide +kernel
theorem d_Q_source_60 : decode b_Q_source 60 = .ok (.ifCond .ne 7, 3) := by decide +kernel
theorem d_Q_source_63 : decode b_Q_source 63 = .ok (.iconst 1, 1) := by decide +kernel
theorem d_Q_source_64 : decode b_Q_source 64 = .ok (.goto 4, 3) := by decide +kernel
theorem d_Q_source_67 : decode b_Q_source 67 = .ok (.iconst 0, 1) := by decide +kernel
theorem d_Q_source_68 : decode b_Q_source 68 = .ok (.iload_n 3, 1) := by decide +kernel
theorem d_Q_source_69 : decode b_Q_source 69 = .ok (.iconst (-1), 1) := by decide +kernel
theorem d_Q_source_70 : decode b_Q_source 70 = .ok (.if_icmp .ne 7, 3) := by decide +kernel
theorem d_Q_source_73 : decode b_Q_source 73 = .ok (.iconst 1, 1) := by decide +kernel
theorem d_Q_source_74 : decode b_Q_source 74 = .ok (.goto 4, 3) := by decide +kernel
theorem d_Q_source_77 : decode b_Q_source 77 = .ok (.iconst 0, 1) := by decide +kernel
theorem d_Q_source_78 : decode b_Q_source 78 = .ok (.if_icmp .ne 19, 3) := by decide +kernel
theorem d_Q_source_81 : decode b_Q_source 81 = .ok (.iload_n 3, 1) := by decide +kernel
theorem d_Q_source_82 : decode b_Q_source 82 = .ok (.iconst (-1), 1) := by decide +kernel
theorem d_Q_source_83 : decode b_Q_source 83 = .ok (.if_icmp .eq 17, 3) := by decide +kernel
theorem d_Q_source_86 : decode b_Q_source 86 = .ok (.aload_n 0, 1) := by decide +kernel
theorem d_Q_source_87 : decode b_Q_source 87 = .ok (.getfield 19, 3) := by decide +kernel
theorem d_Q_source_90 : decode b_Q_source 90 = .ok (.iload_n 3, 1) := by decide +kernel
theorem d_Q_source_91 : decode b_Q_source 91 = .ok (.invokevirtual 93, 3) := by decide +kernel
theorem d_Q_source_94 : decode b_Q_source 94 = .ok (.ifCond .ne 6, 3) := by decide +kernel
theorem d_Q_source_97 : decode b_Q_source 97 = .ok (.bipush (-103), 2) := by decide +kernel
theorem d_Q_source_99 : decode b_Q_source 99 = .ok (.ireturn, 1) := by decide +kernel
theorem d_Q_source_100 : decode b_Q_source 100 = .ok (.aload_n 0, 1) := by decide +kernel
theorem d_Q_source_101 : decode b_Q_source 101 = .ok (.getfield 26, 3) := by decide +kernel
theorem d_Q_source_104 : decode b_Q_source 104 = .ok (.getfield 106, 3) := by decide +kernel
theorem d_Q_source_107 : decode b_Q_source 107 = .ok (.iconst 3, 1) := by decide +kernel
theorem d_Q_source_108 : decode b_Q_source 108 = .ok (.if_icmp .lt 6, 3) := by decide +kernel
theorem d_Q_source_111 : decode b_Q_source 111 = .ok (.bipush (-104), 2) := by decide +kernel
theorem d_Q_source_113 : decode b_Q_source 113 = .ok (.ireturn, 1) := by decide +kernel
theorem d_Q_source_114 : decode b_Q_source 114 = .ok (.aload_n 0, 1) := by decide +kernel
theorem d_Q_source_115 : decode b_Q_source 115 = .ok (.getfield 26, 3) := by decide +kernel
theorem d_Q_source_118 : decode b_Q_source 118 = .ok (.iload_n 1, 1) := by decide +kernel
theorem d_Q_source_119 : decode b_Q_source 119 = .ok (.iload_n 2, 1) := by decide +kernel
theorem d_Q_source_120 : decode b_Q_source 120 = .ok (.iload_n 3, 1) := by decide +kernel
theorem d_Q_source_121 : decode b_Q_source 121 = .ok (.invokevirtual 109, 3) := by decide +kernel
theorem d_Q_source_124 : decode b_Q_source 124 = .ok (.ireturn, 1) := by decide +kernel
theorem d_Q_condition_0 : decode b_Q_condition 0 = .ok (.aload_n 0, 1) := by decide +kernel
theorem d_Q_condition_1 : decode b_Q_condition 1 = .ok (.getfield 19, 3) := by decide +kernel
theorem d_Q_condition_4 : decode b_Q_condition 4 = .ok (.iload_n 2, 1) := by decide +kernel
theorem d_Q_condition_5 : decode b_Q_condition 5 = .ok (.invokevirtual 92, 3) := by decide +kernel
theorem d_Q_condition_8 : decode b_Q_condition 8 = .ok (.ifCond .ne 6, 3) := by decide +kernel
theorem d_Q_condition_11 : decode b_Q_condition 11 = .ok (.bipush (-101), 2) := by decide +kernel
theorem d_Q_condition_13 : decode b_Q_condition 13 = .ok (.ireturn, 1) := by decide +kernel
theorem d_Q_condition_14 : decode b_Q_condition 14 = .ok (.iload_n 1, 1) := by decide +kernel
theorem d_Q_condition_15 : decode b_Q_condition 15 = .ok (.ifCond .eq 11, 3) := by decide +kernel
theorem d_Q_condition_18 : decode b_Q_condition 18 = .ok (.iload_n 1, 1) := by decide +kernel
theorem d_Q_condition_19 : decode b_Q_condition 19 = .ok (.iconst 1, 1) := by decide +kernel
theorem d_Q_condition_20 : decode b_Q_condition 20 = .ok (.if_icmp .eq 6, 3) := by decide +kernel
theorem d_Q_condition_23 : decode b_Q_condition 23 = .ok (.bipush (-102), 2) := by decide +kernel
theorem d_Q_condition_25 : decode b_Q_condition 25 = .ok (.ireturn, 1) := by decide +kernel
theorem d_Q_condition_26 : decode b_Q_condition 26 = .ok (.aload_n 0, 1) := by decide +kernel
theorem d_Q_condition_27 : decode b_Q_condition 27 = .ok (.getfield 19, 3) := by decide +kernel
theorem d_Q_condition_30 : decode b_Q_condition 30 = .ok (.iload_n 2, 1) := by decide +kernel
theorem d_Q_condition_31 : decode b_Q_condition 31 = .ok (.invokevirtual 93, 3) := by decide +kernel
theorem d_Q_condition_34 : decode b_Q_condition 34 = .ok (.ifCond .ne 6, 3) := by decide +kernel
theorem d_Q_condition_37 : decode b_Q_condition 37 = .ok (.bipush (-103), 2) := by decide +kernel
theorem d_Q_condition_39 : decode b_Q_condition 39 = .ok (.ireturn, 1) := by decide +kernel
theorem d_Q_condition_40 : decode b_Q_condition 40 = .ok (.iload_n 1, 1) := by decide +kernel
theorem d_Q_condition_41 : decode b_Q_condition 41 = .ok (.ifCond .ne 14, 3) := by decide +kernel
theorem d_Q_condition_44 : decode b_Q_condition 44 = .ok (.aload_n 0, 1) := by decide +kernel
theorem d_Q_condition_45 : decode b_Q_condition 45 = .ok (.getfield 26, 3) := by decide +kernel
theorem d_Q_condition_48 : decode b_Q_condition 48 = .ok (.iload_n 2, 1) := by decide +kernel
theorem d_Q_condition_49 : decode b_Q_condition 49 = .ok (.putfield 113, 3) := by decide +kernel
theorem d_Q_condition_52 : decode b_Q_condition 52 = .ok (.goto 11, 3) := by decide +kernel
theorem d_Q_condition_55 : decode b_Q_condition 55 = .ok (.aload_n 0, 1) := by decide +kernel
theorem d_Q_condition_56 : decode b_Q_condition 56 = .ok (.getfield 26, 3) := by decide +kernel
theorem d_Q_condition_59 : decode b_Q_condition 59 = .ok (.iload_n 2, 1) := by decide +kernel
theorem d_Q_condition_60 : decode b_Q_condition 60 = .ok (.putfield 116, 3) := by decide +kernel
theorem d_Q_condition_63 : decode b_Q_condition 63 = .ok (.iconst 1, 1) := by decide +kernel
theorem d_Q_condition_64 : decode b_Q_condition 64 = .ok (.ireturn, 1) := by decide +kernel
theorem d_Y_addGroup_0 : decode b_Y_addGroup 0 = .ok (.aload_n 0, 1) := by decide +kernel
theorem d_Y_addGroup_1 : decode b_Y_addGroup 1 = .ok (.getfield 28, 3) := by decide +kernel
theorem d_Y_addGroup_4 : decode b_Y_addGroup 4 = .ok (.aload_n 0, 1) := by decide +kernel
theorem d_Y_addGroup_5 : decode b_Y_addGroup 5 = .ok (.getfield 47, 3) := by decide +kernel
theorem d_Y_addGroup_8 : decode b_Y_addGroup 8 = .ok (.iload_n 1, 1) := by decide +kernel
theorem d_Y_addGroup_9 : decode b_Y_addGroup 9 = .ok (.iastore, 1) := by decide +kernel
theorem d_Y_addGroup_10 : decode b_Y_addGroup 10 = .ok (.aload_n 0, 1) := by decide +kernel
theorem d_Y_addGroup_11 : decode b_Y_addGroup 11 = .ok (.dup, 1) := by decide +kernel
theorem d_Y_addGroup_12 : decode b_Y_addGroup 12 = .ok (.getfield 47, 3) := by decide +kernel
theorem d_Y_addGroup_15 : decode b_Y_addGroup 15 = .ok (.iconst 1, 1) := by decide +kernel
theorem d_Y_addGroup_16 : decode b_Y_addGroup 16 = .ok (.iadd, 1) := by decide +kernel
theorem d_Y_addGroup_17 : decode b_Y_addGroup 17 = .ok (.putfield 47, 3) := by decide +kernel
theorem d_Y_addGroup_20 : decode b_Y_addGroup 20 = .ok (.aload_n 0, 1) := by decide +kernel
theorem d_Y_addGroup_21 : decode b_Y_addGroup 21 = .ok (.getfield 47, 3) := by decide +kernel
theorem d_Y_addGroup_24 : decode b_Y_addGroup 24 = .ok (.ireturn, 1) := by decide +kernel
theorem d_Q_group_0 : decode b_Q_group 0 = .ok (.aload_n 0, 1) := by decide +kernel
theorem d_Q_group_1 : decode b_Q_group 1 = .ok (.getfield 19, 3) := by decide +kernel
theorem d_Q_group_4 : decode b_Q_group 4 = .ok (.iload_n 1, 1) := by decide +kernel
theorem d_Q_group_5 : decode b_Q_group 5 = .ok (.invokevirtual 92, 3) := by decide +kernel
theorem d_Q_group_8 : decode b_Q_group 8 = .ok (.ifCond .ne 6, 3) := by decide +kernel
theorem d_Q_group_11 : decode b_Q_group 11 = .ok (.bipush (-101), 2) := by decide +kernel
theorem d_Q_group_13 : decode b_Q_group 13 = .ok (.ireturn, 1) := by decide +kernel
theorem d_Q_group_14 : decode b_Q_group 14 = .ok (.aload_n 0, 1) := by decide +kernel
theorem d_Q_group_15 : decode b_Q_group 15 = .ok (.getfield 19, 3) := by decide +kernel
theorem d_Q_group_18 : decode b_Q_group 18 = .ok (.iload_n 1, 1) := by decide +kernel
theorem d_Q_group_19 : decode b_Q_group 19 = .ok (.invokevirtual 93, 3) := by decide +kernel
theorem d_Q_group_22 : decode b_Q_group 22 = .ok (.ifCond .eq 6, 3) := by decide +kernel
theorem d_Q_group_25 : decode b_Q_group 25 = .ok (.bipush (-103), 2) := by decide +kernel
theorem d_Q_group_27 : decode b_Q_group 27 = .ok (.ireturn, 1) := by decide +kernel
theorem d_Q_group_28 : decode b_Q_group 28 = .ok (.aload_n 0, 1) := by decide +kernel
theorem d_Q_group_29 : decode b_Q_group 29 = .ok (.getfield 26, 3) := by decide +kernel
theorem d_Q_group_32 : decode b_Q_group 32 = .ok (.getfield 119, 3) := by decide +kernel
theorem d_Q_group_35 : decode b_Q_group 35 = .ok (.iconst 4, 1) := by decide +kernel
theorem d_Q_group_36 : decode b_Q_group 36 = .ok (.if_icmp .lt 6, 3) := by decide +kernel
theorem d_Q_group_39 : decode b_Q_group 39 = .ok (.bipush (-104), 2) := by decide +kernel
theorem d_Q_group_41 : decode b_Q_group 41 = .ok (.ireturn, 1) := by decide +kernel
theorem d_Q_group_42 : decode b_Q_group 42 = .ok (.aload_n 0, 1) := by decide +kernel
theorem d_Q_group_43 : decode b_Q_group 43 = .ok (.getfield 26, 3) := by decide +kernel
theorem d_Q_group_46 : decode b_Q_group 46 = .ok (.iload_n 1, 1) := by decide +kernel
theorem d_Q_group_47 : decode b_Q_group 47 = .ok (.invokevirtual 122, 3) := by decide +kernel
theorem d_Q_group_50 : decode b_Q_group 50 = .ok (.ireturn, 1) := by decide +kernel
theorem d_Y_addItem_0 : decode b_Y_addItem 0 = .ok (.aload_n 0, 1) := by decide +kernel
theorem d_Y_addItem_1 : decode b_Y_addItem 1 = .ok (.getfield 31, 3) := by decide +kernel
theorem d_Y_addItem_4 : decode b_Y_addItem 4 = .ok (.aload_n 0, 1) := by decide +kernel
theorem d_Y_addItem_5 : decode b_Y_addItem 5 = .ok (.getfield 50, 3) := by decide +kernel
theorem d_Y_addItem_8 : decode b_Y_addItem 8 = .ok (.iload_n 1, 1) := by decide +kernel
theorem d_Y_addItem_9 : decode b_Y_addItem 9 = .ok (.iastore, 1) := by decide +kernel
theorem d_Y_addItem_10 : decode b_Y_addItem 10 = .ok (.aload_n 0, 1) := by decide +kernel
theorem d_Y_addItem_11 : decode b_Y_addItem 11 = .ok (.dup, 1) := by decide +kernel
theorem d_Y_addItem_12 : decode b_Y_addItem 12 = .ok (.getfield 50, 3) := by decide +kernel
theorem d_Y_addItem_15 : decode b_Y_addItem 15 = .ok (.iconst 1, 1) := by decide +kernel
theorem d_Y_addItem_16 : decode b_Y_addItem 16 = .ok (.iadd, 1) := by decide +kernel
theorem d_Y_addItem_17 : decode b_Y_addItem 17 = .ok (.putfield 50, 3) := by decide +kernel
theorem d_Y_addItem_20 : decode b_Y_addItem 20 = .ok (.aload_n 0, 1) := by decide +kernel
theorem d_Y_addItem_21 : decode b_Y_addItem 21 = .ok (.getfield 50, 3) := by decide +kernel
theorem d_Y_addItem_24 : decode b_Y_addItem 24 = .ok (.iconst 1, 1) := by decide +kernel
theorem d_Y_addItem_25 : decode b_Y_addItem 25 = .ok (.isub, 1) := by decide +kernel
theorem d_Y_addItem_26 : decode b_Y_addItem 26 = .ok (.ireturn, 1) := by decide +kernel
theorem d_Q_item_0 : decode b_Q_item 0 = .ok (.aload_n 0, 1) := by decide +kernel
theorem d_Q_item_1 : decode b_Q_item 1 = .ok (.getfield 19, 3) := by decide +kernel
theorem d_Q_item_4 : decode b_Q_item 4 = .ok (.iload_n 1, 1) := by decide +kernel
theorem d_Q_item_5 : decode b_Q_item 5 = .ok (.invokevirtual 92, 3) := by decide +kernel
theorem d_Q_item_8 : decode b_Q_item 8 = .ok (.ifCond .ne 6, 3) := by decide +kernel
theorem d_Q_item_11 : decode b_Q_item 11 = .ok (.bipush (-101), 2) := by decide +kernel
theorem d_Q_item_13 : decode b_Q_item 13 = .ok (.ireturn, 1) := by decide +kernel
theorem d_Q_item_14 : decode b_Q_item 14 = .ok (.aload_n 0, 1) := by decide +kernel
theorem d_Q_item_15 : decode b_Q_item 15 = .ok (.getfield 19, 3) := by decide +kernel
theorem d_Q_item_18 : decode b_Q_item 18 = .ok (.iload_n 1, 1) := by decide +kernel
theorem d_Q_item_19 : decode b_Q_item 19 = .ok (.invokevirtual 93, 3) := by decide +kernel
theorem d_Q_item_22 : decode b_Q_item 22 = .ok (.ifCond .eq 6, 3) := by decide +kernel
theorem d_Q_item_25 : decode b_Q_item 25 = .ok (.bipush (-103), 2) := by decide +kernel
theorem d_Q_item_27 : decode b_Q_item 27 = .ok (.ireturn, 1) := by decide +kernel
theorem d_Q_item_28 : decode b_Q_item 28 = .ok (.aload_n 0, 1) := by decide +kernel
theorem d_Q_item_29 : decode b_Q_item 29 = .ok (.getfield 26, 3) := by decide +kernel
theorem d_Q_item_32 : decode b_Q_item 32 = .ok (.getfield 125, 3) := by decide +kernel
theorem d_Q_item_35 : decode b_Q_item 35 = .ok (.bipush 6, 2) := by decide +kernel
theorem d_Q_item_37 : decode b_Q_item 37 = .ok (.if_icmp .lt 6, 3) := by decide +kernel
theorem d_Q_item_40 : decode b_Q_item 40 = .ok (.bipush (-104), 2) := by decide +kernel
theorem d_Q_item_42 : decode b_Q_item 42 = .ok (.ireturn, 1) := by decide +kernel
theorem d_Q_item_43 : decode b_Q_item 43 = .ok (.aload_n 0, 1) := by decide +kernel
theorem d_Q_item_44 : decode b_Q_item 44 = .ok (.getfield 26, 3) := by decide +kernel
theorem d_Q_item_47 : decode b_Q_item 47 = .ok (.iload_n 1, 1) := by decide +kernel
theorem d_Q_item_48 : decode b_Q_item 48 = .ok (.invokevirtual 128, 3) := by decide +kernel
theorem d_Q_item_51 : decode b_Q_item 51 = .ok (.ireturn, 1) := by decide +kernel
theorem d_Y_addOrder_0 : decode b_Y_addOrder 0 = .ok (.aload_n 0, 1) := by decide +kernel
theorem d_Y_addOrder_1 : decode b_Y_addOrder 1 = .ok (.getfield 34, 3) := by decide +kernel
theorem d_Y_addOrder_4 : decode b_Y_addOrder 4 = .ok (.aload_n 0, 1) := by decide +kernel
theorem d_Y_addOrder_5 : decode b_Y_addOrder 5 = .ok (.getfield 53, 3) := by decide +kernel
theorem d_Y_addOrder_8 : decode b_Y_addOrder 8 = .ok (.iload_n 1, 1) := by decide +kernel
theorem d_Y_addOrder_9 : decode b_Y_addOrder 9 = .ok (.iastore, 1) := by decide +kernel
theorem d_Y_addOrder_10 : decode b_Y_addOrder 10 = .ok (.aload_n 0, 1) := by decide +kernel
theorem d_Y_addOrder_11 : decode b_Y_addOrder 11 = .ok (.getfield 37, 3) := by decide +kernel
theorem d_Y_addOrder_14 : decode b_Y_addOrder 14 = .ok (.aload_n 0, 1) := by decide +kernel
theorem d_Y_addOrder_15 : decode b_Y_addOrder 15 = .ok (.getfield 53, 3) := by decide +kernel
theorem d_Y_addOrder_18 : decode b_Y_addOrder 18 = .ok (.iload_n 2, 1) := by decide +kernel
theorem d_Y_addOrder_19 : decode b_Y_addOrder 19 = .ok (.bastore, 1) := by decide +kernel
theorem d_Y_addOrder_20 : decode b_Y_addOrder 20 = .ok (.aload_n 0, 1) := by decide +kernel
theorem d_Y_addOrder_21 : decode b_Y_addOrder 21 = .ok (.dup, 1) := by decide +kernel
theorem d_Y_addOrder_22 : decode b_Y_addOrder 22 = .ok (.getfield 53, 3) := by decide +kernel
theorem d_Y_addOrder_25 : decode b_Y_addOrder 25 = .ok (.iconst 1, 1) := by decide +kernel
theorem d_Y_addOrder_26 : decode b_Y_addOrder 26 = .ok (.iadd, 1) := by decide +kernel
theorem d_Y_addOrder_27 : decode b_Y_addOrder 27 = .ok (.putfield 53, 3) := by decide +kernel
theorem d_Y_addOrder_30 : decode b_Y_addOrder 30 = .ok (.aload_n 0, 1) := by decide +kernel
theorem d_Y_addOrder_31 : decode b_Y_addOrder 31 = .ok (.getfield 53, 3) := by decide +kernel
theorem d_Y_addOrder_34 : decode b_Y_addOrder 34 = .ok (.ireturn, 1) := by decide +kernel
