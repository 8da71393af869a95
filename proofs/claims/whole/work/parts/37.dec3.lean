theorem d_R_aggregateRow_0 : decode b_R_aggregateRow 0 = .ok (.aload_n 0, 1) := by decide +kernel
theorem d_R_aggregateRow_1 : decode b_R_aggregateRow 1 = .ok (.getfield 15, 3) := by decide +kernel
theorem d_R_aggregateRow_4 : decode b_R_aggregateRow 4 = .ok (.getfield 179, 3) := by decide +kernel
theorem d_R_aggregateRow_7 : decode b_R_aggregateRow 7 = .ok (.iload_n 2, 1) := by decide +kernel
theorem d_R_aggregateRow_8 : decode b_R_aggregateRow 8 = .ok (.iaload, 1) := by decide +kernel
theorem d_R_aggregateRow_9 : decode b_R_aggregateRow 9 = .ok (.ifCond .ne 11, 3) := by decide +kernel
theorem d_R_aggregateRow_12 : decode b_R_aggregateRow 12 = .ok (.aload_n 1, 1) := by decide +kernel
theorem d_R_aggregateRow_13 : decode b_R_aggregateRow 13 = .ok (.iload_n 2, 1) := by decide +kernel
theorem d_R_aggregateRow_14 : decode b_R_aggregateRow 14 = .ok (.iconst 1, 1) := by decide +kernel
theorem d_R_aggregateRow_15 : decode b_R_aggregateRow 15 = .ok (.lconst 0, 1) := by decide +kernel
theorem d_R_aggregateRow_16 : decode b_R_aggregateRow 16 = .ok (.invokevirtual 182, 3) := by decide +kernel
theorem d_R_aggregateRow_19 : decode b_R_aggregateRow 19 = .ok (.ireturn, 1) := by decide +kernel
theorem d_R_aggregateRow_20 : decode b_R_aggregateRow 20 = .ok (.aload_n 0, 1) := by decide +kernel
theorem d_R_aggregateRow_21 : decode b_R_aggregateRow 21 = .ok (.getfield 39, 3) := by decide +kernel
theorem d_R_aggregateRow_24 : decode b_R_aggregateRow 24 = .ok (.aload_n 0, 1) := by decide +kernel
theorem d_R_aggregateRow_25 : decode b_R_aggregateRow 25 = .ok (.getfield 15, 3) := by decide +kernel
theorem d_R_aggregateRow_28 : decode b_R_aggregateRow 28 = .ok (.getfield 186, 3) := by decide +kernel
theorem d_R_aggregateRow_31 : decode b_R_aggregateRow 31 = .ok (.iload_n 2, 1) := by decide +kernel
theorem d_R_aggregateRow_32 : decode b_R_aggregateRow 32 = .ok (.iaload, 1) := by decide +kernel
theorem d_R_aggregateRow_33 : decode b_R_aggregateRow 33 = .ok (.iconst 0, 1) := by decide +kernel
theorem d_R_aggregateRow_34 : decode b_R_aggregateRow 34 = .ok (.invokevirtual 142, 3) := by decide +kernel
theorem d_R_aggregateRow_37 : decode b_R_aggregateRow 37 = .ok (.istore_n 3, 1) := by decide +kernel
theorem d_R_aggregateRow_38 : decode b_R_aggregateRow 38 = .ok (.iload_n 3, 1) := by decide +kernel
theorem d_R_aggregateRow_39 : decode b_R_aggregateRow 39 = .ok (.ifCond .ge 7, 3) := by decide +kernel
theorem d_R_aggregateRow_42 : decode b_R_aggregateRow 42 = .ok (.iload_n 3, 1) := by decide +kernel
theorem d_R_aggregateRow_43 : decode b_R_aggregateRow 43 = .ok (.goto 16, 3) := by decide +kernel
theorem d_R_aggregateRow_46 : decode b_R_aggregateRow 46 = .ok (.aload_n 1, 1) := by decide +kernel
theorem d_R_aggregateRow_47 : decode b_R_aggregateRow 47 = .ok (.iload_n 2, 1) := by decide +kernel
theorem d_R_aggregateRow_48 : decode b_R_aggregateRow 48 = .ok (.iload_n 3, 1) := by decide +kernel
theorem d_R_aggregateRow_49 : decode b_R_aggregateRow 49 = .ok (.aload_n 0, 1) := by decide +kernel
theorem d_R_aggregateRow_50 : decode b_R_aggregateRow 50 = .ok (.getfield 39, 3) := by decide +kernel
theorem d_R_aggregateRow_53 : decode b_R_aggregateRow 53 = .ok (.getfield 145, 3) := by decide +kernel
theorem d_R_aggregateRow_56 : decode b_R_aggregateRow 56 = .ok (.invokevirtual 182, 3) := by decide +kernel
theorem d_R_aggregateRow_59 : decode b_R_aggregateRow 59 = .ok (.ireturn, 1) := by decide +kernel
theorem d_G_setKey_0 : decode b_G_setKey 0 = .ok (.aload_n 0, 1) := by decide +kernel
theorem d_G_setKey_1 : decode b_G_setKey 1 = .ok (.getfield 9, 3) := by decide +kernel
theorem d_G_setKey_4 : decode b_G_setKey 4 = .ok (.aload_n 0, 1) := by decide +kernel
theorem d_G_setKey_5 : decode b_G_setKey 5 = .ok (.getfield 51, 3) := by decide +kernel
theorem d_G_setKey_8 : decode b_G_setKey 8 = .ok (.iconst 4, 1) := by decide +kernel
theorem d_G_setKey_9 : decode b_G_setKey 9 = .ok (.imul, 1) := by decide +kernel
theorem d_G_setKey_10 : decode b_G_setKey 10 = .ok (.iload_n 1, 1) := by decide +kernel
theorem d_G_setKey_11 : decode b_G_setKey 11 = .ok (.iadd, 1) := by decide +kernel
theorem d_G_setKey_12 : decode b_G_setKey 12 = .ok (.lload_n 3, 1) := by decide +kernel
theorem d_G_setKey_13 : decode b_G_setKey 13 = .ok (.lastore, 1) := by decide +kernel
theorem d_G_setKey_14 : decode b_G_setKey 14 = .ok (.iload_n 2, 1) := by decide +kernel
theorem d_G_setKey_15 : decode b_G_setKey 15 = .ok (.ifCond .ne 18, 3) := by decide +kernel
theorem d_G_setKey_18 : decode b_G_setKey 18 = .ok (.aload_n 0, 1) := by decide +kernel
theorem d_G_setKey_19 : decode b_G_setKey 19 = .ok (.getfield 15, 3) := by decide +kernel
theorem d_G_setKey_22 : decode b_G_setKey 22 = .ok (.aload_n 0, 1) := by decide +kernel
theorem d_G_setKey_23 : decode b_G_setKey 23 = .ok (.getfield 51, 3) := by decide +kernel
theorem d_G_setKey_26 : decode b_G_setKey 26 = .ok (.dup2, 1) := by decide +kernel
theorem d_G_setKey_27 : decode b_G_setKey 27 = .ok (.iaload, 1) := by decide +kernel
theorem d_G_setKey_28 : decode b_G_setKey 28 = .ok (.iconst 1, 1) := by decide +kernel
theorem d_G_setKey_29 : decode b_G_setKey 29 = .ok (.iload_n 1, 1) := by decide +kernel
theorem d_G_setKey_30 : decode b_G_setKey 30 = .ok (.ishl, 1) := by decide +kernel
theorem d_G_setKey_31 : decode b_G_setKey 31 = .ok (.ior, 1) := by decide +kernel
theorem d_G_setKey_32 : decode b_G_setKey 32 = .ok (.iastore, 1) := by decide +kernel
theorem d_G_setKey_33 : decode b_G_setKey 33 = .ok (.return_, 1) := by decide +kernel
theorem d_R_groupRow_0 : decode b_R_groupRow 0 = .ok (.aload_n 0, 1) := by decide +kernel
theorem d_R_groupRow_1 : decode b_R_groupRow 1 = .ok (.getfield 39, 3) := by decide +kernel
theorem d_R_groupRow_4 : decode b_R_groupRow 4 = .ok (.getfield 61, 3) := by decide +kernel
theorem d_R_groupRow_7 : decode b_R_groupRow 7 = .ok (.astore_n 1, 1) := by decide +kernel
theorem d_R_groupRow_8 : decode b_R_groupRow 8 = .ok (.aload_n 1, 1) := by decide +kernel
theorem d_R_groupRow_9 : decode b_R_groupRow 9 = .ok (.ifnull 10, 3) := by decide +kernel
theorem d_R_groupRow_12 : decode b_R_groupRow 12 = .ok (.aload_n 1, 1) := by decide +kernel
theorem d_R_groupRow_13 : decode b_R_groupRow 13 = .ok (.invokevirtual 156, 3) := by decide +kernel
theorem d_R_groupRow_16 : decode b_R_groupRow 16 = .ok (.ifCond .eq 5, 3) := by decide +kernel
theorem d_R_groupRow_19 : decode b_R_groupRow 19 = .ok (.iconst 0, 1) := by decide +kernel
theorem d_R_groupRow_20 : decode b_R_groupRow 20 = .ok (.ireturn, 1) := by decide +kernel
theorem d_R_groupRow_21 : decode b_R_groupRow 21 = .ok (.aload_n 1, 1) := by decide +kernel
theorem d_R_groupRow_22 : decode b_R_groupRow 22 = .ok (.aload_n 0, 1) := by decide +kernel
theorem d_R_groupRow_23 : decode b_R_groupRow 23 = .ok (.getfield 39, 3) := by decide +kernel
theorem d_R_groupRow_26 : decode b_R_groupRow 26 = .ok (.getfield 94, 3) := by decide +kernel
theorem d_R_groupRow_29 : decode b_R_groupRow 29 = .ok (.invokevirtual 157, 3) := by decide +kernel
theorem d_R_groupRow_32 : decode b_R_groupRow 32 = .ok (.iconst 0, 1) := by decide +kernel
theorem d_R_groupRow_33 : decode b_R_groupRow 33 = .ok (.istore_n 2, 1) := by decide +kernel
theorem d_R_groupRow_34 : decode b_R_groupRow 34 = .ok (.iload_n 2, 1) := by decide +kernel
theorem d_R_groupRow_35 : decode b_R_groupRow 35 = .ok (.aload_n 0, 1) := by decide +kernel
theorem d_R_groupRow_36 : decode b_R_groupRow 36 = .ok (.getfield 19, 3) := by decide +kernel
theorem d_R_groupRow_39 : decode b_R_groupRow 39 = .ok (.getfield 70, 3) := by decide +kernel
theorem d_R_groupRow_42 : decode b_R_groupRow 42 = .ok (.if_icmp .ge 46, 3) := by decide +kernel
theorem d_R_groupRow_45 : decode b_R_groupRow 45 = .ok (.aload_n 0, 1) := by decide +kernel
theorem d_R_groupRow_46 : decode b_R_groupRow 46 = .ok (.getfield 39, 3) := by decide +kernel
theorem d_R_groupRow_49 : decode b_R_groupRow 49 = .ok (.aload_n 0, 1) := by decide +kernel
theorem d_R_groupRow_50 : decode b_R_groupRow 50 = .ok (.getfield 19, 3) := by decide +kernel
theorem d_R_groupRow_53 : decode b_R_groupRow 53 = .ok (.getfield 160, 3) := by decide +kernel
theorem d_R_groupRow_56 : decode b_R_groupRow 56 = .ok (.iload_n 2, 1) := by decide +kernel
theorem d_R_groupRow_57 : decode b_R_groupRow 57 = .ok (.iaload, 1) := by decide +kernel
theorem d_R_groupRow_58 : decode b_R_groupRow 58 = .ok (.iconst 0, 1) := by decide +kernel
theorem d_R_groupRow_59 : decode b_R_groupRow 59 = .ok (.invokevirtual 142, 3) := by decide +kernel
theorem d_R_groupRow_62 : decode b_R_groupRow 62 = .ok (.istore_n 3, 1) := by decide +kernel
theorem d_R_groupRow_63 : decode b_R_groupRow 63 = .ok (.iload_n 3, 1) := by decide +kernel
theorem d_R_groupRow_64 : decode b_R_groupRow 64 = .ok (.ifCond .ge 5, 3) := by decide +kernel
theorem d_R_groupRow_67 : decode b_R_groupRow 67 = .ok (.iload_n 3, 1) := by decide +kernel
theorem d_R_groupRow_68 : decode b_R_groupRow 68 = .ok (.ireturn, 1) := by decide +kernel
theorem d_R_groupRow_69 : decode b_R_groupRow 69 = .ok (.aload_n 1, 1) := by decide +kernel
theorem d_R_groupRow_70 : decode b_R_groupRow 70 = .ok (.iload_n 2, 1) := by decide +kernel
theorem d_R_groupRow_71 : decode b_R_groupRow 71 = .ok (.iload_n 3, 1) := by decide +kernel
theorem d_R_groupRow_72 : decode b_R_groupRow 72 = .ok (.aload_n 0, 1) := by decide +kernel
theorem d_R_groupRow_73 : decode b_R_groupRow 73 = .ok (.getfield 39, 3) := by decide +kernel
theorem d_R_groupRow_76 : decode b_R_groupRow 76 = .ok (.getfield 145, 3) := by decide +kernel
theorem d_R_groupRow_79 : decode b_R_groupRow 79 = .ok (.invokevirtual 162, 3) := by decide +kernel
theorem d_R_groupRow_82 : decode b_R_groupRow 82 = .ok (.iinc 2 1, 3) := by decide +kernel
theorem d_R_groupRow_85 : decode b_R_groupRow 85 = .ok (.goto (-51), 3) := by decide +kernel
theorem d_R_groupRow_88 : decode b_R_groupRow 88 = .ok (.aload_n 1, 1) := by decide +kernel
theorem d_R_groupRow_89 : decode b_R_groupRow 89 = .ok (.aload_n 0, 1) := by decide +kernel
theorem d_R_groupRow_90 : decode b_R_groupRow 90 = .ok (.getfield 19, 3) := by decide +kernel
theorem d_R_groupRow_93 : decode b_R_groupRow 93 = .ok (.getfield 70, 3) := by decide +kernel
theorem d_R_groupRow_96 : decode b_R_groupRow 96 = .ok (.invokevirtual 165, 3) := by decide +kernel
theorem d_R_groupRow_99 : decode b_R_groupRow 99 = .ok (.iconst 0, 1) := by decide +kernel
theorem d_R_groupRow_100 : decode b_R_groupRow 100 = .ok (.istore_n 2, 1) := by decide +kernel
theorem d_R_groupRow_101 : decode b_R_groupRow 101 = .ok (.iload_n 2, 1) := by decide +kernel
theorem d_R_groupRow_102 : decode b_R_groupRow 102 = .ok (.aload_n 0, 1) := by decide +kernel
theorem d_R_groupRow_103 : decode b_R_groupRow 103 = .ok (.getfield 15, 3) := by decide +kernel
theorem d_R_groupRow_106 : decode b_R_groupRow 106 = .ok (.getfield 169, 3) := by decide +kernel
theorem d_R_groupRow_109 : decode b_R_groupRow 109 = .ok (.if_icmp .ge 37, 3) := by decide +kernel
theorem d_R_groupRow_112 : decode b_R_groupRow 112 = .ok (.aload_n 0, 1) := by decide +kernel
theorem d_R_groupRow_113 : decode b_R_groupRow 113 = .ok (.getfield 57, 3) := by decide +kernel
theorem d_R_groupRow_116 : decode b_R_groupRow 116 = .ok (.iload_n 2, 1) := by decide +kernel
theorem d_R_groupRow_117 : decode b_R_groupRow 117 = .ok (.ishr, 1) := by decide +kernel
theorem d_R_groupRow_118 : decode b_R_groupRow 118 = .ok (.iconst 1, 1) := by decide +kernel
theorem d_R_groupRow_119 : decode b_R_groupRow 119 = .ok (.iand, 1) := by decide +kernel
theorem d_R_groupRow_120 : decode b_R_groupRow 120 = .ok (.ifCond .ne 7, 3) := by decide +kernel
theorem d_R_groupRow_123 : decode b_R_groupRow 123 = .ok (.iconst 0, 1) := by decide +kernel
theorem d_R_groupRow_124 : decode b_R_groupRow 124 = .ok (.goto 9, 3) := by decide +kernel
theorem d_R_groupRow_127 : decode b_R_groupRow 127 = .ok (.aload_n 0, 1) := by decide +kernel
theorem d_R_groupRow_128 : decode b_R_groupRow 128 = .ok (.aload_n 1, 1) := by decide +kernel
theorem d_R_groupRow_129 : decode b_R_groupRow 129 = .ok (.iload_n 2, 1) := by decide +kernel
theorem d_R_groupRow_130 : decode b_R_groupRow 130 = .ok (.invokevirtual 174, 3) := by decide +kernel
theorem d_R_groupRow_133 : decode b_R_groupRow 133 = .ok (.istore_n 3, 1) := by decide +kernel
theorem d_R_groupRow_134 : decode b_R_groupRow 134 = .ok (.iload_n 3, 1) := by decide +kernel
theorem d_R_groupRow_135 : decode b_R_groupRow 135 = .ok (.ifCond .eq 5, 3) := by decide +kernel
theorem d_R_groupRow_138 : decode b_R_groupRow 138 = .ok (.iload_n 3, 1) := by decide +kernel
theorem d_R_groupRow_139 : decode b_R_groupRow 139 = .ok (.ireturn, 1) := by decide +kernel
theorem d_R_groupRow_140 : decode b_R_groupRow 140 = .ok (.iinc 2 1, 3) := by decide +kernel
theorem d_R_groupRow_143 : decode b_R_groupRow 143 = .ok (.goto (-42), 3) := by decide +kernel
theorem d_R_groupRow_146 : decode b_R_groupRow 146 = .ok (.aload_n 1, 1) := by decide +kernel
theorem d_R_groupRow_147 : decode b_R_groupRow 147 = .ok (.invokevirtual 178, 3) := by decide +kernel
theorem d_R_groupRow_150 : decode b_R_groupRow 150 = .ok (.iconst 0, 1) := by decide +kernel
theorem d_R_groupRow_151 : decode b_R_groupRow 151 = .ok (.ireturn, 1) := by decide +kernel
theorem d_R_takeRow_0 : decode b_R_takeRow 0 = .ok (.aload_n 0, 1) := by decide +kernel
theorem d_R_takeRow_1 : decode b_R_takeRow 1 = .ok (.getfield 19, 3) := by decide +kernel
theorem d_R_takeRow_4 : decode b_R_takeRow 4 = .ok (.getfield 122, 3) := by decide +kernel
theorem d_R_takeRow_7 : decode b_R_takeRow 7 = .ok (.iconst (-1), 1) := by decide +kernel
theorem d_R_takeRow_8 : decode b_R_takeRow 8 = .ok (.if_icmp .ne 7, 3) := by decide +kernel
theorem d_R_takeRow_11 : decode b_R_takeRow 11 = .ok (.iconst 1, 1) := by decide +kernel
theorem d_R_takeRow_12 : decode b_R_takeRow 12 = .ok (.goto 18, 3) := by decide +kernel
theorem d_R_takeRow_15 : decode b_R_takeRow 15 = .ok (.aload_n 0, 1) := by decide +kernel
theorem d_R_takeRow_16 : decode b_R_takeRow 16 = .ok (.getfield 39, 3) := by decide +kernel
theorem d_R_takeRow_19 : decode b_R_takeRow 19 = .ok (.aload_n 0, 1) := by decide +kernel
theorem d_R_takeRow_20 : decode b_R_takeRow 20 = .ok (.getfield 19, 3) := by decide +kernel
theorem d_R_takeRow_23 : decode b_R_takeRow 23 = .ok (.getfield 122, 3) := by decide +kernel
theorem d_R_takeRow_26 : decode b_R_takeRow 26 = .ok (.iconst 0, 1) := by decide +kernel
theorem d_R_takeRow_27 : decode b_R_takeRow 27 = .ok (.invokevirtual 103, 3) := by decide +kernel
theorem d_R_takeRow_30 : decode b_R_takeRow 30 = .ok (.istore_n 1, 1) := by decide +kernel
theorem d_R_takeRow_31 : decode b_R_takeRow 31 = .ok (.iload_n 1, 1) := by decide +kernel
theorem d_R_takeRow_32 : decode b_R_takeRow 32 = .ok (.ifCond .ge 5, 3) := by decide +kernel
theorem d_R_takeRow_35 : decode b_R_takeRow 35 = .ok (.iload_n 1, 1) := by decide +kernel
theorem d_R_takeRow_36 : decode b_R_takeRow 36 = .ok (.ireturn, 1) := by decide +kernel
theorem d_R_takeRow_37 : decode b_R_takeRow 37 = .ok (.iload_n 1, 1) := by decide +kernel
theorem d_R_takeRow_38 : decode b_R_takeRow 38 = .ok (.iconst 1, 1) := by decide +kernel
theorem d_R_takeRow_39 : decode b_R_takeRow 39 = .ok (.if_icmp .eq 5, 3) := by decide +kernel
theorem d_R_takeRow_42 : decode b_R_takeRow 42 = .ok (.iconst 0, 1) := by decide +kernel
theorem d_R_takeRow_43 : decode b_R_takeRow 43 = .ok (.ireturn, 1) := by decide +kernel
theorem d_R_takeRow_44 : decode b_R_takeRow 44 = .ok (.aload_n 0, 1) := by decide +kernel
theorem d_R_takeRow_45 : decode b_R_takeRow 45 = .ok (.getfield 51, 3) := by decide +kernel
theorem d_R_takeRow_48 : decode b_R_takeRow 48 = .ok (.ifCond .eq 10, 3) := by decide +kernel
theorem d_R_takeRow_51 : decode b_R_takeRow 51 = .ok (.aload_n 0, 1) := by decide +kernel
theorem d_R_takeRow_52 : decode b_R_takeRow 52 = .ok (.invokevirtual 125, 3) := by decide +kernel
theorem d_R_takeRow_55 : decode b_R_takeRow 55 = .ok (.goto 7, 3) := by decide +kernel
theorem d_R_takeRow_58 : decode b_R_takeRow 58 = .ok (.aload_n 0, 1) := by decide +kernel
theorem d_R_takeRow_59 : decode b_R_takeRow 59 = .ok (.invokevirtual 119, 3) := by decide +kernel
theorem d_R_takeRow_62 : decode b_R_takeRow 62 = .ok (.ireturn, 1) := by decide +kernel
theorem d_R_joinFrom_0 : decode b_R_joinFrom 0 = .ok (.iload_n 1, 1) := by decide +kernel
theorem d_R_joinFrom_1 : decode b_R_joinFrom 1 = .ok (.aload_n 0, 1) := by decide +kernel
theorem d_R_joinFrom_2 : decode b_R_joinFrom 2 = .ok (.getfield 19, 3) := by decide +kernel
theorem d_R_joinFrom_5 : decode b_R_joinFrom 5 = .ok (.getfield 79, 3) := by decide +kernel
theorem d_R_joinFrom_8 : decode b_R_joinFrom 8 = .ok (.if_icmp .lt 8, 3) := by decide +kernel
theorem d_R_joinFrom_11 : decode b_R_joinFrom 11 = .ok (.aload_n 0, 1) := by decide +kernel
theorem d_R_joinFrom_12 : decode b_R_joinFrom 12 = .ok (.invokevirtual 82, 3) := by decide +kernel
theorem d_R_joinFrom_15 : decode b_R_joinFrom 15 = .ok (.ireturn, 1) := by decide +kernel
theorem d_R_joinFrom_16 : decode b_R_joinFrom 16 = .ok (.aload_n 0, 1) := by decide +kernel
theorem d_R_joinFrom_17 : decode b_R_joinFrom 17 = .ok (.getfield 9, 3) := by decide +kernel
theorem d_R_joinFrom_20 : decode b_R_joinFrom 20 = .ok (.getfield 85, 3) := by decide +kernel
theorem d_R_joinFrom_23 : decode b_R_joinFrom 23 = .ok (.aload_n 0, 1) := by decide +kernel
theorem d_R_joinFrom_24 : decode b_R_joinFrom 24 = .ok (.getfield 19, 3) := by decide +kernel
theorem d_R_joinFrom_27 : decode b_R_joinFrom 27 = .ok (.getfield 91, 3) := by decide +kernel
theorem d_R_joinFrom_30 : decode b_R_joinFrom 30 = .ok (.iload_n 1, 1) := by decide +kernel
theorem d_R_joinFrom_31 : decode b_R_joinFrom 31 = .ok (.iaload, 1) := by decide +kernel
theorem d_R_joinFrom_32 : decode b_R_joinFrom 32 = .ok (.iaload, 1) := by decide +kernel
theorem d_R_joinFrom_33 : decode b_R_joinFrom 33 = .ok (.istore_n 2, 1) := by decide +kernel
theorem d_R_joinFrom_34 : decode b_R_joinFrom 34 = .ok (.iconst 0, 1) := by decide +kernel
theorem d_R_joinFrom_35 : decode b_R_joinFrom 35 = .ok (.istore_n 3, 1) := by decide +kernel
theorem d_R_joinFrom_36 : decode b_R_joinFrom 36 = .ok (.iconst 0, 1) := by decide +kernel
theorem d_R_joinFrom_37 : decode b_R_joinFrom 37 = .ok (.istore 4, 2) := by decide +kernel
theorem d_R_joinFrom_39 : decode b_R_joinFrom 39 = .ok (.iload 4, 2) := by decide +kernel
theorem d_R_joinFrom_41 : decode b_R_joinFrom 41 = .ok (.iload_n 2, 1) := by decide +kernel
theorem d_R_joinFrom_42 : decode b_R_joinFrom 42 = .ok (.if_icmp .ge 88, 3) := by decide +kernel
theorem d_R_joinFrom_45 : decode b_R_joinFrom 45 = .ok (.aload_n 0, 1) := by decide +kernel
theorem d_R_joinFrom_46 : decode b_R_joinFrom 46 = .ok (.getfield 39, 3) := by decide +kernel
theorem d_R_joinFrom_49 : decode b_R_joinFrom 49 = .ok (.getfield 94, 3) := by decide +kernel
theorem d_R_joinFrom_52 : decode b_R_joinFrom 52 = .ok (.iload_n 1, 1) := by decide +kernel
theorem d_R_joinFrom_53 : decode b_R_joinFrom 53 = .ok (.iload 4, 2) := by decide +kernel
theorem d_R_joinFrom_55 : decode b_R_joinFrom 55 = .ok (.iastore, 1) := by decide +kernel
theorem d_R_joinFrom_56 : decode b_R_joinFrom 56 = .ok (.aload_n 0, 1) := by decide +kernel
theorem d_R_joinFrom_57 : decode b_R_joinFrom 57 = .ok (.getfield 19, 3) := by decide +kernel
theorem d_R_joinFrom_60 : decode b_R_joinFrom 60 = .ok (.getfield 97, 3) := by decide +kernel
theorem d_R_joinFrom_63 : decode b_R_joinFrom 63 = .ok (.iload_n 1, 1) := by decide +kernel
theorem d_R_joinFrom_64 : decode b_R_joinFrom 64 = .ok (.iaload, 1) := by decide +kernel
theorem d_R_joinFrom_65 : decode b_R_joinFrom 65 = .ok (.ifCond .ne 7, 3) := by decide +kernel
theorem d_R_joinFrom_68 : decode b_R_joinFrom 68 = .ok (.iconst 1, 1) := by decide +kernel
theorem d_R_joinFrom_69 : decode b_R_joinFrom 69 = .ok (.goto 20, 3) := by decide +kernel
theorem d_R_joinFrom_72 : decode b_R_joinFrom 72 = .ok (.aload_n 0, 1) := by decide +kernel
theorem d_R_joinFrom_73 : decode b_R_joinFrom 73 = .ok (.getfield 39, 3) := by decide +kernel
theorem d_R_joinFrom_76 : decode b_R_joinFrom 76 = .ok (.aload_n 0, 1) := by decide +kernel
theorem d_R_joinFrom_77 : decode b_R_joinFrom 77 = .ok (.getfield 19, 3) := by decide +kernel
theorem d_R_joinFrom_80 : decode b_R_joinFrom 80 = .ok (.getfield 100, 3) := by decide +kernel
theorem d_R_joinFrom_83 : decode b_R_joinFrom 83 = .ok (.iload_n 1, 1) := by decide +kernel
theorem d_R_joinFrom_84 : decode b_R_joinFrom 84 = .ok (.iaload, 1) := by decide +kernel
theorem d_R_joinFrom_85 : decode b_R_joinFrom 85 = .ok (.iconst 0, 1) := by decide +kernel
theorem d_R_joinFrom_86 : decode b_R_joinFrom 86 = .ok (.invokevirtual 103, 3) := by decide +kernel
theorem d_R_joinFrom_89 : decode b_R_joinFrom 89 = .ok (.istore 5, 2) := by decide +kernel
theorem d_R_joinFrom_91 : decode b_R_joinFrom 91 = .ok (.iload 5, 2) := by decide +kernel
theorem d_R_joinFrom_93 : decode b_R_joinFrom 93 = .ok (.ifCond .ge 6, 3) := by decide +kernel
theorem d_R_joinFrom_96 : decode b_R_joinFrom 96 = .ok (.iload 5, 2) := by decide +kernel
theorem d_R_joinFrom_98 : decode b_R_joinFrom 98 = .ok (.ireturn, 1) := by decide +kernel
theorem d_R_joinFrom_99 : decode b_R_joinFrom 99 = .ok (.iload 5, 2) := by decide +kernel
theorem d_R_joinFrom_101 : decode b_R_joinFrom 101 = .ok (.iconst 1, 1) := by decide +kernel
theorem d_R_joinFrom_102 : decode b_R_joinFrom 102 = .ok (.if_icmp .ne 22, 3) := by decide +kernel
theorem d_R_joinFrom_105 : decode b_R_joinFrom 105 = .ok (.iconst 1, 1) := by decide +kernel
theorem d_R_joinFrom_106 : decode b_R_joinFrom 106 = .ok (.istore_n 3, 1) := by decide +kernel
theorem d_R_joinFrom_107 : decode b_R_joinFrom 107 = .ok (.aload_n 0, 1) := by decide +kernel
theorem d_R_joinFrom_108 : decode b_R_joinFrom 108 = .ok (.iload_n 1, 1) := by decide +kernel
theorem d_R_joinFrom_109 : decode b_R_joinFrom 109 = .ok (.iconst 1, 1) := by decide +kernel
theorem d_R_joinFrom_110 : decode b_R_joinFrom 110 = .ok (.iadd, 1) := by decide +kernel
theorem d_R_joinFrom_111 : decode b_R_joinFrom 111 = .ok (.invokevirtual 107, 3) := by decide +kernel
theorem d_R_joinFrom_114 : decode b_R_joinFrom 114 = .ok (.istore 6, 2) := by decide +kernel
theorem d_R_joinFrom_116 : decode b_R_joinFrom 116 = .ok (.iload 6, 2) := by decide +kernel
theorem d_R_joinFrom_118 : decode b_R_joinFrom 118 = .ok (.ifCond .eq 6, 3) := by decide +kernel
theorem d_R_joinFrom_121 : decode b_R_joinFrom 121 = .ok (.iload 6, 2) := by decide +kernel
theorem d_R_joinFrom_123 : decode b_R_joinFrom 123 = .ok (.ireturn, 1) := by decide +kernel
theorem d_R_joinFrom_124 : decode b_R_joinFrom 124 = .ok (.iinc 4 1, 3) := by decide +kernel
theorem d_R_joinFrom_127 : decode b_R_joinFrom 127 = .ok (.goto (-88), 3) := by decide +kernel
theorem d_R_joinFrom_130 : decode b_R_joinFrom 130 = .ok (.iload_n 3, 1) := by decide +kernel
theorem d_R_joinFrom_131 : decode b_R_joinFrom 131 = .ok (.ifCond .ne 16, 3) := by decide +kernel
theorem d_R_joinFrom_134 : decode b_R_joinFrom 134 = .ok (.aload_n 0, 1) := by decide +kernel
theorem d_R_joinFrom_135 : decode b_R_joinFrom 135 = .ok (.getfield 19, 3) := by decide +kernel
theorem d_R_joinFrom_138 : decode b_R_joinFrom 138 = .ok (.getfield 97, 3) := by decide +kernel
theorem d_R_joinFrom_141 : decode b_R_joinFrom 141 = .ok (.iload_n 1, 1) := by decide +kernel
theorem d_R_joinFrom_142 : decode b_R_joinFrom 142 = .ok (.iaload, 1) := by decide +kernel
theorem d_R_joinFrom_143 : decode b_R_joinFrom 143 = .ok (.iconst 2, 1) := by decide +kernel
theorem d_R_joinFrom_144 : decode b_R_joinFrom 144 = .ok (.if_icmp .eq 5, 3) := by decide +kernel
theorem d_R_joinFrom_147 : decode b_R_joinFrom 147 = .ok (.iconst 0, 1) := by decide +kernel
theorem d_R_joinFrom_148 : decode b_R_joinFrom 148 = .ok (.ireturn, 1) := by decide +kernel
theorem d_R_joinFrom_149 : decode b_R_joinFrom 149 = .ok (.aload_n 0, 1) := by decide +kernel
theorem d_R_joinFrom_150 : decode b_R_joinFrom 150 = .ok (.getfield 39, 3) := by decide +kernel
theorem d_R_joinFrom_153 : decode b_R_joinFrom 153 = .ok (.getfield 94, 3) := by decide +kernel
theorem d_R_joinFrom_156 : decode b_R_joinFrom 156 = .ok (.iload_n 1, 1) := by decide +kernel
theorem d_R_joinFrom_157 : decode b_R_joinFrom 157 = .ok (.iconst (-1), 1) := by decide +kernel
theorem d_R_joinFrom_158 : decode b_R_joinFrom 158 = .ok (.iastore, 1) := by decide +kernel
theorem d_R_joinFrom_159 : decode b_R_joinFrom 159 = .ok (.aload_n 0, 1) := by decide +kernel
theorem d_R_joinFrom_160 : decode b_R_joinFrom 160 = .ok (.iload_n 1, 1) := by decide +kernel
theorem d_R_joinFrom_161 : decode b_R_joinFrom 161 = .ok (.iconst 1, 1) := by decide +kernel
theorem d_R_joinFrom_162 : decode b_R_joinFrom 162 = .ok (.iadd, 1) := by decide +kernel
theorem d_R_joinFrom_163 : decode b_R_joinFrom 163 = .ok (.invokevirtual 107, 3) := by decide +kernel
theorem d_R_joinFrom_166 : decode b_R_joinFrom 166 = .ok (.ireturn, 1) := by decide +kernel
theorem d_Q_run_0 : decode b_Q_run 0 = .ok (.aload_n 0, 1) := by decide +kernel
theorem d_Q_run_1 : decode b_Q_run 1 = .ok (.getfield 33, 3) := by decide +kernel
theorem d_Q_run_4 : decode b_Q_run 4 = .ok (.invokevirtual 142, 3) := by decide +kernel
theorem d_Q_run_7 : decode b_Q_run 7 = .ok (.aload_n 0, 1) := by decide +kernel
theorem d_Q_run_8 : decode b_Q_run 8 = .ok (.getfield 42, 3) := by decide +kernel
theorem d_Q_run_11 : decode b_Q_run 11 = .ok (.invokevirtual 143, 3) := by decide +kernel
theorem d_Q_run_14 : decode b_Q_run 14 = .ok (.istore_n 1, 1) := by decide +kernel
theorem d_Q_run_15 : decode b_Q_run 15 = .ok (.iload_n 1, 1) := by decide +kernel
theorem d_Q_run_16 : decode b_Q_run 16 = .ok (.ifCond .ne 12, 3) := by decide +kernel
theorem d_Q_run_19 : decode b_Q_run 19 = .ok (.aload_n 0, 1) := by decide +kernel
theorem d_Q_run_20 : decode b_Q_run 20 = .ok (.getfield 42, 3) := by decide +kernel
theorem d_Q_run_23 : decode b_Q_run 23 = .ok (.iconst 0, 1) := by decide +kernel
theorem d_Q_run_24 : decode b_Q_run 24 = .ok (.invokevirtual 147, 3) := by decide +kernel
theorem d_Q_run_27 : decode b_Q_run 27 = .ok (.istore_n 1, 1) := by decide +kernel
theorem d_Q_run_28 : decode b_Q_run 28 = .ok (.iload_n 1, 1) := by decide +kernel
theorem d_Q_run_29 : decode b_Q_run 29 = .ok (.ifCond .ne 11, 3) := by decide +kernel
theorem d_Q_run_32 : decode b_Q_run 32 = .ok (.aload_n 0, 1) := by decide +kernel
theorem d_Q_run_33 : decode b_Q_run 33 = .ok (.getfield 42, 3) := by decide +kernel
theorem d_Q_run_36 : decode b_Q_run 36 = .ok (.invokevirtual 150, 3) := by decide +kernel
theorem d_Q_run_39 : decode b_Q_run 39 = .ok (.istore_n 1, 1) := by decide +kernel
theorem d_Q_run_40 : decode b_Q_run 40 = .ok (.iload_n 1, 1) := by decide +kernel
theorem d_Q_run_41 : decode b_Q_run 41 = .ok (.ifCond .eq 5, 3) := by decide +kernel
theorem d_Q_run_44 : decode b_Q_run 44 = .ok (.iload_n 1, 1) := by decide +kernel
theorem d_Q_run_45 : decode b_Q_run 45 = .ok (.ireturn, 1) := by decide +kernel
theorem d_Q_run_46 : decode b_Q_run 46 = .ok (.aload_n 0, 1) := by decide +kernel
theorem d_Q_run_47 : decode b_Q_run 47 = .ok (.getfield 33, 3) := by decide +kernel
theorem d_Q_run_50 : decode b_Q_run 50 = .ok (.aload_n 0, 1) := by decide +kernel
theorem d_Q_run_51 : decode b_Q_run 51 = .ok (.getfield 26, 3) := by decide +kernel
theorem d_Q_run_54 : decode b_Q_run 54 = .ok (.invokevirtual 153, 3) := by decide +kernel
theorem d_Q_run_57 : decode b_Q_run 57 = .ok (.aload_n 0, 1) := by decide +kernel
theorem d_Q_run_58 : decode b_Q_run 58 = .ok (.getfield 33, 3) := by decide +kernel
theorem d_Q_run_61 : decode b_Q_run 61 = .ok (.getfield 157, 3) := by decide +kernel
theorem d_Q_run_64 : decode b_Q_run 64 = .ok (.ireturn, 1) := by decide +kernel
theorem d_A_has_0 : decode b_A_has 0 = .ok (.iload_n 1, 1) := by decide +kernel
theorem d_A_has_1 : decode b_A_has 1 = .ok (.ifCond .lt 27, 3) := by decide +kernel
theorem d_A_has_4 : decode b_A_has 4 = .ok (.iload_n 1, 1) := by decide +kernel
theorem d_A_has_5 : decode b_A_has 5 = .ok (.aload_n 0, 1) := by decide +kernel
theorem d_A_has_6 : decode b_A_has 6 = .ok (.getfield 26, 3) := by decide +kernel
theorem d_A_has_9 : decode b_A_has 9 = .ok (.if_icmp .ge 19, 3) := by decide +kernel
theorem d_A_has_12 : decode b_A_has 12 = .ok (.iload_n 2, 1) := by decide +kernel
theorem d_A_has_13 : decode b_A_has 13 = .ok (.ifCond .lt 15, 3) := by decide +kernel
theorem d_A_has_16 : decode b_A_has 16 = .ok (.iload_n 2, 1) := by decide +kernel
theorem d_A_has_17 : decode b_A_has 17 = .ok (.aload_n 0, 1) := by decide +kernel
theorem d_A_has_18 : decode b_A_has 18 = .ok (.getfield 22, 3) := by decide +kernel
theorem d_A_has_21 : decode b_A_has 21 = .ok (.if_icmp .ge 7, 3) := by decide +kernel
theorem d_A_has_24 : decode b_A_has 24 = .ok (.iconst 1, 1) := by decide +kernel
theorem d_A_has_25 : decode b_A_has 25 = .ok (.goto 4, 3) := by decide +kernel
theorem d_A_has_28 : decode b_A_has 28 = .ok (.iconst 0, 1) := by decide +kernel
theorem d_A_has_29 : decode b_A_has 29 = .ok (.ireturn, 1) := by decide +kernel
theorem d_A_numberOf_0 : decode b_A_numberOf 0 = .ok (.aload_n 0, 1) := by decide +kernel
theorem d_A_numberOf_1 : decode b_A_numberOf 1 = .ok (.getfield 9, 3) := by decide +kernel
theorem d_A_numberOf_4 : decode b_A_numberOf 4 = .ok (.aload_n 0, 1) := by decide +kernel
theorem d_A_numberOf_5 : decode b_A_numberOf 5 = .ok (.getfield 19, 3) := by decide +kernel
theorem d_A_numberOf_8 : decode b_A_numberOf 8 = .ok (.aload_n 0, 1) := by decide +kernel
theorem d_A_numberOf_9 : decode b_A_numberOf 9 = .ok (.getfield 32, 3) := by decide +kernel
theorem d_A_numberOf_12 : decode b_A_numberOf 12 = .ok (.iload_n 1, 1) := by decide +kernel
theorem d_A_numberOf_13 : decode b_A_numberOf 13 = .ok (.iadd, 1) := by decide +kernel
theorem d_A_numberOf_14 : decode b_A_numberOf 14 = .ok (.iaload, 1) := by decide +kernel
theorem d_A_numberOf_15 : decode b_A_numberOf 15 = .ok (.bipush 6, 2) := by decide +kernel
theorem d_A_numberOf_17 : decode b_A_numberOf 17 = .ok (.imul, 1) := by decide +kernel
theorem d_A_numberOf_18 : decode b_A_numberOf 18 = .ok (.iload_n 2, 1) := by decide +kernel
theorem d_A_numberOf_19 : decode b_A_numberOf 19 = .ok (.iadd, 1) := by decide +kernel
theorem d_A_numberOf_20 : decode b_A_numberOf 20 = .ok (.laload, 1) := by decide +kernel
theorem d_A_numberOf_21 : decode b_A_numberOf 21 = .ok (.lreturn, 1) := by decide +kernel
theorem d_Q_cell_0 : decode b_Q_cell 0 = .ok (.aload_n 0, 1) := by decide +kernel
theorem d_Q_cell_1 : decode b_Q_cell 1 = .ok (.getfield 33, 3) := by decide +kernel
theorem d_Q_cell_4 : decode b_Q_cell 4 = .ok (.iload_n 1, 1) := by decide +kernel
theorem d_Q_cell_5 : decode b_Q_cell 5 = .ok (.iload_n 2, 1) := by decide +kernel
theorem d_Q_cell_6 : decode b_Q_cell 6 = .ok (.invokevirtual 160, 3) := by decide +kernel
theorem d_Q_cell_9 : decode b_Q_cell 9 = .ok (.ifCond .eq 15, 3) := by decide +kernel
theorem d_Q_cell_12 : decode b_Q_cell 12 = .ok (.aload_n 0, 1) := by decide +kernel
theorem d_Q_cell_13 : decode b_Q_cell 13 = .ok (.getfield 33, 3) := by decide +kernel
theorem d_Q_cell_16 : decode b_Q_cell 16 = .ok (.iload_n 1, 1) := by decide +kernel
theorem d_Q_cell_17 : decode b_Q_cell 17 = .ok (.iload_n 2, 1) := by decide +kernel
theorem d_Q_cell_18 : decode b_Q_cell 18 = .ok (.invokevirtual 162, 3) := by decide +kernel
theorem d_Q_cell_21 : decode b_Q_cell 21 = .ok (.goto 4, 3) := by decide +kernel
theorem d_Q_cell_24 : decode b_Q_cell 24 = .ok (.lconst 0, 1) := by decide +kernel
theorem d_Q_cell_25 : decode b_Q_cell 25 = .ok (.lreturn, 1) := by decide +kernel
theorem d_A_lacks_0 : decode b_A_lacks 0 = .ok (.aload_n 0, 1) := by decide +kernel
theorem d_A_lacks_1 : decode b_A_lacks 1 = .ok (.aload_n 0, 1) := by decide +kernel
theorem d_A_lacks_2 : decode b_A_lacks 2 = .ok (.getfield 19, 3) := by decide +kernel
theorem d_A_lacks_5 : decode b_A_lacks 5 = .ok (.aload_n 0, 1) := by decide +kernel
theorem d_A_lacks_6 : decode b_A_lacks 6 = .ok (.getfield 32, 3) := by decide +kernel
theorem d_A_lacks_9 : decode b_A_lacks 9 = .ok (.iload_n 1, 1) := by decide +kernel
theorem d_A_lacks_10 : decode b_A_lacks 10 = .ok (.iadd, 1) := by decide +kernel
theorem d_A_lacks_11 : decode b_A_lacks 11 = .ok (.iaload, 1) := by decide +kernel
theorem d_A_lacks_12 : decode b_A_lacks 12 = .ok (.iload_n 2, 1) := by decide +kernel
theorem d_A_lacks_13 : decode b_A_lacks 13 = .ok (.invokevirtual 35, 3) := by decide +kernel
theorem d_A_lacks_16 : decode b_A_lacks 16 = .ok (.ireturn, 1) := by decide +kernel
theorem d_Q_isNull_0 : decode b_Q_isNull 0 = .ok (.aload_n 0, 1) := by decide +kernel
theorem d_Q_isNull_1 : decode b_Q_isNull 1 = .ok (.getfield 33, 3) := by decide +kernel
theorem d_Q_isNull_4 : decode b_Q_isNull 4 = .ok (.iload_n 1, 1) := by decide +kernel
theorem d_Q_isNull_5 : decode b_Q_isNull 5 = .ok (.iload_n 2, 1) := by decide +kernel
theorem d_Q_isNull_6 : decode b_Q_isNull 6 = .ok (.invokevirtual 160, 3) := by decide +kernel
theorem d_Q_isNull_9 : decode b_Q_isNull 9 = .ok (.ifCond .eq 19, 3) := by decide +kernel
theorem d_Q_isNull_12 : decode b_Q_isNull 12 = .ok (.aload_n 0, 1) := by decide +kernel
theorem d_Q_isNull_13 : decode b_Q_isNull 13 = .ok (.getfield 33, 3) := by decide +kernel
theorem d_Q_isNull_16 : decode b_Q_isNull 16 = .ok (.iload_n 1, 1) := by decide +kernel
theorem d_Q_isNull_17 : decode b_Q_isNull 17 = .ok (.iload_n 2, 1) := by decide +kernel
theorem d_Q_isNull_18 : decode b_Q_isNull 18 = .ok (.invokevirtual 166, 3) := by decide +kernel
theorem d_Q_isNull_21 : decode b_Q_isNull 21 = .ok (.ifCond .eq 7, 3) := by decide +kernel
theorem d_Q_isNull_24 : decode b_Q_isNull 24 = .ok (.iconst 1, 1) := by decide +kernel
theorem d_Q_isNull_25 : decode b_Q_isNull 25 = .ok (.goto 4, 3) := by decide +kernel
theorem d_Q_isNull_28 : decode b_Q_isNull 28 = .ok (.iconst 0, 1) := by decide +kernel
theorem d_Q_isNull_29 : decode b_Q_isNull 29 = .ok (.ireturn, 1) := by decide +kernel
theorem d_Q_answer_0 : decode b_Q_answer 0 = .ok (.iload_n 1, 1) := by decide +kernel
theorem d_Q_answer_1 : decode b_Q_answer 1 = .ok (.ifCond .ne 11, 3) := by decide +kernel
theorem d_Q_answer_4 : decode b_Q_answer 4 = .ok (.aload_n 0, 1) := by decide +kernel
theorem d_Q_answer_5 : decode b_Q_answer 5 = .ok (.getfield 33, 3) := by decide +kernel
theorem d_Q_answer_8 : decode b_Q_answer 8 = .ok (.getfield 157, 3) := by decide +kernel
theorem d_Q_answer_11 : decode b_Q_answer 11 = .ok (.ireturn, 1) := by decide +kernel
theorem d_Q_answer_12 : decode b_Q_answer 12 = .ok (.iload_n 1, 1) := by decide +kernel
theorem d_Q_answer_13 : decode b_Q_answer 13 = .ok (.iconst 1, 1) := by decide +kernel
theorem d_Q_answer_14 : decode b_Q_answer 14 = .ok (.if_icmp .ne 13, 3) := by decide +kernel
theorem d_Q_answer_17 : decode b_Q_answer 17 = .ok (.aload_n 0, 1) := by decide +kernel
theorem d_Q_answer_18 : decode b_Q_answer 18 = .ok (.getfield 33, 3) := by decide +kernel
theorem d_Q_answer_21 : decode b_Q_answer 21 = .ok (.getfield 169, 3) := by decide +kernel
theorem d_Q_answer_24 : decode b_Q_answer 24 = .ok (.goto 4, 3) := by decide +kernel
theorem d_Q_answer_27 : decode b_Q_answer 27 = .ok (.iconst (-1), 1) := by decide +kernel
theorem d_Q_answer_28 : decode b_Q_answer 28 = .ok (.ireturn, 1) := by decide +kernel
theorem d_M_within_0 : decode b_M_within 0 = .ok (.lload_n 0, 1) := by decide +kernel
theorem d_M_within_1 : decode b_M_within 1 = .ok (.lload_n 2, 1) := by decide +kernel
theorem d_M_within_2 : decode b_M_within 2 = .ok (.lcmp, 1) := by decide +kernel
theorem d_M_within_3 : decode b_M_within 3 = .ok (.ifCond .lt 14, 3) := by decide +kernel
theorem d_M_within_6 : decode b_M_within 6 = .ok (.lload_n 0, 1) := by decide +kernel
theorem d_M_within_7 : decode b_M_within 7 = .ok (.lload 4, 2) := by decide +kernel
theorem d_M_within_9 : decode b_M_within 9 = .ok (.lcmp, 1) := by decide +kernel
theorem d_M_within_10 : decode b_M_within 10 = .ok (.ifCond .gt 7, 3) := by decide +kernel
theorem d_M_within_13 : decode b_M_within 13 = .ok (.iconst 1, 1) := by decide +kernel
theorem d_M_within_14 : decode b_M_within 14 = .ok (.goto 4, 3) := by decide +kernel
theorem d_M_within_17 : decode b_M_within 17 = .ok (.iconst 0, 1) := by decide +kernel
theorem d_M_within_18 : decode b_M_within 18 = .ok (.ireturn, 1) := by decide +kernel
theorem d_M_table_0 : decode b_M_table 0 = .ok (.iload_n 1, 1) := by decide +kernel
theorem d_M_table_1 : decode b_M_table 1 = .ok (.i2l, 1) := by decide +kernel
theorem d_M_table_2 : decode b_M_table 2 = .ok (.lconst 1, 1) := by decide +kernel
theorem d_M_table_3 : decode b_M_table 3 = .ok (.ldc2_w 124, 3) := by decide +kernel
theorem d_M_table_6 : decode b_M_table 6 = .ok (.invokestatic 126, 3) := by decide +kernel
theorem d_M_table_9 : decode b_M_table 9 = .ok (.ifCond .ne 6, 3) := by decide +kernel
theorem d_M_table_12 : decode b_M_table 12 = .ok (.bipush (-102), 2) := by decide +kernel
theorem d_M_table_14 : decode b_M_table 14 = .ok (.ireturn, 1) := by decide +kernel
theorem d_M_table_15 : decode b_M_table 15 = .ok (.aload_n 0, 1) := by decide +kernel
theorem d_M_table_16 : decode b_M_table 16 = .ok (.getfield 130, 3) := by decide +kernel
theorem d_M_table_19 : decode b_M_table 19 = .ok (.bipush 6, 2) := by decide +kernel
theorem d_M_table_21 : decode b_M_table 21 = .ok (.if_icmp .ne 6, 3) := by decide +kernel
theorem d_M_table_24 : decode b_M_table 24 = .ok (.bipush (-104), 2) := by decide +kernel
theorem d_M_table_26 : decode b_M_table 26 = .ok (.ireturn, 1) := by decide +kernel
theorem d_M_table_27 : decode b_M_table 27 = .ok (.aload_n 0, 1) := by decide +kernel
theorem d_M_table_28 : decode b_M_table 28 = .ok (.getfield 7, 3) := by decide +kernel
theorem d_M_table_31 : decode b_M_table 31 = .ok (.aload_n 0, 1) := by decide +kernel
theorem d_M_table_32 : decode b_M_table 32 = .ok (.getfield 130, 3) := by decide +kernel
theorem d_M_table_35 : decode b_M_table 35 = .ok (.iload_n 1, 1) := by decide +kernel
theorem d_M_table_36 : decode b_M_table 36 = .ok (.iastore, 1) := by decide +kernel
theorem d_M_table_37 : decode b_M_table 37 = .ok (.aload_n 0, 1) := by decide +kernel
theorem d_M_table_38 : decode b_M_table 38 = .ok (.getfield 13, 3) := by decide +kernel
theorem d_M_table_41 : decode b_M_table 41 = .ok (.aload_n 0, 1) := by decide +kernel
theorem d_M_table_42 : decode b_M_table 42 = .ok (.getfield 130, 3) := by decide +kernel
theorem d_M_table_45 : decode b_M_table 45 = .ok (.iconst 0, 1) := by decide +kernel
theorem d_M_table_46 : decode b_M_table 46 = .ok (.iastore, 1) := by decide +kernel
theorem d_M_table_47 : decode b_M_table 47 = .ok (.aload_n 0, 1) := by decide +kernel
theorem d_M_table_48 : decode b_M_table 48 = .ok (.dup, 1) := by decide +kernel
theorem d_M_table_49 : decode b_M_table 49 = .ok (.getfield 130, 3) := by decide +kernel
theorem d_M_table_52 : decode b_M_table 52 = .ok (.iconst 1, 1) := by decide +kernel
theorem d_M_table_53 : decode b_M_table 53 = .ok (.iadd, 1) := by decide +kernel
theorem d_M_table_54 : decode b_M_table 54 = .ok (.putfield 130, 3) := by decide +kernel
theorem d_M_table_57 : decode b_M_table 57 = .ok (.aload_n 0, 1) := by decide +kernel
theorem d_M_table_58 : decode b_M_table 58 = .ok (.getfield 130, 3) := by decide +kernel
theorem d_M_table_61 : decode b_M_table 61 = .ok (.iconst 1, 1) := by decide +kernel
theorem d_M_table_62 : decode b_M_table 62 = .ok (.isub, 1) := by decide +kernel
theorem d_M_table_63 : decode b_M_table 63 = .ok (.ireturn, 1) := by decide +kernel
theorem d_M_insert_0 : decode b_M_insert 0 = .ok (.iload_n 1, 1) := by decide +kernel
theorem d_M_insert_1 : decode b_M_insert 1 = .ok (.i2l, 1) := by decide +kernel
theorem d_M_insert_2 : decode b_M_insert 2 = .ok (.lconst 0, 1) := by decide +kernel
theorem d_M_insert_3 : decode b_M_insert 3 = .ok (.aload_n 0, 1) := by decide +kernel
theorem d_M_insert_4 : decode b_M_insert 4 = .ok (.getfield 130, 3) := by decide +kernel
theorem d_M_insert_7 : decode b_M_insert 7 = .ok (.iconst 1, 1) := by decide +kernel
theorem d_M_insert_8 : decode b_M_insert 8 = .ok (.isub, 1) := by decide +kernel
theorem d_M_insert_9 : decode b_M_insert 9 = .ok (.i2l, 1) := by decide +kernel
theorem d_M_insert_10 : decode b_M_insert 10 = .ok (.invokestatic 126, 3) := by decide +kernel
theorem d_M_insert_13 : decode b_M_insert 13 = .ok (.ifCond .ne 6, 3) := by decide +kernel
theorem d_M_insert_16 : decode b_M_insert 16 = .ok (.bipush (-101), 2) := by decide +kernel
theorem d_M_insert_18 : decode b_M_insert 18 = .ok (.ireturn, 1) := by decide +kernel
theorem d_M_insert_19 : decode b_M_insert 19 = .ok (.iconst 1, 1) := by decide +kernel
theorem d_M_insert_20 : decode b_M_insert 20 = .ok (.istore 11, 2) := by decide +kernel
theorem d_M_insert_22 : decode b_M_insert 22 = .ok (.iconst 0, 1) := by decide +kernel
theorem d_M_insert_23 : decode b_M_insert 23 = .ok (.istore 12, 2) := by decide +kernel
theorem d_M_insert_25 : decode b_M_insert 25 = .ok (.iload 12, 2) := by decide +kernel
theorem d_M_insert_27 : decode b_M_insert 27 = .ok (.aload_n 0, 1) := by decide +kernel
theorem d_M_insert_28 : decode b_M_insert 28 = .ok (.getfield 7, 3) := by decide +kernel
theorem d_M_insert_31 : decode b_M_insert 31 = .ok (.iload_n 1, 1) := by decide +kernel
theorem d_M_insert_32 : decode b_M_insert 32 = .ok (.iaload, 1) := by decide +kernel
theorem d_M_insert_33 : decode b_M_insert 33 = .ok (.if_icmp .ge 81, 3) := by decide +kernel
theorem d_M_insert_36 : decode b_M_insert 36 = .ok (.iload 12, 2) := by decide +kernel
theorem d_M_insert_38 : decode b_M_insert 38 = .ok (.ifCond .ne 7, 3) := by decide +kernel
theorem d_M_insert_41 : decode b_M_insert 41 = .ok (.lload_n 2, 1) := by decide +kernel
theorem d_M_insert_42 : decode b_M_insert 42 = .ok (.goto 27, 3) := by decide +kernel
theorem d_M_insert_45 : decode b_M_insert 45 = .ok (.iload 12, 2) := by decide +kernel
theorem d_M_insert_47 : decode b_M_insert 47 = .ok (.iconst 1, 1) := by decide +kernel
theorem d_M_insert_48 : decode b_M_insert 48 = .ok (.if_icmp .ne 8, 3) := by decide +kernel
theorem d_M_insert_51 : decode b_M_insert 51 = .ok (.lload 4, 2) := by decide +kernel
theorem d_M_insert_53 : decode b_M_insert 53 = .ok (.goto 16, 3) := by decide +kernel
theorem d_M_insert_56 : decode b_M_insert 56 = .ok (.iload 12, 2) := by decide +kernel
theorem d_M_insert_58 : decode b_M_insert 58 = .ok (.iconst 2, 1) := by decide +kernel
theorem d_M_insert_59 : decode b_M_insert 59 = .ok (.if_icmp .ne 8, 3) := by decide +kernel
theorem d_M_insert_62 : decode b_M_insert 62 = .ok (.lload 6, 2) := by decide +kernel
theorem d_M_insert_64 : decode b_M_insert 64 = .ok (.goto 5, 3) := by decide +kernel
theorem d_M_insert_67 : decode b_M_insert 67 = .ok (.lload 8, 2) := by decide +kernel
theorem d_M_insert_69 : decode b_M_insert 69 = .ok (.lstore 13, 2) := by decide +kernel
theorem d_M_insert_71 : decode b_M_insert 71 = .ok (.iload 11, 2) := by decide +kernel
theorem d_M_insert_73 : decode b_M_insert 73 = .ok (.ifCond .eq 32, 3) := by decide +kernel
theorem d_M_insert_76 : decode b_M_insert 76 = .ok (.iload 10, 2) := by decide +kernel
theorem d_M_insert_78 : decode b_M_insert 78 = .ok (.iload 12, 2) := by decide +kernel
theorem d_M_insert_80 : decode b_M_insert 80 = .ok (.ishr, 1) := by decide +kernel
theorem d_M_insert_81 : decode b_M_insert 81 = .ok (.iconst 1, 1) := by decide +kernel
theorem d_M_insert_82 : decode b_M_insert 82 = .ok (.iand, 1) := by decide +kernel
theorem d_M_insert_83 : decode b_M_insert 83 = .ok (.iconst 1, 1) := by decide +kernel
theorem d_M_insert_84 : decode b_M_insert 84 = .ok (.if_icmp .eq 17, 3) := by decide +kernel
theorem d_M_insert_87 : decode b_M_insert 87 = .ok (.lload 13, 2) := by decide +kernel
theorem d_M_insert_89 : decode b_M_insert 89 = .ok (.ldc2_w 133, 3) := by decide +kernel
theorem d_M_insert_92 : decode b_M_insert 92 = .ok (.ldc2_w 135, 3) := by decide +kernel
theorem d_M_insert_95 : decode b_M_insert 95 = .ok (.invokestatic 126, 3) := by decide +kernel
theorem d_M_insert_98 : decode b_M_insert 98 = .ok (.ifCond .eq 7, 3) := by decide +kernel
theorem d_M_insert_101 : decode b_M_insert 101 = .ok (.iconst 1, 1) := by decide +kernel
theorem d_M_insert_102 : decode b_M_insert 102 = .ok (.goto 4, 3) := by decide +kernel
theorem d_M_insert_105 : decode b_M_insert 105 = .ok (.iconst 0, 1) := by decide +kernel
theorem d_M_insert_106 : decode b_M_insert 106 = .ok (.istore 11, 2) := by decide +kernel
theorem d_M_insert_108 : decode b_M_insert 108 = .ok (.iinc 12 1, 3) := by decide +kernel
theorem d_M_insert_111 : decode b_M_insert 111 = .ok (.goto (-86), 3) := by decide +kernel
theorem d_M_insert_114 : decode b_M_insert 114 = .ok (.iload 11, 2) := by decide +kernel
theorem d_M_insert_116 : decode b_M_insert 116 = .ok (.ifCond .ne 6, 3) := by decide +kernel
theorem d_M_insert_119 : decode b_M_insert 119 = .ok (.bipush (-102), 2) := by decide +kernel
theorem d_M_insert_121 : decode b_M_insert 121 = .ok (.ireturn, 1) := by decide +kernel
theorem d_M_insert_122 : decode b_M_insert 122 = .ok (.aload_n 0, 1) := by decide +kernel
theorem d_M_insert_123 : decode b_M_insert 123 = .ok (.getfield 13, 3) := by decide +kernel
theorem d_M_insert_126 : decode b_M_insert 126 = .ok (.iload_n 1, 1) := by decide +kernel
theorem d_M_insert_127 : decode b_M_insert 127 = .ok (.iaload, 1) := by decide +kernel
theorem d_M_insert_128 : decode b_M_insert 128 = .ok (.bipush 8, 2) := by decide +kernel
theorem d_M_insert_130 : decode b_M_insert 130 = .ok (.if_icmp .ne 6, 3) := by decide +kernel
theorem d_M_insert_133 : decode b_M_insert 133 = .ok (.bipush (-104), 2) := by decide +kernel
theorem d_M_insert_135 : decode b_M_insert 135 = .ok (.ireturn, 1) := by decide +kernel
theorem d_M_insert_136 : decode b_M_insert 136 = .ok (.iconst 0, 1) := by decide +kernel
theorem d_M_insert_137 : decode b_M_insert 137 = .ok (.istore 12, 2) := by decide +kernel
theorem d_M_insert_139 : decode b_M_insert 139 = .ok (.iload 12, 2) := by decide +kernel
theorem d_M_insert_141 : decode b_M_insert 141 = .ok (.aload_n 0, 1) := by decide +kernel
theorem d_M_insert_142 : decode b_M_insert 142 = .ok (.getfield 7, 3) := by decide +kernel
theorem d_M_insert_145 : decode b_M_insert 145 = .ok (.iload_n 1, 1) := by decide +kernel
theorem d_M_insert_146 : decode b_M_insert 146 = .ok (.iaload, 1) := by decide +kernel
theorem d_M_insert_147 : decode b_M_insert 147 = .ok (.if_icmp .ge 90, 3) := by decide +kernel
theorem d_M_insert_150 : decode b_M_insert 150 = .ok (.bipush 32, 2) := by decide +kernel
theorem d_M_insert_152 : decode b_M_insert 152 = .ok (.iload_n 1, 1) := by decide +kernel
theorem d_M_insert_153 : decode b_M_insert 153 = .ok (.imul, 1) := by decide +kernel
theorem d_M_insert_154 : decode b_M_insert 154 = .ok (.iconst 4, 1) := by decide +kernel
theorem d_M_insert_155 : decode b_M_insert 155 = .ok (.aload_n 0, 1) := by decide +kernel
theorem d_M_insert_156 : decode b_M_insert 156 = .ok (.getfield 13, 3) := by decide +kernel
theorem d_M_insert_159 : decode b_M_insert 159 = .ok (.iload_n 1, 1) := by decide +kernel
theorem d_M_insert_160 : decode b_M_insert 160 = .ok (.iaload, 1) := by decide +kernel
theorem d_M_insert_161 : decode b_M_insert 161 = .ok (.imul, 1) := by decide +kernel
theorem d_M_insert_162 : decode b_M_insert 162 = .ok (.iadd, 1) := by decide +kernel
theorem d_M_insert_163 : decode b_M_insert 163 = .ok (.iload 12, 2) := by decide +kernel
theorem d_M_insert_165 : decode b_M_insert 165 = .ok (.iadd, 1) := by decide +kernel
theorem d_M_insert_166 : decode b_M_insert 166 = .ok (.istore 13, 2) := by decide +kernel
theorem d_M_insert_168 : decode b_M_insert 168 = .ok (.aload_n 0, 1) := by decide +kernel
theorem d_M_insert_169 : decode b_M_insert 169 = .ok (.getfield 20, 3) := by decide +kernel
theorem d_M_insert_172 : decode b_M_insert 172 = .ok (.iload 13, 2) := by decide +kernel
theorem d_M_insert_174 : decode b_M_insert 174 = .ok (.iload 10, 2) := by decide +kernel
theorem d_M_insert_176 : decode b_M_insert 176 = .ok (.iload 12, 2) := by decide +kernel
theorem d_M_insert_178 : decode b_M_insert 178 = .ok (.ishr, 1) := by decide +kernel
theorem d_M_insert_179 : decode b_M_insert 179 = .ok (.iconst 1, 1) := by decide +kernel
theorem d_M_insert_180 : decode b_M_insert 180 = .ok (.iand, 1) := by decide +kernel
theorem d_M_insert_181 : decode b_M_insert 181 = .ok (.iconst 1, 1) := by decide +kernel
theorem d_M_insert_182 : decode b_M_insert 182 = .ok (.if_icmp .ne 7, 3) := by decide +kernel
theorem d_M_insert_185 : decode b_M_insert 185 = .ok (.iconst 1, 1) := by decide +kernel
theorem d_M_insert_186 : decode b_M_insert 186 = .ok (.goto 4, 3) := by decide +kernel
theorem d_M_insert_189 : decode b_M_insert 189 = .ok (.iconst 0, 1) := by decide +kernel
theorem d_M_insert_190 : decode b_M_insert 190 = .ok (.bastore, 1) := by decide +kernel
theorem d_M_insert_191 : decode b_M_insert 191 = .ok (.aload_n 0, 1) := by decide +kernel
theorem d_M_insert_192 : decode b_M_insert 192 = .ok (.getfield 16, 3) := by decide +kernel
theorem d_M_insert_195 : decode b_M_insert 195 = .ok (.iload 13, 2) := by decide +kernel
theorem d_M_insert_197 : decode b_M_insert 197 = .ok (.iload 12, 2) := by decide +kernel
theorem d_M_insert_199 : decode b_M_insert 199 = .ok (.ifCond .ne 7, 3) := by decide +kernel
theorem d_M_insert_202 : decode b_M_insert 202 = .ok (.lload_n 2, 1) := by decide +kernel
theorem d_M_insert_203 : decode b_M_insert 203 = .ok (.goto 27, 3) := by decide +kernel
theorem d_M_insert_206 : decode b_M_insert 206 = .ok (.iload 12, 2) := by decide +kernel
theorem d_M_insert_208 : decode b_M_insert 208 = .ok (.iconst 1, 1) := by decide +kernel
theorem d_M_insert_209 : decode b_M_insert 209 = .ok (.if_icmp .ne 8, 3) := by decide +kernel
theorem d_M_insert_212 : decode b_M_insert 212 = .ok (.lload 4, 2) := by decide +kernel
theorem d_M_insert_214 : decode b_M_insert 214 = .ok (.goto 16, 3) := by decide +kernel
theorem d_M_insert_217 : decode b_M_insert 217 = .ok (.iload 12, 2) := by decide +kernel
theorem d_M_insert_219 : decode b_M_insert 219 = .ok (.iconst 2, 1) := by decide +kernel
theorem d_M_insert_220 : decode b_M_insert 220 = .ok (.if_icmp .ne 8, 3) := by decide +kernel
theorem d_M_insert_223 : decode b_M_insert 223 = .ok (.lload 6, 2) := by decide +kernel
theorem d_M_insert_225 : decode b_M_insert 225 = .ok (.goto 5, 3) := by decide +kernel
theorem d_M_insert_228 : decode b_M_insert 228 = .ok (.lload 8, 2) := by decide +kernel
theorem d_M_insert_230 : decode b_M_insert 230 = .ok (.lastore, 1) := by decide +kernel
theorem d_M_insert_231 : decode b_M_insert 231 = .ok (.iinc 12 1, 3) := by decide +kernel
theorem d_M_insert_234 : decode b_M_insert 234 = .ok (.goto (-95), 3) := by decide +kernel
theorem d_M_insert_237 : decode b_M_insert 237 = .ok (.aload_n 0, 1) := by decide +kernel
theorem d_M_insert_238 : decode b_M_insert 238 = .ok (.getfield 13, 3) := by decide +kernel
theorem d_M_insert_241 : decode b_M_insert 241 = .ok (.iload_n 1, 1) := by decide +kernel
theorem d_M_insert_242 : decode b_M_insert 242 = .ok (.dup2, 1) := by decide +kernel
theorem d_M_insert_243 : decode b_M_insert 243 = .ok (.iaload, 1) := by decide +kernel
theorem d_M_insert_244 : decode b_M_insert 244 = .ok (.iconst 1, 1) := by decide +kernel
theorem d_M_insert_245 : decode b_M_insert 245 = .ok (.iadd, 1) := by decide +kernel
theorem d_M_insert_246 : decode b_M_insert 246 = .ok (.iastore, 1) := by decide +kernel
theorem d_M_insert_247 : decode b_M_insert 247 = .ok (.aload_n 0, 1) := by decide +kernel
theorem d_M_insert_248 : decode b_M_insert 248 = .ok (.getfield 13, 3) := by decide +kernel
theorem d_M_insert_251 : decode b_M_insert 251 = .ok (.iload_n 1, 1) := by decide +kernel
theorem d_M_insert_252 : decode b_M_insert 252 = .ok (.iaload, 1) := by decide +kernel
theorem d_M_insert_253 : decode b_M_insert 253 = .ok (.ireturn, 1) := by decide +kernel
theorem d_M_fresh_0 : decode b_M_fresh 0 = .ok (.aload_n 0, 1) := by decide +kernel
theorem d_M_fresh_1 : decode b_M_fresh 1 = .ok (.getfield 137, 3) := by decide +kernel
theorem d_M_fresh_4 : decode b_M_fresh 4 = .ok (.istore_n 1, 1) := by decide +kernel
theorem d_M_fresh_5 : decode b_M_fresh 5 = .ok (.aload_n 0, 1) := by decide +kernel
theorem d_M_fresh_6 : decode b_M_fresh 6 = .ok (.iconst 0, 1) := by decide +kernel
theorem d_M_fresh_7 : decode b_M_fresh 7 = .ok (.putfield 137, 3) := by decide +kernel
theorem d_M_fresh_10 : decode b_M_fresh 10 = .ok (.aload_n 0, 1) := by decide +kernel
theorem d_M_fresh_11 : decode b_M_fresh 11 = .ok (.iconst 0, 1) := by decide +kernel
theorem d_M_fresh_12 : decode b_M_fresh 12 = .ok (.putfield 140, 3) := by decide +kernel
theorem d_M_fresh_15 : decode b_M_fresh 15 = .ok (.aload_n 0, 1) := by decide +kernel
theorem d_M_fresh_16 : decode b_M_fresh 16 = .ok (.iconst 0, 1) := by decide +kernel
theorem d_M_fresh_17 : decode b_M_fresh 17 = .ok (.putfield 143, 3) := by decide +kernel
theorem d_M_fresh_20 : decode b_M_fresh 20 = .ok (.aload_n 0, 1) := by decide +kernel
theorem d_M_fresh_21 : decode b_M_fresh 21 = .ok (.iconst (-1), 1) := by decide +kernel
theorem d_M_fresh_22 : decode b_M_fresh 22 = .ok (.putfield 60, 3) := by decide +kernel
theorem d_M_fresh_25 : decode b_M_fresh 25 = .ok (.aload_n 0, 1) := by decide +kernel
theorem d_M_fresh_26 : decode b_M_fresh 26 = .ok (.iconst (-1), 1) := by decide +kernel
theorem d_M_fresh_27 : decode b_M_fresh 27 = .ok (.putfield 64, 3) := by decide +kernel
theorem d_M_fresh_30 : decode b_M_fresh 30 = .ok (.aload_n 0, 1) := by decide +kernel
theorem d_M_fresh_31 : decode b_M_fresh 31 = .ok (.iconst 0, 1) := by decide +kernel
theorem d_M_fresh_32 : decode b_M_fresh 32 = .ok (.putfield 146, 3) := by decide +kernel
theorem d_M_fresh_35 : decode b_M_fresh 35 = .ok (.aload_n 0, 1) := by decide +kernel
theorem d_M_fresh_36 : decode b_M_fresh 36 = .ok (.iconst 0, 1) := by decide +kernel
theorem d_M_fresh_37 : decode b_M_fresh 37 = .ok (.putfield 149, 3) := by decide +kernel
theorem d_M_fresh_40 : decode b_M_fresh 40 = .ok (.aload_n 0, 1) := by decide +kernel
theorem d_M_fresh_41 : decode b_M_fresh 41 = .ok (.iconst 0, 1) := by decide +kernel
theorem d_M_fresh_42 : decode b_M_fresh 42 = .ok (.putfield 152, 3) := by decide +kernel
theorem d_M_fresh_45 : decode b_M_fresh 45 = .ok (.aload_n 0, 1) := by decide +kernel
theorem d_M_fresh_46 : decode b_M_fresh 46 = .ok (.iconst 0, 1) := by decide +kernel
theorem d_M_fresh_47 : decode b_M_fresh 47 = .ok (.putfield 155, 3) := by decide +kernel
theorem d_M_fresh_50 : decode b_M_fresh 50 = .ok (.aload_n 0, 1) := by decide +kernel
theorem d_M_fresh_51 : decode b_M_fresh 51 = .ok (.sipush 1000, 3) := by decide +kernel
theorem d_M_fresh_54 : decode b_M_fresh 54 = .ok (.putfield 79, 3) := by decide +kernel
theorem d_M_fresh_57 : decode b_M_fresh 57 = .ok (.aload_n 0, 1) := by decide +kernel
theorem d_M_fresh_58 : decode b_M_fresh 58 = .ok (.iconst 0, 1) := by decide +kernel
theorem d_M_fresh_59 : decode b_M_fresh 59 = .ok (.putfield 159, 3) := by decide +kernel
theorem d_M_fresh_62 : decode b_M_fresh 62 = .ok (.iload_n 1, 1) := by decide +kernel
theorem d_M_fresh_63 : decode b_M_fresh 63 = .ok (.ireturn, 1) := by decide +kernel
theorem d_M_isTwo_0 : decode b_M_isTwo 0 = .ok (.iload_n 1, 1) := by decide +kernel
theorem d_M_isTwo_1 : decode b_M_isTwo 1 = .ok (.bipush 11, 2) := by decide +kernel
theorem d_M_isTwo_3 : decode b_M_isTwo 3 = .ok (.if_icmp .ge 7, 3) := by decide +kernel
theorem d_M_isTwo_6 : decode b_M_isTwo 6 = .ok (.iconst 1, 1) := by decide +kernel
theorem d_M_isTwo_7 : decode b_M_isTwo 7 = .ok (.goto 4, 3) := by decide +kernel
theorem d_M_isTwo_10 : decode b_M_isTwo 10 = .ok (.iconst 0, 1) := by decide +kernel
theorem d_M_isTwo_11 : decode b_M_isTwo 11 = .ok (.ireturn, 1) := by decide +kernel
theorem d_M_isLike_0 : decode b_M_isLike 0 = .ok (.aload_n 0, 1) := by decide +kernel
theorem d_M_isLike_1 : decode b_M_isLike 1 = .ok (.getfield 24, 3) := by decide +kernel
theorem d_M_isLike_4 : decode b_M_isLike 4 = .ok (.iload_n 1, 1) := by decide +kernel
theorem d_M_isLike_5 : decode b_M_isLike 5 = .ok (.iaload, 1) := by decide +kernel
theorem d_M_isLike_6 : decode b_M_isLike 6 = .ok (.aload_n 0, 1) := by decide +kernel
theorem d_M_isLike_7 : decode b_M_isLike 7 = .ok (.getfield 24, 3) := by decide +kernel
theorem d_M_isLike_10 : decode b_M_isLike 10 = .ok (.iload_n 2, 1) := by decide +kernel
theorem d_M_isLike_11 : decode b_M_isLike 11 = .ok (.iaload, 1) := by decide +kernel
theorem d_M_isLike_12 : decode b_M_isLike 12 = .ok (.if_icmp .ne 18, 3) := by decide +kernel
theorem d_M_isLike_15 : decode b_M_isLike 15 = .ok (.aload_n 0, 1) := by decide +kernel
theorem d_M_isLike_16 : decode b_M_isLike 16 = .ok (.getfield 36, 3) := by decide +kernel
theorem d_M_isLike_19 : decode b_M_isLike 19 = .ok (.iload_n 1, 1) := by decide +kernel
theorem d_M_isLike_20 : decode b_M_isLike 20 = .ok (.baload, 1) := by decide +kernel
theorem d_M_isLike_21 : decode b_M_isLike 21 = .ok (.aload_n 0, 1) := by decide +kernel
theorem d_M_isLike_22 : decode b_M_isLike 22 = .ok (.getfield 36, 3) := by decide +kernel
theorem d_M_isLike_25 : decode b_M_isLike 25 = .ok (.iload_n 2, 1) := by decide +kernel
theorem d_M_isLike_26 : decode b_M_isLike 26 = .ok (.baload, 1) := by decide +kernel
theorem d_M_isLike_27 : decode b_M_isLike 27 = .ok (.if_icmp .eq 5, 3) := by decide +kernel
theorem d_M_isLike_30 : decode b_M_isLike 30 = .ok (.iconst 0, 1) := by decide +kernel
theorem d_M_isLike_31 : decode b_M_isLike 31 = .ok (.ireturn, 1) := by decide +kernel
theorem d_M_isLike_32 : decode b_M_isLike 32 = .ok (.aload_n 0, 1) := by decide +kernel
theorem d_M_isLike_33 : decode b_M_isLike 33 = .ok (.getfield 24, 3) := by decide +kernel
theorem d_M_isLike_36 : decode b_M_isLike 36 = .ok (.iload_n 1, 1) := by decide +kernel
theorem d_M_isLike_37 : decode b_M_isLike 37 = .ok (.iaload, 1) := by decide +kernel
theorem d_M_isLike_38 : decode b_M_isLike 38 = .ok (.bipush 20, 2) := by decide +kernel
theorem d_M_isLike_40 : decode b_M_isLike 40 = .ok (.if_icmp .ne 34, 3) := by decide +kernel
theorem d_M_isLike_43 : decode b_M_isLike 43 = .ok (.aload_n 0, 1) := by decide +kernel
theorem d_M_isLike_44 : decode b_M_isLike 44 = .ok (.getfield 36, 3) := by decide +kernel
theorem d_M_isLike_47 : decode b_M_isLike 47 = .ok (.iload_n 1, 1) := by decide +kernel
theorem d_M_isLike_48 : decode b_M_isLike 48 = .ok (.baload, 1) := by decide +kernel
theorem d_M_isLike_49 : decode b_M_isLike 49 = .ok (.ifCond .ne 19, 3) := by decide +kernel
theorem d_M_isLike_52 : decode b_M_isLike 52 = .ok (.aload_n 0, 1) := by decide +kernel
theorem d_M_isLike_53 : decode b_M_isLike 53 = .ok (.getfield 33, 3) := by decide +kernel
theorem d_M_isLike_56 : decode b_M_isLike 56 = .ok (.iload_n 1, 1) := by decide +kernel
theorem d_M_isLike_57 : decode b_M_isLike 57 = .ok (.laload, 1) := by decide +kernel
theorem d_M_isLike_58 : decode b_M_isLike 58 = .ok (.aload_n 0, 1) := by decide +kernel
theorem d_M_isLike_59 : decode b_M_isLike 59 = .ok (.getfield 33, 3) := by decide +kernel
theorem d_M_isLike_62 : decode b_M_isLike 62 = .ok (.iload_n 2, 1) := by decide +kernel
theorem d_M_isLike_63 : decode b_M_isLike 63 = .ok (.laload, 1) := by decide +kernel
theorem d_M_isLike_64 : decode b_M_isLike 64 = .ok (.lcmp, 1) := by decide +kernel
theorem d_M_isLike_65 : decode b_M_isLike 65 = .ok (.ifCond .ne 7, 3) := by decide +kernel
theorem d_M_isLike_68 : decode b_M_isLike 68 = .ok (.iconst 1, 1) := by decide +kernel
theorem d_M_isLike_69 : decode b_M_isLike 69 = .ok (.goto 4, 3) := by decide +kernel
theorem d_M_isLike_72 : decode b_M_isLike 72 = .ok (.iconst 0, 1) := by decide +kernel
theorem d_M_isLike_73 : decode b_M_isLike 73 = .ok (.ireturn, 1) := by decide +kernel
theorem d_M_isLike_74 : decode b_M_isLike 74 = .ok (.aload_n 0, 1) := by decide +kernel
theorem d_M_isLike_75 : decode b_M_isLike 75 = .ok (.getfield 24, 3) := by decide +kernel
theorem d_M_isLike_78 : decode b_M_isLike 78 = .ok (.iload_n 1, 1) := by decide +kernel
theorem d_M_isLike_79 : decode b_M_isLike 79 = .ok (.iaload, 1) := by decide +kernel
theorem d_M_isLike_80 : decode b_M_isLike 80 = .ok (.bipush 21, 2) := by decide +kernel
theorem d_M_isLike_82 : decode b_M_isLike 82 = .ok (.if_icmp .ne 39, 3) := by decide +kernel
theorem d_M_isLike_85 : decode b_M_isLike 85 = .ok (.aload_n 0, 1) := by decide +kernel
theorem d_M_isLike_86 : decode b_M_isLike 86 = .ok (.getfield 27, 3) := by decide +kernel
theorem d_M_isLike_89 : decode b_M_isLike 89 = .ok (.iload_n 1, 1) := by decide +kernel
theorem d_M_isLike_90 : decode b_M_isLike 90 = .ok (.iaload, 1) := by decide +kernel
theorem d_M_isLike_91 : decode b_M_isLike 91 = .ok (.aload_n 0, 1) := by decide +kernel
theorem d_M_isLike_92 : decode b_M_isLike 92 = .ok (.getfield 27, 3) := by decide +kernel
theorem d_M_isLike_95 : decode b_M_isLike 95 = .ok (.iload_n 2, 1) := by decide +kernel
theorem d_M_isLike_96 : decode b_M_isLike 96 = .ok (.iaload, 1) := by decide +kernel
theorem d_M_isLike_97 : decode b_M_isLike 97 = .ok (.if_icmp .ne 22, 3) := by decide +kernel
theorem d_M_isLike_100 : decode b_M_isLike 100 = .ok (.aload_n 0, 1) := by decide +kernel
theorem d_M_isLike_101 : decode b_M_isLike 101 = .ok (.getfield 30, 3) := by decide +kernel
theorem d_M_isLike_104 : decode b_M_isLike 104 = .ok (.iload_n 1, 1) := by decide +kernel
theorem d_M_isLike_105 : decode b_M_isLike 105 = .ok (.iaload, 1) := by decide +kernel
theorem d_M_isLike_106 : decode b_M_isLike 106 = .ok (.aload_n 0, 1) := by decide +kernel
theorem d_M_isLike_107 : decode b_M_isLike 107 = .ok (.getfield 30, 3) := by decide +kernel
theorem d_M_isLike_110 : decode b_M_isLike 110 = .ok (.iload_n 2, 1) := by decide +kernel
theorem d_M_isLike_111 : decode b_M_isLike 111 = .ok (.iaload, 1) := by decide +kernel
theorem d_M_isLike_112 : decode b_M_isLike 112 = .ok (.if_icmp .ne 7, 3) := by decide +kernel
theorem d_M_isLike_115 : decode b_M_isLike 115 = .ok (.iconst 1, 1) := by decide +kernel
theorem d_M_isLike_116 : decode b_M_isLike 116 = .ok (.goto 4, 3) := by decide +kernel
theorem d_M_isLike_119 : decode b_M_isLike 119 = .ok (.iconst 0, 1) := by decide +kernel
theorem d_M_isLike_120 : decode b_M_isLike 120 = .ok (.ireturn, 1) := by decide +kernel
theorem d_M_isLike_121 : decode b_M_isLike 121 = .ok (.aload_n 0, 1) := by decide +kernel
theorem d_M_isLike_122 : decode b_M_isLike 122 = .ok (.getfield 45, 3) := by decide +kernel
theorem d_M_isLike_125 : decode b_M_isLike 125 = .ok (.aload_n 0, 1) := by decide +kernel
theorem d_M_isLike_126 : decode b_M_isLike 126 = .ok (.getfield 27, 3) := by decide +kernel
theorem d_M_isLike_129 : decode b_M_isLike 129 = .ok (.iload_n 1, 1) := by decide +kernel
theorem d_M_isLike_130 : decode b_M_isLike 130 = .ok (.iaload, 1) := by decide +kernel
theorem d_M_isLike_131 : decode b_M_isLike 131 = .ok (.iaload, 1) := by decide +kernel
theorem d_M_isLike_132 : decode b_M_isLike 132 = .ok (.aload_n 0, 1) := by decide +kernel
theorem d_M_isLike_133 : decode b_M_isLike 133 = .ok (.getfield 45, 3) := by decide +kernel
theorem d_M_isLike_136 : decode b_M_isLike 136 = .ok (.aload_n 0, 1) := by decide +kernel
theorem d_M_isLike_137 : decode b_M_isLike 137 = .ok (.getfield 27, 3) := by decide +kernel
theorem d_M_isLike_140 : decode b_M_isLike 140 = .ok (.iload_n 2, 1) := by decide +kernel
theorem d_M_isLike_141 : decode b_M_isLike 141 = .ok (.iaload, 1) := by decide +kernel
theorem d_M_isLike_142 : decode b_M_isLike 142 = .ok (.iaload, 1) := by decide +kernel
theorem d_M_isLike_143 : decode b_M_isLike 143 = .ok (.if_icmp .ne 45, 3) := by decide +kernel
theorem d_M_isLike_146 : decode b_M_isLike 146 = .ok (.aload_n 0, 1) := by decide +kernel
theorem d_M_isLike_147 : decode b_M_isLike 147 = .ok (.aload_n 0, 1) := by decide +kernel
theorem d_M_isLike_148 : decode b_M_isLike 148 = .ok (.getfield 24, 3) := by decide +kernel
theorem d_M_isLike_151 : decode b_M_isLike 151 = .ok (.iload_n 1, 1) := by decide +kernel
theorem d_M_isLike_152 : decode b_M_isLike 152 = .ok (.iaload, 1) := by decide +kernel
theorem d_M_isLike_153 : decode b_M_isLike 153 = .ok (.invokevirtual 162, 3) := by decide +kernel
theorem d_M_isLike_156 : decode b_M_isLike 156 = .ok (.ifCond .eq 28, 3) := by decide +kernel
theorem d_M_isLike_159 : decode b_M_isLike 159 = .ok (.aload_n 0, 1) := by decide +kernel
theorem d_M_isLike_160 : decode b_M_isLike 160 = .ok (.getfield 45, 3) := by decide +kernel
theorem d_M_isLike_163 : decode b_M_isLike 163 = .ok (.aload_n 0, 1) := by decide +kernel
theorem d_M_isLike_164 : decode b_M_isLike 164 = .ok (.getfield 30, 3) := by decide +kernel
theorem d_M_isLike_167 : decode b_M_isLike 167 = .ok (.iload_n 1, 1) := by decide +kernel
theorem d_M_isLike_168 : decode b_M_isLike 168 = .ok (.iaload, 1) := by decide +kernel
theorem d_M_isLike_169 : decode b_M_isLike 169 = .ok (.iaload, 1) := by decide +kernel
theorem d_M_isLike_170 : decode b_M_isLike 170 = .ok (.aload_n 0, 1) := by decide +kernel
theorem d_M_isLike_171 : decode b_M_isLike 171 = .ok (.getfield 45, 3) := by decide +kernel
theorem d_M_isLike_174 : decode b_M_isLike 174 = .ok (.aload_n 0, 1) := by decide +kernel
theorem d_M_isLike_175 : decode b_M_isLike 175 = .ok (.getfield 30, 3) := by decide +kernel
theorem d_M_isLike_178 : decode b_M_isLike 178 = .ok (.iload_n 2, 1) := by decide +kernel
theorem d_M_isLike_179 : decode b_M_isLike 179 = .ok (.iaload, 1) := by decide +kernel
theorem d_M_isLike_180 : decode b_M_isLike 180 = .ok (.iaload, 1) := by decide +kernel
theorem d_M_isLike_181 : decode b_M_isLike 181 = .ok (.if_icmp .ne 7, 3) := by decide +kernel
theorem d_M_isLike_184 : decode b_M_isLike 184 = .ok (.iconst 1, 1) := by decide +kernel
theorem d_M_isLike_185 : decode b_M_isLike 185 = .ok (.goto 4, 3) := by decide +kernel
theorem d_M_isLike_188 : decode b_M_isLike 188 = .ok (.iconst 0, 1) := by decide +kernel
theorem d_M_isLike_189 : decode b_M_isLike 189 = .ok (.ireturn, 1) := by decide +kernel
theorem d_M_make_0 : decode b_M_make 0 = .ok (.aload_n 0, 1) := by decide +kernel
theorem d_M_make_1 : decode b_M_make 1 = .ok (.getfield 137, 3) := by decide +kernel
theorem d_M_make_4 : decode b_M_make 4 = .ok (.istore 7, 2) := by decide +kernel
theorem d_M_make_6 : decode b_M_make 6 = .ok (.aload_n 0, 1) := by decide +kernel
theorem d_M_make_7 : decode b_M_make 7 = .ok (.getfield 24, 3) := by decide +kernel
theorem d_M_make_10 : decode b_M_make 10 = .ok (.iload 7, 2) := by decide +kernel
theorem d_M_make_12 : decode b_M_make 12 = .ok (.iload_n 1, 1) := by decide +kernel
theorem d_M_make_13 : decode b_M_make 13 = .ok (.iastore, 1) := by decide +kernel
theorem d_M_make_14 : decode b_M_make 14 = .ok (.aload_n 0, 1) := by decide +kernel
theorem d_M_make_15 : decode b_M_make 15 = .ok (.getfield 27, 3) := by decide +kernel
theorem d_M_make_18 : decode b_M_make 18 = .ok (.iload 7, 2) := by decide +kernel
theorem d_M_make_20 : decode b_M_make 20 = .ok (.iload_n 2, 1) := by decide +kernel
theorem d_M_make_21 : decode b_M_make 21 = .ok (.iastore, 1) := by decide +kernel
theorem d_M_make_22 : decode b_M_make 22 = .ok (.aload_n 0, 1) := by decide +kernel
theorem d_M_make_23 : decode b_M_make 23 = .ok (.getfield 30, 3) := by decide +kernel
theorem d_M_make_26 : decode b_M_make 26 = .ok (.iload 7, 2) := by decide +kernel
theorem d_M_make_28 : decode b_M_make 28 = .ok (.iload_n 3, 1) := by decide +kernel
theorem d_M_make_29 : decode b_M_make 29 = .ok (.iastore, 1) := by decide +kernel
theorem d_M_make_30 : decode b_M_make 30 = .ok (.aload_n 0, 1) := by decide +kernel
theorem d_M_make_31 : decode b_M_make 31 = .ok (.getfield 33, 3) := by decide +kernel
theorem d_M_make_34 : decode b_M_make 34 = .ok (.iload 7, 2) := by decide +kernel
theorem d_M_make_36 : decode b_M_make 36 = .ok (.lload 4, 2) := by decide +kernel
theorem d_M_make_38 : decode b_M_make 38 = .ok (.lastore, 1) := by decide +kernel
theorem d_M_make_39 : decode b_M_make 39 = .ok (.aload_n 0, 1) := by decide +kernel
theorem d_M_make_40 : decode b_M_make 40 = .ok (.getfield 36, 3) := by decide +kernel
theorem d_M_make_43 : decode b_M_make 43 = .ok (.iload 7, 2) := by decide +kernel
theorem d_M_make_45 : decode b_M_make 45 = .ok (.iload 6, 2) := by decide +kernel
theorem d_M_make_47 : decode b_M_make 47 = .ok (.bastore, 1) := by decide +kernel
theorem d_M_make_48 : decode b_M_make 48 = .ok (.iload_n 1, 1) := by decide +kernel
theorem d_M_make_49 : decode b_M_make 49 = .ok (.bipush 12, 2) := by decide +kernel
theorem d_M_make_51 : decode b_M_make 51 = .ok (.if_icmp .le 9, 3) := by decide +kernel
theorem d_M_make_54 : decode b_M_make 54 = .ok (.iload_n 1, 1) := by decide +kernel
theorem d_M_make_55 : decode b_M_make 55 = .ok (.bipush 30, 2) := by decide +kernel
theorem d_M_make_57 : decode b_M_make 57 = .ok (.if_icmp .lt 7, 3) := by decide +kernel
theorem d_M_make_60 : decode b_M_make 60 = .ok (.iconst 1, 1) := by decide +kernel
theorem d_M_make_61 : decode b_M_make 61 = .ok (.goto 4, 3) := by decide +kernel
theorem d_M_make_64 : decode b_M_make 64 = .ok (.iconst 0, 1) := by decide +kernel
theorem d_M_make_65 : decode b_M_make 65 = .ok (.istore 8, 2) := by decide +kernel
theorem d_M_make_67 : decode b_M_make 67 = .ok (.aload_n 0, 1) := by decide +kernel
theorem d_M_make_68 : decode b_M_make 68 = .ok (.getfield 39, 3) := by decide +kernel
theorem d_M_make_71 : decode b_M_make 71 = .ok (.iload 7, 2) := by decide +kernel
theorem d_M_make_73 : decode b_M_make 73 = .ok (.iconst 1, 1) := by decide +kernel
theorem d_M_make_74 : decode b_M_make 74 = .ok (.iload 8, 2) := by decide +kernel
theorem d_M_make_76 : decode b_M_make 76 = .ok (.ifCond .eq 12, 3) := by decide +kernel
theorem d_M_make_79 : decode b_M_make 79 = .ok (.aload_n 0, 1) := by decide +kernel
theorem d_M_make_80 : decode b_M_make 80 = .ok (.getfield 39, 3) := by decide +kernel
theorem d_M_make_83 : decode b_M_make 83 = .ok (.iload_n 2, 1) := by decide +kernel
theorem d_M_make_84 : decode b_M_make 84 = .ok (.iaload, 1) := by decide +kernel
theorem d_M_make_85 : decode b_M_make 85 = .ok (.goto 4, 3) := by decide +kernel
theorem d_M_make_88 : decode b_M_make 88 = .ok (.iconst 0, 1) := by decide +kernel
theorem d_M_make_89 : decode b_M_make 89 = .ok (.iadd, 1) := by decide +kernel
theorem d_M_make_90 : decode b_M_make 90 = .ok (.aload_n 0, 1) := by decide +kernel
theorem d_M_make_91 : decode b_M_make 91 = .ok (.iload_n 1, 1) := by decide +kernel
theorem d_M_make_92 : decode b_M_make 92 = .ok (.invokevirtual 162, 3) := by decide +kernel
theorem d_M_make_95 : decode b_M_make 95 = .ok (.ifCond .eq 12, 3) := by decide +kernel
theorem d_M_make_98 : decode b_M_make 98 = .ok (.aload_n 0, 1) := by decide +kernel
theorem d_M_make_99 : decode b_M_make 99 = .ok (.getfield 39, 3) := by decide +kernel
theorem d_M_make_102 : decode b_M_make 102 = .ok (.iload_n 3, 1) := by decide +kernel
theorem d_M_make_103 : decode b_M_make 103 = .ok (.iaload, 1) := by decide +kernel
theorem d_M_make_104 : decode b_M_make 104 = .ok (.goto 4, 3) := by decide +kernel
theorem d_M_make_107 : decode b_M_make 107 = .ok (.iconst 0, 1) := by decide +kernel
theorem d_M_make_108 : decode b_M_make 108 = .ok (.iadd, 1) := by decide +kernel
theorem d_M_make_109 : decode b_M_make 109 = .ok (.iastore, 1) := by decide +kernel
theorem d_M_make_110 : decode b_M_make 110 = .ok (.aload_n 0, 1) := by decide +kernel
theorem d_M_make_111 : decode b_M_make 111 = .ok (.getfield 42, 3) := by decide +kernel
theorem d_M_make_114 : decode b_M_make 114 = .ok (.iload 7, 2) := by decide +kernel
theorem d_M_make_116 : decode b_M_make 116 = .ok (.iload_n 1, 1) := by decide +kernel
theorem d_M_make_117 : decode b_M_make 117 = .ok (.bipush 30, 2) := by decide +kernel
theorem d_M_make_119 : decode b_M_make 119 = .ok (.if_icmp .ge 34, 3) := by decide +kernel
theorem d_M_make_122 : decode b_M_make 122 = .ok (.iload 8, 2) := by decide +kernel
theorem d_M_make_124 : decode b_M_make 124 = .ok (.ifCond .eq 12, 3) := by decide +kernel
theorem d_M_make_127 : decode b_M_make 127 = .ok (.aload_n 0, 1) := by decide +kernel
theorem d_M_make_128 : decode b_M_make 128 = .ok (.getfield 42, 3) := by decide +kernel
theorem d_M_make_131 : decode b_M_make 131 = .ok (.iload_n 2, 1) := by decide +kernel
theorem d_M_make_132 : decode b_M_make 132 = .ok (.baload, 1) := by decide +kernel
theorem d_M_make_133 : decode b_M_make 133 = .ok (.ifCond .ne 20, 3) := by decide +kernel
theorem d_M_make_136 : decode b_M_make 136 = .ok (.aload_n 0, 1) := by decide +kernel
theorem d_M_make_137 : decode b_M_make 137 = .ok (.iload_n 1, 1) := by decide +kernel
theorem d_M_make_138 : decode b_M_make 138 = .ok (.invokevirtual 162, 3) := by decide +kernel
theorem d_M_make_141 : decode b_M_make 141 = .ok (.ifCond .eq 16, 3) := by decide +kernel
theorem d_M_make_144 : decode b_M_make 144 = .ok (.aload_n 0, 1) := by decide +kernel
theorem d_M_make_145 : decode b_M_make 145 = .ok (.getfield 42, 3) := by decide +kernel
theorem d_M_make_148 : decode b_M_make 148 = .ok (.iload_n 3, 1) := by decide +kernel
theorem d_M_make_149 : decode b_M_make 149 = .ok (.baload, 1) := by decide +kernel
theorem d_M_make_150 : decode b_M_make 150 = .ok (.ifCond .eq 7, 3) := by decide +kernel
theorem d_M_make_153 : decode b_M_make 153 = .ok (.iconst 1, 1) := by decide +kernel
theorem d_M_make_154 : decode b_M_make 154 = .ok (.goto 4, 3) := by decide +kernel
theorem d_M_make_157 : decode b_M_make 157 = .ok (.iconst 0, 1) := by decide +kernel
theorem d_M_make_158 : decode b_M_make 158 = .ok (.bastore, 1) := by decide +kernel
theorem d_M_make_159 : decode b_M_make 159 = .ok (.aload_n 0, 1) := by decide +kernel
theorem d_M_make_160 : decode b_M_make 160 = .ok (.getfield 45, 3) := by decide +kernel
theorem d_M_make_163 : decode b_M_make 163 = .ok (.iload 7, 2) := by decide +kernel
theorem d_M_make_165 : decode b_M_make 165 = .ok (.iload 7, 2) := by decide +kernel
theorem d_M_make_167 : decode b_M_make 167 = .ok (.iastore, 1) := by decide +kernel
theorem d_M_make_168 : decode b_M_make 168 = .ok (.iload 7, 2) := by decide +kernel
theorem d_M_make_170 : decode b_M_make 170 = .ok (.iconst 1, 1) := by decide +kernel
theorem d_M_make_171 : decode b_M_make 171 = .ok (.isub, 1) := by decide +kernel
theorem d_M_make_172 : decode b_M_make 172 = .ok (.istore 9, 2) := by decide +kernel
theorem d_M_make_174 : decode b_M_make 174 = .ok (.iload 9, 2) := by decide +kernel
theorem d_M_make_176 : decode b_M_make 176 = .ok (.ifCond .lt 39, 3) := by decide +kernel
theorem d_M_make_179 : decode b_M_make 179 = .ok (.aload_n 0, 1) := by decide +kernel
theorem d_M_make_180 : decode b_M_make 180 = .ok (.getfield 45, 3) := by decide +kernel
theorem d_M_make_183 : decode b_M_make 183 = .ok (.iload 7, 2) := by decide +kernel
theorem d_M_make_185 : decode b_M_make 185 = .ok (.aload_n 0, 1) := by decide +kernel
theorem d_M_make_186 : decode b_M_make 186 = .ok (.iload 9, 2) := by decide +kernel
theorem d_M_make_188 : decode b_M_make 188 = .ok (.iload 7, 2) := by decide +kernel
theorem d_M_make_190 : decode b_M_make 190 = .ok (.invokevirtual 166, 3) := by decide +kernel
theorem d_M_make_193 : decode b_M_make 193 = .ok (.ifCond .eq 8, 3) := by decide +kernel
theorem d_M_make_196 : decode b_M_make 196 = .ok (.iload 9, 2) := by decide +kernel
theorem d_M_make_198 : decode b_M_make 198 = .ok (.goto 10, 3) := by decide +kernel
theorem d_M_make_201 : decode b_M_make 201 = .ok (.aload_n 0, 1) := by decide +kernel
theorem d_M_make_202 : decode b_M_make 202 = .ok (.getfield 45, 3) := by decide +kernel
theorem d_M_make_205 : decode b_M_make 205 = .ok (.iload 7, 2) := by decide +kernel
theorem d_M_make_207 : decode b_M_make 207 = .ok (.iaload, 1) := by decide +kernel
theorem d_M_make_208 : decode b_M_make 208 = .ok (.iastore, 1) := by decide +kernel
theorem d_M_make_209 : decode b_M_make 209 = .ok (.iinc 9 (-1), 3) := by decide +kernel
theorem d_M_make_212 : decode b_M_make 212 = .ok (.goto (-38), 3) := by decide +kernel
theorem d_M_make_215 : decode b_M_make 215 = .ok (.aload_n 0, 1) := by decide +kernel
theorem d_M_make_216 : decode b_M_make 216 = .ok (.dup, 1) := by decide +kernel
theorem d_M_make_217 : decode b_M_make 217 = .ok (.getfield 137, 3) := by decide +kernel
theorem d_M_make_220 : decode b_M_make 220 = .ok (.iconst 1, 1) := by decide +kernel
theorem d_M_make_221 : decode b_M_make 221 = .ok (.iadd, 1) := by decide +kernel
theorem d_M_make_222 : decode b_M_make 222 = .ok (.putfield 137, 3) := by decide +kernel
theorem d_M_make_225 : decode b_M_make 225 = .ok (.iload 7, 2) := by decide +kernel
theorem d_M_make_227 : decode b_M_make 227 = .ok (.ireturn, 1) := by decide +kernel
theorem d_M_constant_0 : decode b_M_constant 0 = .ok (.lload_n 1, 1) := by decide +kernel
theorem d_M_constant_1 : decode b_M_constant 1 = .ok (.ldc2_w 133, 3) := by decide +kernel
theorem d_M_constant_4 : decode b_M_constant 4 = .ok (.ldc2_w 135, 3) := by decide +kernel
theorem d_M_constant_7 : decode b_M_constant 7 = .ok (.invokestatic 126, 3) := by decide +kernel
theorem d_M_constant_10 : decode b_M_constant 10 = .ok (.ifCond .ne 6, 3) := by decide +kernel
theorem d_M_constant_13 : decode b_M_constant 13 = .ok (.bipush (-102), 2) := by decide +kernel
theorem d_M_constant_15 : decode b_M_constant 15 = .ok (.ireturn, 1) := by decide +kernel
theorem d_M_constant_16 : decode b_M_constant 16 = .ok (.aload_n 0, 1) := by decide +kernel
theorem d_M_constant_17 : decode b_M_constant 17 = .ok (.getfield 137, 3) := by decide +kernel
theorem d_M_constant_20 : decode b_M_constant 20 = .ok (.bipush 60, 2) := by decide +kernel
theorem d_M_constant_22 : decode b_M_constant 22 = .ok (.if_icmp .ne 8, 3) := by decide +kernel
theorem d_M_constant_25 : decode b_M_constant 25 = .ok (.bipush (-104), 2) := by decide +kernel
theorem d_M_constant_27 : decode b_M_constant 27 = .ok (.goto 13, 3) := by decide +kernel
theorem d_M_constant_30 : decode b_M_constant 30 = .ok (.aload_n 0, 1) := by decide +kernel
theorem d_M_constant_31 : decode b_M_constant 31 = .ok (.bipush 20, 2) := by decide +kernel
theorem d_M_constant_33 : decode b_M_constant 33 = .ok (.iconst 0, 1) := by decide +kernel
theorem d_M_constant_34 : decode b_M_constant 34 = .ok (.iconst 0, 1) := by decide +kernel
theorem d_M_constant_35 : decode b_M_constant 35 = .ok (.lload_n 1, 1) := by decide +kernel
theorem d_M_constant_36 : decode b_M_constant 36 = .ok (.iload_n 3, 1) := by decide +kernel
theorem d_M_constant_37 : decode b_M_constant 37 = .ok (.invokevirtual 170, 3) := by decide +kernel
theorem d_M_constant_40 : decode b_M_constant 40 = .ok (.ireturn, 1) := by decide +kernel
theorem d_M_column_0 : decode b_M_column 0 = .ok (.iload_n 1, 1) := by decide +kernel
theorem d_M_column_1 : decode b_M_column 1 = .ok (.i2l, 1) := by decide +kernel
theorem d_M_column_2 : decode b_M_column 2 = .ok (.lconst 0, 1) := by decide +kernel
theorem d_M_column_3 : decode b_M_column 3 = .ok (.ldc2_w 174, 3) := by decide +kernel
theorem d_M_column_6 : decode b_M_column 6 = .ok (.invokestatic 126, 3) := by decide +kernel
theorem d_M_column_9 : decode b_M_column 9 = .ok (.ifCond .eq 15, 3) := by decide +kernel
theorem d_M_column_12 : decode b_M_column 12 = .ok (.iload_n 2, 1) := by decide +kernel
theorem d_M_column_13 : decode b_M_column 13 = .ok (.i2l, 1) := by decide +kernel
theorem d_M_column_14 : decode b_M_column 14 = .ok (.lconst 0, 1) := by decide +kernel
theorem d_M_column_15 : decode b_M_column 15 = .ok (.ldc2_w 176, 3) := by decide +kernel
theorem d_M_column_18 : decode b_M_column 18 = .ok (.invokestatic 126, 3) := by decide +kernel
theorem d_M_column_21 : decode b_M_column 21 = .ok (.ifCond .ne 6, 3) := by decide +kernel
theorem d_M_column_24 : decode b_M_column 24 = .ok (.bipush (-102), 2) := by decide +kernel
theorem d_M_column_26 : decode b_M_column 26 = .ok (.ireturn, 1) := by decide +kernel
theorem d_M_column_27 : decode b_M_column 27 = .ok (.aload_n 0, 1) := by decide +kernel
theorem d_M_column_28 : decode b_M_column 28 = .ok (.getfield 137, 3) := by decide +kernel
theorem d_M_column_31 : decode b_M_column 31 = .ok (.bipush 60, 2) := by decide +kernel
theorem d_M_column_33 : decode b_M_column 33 = .ok (.if_icmp .ne 8, 3) := by decide +kernel
theorem d_M_column_36 : decode b_M_column 36 = .ok (.bipush (-104), 2) := by decide +kernel
theorem d_M_column_38 : decode b_M_column 38 = .ok (.goto 13, 3) := by decide +kernel
theorem d_M_column_41 : decode b_M_column 41 = .ok (.aload_n 0, 1) := by decide +kernel
theorem d_M_column_42 : decode b_M_column 42 = .ok (.bipush 21, 2) := by decide +kernel
theorem d_M_column_44 : decode b_M_column 44 = .ok (.iload_n 1, 1) := by decide +kernel
theorem d_M_column_45 : decode b_M_column 45 = .ok (.iload_n 2, 1) := by decide +kernel
theorem d_M_column_46 : decode b_M_column 46 = .ok (.lconst 0, 1) := by decide +kernel
theorem d_M_column_47 : decode b_M_column 47 = .ok (.iconst 0, 1) := by decide +kernel
theorem d_M_column_48 : decode b_M_column 48 = .ok (.invokevirtual 170, 3) := by decide +kernel
theorem d_M_column_51 : decode b_M_column 51 = .ok (.ireturn, 1) := by decide +kernel
