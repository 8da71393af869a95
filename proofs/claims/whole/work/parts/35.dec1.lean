theorem d_Q_order_0 : decode b_Q_order 0 = .ok (.iload_n 1, 1) := by decide +kernel
theorem d_Q_order_1 : decode b_Q_order 1 = .ok (.ifCond .lt 14, 3) := by decide +kernel
theorem d_Q_order_4 : decode b_Q_order 4 = .ok (.iload_n 1, 1) := by decide +kernel
theorem d_Q_order_5 : decode b_Q_order 5 = .ok (.aload_n 0, 1) := by decide +kernel
theorem d_Q_order_6 : decode b_Q_order 6 = .ok (.getfield 26, 3) := by decide +kernel
theorem d_Q_order_9 : decode b_Q_order 9 = .ok (.getfield 125, 3) := by decide +kernel
theorem d_Q_order_12 : decode b_Q_order 12 = .ok (.if_icmp .lt 6, 3) := by decide +kernel
theorem d_Q_order_15 : decode b_Q_order 15 = .ok (.bipush (-101), 2) := by decide +kernel
theorem d_Q_order_17 : decode b_Q_order 17 = .ok (.ireturn, 1) := by decide +kernel
theorem d_Q_order_18 : decode b_Q_order 18 = .ok (.aload_n 0, 1) := by decide +kernel
theorem d_Q_order_19 : decode b_Q_order 19 = .ok (.getfield 26, 3) := by decide +kernel
theorem d_Q_order_22 : decode b_Q_order 22 = .ok (.getfield 131, 3) := by decide +kernel
theorem d_Q_order_25 : decode b_Q_order 25 = .ok (.iconst 4, 1) := by decide +kernel
theorem d_Q_order_26 : decode b_Q_order 26 = .ok (.if_icmp .lt 6, 3) := by decide +kernel
theorem d_Q_order_29 : decode b_Q_order 29 = .ok (.bipush (-104), 2) := by decide +kernel
theorem d_Q_order_31 : decode b_Q_order 31 = .ok (.ireturn, 1) := by decide +kernel
theorem d_Q_order_32 : decode b_Q_order 32 = .ok (.aload_n 0, 1) := by decide +kernel
theorem d_Q_order_33 : decode b_Q_order 33 = .ok (.getfield 26, 3) := by decide +kernel
theorem d_Q_order_36 : decode b_Q_order 36 = .ok (.iload_n 1, 1) := by decide +kernel
theorem d_Q_order_37 : decode b_Q_order 37 = .ok (.iload_n 2, 1) := by decide +kernel
theorem d_Q_order_38 : decode b_Q_order 38 = .ok (.invokevirtual 134, 3) := by decide +kernel
theorem d_Q_order_41 : decode b_Q_order 41 = .ok (.ireturn, 1) := by decide +kernel
theorem d_Q_shape_0 : decode b_Q_shape 0 = .ok (.iload_n 2, 1) := by decide +kernel
theorem d_Q_shape_1 : decode b_Q_shape 1 = .ok (.ifCond .lt 21, 3) := by decide +kernel
theorem d_Q_shape_4 : decode b_Q_shape 4 = .ok (.iload_n 2, 1) := by decide +kernel
theorem d_Q_shape_5 : decode b_Q_shape 5 = .ok (.sipush 1000, 3) := by decide +kernel
theorem d_Q_shape_8 : decode b_Q_shape 8 = .ok (.if_icmp .gt 14, 3) := by decide +kernel
theorem d_Q_shape_11 : decode b_Q_shape 11 = .ok (.iload_n 3, 1) := by decide +kernel
theorem d_Q_shape_12 : decode b_Q_shape 12 = .ok (.ifCond .lt 10, 3) := by decide +kernel
theorem d_Q_shape_15 : decode b_Q_shape 15 = .ok (.iload_n 3, 1) := by decide +kernel
theorem d_Q_shape_16 : decode b_Q_shape 16 = .ok (.sipush 1000, 3) := by decide +kernel
theorem d_Q_shape_19 : decode b_Q_shape 19 = .ok (.if_icmp .le 6, 3) := by decide +kernel
theorem d_Q_shape_22 : decode b_Q_shape 22 = .ok (.bipush (-102), 2) := by decide +kernel
theorem d_Q_shape_24 : decode b_Q_shape 24 = .ok (.ireturn, 1) := by decide +kernel
theorem d_Q_shape_25 : decode b_Q_shape 25 = .ok (.aload_n 0, 1) := by decide +kernel
theorem d_Q_shape_26 : decode b_Q_shape 26 = .ok (.getfield 26, 3) := by decide +kernel
theorem d_Q_shape_29 : decode b_Q_shape 29 = .ok (.iload_n 1, 1) := by decide +kernel
theorem d_Q_shape_30 : decode b_Q_shape 30 = .ok (.iload_n 2, 1) := by decide +kernel
theorem d_Q_shape_31 : decode b_Q_shape 31 = .ok (.iload_n 3, 1) := by decide +kernel
theorem d_Q_shape_32 : decode b_Q_shape 32 = .ok (.invokevirtual 138, 3) := by decide +kernel
theorem d_Q_shape_35 : decode b_Q_shape 35 = .ok (.iconst 1, 1) := by decide +kernel
theorem d_Q_shape_36 : decode b_Q_shape 36 = .ok (.ireturn, 1) := by decide +kernel
theorem d_A_clear_0 : decode b_A_clear 0 = .ok (.aload_n 0, 1) := by decide +kernel
theorem d_A_clear_1 : decode b_A_clear 1 = .ok (.iconst 0, 1) := by decide +kernel
theorem d_A_clear_2 : decode b_A_clear 2 = .ok (.putfield 22, 3) := by decide +kernel
theorem d_A_clear_5 : decode b_A_clear 5 = .ok (.aload_n 0, 1) := by decide +kernel
theorem d_A_clear_6 : decode b_A_clear 6 = .ok (.iconst 0, 1) := by decide +kernel
theorem d_A_clear_7 : decode b_A_clear 7 = .ok (.putfield 26, 3) := by decide +kernel
theorem d_A_clear_10 : decode b_A_clear 10 = .ok (.aload_n 0, 1) := by decide +kernel
theorem d_A_clear_11 : decode b_A_clear 11 = .ok (.iconst 0, 1) := by decide +kernel
theorem d_A_clear_12 : decode b_A_clear 12 = .ok (.putfield 29, 3) := by decide +kernel
theorem d_A_clear_15 : decode b_A_clear 15 = .ok (.aload_n 0, 1) := by decide +kernel
theorem d_A_clear_16 : decode b_A_clear 16 = .ok (.iconst 0, 1) := by decide +kernel
theorem d_A_clear_17 : decode b_A_clear 17 = .ok (.putfield 32, 3) := by decide +kernel
theorem d_A_clear_20 : decode b_A_clear 20 = .ok (.return_, 1) := by decide +kernel
theorem d_C_bitsAt_0 : decode b_C_bitsAt 0 = .ok (.aload_n 0, 1) := by decide +kernel
theorem d_C_bitsAt_1 : decode b_C_bitsAt 1 = .ok (.getfield 19, 3) := by decide +kernel
theorem d_C_bitsAt_4 : decode b_C_bitsAt 4 = .ok (.iload_n 1, 1) := by decide +kernel
theorem d_C_bitsAt_5 : decode b_C_bitsAt 5 = .ok (.invokevirtual 102, 3) := by decide +kernel
theorem d_C_bitsAt_8 : decode b_C_bitsAt 8 = .ok (.ifCond .eq 9, 3) := by decide +kernel
theorem d_C_bitsAt_11 : decode b_C_bitsAt 11 = .ok (.aload_n 2, 1) := by decide +kernel
theorem d_C_bitsAt_12 : decode b_C_bitsAt 12 = .ok (.iload_n 1, 1) := by decide +kernel
theorem d_C_bitsAt_13 : decode b_C_bitsAt 13 = .ok (.iaload, 1) := by decide +kernel
theorem d_C_bitsAt_14 : decode b_C_bitsAt 14 = .ok (.goto 4, 3) := by decide +kernel
theorem d_C_bitsAt_17 : decode b_C_bitsAt 17 = .ok (.iconst 0, 1) := by decide +kernel
theorem d_C_bitsAt_18 : decode b_C_bitsAt 18 = .ok (.ireturn, 1) := by decide +kernel
theorem d_C_bitsIn_0 : decode b_C_bitsIn 0 = .ok (.iconst 0, 1) := by decide +kernel
theorem d_C_bitsIn_1 : decode b_C_bitsIn 1 = .ok (.istore 4, 2) := by decide +kernel
theorem d_C_bitsIn_3 : decode b_C_bitsIn 3 = .ok (.iconst 0, 1) := by decide +kernel
theorem d_C_bitsIn_4 : decode b_C_bitsIn 4 = .ok (.istore 5, 2) := by decide +kernel
theorem d_C_bitsIn_6 : decode b_C_bitsIn 6 = .ok (.iload 5, 2) := by decide +kernel
theorem d_C_bitsIn_8 : decode b_C_bitsIn 8 = .ok (.iload_n 2, 1) := by decide +kernel
theorem d_C_bitsIn_9 : decode b_C_bitsIn 9 = .ok (.if_icmp .ge 23, 3) := by decide +kernel
theorem d_C_bitsIn_12 : decode b_C_bitsIn 12 = .ok (.iload 4, 2) := by decide +kernel
theorem d_C_bitsIn_14 : decode b_C_bitsIn 14 = .ok (.aload_n 0, 1) := by decide +kernel
theorem d_C_bitsIn_15 : decode b_C_bitsIn 15 = .ok (.aload_n 1, 1) := by decide +kernel
theorem d_C_bitsIn_16 : decode b_C_bitsIn 16 = .ok (.iload 5, 2) := by decide +kernel
theorem d_C_bitsIn_18 : decode b_C_bitsIn 18 = .ok (.iaload, 1) := by decide +kernel
theorem d_C_bitsIn_19 : decode b_C_bitsIn 19 = .ok (.aload_n 3, 1) := by decide +kernel
theorem d_C_bitsIn_20 : decode b_C_bitsIn 20 = .ok (.invokevirtual 72, 3) := by decide +kernel
theorem d_C_bitsIn_23 : decode b_C_bitsIn 23 = .ok (.ior, 1) := by decide +kernel
theorem d_C_bitsIn_24 : decode b_C_bitsIn 24 = .ok (.istore 4, 2) := by decide +kernel
theorem d_C_bitsIn_26 : decode b_C_bitsIn 26 = .ok (.iinc 5 1, 3) := by decide +kernel
theorem d_C_bitsIn_29 : decode b_C_bitsIn 29 = .ok (.goto (-23), 3) := by decide +kernel
theorem d_C_bitsIn_32 : decode b_C_bitsIn 32 = .ok (.iload 4, 2) := by decide +kernel
theorem d_C_bitsIn_34 : decode b_C_bitsIn 34 = .ok (.ireturn, 1) := by decide +kernel
theorem d_C_columnsUpTo_0 : decode b_C_columnsUpTo 0 = .ok (.iconst 0, 1) := by decide +kernel
theorem d_C_columnsUpTo_1 : decode b_C_columnsUpTo 1 = .ok (.istore_n 2, 1) := by decide +kernel
theorem d_C_columnsUpTo_2 : decode b_C_columnsUpTo 2 = .ok (.iconst 0, 1) := by decide +kernel
theorem d_C_columnsUpTo_3 : decode b_C_columnsUpTo 3 = .ok (.istore_n 3, 1) := by decide +kernel
theorem d_C_columnsUpTo_4 : decode b_C_columnsUpTo 4 = .ok (.iload_n 3, 1) := by decide +kernel
theorem d_C_columnsUpTo_5 : decode b_C_columnsUpTo 5 = .ok (.iload_n 1, 1) := by decide +kernel
theorem d_C_columnsUpTo_6 : decode b_C_columnsUpTo 6 = .ok (.if_icmp .gt 52, 3) := by decide +kernel
theorem d_C_columnsUpTo_9 : decode b_C_columnsUpTo 9 = .ok (.iload_n 3, 1) := by decide +kernel
theorem d_C_columnsUpTo_10 : decode b_C_columnsUpTo 10 = .ok (.aload_n 0, 1) := by decide +kernel
theorem d_C_columnsUpTo_11 : decode b_C_columnsUpTo 11 = .ok (.getfield 23, 3) := by decide +kernel
theorem d_C_columnsUpTo_14 : decode b_C_columnsUpTo 14 = .ok (.getfield 27, 3) := by decide +kernel
theorem d_C_columnsUpTo_17 : decode b_C_columnsUpTo 17 = .ok (.if_icmp .ge 41, 3) := by decide +kernel
theorem d_C_columnsUpTo_20 : decode b_C_columnsUpTo 20 = .ok (.aload_n 0, 1) := by decide +kernel
theorem d_C_columnsUpTo_21 : decode b_C_columnsUpTo 21 = .ok (.getfield 15, 3) := by decide +kernel
theorem d_C_columnsUpTo_24 : decode b_C_columnsUpTo 24 = .ok (.getfield 118, 3) := by decide +kernel
theorem d_C_columnsUpTo_27 : decode b_C_columnsUpTo 27 = .ok (.aload_n 0, 1) := by decide +kernel
theorem d_C_columnsUpTo_28 : decode b_C_columnsUpTo 28 = .ok (.getfield 23, 3) := by decide +kernel
theorem d_C_columnsUpTo_31 : decode b_C_columnsUpTo 31 = .ok (.getfield 123, 3) := by decide +kernel
theorem d_C_columnsUpTo_34 : decode b_C_columnsUpTo 34 = .ok (.iload_n 3, 1) := by decide +kernel
theorem d_C_columnsUpTo_35 : decode b_C_columnsUpTo 35 = .ok (.iaload, 1) := by decide +kernel
theorem d_C_columnsUpTo_36 : decode b_C_columnsUpTo 36 = .ok (.iaload, 1) := by decide +kernel
theorem d_C_columnsUpTo_37 : decode b_C_columnsUpTo 37 = .ok (.istore 4, 2) := by decide +kernel
theorem d_C_columnsUpTo_39 : decode b_C_columnsUpTo 39 = .ok (.iload_n 2, 1) := by decide +kernel
theorem d_C_columnsUpTo_40 : decode b_C_columnsUpTo 40 = .ok (.iconst 1, 1) := by decide +kernel
theorem d_C_columnsUpTo_41 : decode b_C_columnsUpTo 41 = .ok (.iload 4, 2) := by decide +kernel
theorem d_C_columnsUpTo_43 : decode b_C_columnsUpTo 43 = .ok (.ishl, 1) := by decide +kernel
theorem d_C_columnsUpTo_44 : decode b_C_columnsUpTo 44 = .ok (.iconst 1, 1) := by decide +kernel
theorem d_C_columnsUpTo_45 : decode b_C_columnsUpTo 45 = .ok (.isub, 1) := by decide +kernel
theorem d_C_columnsUpTo_46 : decode b_C_columnsUpTo 46 = .ok (.iload_n 3, 1) := by decide +kernel
theorem d_C_columnsUpTo_47 : decode b_C_columnsUpTo 47 = .ok (.iconst 4, 1) := by decide +kernel
theorem d_C_columnsUpTo_48 : decode b_C_columnsUpTo 48 = .ok (.imul, 1) := by decide +kernel
theorem d_C_columnsUpTo_49 : decode b_C_columnsUpTo 49 = .ok (.ishl, 1) := by decide +kernel
theorem d_C_columnsUpTo_50 : decode b_C_columnsUpTo 50 = .ok (.ior, 1) := by decide +kernel
theorem d_C_columnsUpTo_51 : decode b_C_columnsUpTo 51 = .ok (.istore_n 2, 1) := by decide +kernel
theorem d_C_columnsUpTo_52 : decode b_C_columnsUpTo 52 = .ok (.iinc 3 1, 3) := by decide +kernel
theorem d_C_columnsUpTo_55 : decode b_C_columnsUpTo 55 = .ok (.goto (-51), 3) := by decide +kernel
theorem d_C_columnsUpTo_58 : decode b_C_columnsUpTo 58 = .ok (.iload_n 2, 1) := by decide +kernel
theorem d_C_columnsUpTo_59 : decode b_C_columnsUpTo 59 = .ok (.ireturn, 1) := by decide +kernel
theorem d_C_hasUnknownColumn_0 : decode b_C_hasUnknownColumn 0 = .ok (.iconst 0, 1) := by decide +kernel
theorem d_C_hasUnknownColumn_1 : decode b_C_hasUnknownColumn 1 = .ok (.istore_n 1, 1) := by decide +kernel
theorem d_C_hasUnknownColumn_2 : decode b_C_hasUnknownColumn 2 = .ok (.iload_n 1, 1) := by decide +kernel
theorem d_C_hasUnknownColumn_3 : decode b_C_hasUnknownColumn 3 = .ok (.aload_n 0, 1) := by decide +kernel
theorem d_C_hasUnknownColumn_4 : decode b_C_hasUnknownColumn 4 = .ok (.getfield 23, 3) := by decide +kernel
theorem d_C_hasUnknownColumn_7 : decode b_C_hasUnknownColumn 7 = .ok (.getfield 27, 3) := by decide +kernel
theorem d_C_hasUnknownColumn_10 : decode b_C_hasUnknownColumn 10 = .ok (.if_icmp .ge 42, 3) := by decide +kernel
theorem d_C_hasUnknownColumn_13 : decode b_C_hasUnknownColumn 13 = .ok (.aload_n 0, 1) := by decide +kernel
theorem d_C_hasUnknownColumn_14 : decode b_C_hasUnknownColumn 14 = .ok (.aload_n 0, 1) := by decide +kernel
theorem d_C_hasUnknownColumn_15 : decode b_C_hasUnknownColumn 15 = .ok (.getfield 23, 3) := by decide +kernel
theorem d_C_hasUnknownColumn_18 : decode b_C_hasUnknownColumn 18 = .ok (.getfield 76, 3) := by decide +kernel
theorem d_C_hasUnknownColumn_21 : decode b_C_hasUnknownColumn 21 = .ok (.iload_n 1, 1) := by decide +kernel
theorem d_C_hasUnknownColumn_22 : decode b_C_hasUnknownColumn 22 = .ok (.iaload, 1) := by decide +kernel
theorem d_C_hasUnknownColumn_23 : decode b_C_hasUnknownColumn 23 = .ok (.aload_n 0, 1) := by decide +kernel
theorem d_C_hasUnknownColumn_24 : decode b_C_hasUnknownColumn 24 = .ok (.getfield 19, 3) := by decide +kernel
theorem d_C_hasUnknownColumn_27 : decode b_C_hasUnknownColumn 27 = .ok (.getfield 79, 3) := by decide +kernel
theorem d_C_hasUnknownColumn_30 : decode b_C_hasUnknownColumn 30 = .ok (.invokevirtual 72, 3) := by decide +kernel
theorem d_C_hasUnknownColumn_33 : decode b_C_hasUnknownColumn 33 = .ok (.aload_n 0, 1) := by decide +kernel
theorem d_C_hasUnknownColumn_34 : decode b_C_hasUnknownColumn 34 = .ok (.iload_n 1, 1) := by decide +kernel
theorem d_C_hasUnknownColumn_35 : decode b_C_hasUnknownColumn 35 = .ok (.invokevirtual 82, 3) := by decide +kernel
theorem d_C_hasUnknownColumn_38 : decode b_C_hasUnknownColumn 38 = .ok (.iconst (-1), 1) := by decide +kernel
theorem d_C_hasUnknownColumn_39 : decode b_C_hasUnknownColumn 39 = .ok (.ixor, 1) := by decide +kernel
theorem d_C_hasUnknownColumn_40 : decode b_C_hasUnknownColumn 40 = .ok (.iand, 1) := by decide +kernel
theorem d_C_hasUnknownColumn_41 : decode b_C_hasUnknownColumn 41 = .ok (.ifCond .eq 5, 3) := by decide +kernel
theorem d_C_hasUnknownColumn_44 : decode b_C_hasUnknownColumn 44 = .ok (.iconst 1, 1) := by decide +kernel
theorem d_C_hasUnknownColumn_45 : decode b_C_hasUnknownColumn 45 = .ok (.ireturn, 1) := by decide +kernel
theorem d_C_hasUnknownColumn_46 : decode b_C_hasUnknownColumn 46 = .ok (.iinc 1 1, 3) := by decide +kernel
theorem d_C_hasUnknownColumn_49 : decode b_C_hasUnknownColumn 49 = .ok (.goto (-47), 3) := by decide +kernel
theorem d_C_hasUnknownColumn_52 : decode b_C_hasUnknownColumn 52 = .ok (.aload_n 0, 1) := by decide +kernel
theorem d_C_hasUnknownColumn_53 : decode b_C_hasUnknownColumn 53 = .ok (.aload_n 0, 1) := by decide +kernel
theorem d_C_hasUnknownColumn_54 : decode b_C_hasUnknownColumn 54 = .ok (.getfield 23, 3) := by decide +kernel
theorem d_C_hasUnknownColumn_57 : decode b_C_hasUnknownColumn 57 = .ok (.getfield 86, 3) := by decide +kernel
theorem d_C_hasUnknownColumn_60 : decode b_C_hasUnknownColumn 60 = .ok (.aload_n 0, 1) := by decide +kernel
theorem d_C_hasUnknownColumn_61 : decode b_C_hasUnknownColumn 61 = .ok (.getfield 19, 3) := by decide +kernel
theorem d_C_hasUnknownColumn_64 : decode b_C_hasUnknownColumn 64 = .ok (.getfield 79, 3) := by decide +kernel
theorem d_C_hasUnknownColumn_67 : decode b_C_hasUnknownColumn 67 = .ok (.invokevirtual 72, 3) := by decide +kernel
theorem d_C_hasUnknownColumn_70 : decode b_C_hasUnknownColumn 70 = .ok (.aload_n 0, 1) := by decide +kernel
theorem d_C_hasUnknownColumn_71 : decode b_C_hasUnknownColumn 71 = .ok (.aload_n 0, 1) := by decide +kernel
theorem d_C_hasUnknownColumn_72 : decode b_C_hasUnknownColumn 72 = .ok (.getfield 23, 3) := by decide +kernel
theorem d_C_hasUnknownColumn_75 : decode b_C_hasUnknownColumn 75 = .ok (.getfield 52, 3) := by decide +kernel
theorem d_C_hasUnknownColumn_78 : decode b_C_hasUnknownColumn 78 = .ok (.aload_n 0, 1) := by decide +kernel
theorem d_C_hasUnknownColumn_79 : decode b_C_hasUnknownColumn 79 = .ok (.getfield 19, 3) := by decide +kernel
theorem d_C_hasUnknownColumn_82 : decode b_C_hasUnknownColumn 82 = .ok (.getfield 79, 3) := by decide +kernel
theorem d_C_hasUnknownColumn_85 : decode b_C_hasUnknownColumn 85 = .ok (.invokevirtual 72, 3) := by decide +kernel
theorem d_C_hasUnknownColumn_88 : decode b_C_hasUnknownColumn 88 = .ok (.ior, 1) := by decide +kernel
theorem d_C_hasUnknownColumn_89 : decode b_C_hasUnknownColumn 89 = .ok (.aload_n 0, 1) := by decide +kernel
theorem d_C_hasUnknownColumn_90 : decode b_C_hasUnknownColumn 90 = .ok (.aload_n 0, 1) := by decide +kernel
theorem d_C_hasUnknownColumn_91 : decode b_C_hasUnknownColumn 91 = .ok (.getfield 23, 3) := by decide +kernel
theorem d_C_hasUnknownColumn_94 : decode b_C_hasUnknownColumn 94 = .ok (.getfield 89, 3) := by decide +kernel
theorem d_C_hasUnknownColumn_97 : decode b_C_hasUnknownColumn 97 = .ok (.aload_n 0, 1) := by decide +kernel
theorem d_C_hasUnknownColumn_98 : decode b_C_hasUnknownColumn 98 = .ok (.getfield 23, 3) := by decide +kernel
theorem d_C_hasUnknownColumn_101 : decode b_C_hasUnknownColumn 101 = .ok (.getfield 49, 3) := by decide +kernel
theorem d_C_hasUnknownColumn_104 : decode b_C_hasUnknownColumn 104 = .ok (.aload_n 0, 1) := by decide +kernel
theorem d_C_hasUnknownColumn_105 : decode b_C_hasUnknownColumn 105 = .ok (.getfield 19, 3) := by decide +kernel
theorem d_C_hasUnknownColumn_108 : decode b_C_hasUnknownColumn 108 = .ok (.getfield 79, 3) := by decide +kernel
theorem d_C_hasUnknownColumn_111 : decode b_C_hasUnknownColumn 111 = .ok (.invokevirtual 68, 3) := by decide +kernel
theorem d_C_hasUnknownColumn_114 : decode b_C_hasUnknownColumn 114 = .ok (.ior, 1) := by decide +kernel
theorem d_C_hasUnknownColumn_115 : decode b_C_hasUnknownColumn 115 = .ok (.aload_n 0, 1) := by decide +kernel
theorem d_C_hasUnknownColumn_116 : decode b_C_hasUnknownColumn 116 = .ok (.aload_n 0, 1) := by decide +kernel
theorem d_C_hasUnknownColumn_117 : decode b_C_hasUnknownColumn 117 = .ok (.getfield 23, 3) := by decide +kernel
theorem d_C_hasUnknownColumn_120 : decode b_C_hasUnknownColumn 120 = .ok (.getfield 59, 3) := by decide +kernel
theorem d_C_hasUnknownColumn_123 : decode b_C_hasUnknownColumn 123 = .ok (.aload_n 0, 1) := by decide +kernel
theorem d_C_hasUnknownColumn_124 : decode b_C_hasUnknownColumn 124 = .ok (.getfield 23, 3) := by decide +kernel
theorem d_C_hasUnknownColumn_127 : decode b_C_hasUnknownColumn 127 = .ok (.getfield 33, 3) := by decide +kernel
theorem d_C_hasUnknownColumn_130 : decode b_C_hasUnknownColumn 130 = .ok (.aload_n 0, 1) := by decide +kernel
theorem d_C_hasUnknownColumn_131 : decode b_C_hasUnknownColumn 131 = .ok (.getfield 19, 3) := by decide +kernel
theorem d_C_hasUnknownColumn_134 : decode b_C_hasUnknownColumn 134 = .ok (.getfield 79, 3) := by decide +kernel
theorem d_C_hasUnknownColumn_137 : decode b_C_hasUnknownColumn 137 = .ok (.invokevirtual 68, 3) := by decide +kernel
theorem d_C_hasUnknownColumn_140 : decode b_C_hasUnknownColumn 140 = .ok (.ior, 1) := by decide +kernel
theorem d_C_hasUnknownColumn_141 : decode b_C_hasUnknownColumn 141 = .ok (.istore_n 1, 1) := by decide +kernel
theorem d_C_hasUnknownColumn_142 : decode b_C_hasUnknownColumn 142 = .ok (.iload_n 1, 1) := by decide +kernel
theorem d_C_hasUnknownColumn_143 : decode b_C_hasUnknownColumn 143 = .ok (.aload_n 0, 1) := by decide +kernel
theorem d_C_hasUnknownColumn_144 : decode b_C_hasUnknownColumn 144 = .ok (.aload_n 0, 1) := by decide +kernel
theorem d_C_hasUnknownColumn_145 : decode b_C_hasUnknownColumn 145 = .ok (.getfield 23, 3) := by decide +kernel
theorem d_C_hasUnknownColumn_148 : decode b_C_hasUnknownColumn 148 = .ok (.getfield 27, 3) := by decide +kernel
theorem d_C_hasUnknownColumn_151 : decode b_C_hasUnknownColumn 151 = .ok (.iconst 1, 1) := by decide +kernel
theorem d_C_hasUnknownColumn_152 : decode b_C_hasUnknownColumn 152 = .ok (.isub, 1) := by decide +kernel
theorem d_C_hasUnknownColumn_153 : decode b_C_hasUnknownColumn 153 = .ok (.invokevirtual 82, 3) := by decide +kernel
theorem d_C_hasUnknownColumn_156 : decode b_C_hasUnknownColumn 156 = .ok (.iconst (-1), 1) := by decide +kernel
theorem d_C_hasUnknownColumn_157 : decode b_C_hasUnknownColumn 157 = .ok (.ixor, 1) := by decide +kernel
theorem d_C_hasUnknownColumn_158 : decode b_C_hasUnknownColumn 158 = .ok (.iand, 1) := by decide +kernel
theorem d_C_hasUnknownColumn_159 : decode b_C_hasUnknownColumn 159 = .ok (.ifCond .eq 7, 3) := by decide +kernel
theorem d_C_hasUnknownColumn_162 : decode b_C_hasUnknownColumn 162 = .ok (.iconst 1, 1) := by decide +kernel
theorem d_C_hasUnknownColumn_163 : decode b_C_hasUnknownColumn 163 = .ok (.goto 4, 3) := by decide +kernel
theorem d_C_hasUnknownColumn_166 : decode b_C_hasUnknownColumn 166 = .ok (.iconst 0, 1) := by decide +kernel
theorem d_C_hasUnknownColumn_167 : decode b_C_hasUnknownColumn 167 = .ok (.ireturn, 1) := by decide +kernel
theorem d_C_hasEarlyAggregate_0 : decode b_C_hasEarlyAggregate 0 = .ok (.aload_n 0, 1) := by decide +kernel
theorem d_C_hasEarlyAggregate_1 : decode b_C_hasEarlyAggregate 1 = .ok (.aload_n 0, 1) := by decide +kernel
theorem d_C_hasEarlyAggregate_2 : decode b_C_hasEarlyAggregate 2 = .ok (.getfield 23, 3) := by decide +kernel
theorem d_C_hasEarlyAggregate_5 : decode b_C_hasEarlyAggregate 5 = .ok (.getfield 76, 3) := by decide +kernel
theorem d_C_hasEarlyAggregate_8 : decode b_C_hasEarlyAggregate 8 = .ok (.aload_n 0, 1) := by decide +kernel
theorem d_C_hasEarlyAggregate_9 : decode b_C_hasEarlyAggregate 9 = .ok (.getfield 23, 3) := by decide +kernel
theorem d_C_hasEarlyAggregate_12 : decode b_C_hasEarlyAggregate 12 = .ok (.getfield 27, 3) := by decide +kernel
theorem d_C_hasEarlyAggregate_15 : decode b_C_hasEarlyAggregate 15 = .ok (.aload_n 0, 1) := by decide +kernel
theorem d_C_hasEarlyAggregate_16 : decode b_C_hasEarlyAggregate 16 = .ok (.getfield 19, 3) := by decide +kernel
theorem d_C_hasEarlyAggregate_19 : decode b_C_hasEarlyAggregate 19 = .ok (.getfield 63, 3) := by decide +kernel
theorem d_C_hasEarlyAggregate_22 : decode b_C_hasEarlyAggregate 22 = .ok (.invokevirtual 68, 3) := by decide +kernel
theorem d_C_hasEarlyAggregate_25 : decode b_C_hasEarlyAggregate 25 = .ok (.aload_n 0, 1) := by decide +kernel
theorem d_C_hasEarlyAggregate_26 : decode b_C_hasEarlyAggregate 26 = .ok (.aload_n 0, 1) := by decide +kernel
theorem d_C_hasEarlyAggregate_27 : decode b_C_hasEarlyAggregate 27 = .ok (.getfield 23, 3) := by decide +kernel
theorem d_C_hasEarlyAggregate_30 : decode b_C_hasEarlyAggregate 30 = .ok (.getfield 86, 3) := by decide +kernel
theorem d_C_hasEarlyAggregate_33 : decode b_C_hasEarlyAggregate 33 = .ok (.aload_n 0, 1) := by decide +kernel
theorem d_C_hasEarlyAggregate_34 : decode b_C_hasEarlyAggregate 34 = .ok (.getfield 19, 3) := by decide +kernel
theorem d_C_hasEarlyAggregate_37 : decode b_C_hasEarlyAggregate 37 = .ok (.getfield 63, 3) := by decide +kernel
theorem d_C_hasEarlyAggregate_40 : decode b_C_hasEarlyAggregate 40 = .ok (.invokevirtual 72, 3) := by decide +kernel
theorem d_C_hasEarlyAggregate_43 : decode b_C_hasEarlyAggregate 43 = .ok (.ior, 1) := by decide +kernel
theorem d_C_hasEarlyAggregate_44 : decode b_C_hasEarlyAggregate 44 = .ok (.aload_n 0, 1) := by decide +kernel
theorem d_C_hasEarlyAggregate_45 : decode b_C_hasEarlyAggregate 45 = .ok (.aload_n 0, 1) := by decide +kernel
theorem d_C_hasEarlyAggregate_46 : decode b_C_hasEarlyAggregate 46 = .ok (.getfield 23, 3) := by decide +kernel
theorem d_C_hasEarlyAggregate_49 : decode b_C_hasEarlyAggregate 49 = .ok (.getfield 89, 3) := by decide +kernel
theorem d_C_hasEarlyAggregate_52 : decode b_C_hasEarlyAggregate 52 = .ok (.aload_n 0, 1) := by decide +kernel
theorem d_C_hasEarlyAggregate_53 : decode b_C_hasEarlyAggregate 53 = .ok (.getfield 23, 3) := by decide +kernel
theorem d_C_hasEarlyAggregate_56 : decode b_C_hasEarlyAggregate 56 = .ok (.getfield 49, 3) := by decide +kernel
theorem d_C_hasEarlyAggregate_59 : decode b_C_hasEarlyAggregate 59 = .ok (.aload_n 0, 1) := by decide +kernel
theorem d_C_hasEarlyAggregate_60 : decode b_C_hasEarlyAggregate 60 = .ok (.getfield 19, 3) := by decide +kernel
theorem d_C_hasEarlyAggregate_63 : decode b_C_hasEarlyAggregate 63 = .ok (.getfield 63, 3) := by decide +kernel
theorem d_C_hasEarlyAggregate_66 : decode b_C_hasEarlyAggregate 66 = .ok (.invokevirtual 68, 3) := by decide +kernel
theorem d_C_hasEarlyAggregate_69 : decode b_C_hasEarlyAggregate 69 = .ok (.ior, 1) := by decide +kernel
theorem d_C_hasEarlyAggregate_70 : decode b_C_hasEarlyAggregate 70 = .ok (.istore_n 1, 1) := by decide +kernel
theorem d_C_hasEarlyAggregate_71 : decode b_C_hasEarlyAggregate 71 = .ok (.iload_n 1, 1) := by decide +kernel
theorem d_C_hasEarlyAggregate_72 : decode b_C_hasEarlyAggregate 72 = .ok (.ifCond .eq 7, 3) := by decide +kernel
theorem d_C_hasEarlyAggregate_75 : decode b_C_hasEarlyAggregate 75 = .ok (.iconst 1, 1) := by decide +kernel
theorem d_C_hasEarlyAggregate_76 : decode b_C_hasEarlyAggregate 76 = .ok (.goto 4, 3) := by decide +kernel
theorem d_C_hasEarlyAggregate_79 : decode b_C_hasEarlyAggregate 79 = .ok (.iconst 0, 1) := by decide +kernel
theorem d_C_hasEarlyAggregate_80 : decode b_C_hasEarlyAggregate 80 = .ok (.ireturn, 1) := by decide +kernel
theorem d_C_lateAggregates_0 : decode b_C_lateAggregates 0 = .ok (.aload_n 0, 1) := by decide +kernel
theorem d_C_lateAggregates_1 : decode b_C_lateAggregates 1 = .ok (.aload_n 0, 1) := by decide +kernel
theorem d_C_lateAggregates_2 : decode b_C_lateAggregates 2 = .ok (.getfield 23, 3) := by decide +kernel
theorem d_C_lateAggregates_5 : decode b_C_lateAggregates 5 = .ok (.getfield 59, 3) := by decide +kernel
theorem d_C_lateAggregates_8 : decode b_C_lateAggregates 8 = .ok (.aload_n 0, 1) := by decide +kernel
theorem d_C_lateAggregates_9 : decode b_C_lateAggregates 9 = .ok (.getfield 23, 3) := by decide +kernel
theorem d_C_lateAggregates_12 : decode b_C_lateAggregates 12 = .ok (.getfield 33, 3) := by decide +kernel
theorem d_C_lateAggregates_15 : decode b_C_lateAggregates 15 = .ok (.aload_n 0, 1) := by decide +kernel
theorem d_C_lateAggregates_16 : decode b_C_lateAggregates 16 = .ok (.getfield 19, 3) := by decide +kernel
theorem d_C_lateAggregates_19 : decode b_C_lateAggregates 19 = .ok (.getfield 63, 3) := by decide +kernel
theorem d_C_lateAggregates_22 : decode b_C_lateAggregates 22 = .ok (.invokevirtual 68, 3) := by decide +kernel
theorem d_C_lateAggregates_25 : decode b_C_lateAggregates 25 = .ok (.aload_n 0, 1) := by decide +kernel
theorem d_C_lateAggregates_26 : decode b_C_lateAggregates 26 = .ok (.aload_n 0, 1) := by decide +kernel
theorem d_C_lateAggregates_27 : decode b_C_lateAggregates 27 = .ok (.getfield 23, 3) := by decide +kernel
theorem d_C_lateAggregates_30 : decode b_C_lateAggregates 30 = .ok (.getfield 52, 3) := by decide +kernel
theorem d_C_lateAggregates_33 : decode b_C_lateAggregates 33 = .ok (.aload_n 0, 1) := by decide +kernel
theorem d_C_lateAggregates_34 : decode b_C_lateAggregates 34 = .ok (.getfield 19, 3) := by decide +kernel
theorem d_C_lateAggregates_37 : decode b_C_lateAggregates 37 = .ok (.getfield 63, 3) := by decide +kernel
theorem d_C_lateAggregates_40 : decode b_C_lateAggregates 40 = .ok (.invokevirtual 72, 3) := by decide +kernel
theorem d_C_lateAggregates_43 : decode b_C_lateAggregates 43 = .ok (.ior, 1) := by decide +kernel
theorem d_C_lateAggregates_44 : decode b_C_lateAggregates 44 = .ok (.ireturn, 1) := by decide +kernel
theorem d_C_isGrouped_0 : decode b_C_isGrouped 0 = .ok (.aload_n 0, 1) := by decide +kernel
theorem d_C_isGrouped_1 : decode b_C_isGrouped 1 = .ok (.getfield 23, 3) := by decide +kernel
theorem d_C_isGrouped_4 : decode b_C_isGrouped 4 = .ok (.getfield 49, 3) := by decide +kernel
theorem d_C_isGrouped_7 : decode b_C_isGrouped 7 = .ok (.ifCond .gt 21, 3) := by decide +kernel
theorem d_C_isGrouped_10 : decode b_C_isGrouped 10 = .ok (.aload_n 0, 1) := by decide +kernel
theorem d_C_isGrouped_11 : decode b_C_isGrouped 11 = .ok (.getfield 23, 3) := by decide +kernel
theorem d_C_isGrouped_14 : decode b_C_isGrouped 14 = .ok (.getfield 52, 3) := by decide +kernel
theorem d_C_isGrouped_17 : decode b_C_isGrouped 17 = .ok (.iconst (-1), 1) := by decide +kernel
theorem d_C_isGrouped_18 : decode b_C_isGrouped 18 = .ok (.if_icmp .ne 10, 3) := by decide +kernel
theorem d_C_isGrouped_21 : decode b_C_isGrouped 21 = .ok (.aload_n 0, 1) := by decide +kernel
theorem d_C_isGrouped_22 : decode b_C_isGrouped 22 = .ok (.invokevirtual 55, 3) := by decide +kernel
theorem d_C_isGrouped_25 : decode b_C_isGrouped 25 = .ok (.ifCond .eq 7, 3) := by decide +kernel
theorem d_C_isGrouped_28 : decode b_C_isGrouped 28 = .ok (.iconst 1, 1) := by decide +kernel
theorem d_C_isGrouped_29 : decode b_C_isGrouped 29 = .ok (.goto 4, 3) := by decide +kernel
theorem d_C_isGrouped_32 : decode b_C_isGrouped 32 = .ok (.iconst 0, 1) := by decide +kernel
theorem d_C_isGrouped_33 : decode b_C_isGrouped 33 = .ok (.ireturn, 1) := by decide +kernel
theorem d_E_isAlike_0 : decode b_E_isAlike 0 = .ok (.aload_n 0, 1) := by decide +kernel
theorem d_E_isAlike_1 : decode b_E_isAlike 1 = .ok (.getfield 28, 3) := by decide +kernel
theorem d_E_isAlike_4 : decode b_E_isAlike 4 = .ok (.iload_n 1, 1) := by decide +kernel
theorem d_E_isAlike_5 : decode b_E_isAlike 5 = .ok (.iaload, 1) := by decide +kernel
theorem d_E_isAlike_6 : decode b_E_isAlike 6 = .ok (.aload_n 0, 1) := by decide +kernel
theorem d_E_isAlike_7 : decode b_E_isAlike 7 = .ok (.getfield 28, 3) := by decide +kernel
theorem d_E_isAlike_10 : decode b_E_isAlike 10 = .ok (.iload_n 2, 1) := by decide +kernel
theorem d_E_isAlike_11 : decode b_E_isAlike 11 = .ok (.iaload, 1) := by decide +kernel
theorem d_E_isAlike_12 : decode b_E_isAlike 12 = .ok (.if_icmp .ne 7, 3) := by decide +kernel
theorem d_E_isAlike_15 : decode b_E_isAlike 15 = .ok (.iconst 1, 1) := by decide +kernel
theorem d_E_isAlike_16 : decode b_E_isAlike 16 = .ok (.goto 4, 3) := by decide +kernel
theorem d_E_isAlike_19 : decode b_E_isAlike 19 = .ok (.iconst 0, 1) := by decide +kernel
theorem d_E_isAlike_20 : decode b_E_isAlike 20 = .ok (.ireturn, 1) := by decide +kernel
theorem d_C_isLikeGroup_0 : decode b_C_isLikeGroup 0 = .ok (.iconst 0, 1) := by decide +kernel
theorem d_C_isLikeGroup_1 : decode b_C_isLikeGroup 1 = .ok (.istore_n 2, 1) := by decide +kernel
theorem d_C_isLikeGroup_2 : decode b_C_isLikeGroup 2 = .ok (.iload_n 2, 1) := by decide +kernel
theorem d_C_isLikeGroup_3 : decode b_C_isLikeGroup 3 = .ok (.aload_n 0, 1) := by decide +kernel
theorem d_C_isLikeGroup_4 : decode b_C_isLikeGroup 4 = .ok (.getfield 23, 3) := by decide +kernel
theorem d_C_isLikeGroup_7 : decode b_C_isLikeGroup 7 = .ok (.getfield 49, 3) := by decide +kernel
theorem d_C_isLikeGroup_10 : decode b_C_isLikeGroup 10 = .ok (.if_icmp .ge 31, 3) := by decide +kernel
theorem d_C_isLikeGroup_13 : decode b_C_isLikeGroup 13 = .ok (.aload_n 0, 1) := by decide +kernel
theorem d_C_isLikeGroup_14 : decode b_C_isLikeGroup 14 = .ok (.getfield 19, 3) := by decide +kernel
theorem d_C_isLikeGroup_17 : decode b_C_isLikeGroup 17 = .ok (.iload_n 1, 1) := by decide +kernel
theorem d_C_isLikeGroup_18 : decode b_C_isLikeGroup 18 = .ok (.aload_n 0, 1) := by decide +kernel
theorem d_C_isLikeGroup_19 : decode b_C_isLikeGroup 19 = .ok (.getfield 23, 3) := by decide +kernel
theorem d_C_isLikeGroup_22 : decode b_C_isLikeGroup 22 = .ok (.getfield 89, 3) := by decide +kernel
theorem d_C_isLikeGroup_25 : decode b_C_isLikeGroup 25 = .ok (.iload_n 2, 1) := by decide +kernel
theorem d_C_isLikeGroup_26 : decode b_C_isLikeGroup 26 = .ok (.iaload, 1) := by decide +kernel
theorem d_C_isLikeGroup_27 : decode b_C_isLikeGroup 27 = .ok (.invokevirtual 105, 3) := by decide +kernel
theorem d_C_isLikeGroup_30 : decode b_C_isLikeGroup 30 = .ok (.ifCond .eq 5, 3) := by decide +kernel
theorem d_C_isLikeGroup_33 : decode b_C_isLikeGroup 33 = .ok (.iconst 1, 1) := by decide +kernel
theorem d_C_isLikeGroup_34 : decode b_C_isLikeGroup 34 = .ok (.ireturn, 1) := by decide +kernel
theorem d_C_isLikeGroup_35 : decode b_C_isLikeGroup 35 = .ok (.iinc 2 1, 3) := by decide +kernel
theorem d_C_isLikeGroup_38 : decode b_C_isLikeGroup 38 = .ok (.goto (-36), 3) := by decide +kernel
theorem d_C_isLikeGroup_41 : decode b_C_isLikeGroup 41 = .ok (.iconst 0, 1) := by decide +kernel
theorem d_C_isLikeGroup_42 : decode b_C_isLikeGroup 42 = .ok (.ireturn, 1) := by decide +kernel
theorem d_C_isLoose_0 : decode b_C_isLoose 0 = .ok (.aload_n 0, 1) := by decide +kernel
theorem d_C_isLoose_1 : decode b_C_isLoose 1 = .ok (.getfield 19, 3) := by decide +kernel
theorem d_C_isLoose_4 : decode b_C_isLoose 4 = .ok (.getfield 109, 3) := by decide +kernel
theorem d_C_isLoose_7 : decode b_C_isLoose 7 = .ok (.iload_n 1, 1) := by decide +kernel
theorem d_C_isLoose_8 : decode b_C_isLoose 8 = .ok (.iaload, 1) := by decide +kernel
theorem d_C_isLoose_9 : decode b_C_isLoose 9 = .ok (.istore_n 2, 1) := by decide +kernel
theorem d_C_isLoose_10 : decode b_C_isLoose 10 = .ok (.iload_n 2, 1) := by decide +kernel
theorem d_C_isLoose_11 : decode b_C_isLoose 11 = .ok (.bipush 15, 2) := by decide +kernel
theorem d_C_isLoose_13 : decode b_C_isLoose 13 = .ok (.if_icmp .eq 9, 3) := by decide +kernel
theorem d_C_isLoose_16 : decode b_C_isLoose 16 = .ok (.iload_n 2, 1) := by decide +kernel
theorem d_C_isLoose_17 : decode b_C_isLoose 17 = .ok (.bipush 16, 2) := by decide +kernel
theorem d_C_isLoose_19 : decode b_C_isLoose 19 = .ok (.if_icmp .ne 15, 3) := by decide +kernel
theorem d_C_isLoose_22 : decode b_C_isLoose 22 = .ok (.iload_n 2, 1) := by decide +kernel
theorem d_C_isLoose_23 : decode b_C_isLoose 23 = .ok (.bipush 15, 2) := by decide +kernel
theorem d_C_isLoose_25 : decode b_C_isLoose 25 = .ok (.if_icmp .ne 7, 3) := by decide +kernel
theorem d_C_isLoose_28 : decode b_C_isLoose 28 = .ok (.iconst 1, 1) := by decide +kernel
theorem d_C_isLoose_29 : decode b_C_isLoose 29 = .ok (.goto 4, 3) := by decide +kernel
theorem d_C_isLoose_32 : decode b_C_isLoose 32 = .ok (.iconst 0, 1) := by decide +kernel
theorem d_C_isLoose_33 : decode b_C_isLoose 33 = .ok (.ireturn, 1) := by decide +kernel
theorem d_C_isLoose_34 : decode b_C_isLoose 34 = .ok (.aload_n 0, 1) := by decide +kernel
theorem d_C_isLoose_35 : decode b_C_isLoose 35 = .ok (.getfield 19, 3) := by decide +kernel
theorem d_C_isLoose_38 : decode b_C_isLoose 38 = .ok (.getfield 112, 3) := by decide +kernel
theorem d_C_isLoose_41 : decode b_C_isLoose 41 = .ok (.iload_n 1, 1) := by decide +kernel
theorem d_C_isLoose_42 : decode b_C_isLoose 42 = .ok (.iaload, 1) := by decide +kernel
theorem d_C_isLoose_43 : decode b_C_isLoose 43 = .ok (.istore_n 3, 1) := by decide +kernel
theorem d_C_isLoose_44 : decode b_C_isLoose 44 = .ok (.aload_n 0, 1) := by decide +kernel
theorem d_C_isLoose_45 : decode b_C_isLoose 45 = .ok (.getfield 19, 3) := by decide +kernel
theorem d_C_isLoose_48 : decode b_C_isLoose 48 = .ok (.getfield 115, 3) := by decide +kernel
theorem d_C_isLoose_51 : decode b_C_isLoose 51 = .ok (.iload_n 1, 1) := by decide +kernel
theorem d_C_isLoose_52 : decode b_C_isLoose 52 = .ok (.iaload, 1) := by decide +kernel
theorem d_C_isLoose_53 : decode b_C_isLoose 53 = .ok (.istore 4, 2) := by decide +kernel
theorem d_C_isLoose_55 : decode b_C_isLoose 55 = .ok (.aload_n 0, 1) := by decide +kernel
theorem d_C_isLoose_56 : decode b_C_isLoose 56 = .ok (.getfield 19, 3) := by decide +kernel
theorem d_C_isLoose_59 : decode b_C_isLoose 59 = .ok (.iload_n 3, 1) := by decide +kernel
theorem d_C_isLoose_60 : decode b_C_isLoose 60 = .ok (.invokevirtual 102, 3) := by decide +kernel
theorem d_C_isLoose_63 : decode b_C_isLoose 63 = .ok (.ifCond .eq 12, 3) := by decide +kernel
theorem d_C_isLoose_66 : decode b_C_isLoose 66 = .ok (.aload_n 0, 1) := by decide +kernel
theorem d_C_isLoose_67 : decode b_C_isLoose 67 = .ok (.getfield 9, 3) := by decide +kernel
theorem d_C_isLoose_70 : decode b_C_isLoose 70 = .ok (.iload_n 3, 1) := by decide +kernel
theorem d_C_isLoose_71 : decode b_C_isLoose 71 = .ok (.baload, 1) := by decide +kernel
theorem d_C_isLoose_72 : decode b_C_isLoose 72 = .ok (.ifCond .ne 25, 3) := by decide +kernel
theorem d_C_isLoose_75 : decode b_C_isLoose 75 = .ok (.aload_n 0, 1) := by decide +kernel
theorem d_C_isLoose_76 : decode b_C_isLoose 76 = .ok (.getfield 19, 3) := by decide +kernel
theorem d_C_isLoose_79 : decode b_C_isLoose 79 = .ok (.iload 4, 2) := by decide +kernel
theorem d_C_isLoose_81 : decode b_C_isLoose 81 = .ok (.invokevirtual 102, 3) := by decide +kernel
theorem d_C_isLoose_84 : decode b_C_isLoose 84 = .ok (.ifCond .eq 17, 3) := by decide +kernel
theorem d_C_isLoose_87 : decode b_C_isLoose 87 = .ok (.aload_n 0, 1) := by decide +kernel
theorem d_C_isLoose_88 : decode b_C_isLoose 88 = .ok (.getfield 9, 3) := by decide +kernel
theorem d_C_isLoose_91 : decode b_C_isLoose 91 = .ok (.iload 4, 2) := by decide +kernel
theorem d_C_isLoose_93 : decode b_C_isLoose 93 = .ok (.baload, 1) := by decide +kernel
theorem d_C_isLoose_94 : decode b_C_isLoose 94 = .ok (.ifCond .eq 7, 3) := by decide +kernel
theorem d_C_isLoose_97 : decode b_C_isLoose 97 = .ok (.iconst 1, 1) := by decide +kernel
theorem d_C_isLoose_98 : decode b_C_isLoose 98 = .ok (.goto 4, 3) := by decide +kernel
theorem d_C_isLoose_101 : decode b_C_isLoose 101 = .ok (.iconst 0, 1) := by decide +kernel
theorem d_C_isLoose_102 : decode b_C_isLoose 102 = .ok (.ireturn, 1) := by decide +kernel
theorem d_C_hasLooseColumn_0 : decode b_C_hasLooseColumn 0 = .ok (.iconst 0, 1) := by decide +kernel
theorem d_C_hasLooseColumn_1 : decode b_C_hasLooseColumn 1 = .ok (.istore_n 1, 1) := by decide +kernel
theorem d_C_hasLooseColumn_2 : decode b_C_hasLooseColumn 2 = .ok (.iload_n 1, 1) := by decide +kernel
theorem d_C_hasLooseColumn_3 : decode b_C_hasLooseColumn 3 = .ok (.aload_n 0, 1) := by decide +kernel
theorem d_C_hasLooseColumn_4 : decode b_C_hasLooseColumn 4 = .ok (.getfield 19, 3) := by decide +kernel
theorem d_C_hasLooseColumn_7 : decode b_C_hasLooseColumn 7 = .ok (.getfield 92, 3) := by decide +kernel
theorem d_C_hasLooseColumn_10 : decode b_C_hasLooseColumn 10 = .ok (.if_icmp .ge 36, 3) := by decide +kernel
theorem d_C_hasLooseColumn_13 : decode b_C_hasLooseColumn 13 = .ok (.aload_n 0, 1) := by decide +kernel
theorem d_C_hasLooseColumn_14 : decode b_C_hasLooseColumn 14 = .ok (.getfield 9, 3) := by decide +kernel
theorem d_C_hasLooseColumn_17 : decode b_C_hasLooseColumn 17 = .ok (.iload_n 1, 1) := by decide +kernel
theorem d_C_hasLooseColumn_18 : decode b_C_hasLooseColumn 18 = .ok (.aload_n 0, 1) := by decide +kernel
theorem d_C_hasLooseColumn_19 : decode b_C_hasLooseColumn 19 = .ok (.iload_n 1, 1) := by decide +kernel
theorem d_C_hasLooseColumn_20 : decode b_C_hasLooseColumn 20 = .ok (.invokevirtual 95, 3) := by decide +kernel
theorem d_C_hasLooseColumn_23 : decode b_C_hasLooseColumn 23 = .ok (.ifCond .ne 15, 3) := by decide +kernel
theorem d_C_hasLooseColumn_26 : decode b_C_hasLooseColumn 26 = .ok (.aload_n 0, 1) := by decide +kernel
theorem d_C_hasLooseColumn_27 : decode b_C_hasLooseColumn 27 = .ok (.iload_n 1, 1) := by decide +kernel
theorem d_C_hasLooseColumn_28 : decode b_C_hasLooseColumn 28 = .ok (.invokevirtual 99, 3) := by decide +kernel
theorem d_C_hasLooseColumn_31 : decode b_C_hasLooseColumn 31 = .ok (.ifCond .eq 7, 3) := by decide +kernel
theorem d_C_hasLooseColumn_34 : decode b_C_hasLooseColumn 34 = .ok (.iconst 1, 1) := by decide +kernel
theorem d_C_hasLooseColumn_35 : decode b_C_hasLooseColumn 35 = .ok (.goto 4, 3) := by decide +kernel
theorem d_C_hasLooseColumn_38 : decode b_C_hasLooseColumn 38 = .ok (.iconst 0, 1) := by decide +kernel
theorem d_C_hasLooseColumn_39 : decode b_C_hasLooseColumn 39 = .ok (.bastore, 1) := by decide +kernel
theorem d_C_hasLooseColumn_40 : decode b_C_hasLooseColumn 40 = .ok (.iinc 1 1, 3) := by decide +kernel
theorem d_C_hasLooseColumn_43 : decode b_C_hasLooseColumn 43 = .ok (.goto (-41), 3) := by decide +kernel
theorem d_C_hasLooseColumn_46 : decode b_C_hasLooseColumn 46 = .ok (.iconst 0, 1) := by decide +kernel
theorem d_C_hasLooseColumn_47 : decode b_C_hasLooseColumn 47 = .ok (.istore_n 1, 1) := by decide +kernel
theorem d_C_hasLooseColumn_48 : decode b_C_hasLooseColumn 48 = .ok (.iload_n 1, 1) := by decide +kernel
theorem d_C_hasLooseColumn_49 : decode b_C_hasLooseColumn 49 = .ok (.aload_n 0, 1) := by decide +kernel
theorem d_C_hasLooseColumn_50 : decode b_C_hasLooseColumn 50 = .ok (.getfield 23, 3) := by decide +kernel
theorem d_C_hasLooseColumn_53 : decode b_C_hasLooseColumn 53 = .ok (.getfield 33, 3) := by decide +kernel
theorem d_C_hasLooseColumn_56 : decode b_C_hasLooseColumn 56 = .ok (.if_icmp .ge 28, 3) := by decide +kernel
theorem d_C_hasLooseColumn_59 : decode b_C_hasLooseColumn 59 = .ok (.aload_n 0, 1) := by decide +kernel
theorem d_C_hasLooseColumn_60 : decode b_C_hasLooseColumn 60 = .ok (.getfield 9, 3) := by decide +kernel
theorem d_C_hasLooseColumn_63 : decode b_C_hasLooseColumn 63 = .ok (.aload_n 0, 1) := by decide +kernel
theorem d_C_hasLooseColumn_64 : decode b_C_hasLooseColumn 64 = .ok (.getfield 23, 3) := by decide +kernel
theorem d_C_hasLooseColumn_67 : decode b_C_hasLooseColumn 67 = .ok (.getfield 59, 3) := by decide +kernel
theorem d_C_hasLooseColumn_70 : decode b_C_hasLooseColumn 70 = .ok (.iload_n 1, 1) := by decide +kernel
theorem d_C_hasLooseColumn_71 : decode b_C_hasLooseColumn 71 = .ok (.iaload, 1) := by decide +kernel
theorem d_C_hasLooseColumn_72 : decode b_C_hasLooseColumn 72 = .ok (.baload, 1) := by decide +kernel
theorem d_C_hasLooseColumn_73 : decode b_C_hasLooseColumn 73 = .ok (.ifCond .eq 5, 3) := by decide +kernel
theorem d_C_hasLooseColumn_76 : decode b_C_hasLooseColumn 76 = .ok (.iconst 1, 1) := by decide +kernel
theorem d_C_hasLooseColumn_77 : decode b_C_hasLooseColumn 77 = .ok (.ireturn, 1) := by decide +kernel
theorem d_C_hasLooseColumn_78 : decode b_C_hasLooseColumn 78 = .ok (.iinc 1 1, 3) := by decide +kernel
theorem d_C_hasLooseColumn_81 : decode b_C_hasLooseColumn 81 = .ok (.goto (-33), 3) := by decide +kernel
theorem d_C_hasLooseColumn_84 : decode b_C_hasLooseColumn 84 = .ok (.aload_n 0, 1) := by decide +kernel
theorem d_C_hasLooseColumn_85 : decode b_C_hasLooseColumn 85 = .ok (.getfield 19, 3) := by decide +kernel
theorem d_C_hasLooseColumn_88 : decode b_C_hasLooseColumn 88 = .ok (.aload_n 0, 1) := by decide +kernel
theorem d_C_hasLooseColumn_89 : decode b_C_hasLooseColumn 89 = .ok (.getfield 23, 3) := by decide +kernel
theorem d_C_hasLooseColumn_92 : decode b_C_hasLooseColumn 92 = .ok (.getfield 52, 3) := by decide +kernel
theorem d_C_hasLooseColumn_95 : decode b_C_hasLooseColumn 95 = .ok (.invokevirtual 102, 3) := by decide +kernel
theorem d_C_hasLooseColumn_98 : decode b_C_hasLooseColumn 98 = .ok (.ifCond .eq 22, 3) := by decide +kernel
theorem d_C_hasLooseColumn_101 : decode b_C_hasLooseColumn 101 = .ok (.aload_n 0, 1) := by decide +kernel
theorem d_C_hasLooseColumn_102 : decode b_C_hasLooseColumn 102 = .ok (.getfield 9, 3) := by decide +kernel
theorem d_C_hasLooseColumn_105 : decode b_C_hasLooseColumn 105 = .ok (.aload_n 0, 1) := by decide +kernel
theorem d_C_hasLooseColumn_106 : decode b_C_hasLooseColumn 106 = .ok (.getfield 23, 3) := by decide +kernel
theorem d_C_hasLooseColumn_109 : decode b_C_hasLooseColumn 109 = .ok (.getfield 52, 3) := by decide +kernel
theorem d_C_hasLooseColumn_112 : decode b_C_hasLooseColumn 112 = .ok (.baload, 1) := by decide +kernel
theorem d_C_hasLooseColumn_113 : decode b_C_hasLooseColumn 113 = .ok (.ifCond .eq 7, 3) := by decide +kernel
theorem d_C_hasLooseColumn_116 : decode b_C_hasLooseColumn 116 = .ok (.iconst 1, 1) := by decide +kernel
theorem d_C_hasLooseColumn_117 : decode b_C_hasLooseColumn 117 = .ok (.goto 4, 3) := by decide +kernel
theorem d_C_hasLooseColumn_120 : decode b_C_hasLooseColumn 120 = .ok (.iconst 0, 1) := by decide +kernel
theorem d_C_hasLooseColumn_121 : decode b_C_hasLooseColumn 121 = .ok (.ireturn, 1) := by decide +kernel
theorem d_C_firstFault_0 : decode b_C_firstFault 0 = .ok (.aload_n 0, 1) := by decide +kernel
theorem d_C_firstFault_1 : decode b_C_firstFault 1 = .ok (.getfield 23, 3) := by decide +kernel
theorem d_C_firstFault_4 : decode b_C_firstFault 4 = .ok (.getfield 27, 3) := by decide +kernel
theorem d_C_firstFault_7 : decode b_C_firstFault 7 = .ok (.ifCond .eq 13, 3) := by decide +kernel
theorem d_C_firstFault_10 : decode b_C_firstFault 10 = .ok (.aload_n 0, 1) := by decide +kernel
theorem d_C_firstFault_11 : decode b_C_firstFault 11 = .ok (.getfield 23, 3) := by decide +kernel
theorem d_C_firstFault_14 : decode b_C_firstFault 14 = .ok (.getfield 33, 3) := by decide +kernel
theorem d_C_firstFault_17 : decode b_C_firstFault 17 = .ok (.ifCond .ne 5, 3) := by decide +kernel
theorem d_C_firstFault_20 : decode b_C_firstFault 20 = .ok (.iconst (-1), 1) := by decide +kernel
theorem d_C_firstFault_21 : decode b_C_firstFault 21 = .ok (.ireturn, 1) := by decide +kernel
theorem d_C_firstFault_22 : decode b_C_firstFault 22 = .ok (.aload_n 0, 1) := by decide +kernel
theorem d_C_firstFault_23 : decode b_C_firstFault 23 = .ok (.invokevirtual 36, 3) := by decide +kernel
theorem d_C_firstFault_26 : decode b_C_firstFault 26 = .ok (.ifCond .eq 6, 3) := by decide +kernel
theorem d_C_firstFault_29 : decode b_C_firstFault 29 = .ok (.bipush (-11), 2) := by decide +kernel
theorem d_C_firstFault_31 : decode b_C_firstFault 31 = .ok (.ireturn, 1) := by decide +kernel
theorem d_C_firstFault_32 : decode b_C_firstFault 32 = .ok (.aload_n 0, 1) := by decide +kernel
theorem d_C_firstFault_33 : decode b_C_firstFault 33 = .ok (.invokevirtual 40, 3) := by decide +kernel
theorem d_C_firstFault_36 : decode b_C_firstFault 36 = .ok (.ifCond .eq 6, 3) := by decide +kernel
theorem d_C_firstFault_39 : decode b_C_firstFault 39 = .ok (.bipush (-12), 2) := by decide +kernel
theorem d_C_firstFault_41 : decode b_C_firstFault 41 = .ok (.ireturn, 1) := by decide +kernel
theorem d_C_firstFault_42 : decode b_C_firstFault 42 = .ok (.aload_n 0, 1) := by decide +kernel
theorem d_C_firstFault_43 : decode b_C_firstFault 43 = .ok (.invokevirtual 43, 3) := by decide +kernel
theorem d_C_firstFault_46 : decode b_C_firstFault 46 = .ok (.ifCond .eq 13, 3) := by decide +kernel
theorem d_C_firstFault_49 : decode b_C_firstFault 49 = .ok (.aload_n 0, 1) := by decide +kernel
theorem d_C_firstFault_50 : decode b_C_firstFault 50 = .ok (.invokevirtual 46, 3) := by decide +kernel
theorem d_C_firstFault_53 : decode b_C_firstFault 53 = .ok (.ifCond .eq 6, 3) := by decide +kernel
theorem d_C_firstFault_56 : decode b_C_firstFault 56 = .ok (.bipush (-13), 2) := by decide +kernel
theorem d_C_firstFault_58 : decode b_C_firstFault 58 = .ok (.ireturn, 1) := by decide +kernel
theorem d_C_firstFault_59 : decode b_C_firstFault 59 = .ok (.iconst 0, 1) := by decide +kernel
theorem d_C_firstFault_60 : decode b_C_firstFault 60 = .ok (.ireturn, 1) := by decide +kernel
theorem d_G_openGroup_0 : decode b_G_openGroup 0 = .ok (.aload_n 0, 1) := by decide +kernel
theorem d_G_openGroup_1 : decode b_G_openGroup 1 = .ok (.getfield 19, 3) := by decide +kernel
theorem d_G_openGroup_4 : decode b_G_openGroup 4 = .ok (.iload_n 1, 1) := by decide +kernel
theorem d_G_openGroup_5 : decode b_G_openGroup 5 = .ok (.iconst (-1), 1) := by decide +kernel
theorem d_G_openGroup_6 : decode b_G_openGroup 6 = .ok (.iastore, 1) := by decide +kernel
theorem d_G_openGroup_7 : decode b_G_openGroup 7 = .ok (.iconst 0, 1) := by decide +kernel
theorem d_G_openGroup_8 : decode b_G_openGroup 8 = .ok (.istore_n 2, 1) := by decide +kernel
theorem d_G_openGroup_9 : decode b_G_openGroup 9 = .ok (.iload_n 2, 1) := by decide +kernel
theorem d_G_openGroup_10 : decode b_G_openGroup 10 = .ok (.bipush 8, 2) := by decide +kernel
theorem d_G_openGroup_12 : decode b_G_openGroup 12 = .ok (.if_icmp .ge 33, 3) := by decide +kernel
theorem d_G_openGroup_15 : decode b_G_openGroup 15 = .ok (.aload_n 0, 1) := by decide +kernel
theorem d_G_openGroup_16 : decode b_G_openGroup 16 = .ok (.getfield 37, 3) := by decide +kernel
theorem d_G_openGroup_19 : decode b_G_openGroup 19 = .ok (.iload_n 1, 1) := by decide +kernel
theorem d_G_openGroup_20 : decode b_G_openGroup 20 = .ok (.bipush 8, 2) := by decide +kernel
theorem d_G_openGroup_22 : decode b_G_openGroup 22 = .ok (.imul, 1) := by decide +kernel
theorem d_G_openGroup_23 : decode b_G_openGroup 23 = .ok (.iload_n 2, 1) := by decide +kernel
theorem d_G_openGroup_24 : decode b_G_openGroup 24 = .ok (.iadd, 1) := by decide +kernel
theorem d_G_openGroup_25 : decode b_G_openGroup 25 = .ok (.iconst 0, 1) := by decide +kernel
theorem d_G_openGroup_26 : decode b_G_openGroup 26 = .ok (.iastore, 1) := by decide +kernel
theorem d_G_openGroup_27 : decode b_G_openGroup 27 = .ok (.aload_n 0, 1) := by decide +kernel
theorem d_G_openGroup_28 : decode b_G_openGroup 28 = .ok (.getfield 40, 3) := by decide +kernel
theorem d_G_openGroup_31 : decode b_G_openGroup 31 = .ok (.iload_n 1, 1) := by decide +kernel
theorem d_G_openGroup_32 : decode b_G_openGroup 32 = .ok (.bipush 8, 2) := by decide +kernel
theorem d_G_openGroup_34 : decode b_G_openGroup 34 = .ok (.imul, 1) := by decide +kernel
theorem d_G_openGroup_35 : decode b_G_openGroup 35 = .ok (.iload_n 2, 1) := by decide +kernel
theorem d_G_openGroup_36 : decode b_G_openGroup 36 = .ok (.iadd, 1) := by decide +kernel
theorem d_G_openGroup_37 : decode b_G_openGroup 37 = .ok (.lconst 0, 1) := by decide +kernel
theorem d_G_openGroup_38 : decode b_G_openGroup 38 = .ok (.lastore, 1) := by decide +kernel
theorem d_G_openGroup_39 : decode b_G_openGroup 39 = .ok (.iinc 2 1, 3) := by decide +kernel
theorem d_G_openGroup_42 : decode b_G_openGroup 42 = .ok (.goto (-33), 3) := by decide +kernel
theorem d_G_openGroup_45 : decode b_G_openGroup 45 = .ok (.aload_n 0, 1) := by decide +kernel
theorem d_G_openGroup_46 : decode b_G_openGroup 46 = .ok (.iload_n 1, 1) := by decide +kernel
theorem d_G_openGroup_47 : decode b_G_openGroup 47 = .ok (.iconst 1, 1) := by decide +kernel
theorem d_G_openGroup_48 : decode b_G_openGroup 48 = .ok (.iadd, 1) := by decide +kernel
theorem d_G_openGroup_49 : decode b_G_openGroup 49 = .ok (.putfield 51, 3) := by decide +kernel
theorem d_G_openGroup_52 : decode b_G_openGroup 52 = .ok (.return_, 1) := by decide +kernel
theorem d_G_clear_0 : decode b_G_clear 0 = .ok (.aload_n 0, 1) := by decide +kernel
theorem d_G_clear_1 : decode b_G_clear 1 = .ok (.iconst 0, 1) := by decide +kernel
theorem d_G_clear_2 : decode b_G_clear 2 = .ok (.putfield 47, 3) := by decide +kernel
theorem d_G_clear_5 : decode b_G_clear 5 = .ok (.aload_n 0, 1) := by decide +kernel
theorem d_G_clear_6 : decode b_G_clear 6 = .ok (.iconst 0, 1) := by decide +kernel
theorem d_G_clear_7 : decode b_G_clear 7 = .ok (.putfield 51, 3) := by decide +kernel
theorem d_G_clear_10 : decode b_G_clear 10 = .ok (.iload_n 1, 1) := by decide +kernel
theorem d_G_clear_11 : decode b_G_clear 11 = .ok (.ifCond .eq 8, 3) := by decide +kernel
theorem d_G_clear_14 : decode b_G_clear 14 = .ok (.aload_n 0, 1) := by decide +kernel
theorem d_G_clear_15 : decode b_G_clear 15 = .ok (.iconst 0, 1) := by decide +kernel
theorem d_G_clear_16 : decode b_G_clear 16 = .ok (.invokevirtual 54, 3) := by decide +kernel
theorem d_G_clear_19 : decode b_G_clear 19 = .ok (.return_, 1) := by decide +kernel
theorem d_R_prepare_0 : decode b_R_prepare 0 = .ok (.aload_n 0, 1) := by decide +kernel
theorem d_R_prepare_1 : decode b_R_prepare 1 = .ok (.getfield 32, 3) := by decide +kernel
theorem d_R_prepare_4 : decode b_R_prepare 4 = .ok (.invokevirtual 43, 3) := by decide +kernel
theorem d_R_prepare_7 : decode b_R_prepare 7 = .ok (.istore_n 1, 1) := by decide +kernel
theorem d_R_prepare_8 : decode b_R_prepare 8 = .ok (.iload_n 1, 1) := by decide +kernel
theorem d_R_prepare_9 : decode b_R_prepare 9 = .ok (.ifCond .eq 5, 3) := by decide +kernel
theorem d_R_prepare_12 : decode b_R_prepare 12 = .ok (.iload_n 1, 1) := by decide +kernel
theorem d_R_prepare_13 : decode b_R_prepare 13 = .ok (.ireturn, 1) := by decide +kernel
theorem d_R_prepare_14 : decode b_R_prepare 14 = .ok (.aload_n 0, 1) := by decide +kernel
theorem d_R_prepare_15 : decode b_R_prepare 15 = .ok (.aload_n 0, 1) := by decide +kernel
theorem d_R_prepare_16 : decode b_R_prepare 16 = .ok (.getfield 32, 3) := by decide +kernel
theorem d_R_prepare_19 : decode b_R_prepare 19 = .ok (.invokevirtual 47, 3) := by decide +kernel
theorem d_R_prepare_22 : decode b_R_prepare 22 = .ok (.putfield 51, 3) := by decide +kernel
theorem d_R_prepare_25 : decode b_R_prepare 25 = .ok (.aload_n 0, 1) := by decide +kernel
theorem d_R_prepare_26 : decode b_R_prepare 26 = .ok (.aload_n 0, 1) := by decide +kernel
theorem d_R_prepare_27 : decode b_R_prepare 27 = .ok (.getfield 32, 3) := by decide +kernel
theorem d_R_prepare_30 : decode b_R_prepare 30 = .ok (.invokevirtual 54, 3) := by decide +kernel
theorem d_R_prepare_33 : decode b_R_prepare 33 = .ok (.putfield 57, 3) := by decide +kernel
theorem d_R_prepare_36 : decode b_R_prepare 36 = .ok (.aload_n 0, 1) := by decide +kernel
theorem d_R_prepare_37 : decode b_R_prepare 37 = .ok (.getfield 51, 3) := by decide +kernel
theorem d_R_prepare_40 : decode b_R_prepare 40 = .ok (.ifCond .eq 56, 3) := by decide +kernel
theorem d_R_prepare_43 : decode b_R_prepare 43 = .ok (.aload_n 0, 1) := by decide +kernel
theorem d_R_prepare_44 : decode b_R_prepare 44 = .ok (.getfield 39, 3) := by decide +kernel
theorem d_R_prepare_47 : decode b_R_prepare 47 = .ok (.getfield 61, 3) := by decide +kernel
theorem d_R_prepare_50 : decode b_R_prepare 50 = .ok (.ifnonnull 21, 3) := by decide +kernel
theorem d_R_prepare_53 : decode b_R_prepare 53 = .ok (.aload_n 0, 1) := by decide +kernel
theorem d_R_prepare_54 : decode b_R_prepare 54 = .ok (.getfield 39, 3) := by decide +kernel
theorem d_R_prepare_57 : decode b_R_prepare 57 = .ok (.new 65, 3) := by decide +kernel
theorem d_R_prepare_60 : decode b_R_prepare 60 = .ok (.dup, 1) := by decide +kernel
theorem d_R_prepare_61 : decode b_R_prepare 61 = .ok (.aload_n 0, 1) := by decide +kernel
theorem d_R_prepare_62 : decode b_R_prepare 62 = .ok (.getfield 15, 3) := by decide +kernel
theorem d_R_prepare_65 : decode b_R_prepare 65 = .ok (.invokespecial 67, 3) := by decide +kernel
theorem d_R_prepare_68 : decode b_R_prepare 68 = .ok (.putfield 61, 3) := by decide +kernel
theorem d_R_prepare_71 : decode b_R_prepare 71 = .ok (.aload_n 0, 1) := by decide +kernel
theorem d_R_prepare_72 : decode b_R_prepare 72 = .ok (.getfield 39, 3) := by decide +kernel
theorem d_R_prepare_75 : decode b_R_prepare 75 = .ok (.getfield 61, 3) := by decide +kernel
theorem d_R_prepare_78 : decode b_R_prepare 78 = .ok (.aload_n 0, 1) := by decide +kernel
theorem d_R_prepare_79 : decode b_R_prepare 79 = .ok (.getfield 19, 3) := by decide +kernel
theorem d_R_prepare_82 : decode b_R_prepare 82 = .ok (.getfield 70, 3) := by decide +kernel
theorem d_R_prepare_85 : decode b_R_prepare 85 = .ok (.ifCond .ne 7, 3) := by decide +kernel
theorem d_R_prepare_88 : decode b_R_prepare 88 = .ok (.iconst 1, 1) := by decide +kernel
theorem d_R_prepare_89 : decode b_R_prepare 89 = .ok (.goto 4, 3) := by decide +kernel
theorem d_R_prepare_92 : decode b_R_prepare 92 = .ok (.iconst 0, 1) := by decide +kernel
theorem d_R_prepare_93 : decode b_R_prepare 93 = .ok (.invokevirtual 75, 3) := by decide +kernel
theorem d_R_prepare_96 : decode b_R_prepare 96 = .ok (.iconst 0, 1) := by decide +kernel
theorem d_R_prepare_97 : decode b_R_prepare 97 = .ok (.ireturn, 1) := by decide +kernel
theorem d_A_isNullAt_0 : decode b_A_isNullAt 0 = .ok (.aload_n 0, 1) := by decide +kernel
theorem d_A_isNullAt_1 : decode b_A_isNullAt 1 = .ok (.getfield 15, 3) := by decide +kernel
theorem d_A_isNullAt_4 : decode b_A_isNullAt 4 = .ok (.iload_n 1, 1) := by decide +kernel
theorem d_A_isNullAt_5 : decode b_A_isNullAt 5 = .ok (.iaload, 1) := by decide +kernel
theorem d_A_isNullAt_6 : decode b_A_isNullAt 6 = .ok (.iload_n 2, 1) := by decide +kernel
theorem d_A_isNullAt_7 : decode b_A_isNullAt 7 = .ok (.ishr, 1) := by decide +kernel
theorem d_A_isNullAt_8 : decode b_A_isNullAt 8 = .ok (.iconst 1, 1) := by decide +kernel
theorem d_A_isNullAt_9 : decode b_A_isNullAt 9 = .ok (.iand, 1) := by decide +kernel
theorem d_A_isNullAt_10 : decode b_A_isNullAt 10 = .ok (.ifCond .eq 7, 3) := by decide +kernel
theorem d_A_isNullAt_13 : decode b_A_isNullAt 13 = .ok (.iconst 1, 1) := by decide +kernel
theorem d_A_isNullAt_14 : decode b_A_isNullAt 14 = .ok (.goto 4, 3) := by decide +kernel
theorem d_A_isNullAt_17 : decode b_A_isNullAt 17 = .ok (.iconst 0, 1) := by decide +kernel
theorem d_A_isNullAt_18 : decode b_A_isNullAt 18 = .ok (.ireturn, 1) := by decide +kernel
theorem d_L_compare_0 : decode b_L_compare 0 = .ok (.lload_n 0, 1) := by decide +kernel
theorem d_L_compare_1 : decode b_L_compare 1 = .ok (.lload_n 2, 1) := by decide +kernel
theorem d_L_compare_2 : decode b_L_compare 2 = .ok (.lcmp, 1) := by decide +kernel
theorem d_L_compare_3 : decode b_L_compare 3 = .ok (.ifCond .ge 7, 3) := by decide +kernel
theorem d_L_compare_6 : decode b_L_compare 6 = .ok (.iconst (-1), 1) := by decide +kernel
theorem d_L_compare_7 : decode b_L_compare 7 = .ok (.goto 14, 3) := by decide +kernel
theorem d_L_compare_10 : decode b_L_compare 10 = .ok (.lload_n 0, 1) := by decide +kernel
theorem d_L_compare_11 : decode b_L_compare 11 = .ok (.lload_n 2, 1) := by decide +kernel
theorem d_L_compare_12 : decode b_L_compare 12 = .ok (.lcmp, 1) := by decide +kernel
theorem d_L_compare_13 : decode b_L_compare 13 = .ok (.ifCond .ne 7, 3) := by decide +kernel
theorem d_L_compare_16 : decode b_L_compare 16 = .ok (.iconst 0, 1) := by decide +kernel
theorem d_L_compare_17 : decode b_L_compare 17 = .ok (.goto 4, 3) := by decide +kernel
theorem d_L_compare_20 : decode b_L_compare 20 = .ok (.iconst 1, 1) := by decide +kernel
theorem d_L_compare_21 : decode b_L_compare 21 = .ok (.ireturn, 1) := by decide +kernel
theorem d_A_compareItem_0 : decode b_A_compareItem 0 = .ok (.aload_n 0, 1) := by decide +kernel
theorem d_A_compareItem_1 : decode b_A_compareItem 1 = .ok (.iload_n 1, 1) := by decide +kernel
theorem d_A_compareItem_2 : decode b_A_compareItem 2 = .ok (.iload_n 3, 1) := by decide +kernel
theorem d_A_compareItem_3 : decode b_A_compareItem 3 = .ok (.invokevirtual 35, 3) := by decide +kernel
theorem d_A_compareItem_6 : decode b_A_compareItem 6 = .ok (.istore 4, 2) := by decide +kernel
theorem d_A_compareItem_8 : decode b_A_compareItem 8 = .ok (.aload_n 0, 1) := by decide +kernel
theorem d_A_compareItem_9 : decode b_A_compareItem 9 = .ok (.iload_n 2, 1) := by decide +kernel
theorem d_A_compareItem_10 : decode b_A_compareItem 10 = .ok (.iload_n 3, 1) := by decide +kernel
theorem d_A_compareItem_11 : decode b_A_compareItem 11 = .ok (.invokevirtual 35, 3) := by decide +kernel
theorem d_A_compareItem_14 : decode b_A_compareItem 14 = .ok (.istore 5, 2) := by decide +kernel
theorem d_A_compareItem_16 : decode b_A_compareItem 16 = .ok (.iload 4, 2) := by decide +kernel
theorem d_A_compareItem_18 : decode b_A_compareItem 18 = .ok (.ifCond .ne 8, 3) := by decide +kernel
theorem d_A_compareItem_21 : decode b_A_compareItem 21 = .ok (.iload 5, 2) := by decide +kernel
theorem d_A_compareItem_23 : decode b_A_compareItem 23 = .ok (.ifCond .eq 28, 3) := by decide +kernel
theorem d_A_compareItem_26 : decode b_A_compareItem 26 = .ok (.iload 4, 2) := by decide +kernel
theorem d_A_compareItem_28 : decode b_A_compareItem 28 = .ok (.ifCond .eq 12, 3) := by decide +kernel
theorem d_A_compareItem_31 : decode b_A_compareItem 31 = .ok (.iload 5, 2) := by decide +kernel
theorem d_A_compareItem_33 : decode b_A_compareItem 33 = .ok (.ifCond .eq 7, 3) := by decide +kernel
theorem d_A_compareItem_36 : decode b_A_compareItem 36 = .ok (.iconst 0, 1) := by decide +kernel
theorem d_A_compareItem_37 : decode b_A_compareItem 37 = .ok (.goto 13, 3) := by decide +kernel
theorem d_A_compareItem_40 : decode b_A_compareItem 40 = .ok (.iload 4, 2) := by decide +kernel
theorem d_A_compareItem_42 : decode b_A_compareItem 42 = .ok (.ifCond .eq 7, 3) := by decide +kernel
theorem d_A_compareItem_45 : decode b_A_compareItem 45 = .ok (.iconst (-1), 1) := by decide +kernel
theorem d_A_compareItem_46 : decode b_A_compareItem 46 = .ok (.goto 4, 3) := by decide +kernel
theorem d_A_compareItem_49 : decode b_A_compareItem 49 = .ok (.iconst 1, 1) := by decide +kernel
theorem d_A_compareItem_50 : decode b_A_compareItem 50 = .ok (.ireturn, 1) := by decide +kernel
theorem d_A_compareItem_51 : decode b_A_compareItem 51 = .ok (.aload_n 0, 1) := by decide +kernel
theorem d_A_compareItem_52 : decode b_A_compareItem 52 = .ok (.getfield 9, 3) := by decide +kernel
theorem d_A_compareItem_55 : decode b_A_compareItem 55 = .ok (.iload_n 1, 1) := by decide +kernel
theorem d_A_compareItem_56 : decode b_A_compareItem 56 = .ok (.bipush 6, 2) := by decide +kernel
theorem d_A_compareItem_58 : decode b_A_compareItem 58 = .ok (.imul, 1) := by decide +kernel
theorem d_A_compareItem_59 : decode b_A_compareItem 59 = .ok (.iload_n 3, 1) := by decide +kernel
theorem d_A_compareItem_60 : decode b_A_compareItem 60 = .ok (.iadd, 1) := by decide +kernel
theorem d_A_compareItem_61 : decode b_A_compareItem 61 = .ok (.laload, 1) := by decide +kernel
theorem d_A_compareItem_62 : decode b_A_compareItem 62 = .ok (.aload_n 0, 1) := by decide +kernel
theorem d_A_compareItem_63 : decode b_A_compareItem 63 = .ok (.getfield 9, 3) := by decide +kernel
theorem d_A_compareItem_66 : decode b_A_compareItem 66 = .ok (.iload_n 2, 1) := by decide +kernel
theorem d_A_compareItem_67 : decode b_A_compareItem 67 = .ok (.bipush 6, 2) := by decide +kernel
theorem d_A_compareItem_69 : decode b_A_compareItem 69 = .ok (.imul, 1) := by decide +kernel
theorem d_A_compareItem_70 : decode b_A_compareItem 70 = .ok (.iload_n 3, 1) := by decide +kernel
theorem d_A_compareItem_71 : decode b_A_compareItem 71 = .ok (.iadd, 1) := by decide +kernel
theorem d_A_compareItem_72 : decode b_A_compareItem 72 = .ok (.laload, 1) := by decide +kernel
theorem d_A_compareItem_73 : decode b_A_compareItem 73 = .ok (.invokestatic 86, 3) := by decide +kernel
theorem d_A_compareItem_76 : decode b_A_compareItem 76 = .ok (.ireturn, 1) := by decide +kernel
theorem d_A_compare_0 : decode b_A_compare 0 = .ok (.iconst 0, 1) := by decide +kernel
theorem d_A_compare_1 : decode b_A_compare 1 = .ok (.istore 4, 2) := by decide +kernel
theorem d_A_compare_3 : decode b_A_compare 3 = .ok (.iload 4, 2) := by decide +kernel
theorem d_A_compare_5 : decode b_A_compare 5 = .ok (.aload_n 3, 1) := by decide +kernel
theorem d_A_compare_6 : decode b_A_compare 6 = .ok (.getfield 72, 3) := by decide +kernel
theorem d_A_compare_9 : decode b_A_compare 9 = .ok (.if_icmp .ge 52, 3) := by decide +kernel
theorem d_A_compare_12 : decode b_A_compare 12 = .ok (.aload_n 3, 1) := by decide +kernel
theorem d_A_compare_13 : decode b_A_compare 13 = .ok (.getfield 75, 3) := by decide +kernel
theorem d_A_compare_16 : decode b_A_compare 16 = .ok (.iload 4, 2) := by decide +kernel
theorem d_A_compare_18 : decode b_A_compare 18 = .ok (.iaload, 1) := by decide +kernel
theorem d_A_compare_19 : decode b_A_compare 19 = .ok (.istore 5, 2) := by decide +kernel
theorem d_A_compare_21 : decode b_A_compare 21 = .ok (.aload_n 0, 1) := by decide +kernel
theorem d_A_compare_22 : decode b_A_compare 22 = .ok (.iload_n 1, 1) := by decide +kernel
theorem d_A_compare_23 : decode b_A_compare 23 = .ok (.iload_n 2, 1) := by decide +kernel
theorem d_A_compare_24 : decode b_A_compare 24 = .ok (.iload 5, 2) := by decide +kernel
theorem d_A_compare_26 : decode b_A_compare 26 = .ok (.invokevirtual 78, 3) := by decide +kernel
theorem d_A_compare_29 : decode b_A_compare 29 = .ok (.istore 6, 2) := by decide +kernel
theorem d_A_compare_31 : decode b_A_compare 31 = .ok (.iload 6, 2) := by decide +kernel
theorem d_A_compare_33 : decode b_A_compare 33 = .ok (.ifCond .eq 22, 3) := by decide +kernel
theorem d_A_compare_36 : decode b_A_compare 36 = .ok (.aload_n 3, 1) := by decide +kernel
theorem d_A_compare_37 : decode b_A_compare 37 = .ok (.getfield 82, 3) := by decide +kernel
theorem d_A_compare_40 : decode b_A_compare 40 = .ok (.iload 4, 2) := by decide +kernel
theorem d_A_compare_42 : decode b_A_compare 42 = .ok (.baload, 1) := by decide +kernel
theorem d_A_compare_43 : decode b_A_compare 43 = .ok (.ifCond .eq 9, 3) := by decide +kernel
theorem d_A_compare_46 : decode b_A_compare 46 = .ok (.iload 6, 2) := by decide +kernel
theorem d_A_compare_48 : decode b_A_compare 48 = .ok (.ineg, 1) := by decide +kernel
theorem d_A_compare_49 : decode b_A_compare 49 = .ok (.goto 5, 3) := by decide +kernel
theorem d_A_compare_52 : decode b_A_compare 52 = .ok (.iload 6, 2) := by decide +kernel
theorem d_A_compare_54 : decode b_A_compare 54 = .ok (.ireturn, 1) := by decide +kernel
theorem d_A_compare_55 : decode b_A_compare 55 = .ok (.iinc 4 1, 3) := by decide +kernel
theorem d_A_compare_58 : decode b_A_compare 58 = .ok (.goto (-55), 3) := by decide +kernel
theorem d_A_compare_61 : decode b_A_compare 61 = .ok (.iconst 0, 1) := by decide +kernel
theorem d_A_compare_62 : decode b_A_compare 62 = .ok (.ireturn, 1) := by decide +kernel
theorem d_A_insertInOrder_0 : decode b_A_insertInOrder 0 = .ok (.iload_n 2, 1) := by decide +kernel
theorem d_A_insertInOrder_1 : decode b_A_insertInOrder 1 = .ok (.istore 4, 2) := by decide +kernel
theorem d_A_insertInOrder_3 : decode b_A_insertInOrder 3 = .ok (.iload 4, 2) := by decide +kernel
theorem d_A_insertInOrder_5 : decode b_A_insertInOrder 5 = .ok (.ifCond .le 43, 3) := by decide +kernel
theorem d_A_insertInOrder_8 : decode b_A_insertInOrder 8 = .ok (.aload_n 0, 1) := by decide +kernel
theorem d_A_insertInOrder_9 : decode b_A_insertInOrder 9 = .ok (.aload_n 0, 1) := by decide +kernel
theorem d_A_insertInOrder_10 : decode b_A_insertInOrder 10 = .ok (.getfield 19, 3) := by decide +kernel
theorem d_A_insertInOrder_13 : decode b_A_insertInOrder 13 = .ok (.iload 4, 2) := by decide +kernel
theorem d_A_insertInOrder_15 : decode b_A_insertInOrder 15 = .ok (.iconst 1, 1) := by decide +kernel
theorem d_A_insertInOrder_16 : decode b_A_insertInOrder 16 = .ok (.isub, 1) := by decide +kernel
theorem d_A_insertInOrder_17 : decode b_A_insertInOrder 17 = .ok (.iaload, 1) := by decide +kernel
theorem d_A_insertInOrder_18 : decode b_A_insertInOrder 18 = .ok (.iload_n 1, 1) := by decide +kernel
theorem d_A_insertInOrder_19 : decode b_A_insertInOrder 19 = .ok (.aload_n 3, 1) := by decide +kernel
theorem d_A_insertInOrder_20 : decode b_A_insertInOrder 20 = .ok (.invokevirtual 68, 3) := by decide +kernel
theorem d_A_insertInOrder_23 : decode b_A_insertInOrder 23 = .ok (.ifCond .le 25, 3) := by decide +kernel
theorem d_A_insertInOrder_26 : decode b_A_insertInOrder 26 = .ok (.aload_n 0, 1) := by decide +kernel
theorem d_A_insertInOrder_27 : decode b_A_insertInOrder 27 = .ok (.getfield 19, 3) := by decide +kernel
theorem d_A_insertInOrder_30 : decode b_A_insertInOrder 30 = .ok (.iload 4, 2) := by decide +kernel
theorem d_A_insertInOrder_32 : decode b_A_insertInOrder 32 = .ok (.aload_n 0, 1) := by decide +kernel
theorem d_A_insertInOrder_33 : decode b_A_insertInOrder 33 = .ok (.getfield 19, 3) := by decide +kernel
theorem d_A_insertInOrder_36 : decode b_A_insertInOrder 36 = .ok (.iload 4, 2) := by decide +kernel
theorem d_A_insertInOrder_38 : decode b_A_insertInOrder 38 = .ok (.iconst 1, 1) := by decide +kernel
theorem d_A_insertInOrder_39 : decode b_A_insertInOrder 39 = .ok (.isub, 1) := by decide +kernel
theorem d_A_insertInOrder_40 : decode b_A_insertInOrder 40 = .ok (.iaload, 1) := by decide +kernel
theorem d_A_insertInOrder_41 : decode b_A_insertInOrder 41 = .ok (.iastore, 1) := by decide +kernel
theorem d_A_insertInOrder_42 : decode b_A_insertInOrder 42 = .ok (.iinc 4 (-1), 3) := by decide +kernel
theorem d_A_insertInOrder_45 : decode b_A_insertInOrder 45 = .ok (.goto (-42), 3) := by decide +kernel
theorem d_A_insertInOrder_48 : decode b_A_insertInOrder 48 = .ok (.aload_n 0, 1) := by decide +kernel
theorem d_A_insertInOrder_49 : decode b_A_insertInOrder 49 = .ok (.getfield 19, 3) := by decide +kernel
theorem d_A_insertInOrder_52 : decode b_A_insertInOrder 52 = .ok (.iload 4, 2) := by decide +kernel
theorem d_A_insertInOrder_54 : decode b_A_insertInOrder 54 = .ok (.iload_n 1, 1) := by decide +kernel
theorem d_A_insertInOrder_55 : decode b_A_insertInOrder 55 = .ok (.iastore, 1) := by decide +kernel
theorem d_A_insertInOrder_56 : decode b_A_insertInOrder 56 = .ok (.return_, 1) := by decide +kernel
theorem d_A_isRepeated_0 : decode b_A_isRepeated 0 = .ok (.iconst 0, 1) := by decide +kernel
theorem d_A_isRepeated_1 : decode b_A_isRepeated 1 = .ok (.istore_n 2, 1) := by decide +kernel
theorem d_A_isRepeated_2 : decode b_A_isRepeated 2 = .ok (.iload_n 2, 1) := by decide +kernel
theorem d_A_isRepeated_3 : decode b_A_isRepeated 3 = .ok (.iload_n 1, 1) := by decide +kernel
theorem d_A_isRepeated_4 : decode b_A_isRepeated 4 = .ok (.if_icmp .ge 92, 3) := by decide +kernel
theorem d_A_isRepeated_7 : decode b_A_isRepeated 7 = .ok (.aload_n 0, 1) := by decide +kernel
theorem d_A_isRepeated_8 : decode b_A_isRepeated 8 = .ok (.getfield 15, 3) := by decide +kernel
theorem d_A_isRepeated_11 : decode b_A_isRepeated 11 = .ok (.iload_n 2, 1) := by decide +kernel
theorem d_A_isRepeated_12 : decode b_A_isRepeated 12 = .ok (.iaload, 1) := by decide +kernel
theorem d_A_isRepeated_13 : decode b_A_isRepeated 13 = .ok (.aload_n 0, 1) := by decide +kernel
theorem d_A_isRepeated_14 : decode b_A_isRepeated 14 = .ok (.getfield 15, 3) := by decide +kernel
theorem d_A_isRepeated_17 : decode b_A_isRepeated 17 = .ok (.iload_n 1, 1) := by decide +kernel
theorem d_A_isRepeated_18 : decode b_A_isRepeated 18 = .ok (.iaload, 1) := by decide +kernel
theorem d_A_isRepeated_19 : decode b_A_isRepeated 19 = .ok (.if_icmp .ne 7, 3) := by decide +kernel
theorem d_A_isRepeated_22 : decode b_A_isRepeated 22 = .ok (.iconst 1, 1) := by decide +kernel
theorem d_A_isRepeated_23 : decode b_A_isRepeated 23 = .ok (.goto 4, 3) := by decide +kernel
theorem d_A_isRepeated_26 : decode b_A_isRepeated 26 = .ok (.iconst 0, 1) := by decide +kernel
theorem d_A_isRepeated_27 : decode b_A_isRepeated 27 = .ok (.istore_n 3, 1) := by decide +kernel
theorem d_A_isRepeated_28 : decode b_A_isRepeated 28 = .ok (.iconst 0, 1) := by decide +kernel
theorem d_A_isRepeated_29 : decode b_A_isRepeated 29 = .ok (.istore 4, 2) := by decide +kernel
theorem d_A_isRepeated_31 : decode b_A_isRepeated 31 = .ok (.iload_n 3, 1) := by decide +kernel
theorem d_A_isRepeated_32 : decode b_A_isRepeated 32 = .ok (.ifCond .eq 52, 3) := by decide +kernel
theorem d_A_isRepeated_35 : decode b_A_isRepeated 35 = .ok (.iload 4, 2) := by decide +kernel
theorem d_A_isRepeated_37 : decode b_A_isRepeated 37 = .ok (.aload_n 0, 1) := by decide +kernel
theorem d_A_isRepeated_38 : decode b_A_isRepeated 38 = .ok (.getfield 22, 3) := by decide +kernel
theorem d_A_isRepeated_41 : decode b_A_isRepeated 41 = .ok (.if_icmp .ge 43, 3) := by decide +kernel
theorem d_A_isRepeated_44 : decode b_A_isRepeated 44 = .ok (.aload_n 0, 1) := by decide +kernel
theorem d_A_isRepeated_45 : decode b_A_isRepeated 45 = .ok (.getfield 9, 3) := by decide +kernel
theorem d_A_isRepeated_48 : decode b_A_isRepeated 48 = .ok (.iload_n 2, 1) := by decide +kernel
theorem d_A_isRepeated_49 : decode b_A_isRepeated 49 = .ok (.bipush 6, 2) := by decide +kernel
theorem d_A_isRepeated_51 : decode b_A_isRepeated 51 = .ok (.imul, 1) := by decide +kernel
theorem d_A_isRepeated_52 : decode b_A_isRepeated 52 = .ok (.iload 4, 2) := by decide +kernel
theorem d_A_isRepeated_54 : decode b_A_isRepeated 54 = .ok (.iadd, 1) := by decide +kernel
theorem d_A_isRepeated_55 : decode b_A_isRepeated 55 = .ok (.laload, 1) := by decide +kernel
theorem d_A_isRepeated_56 : decode b_A_isRepeated 56 = .ok (.aload_n 0, 1) := by decide +kernel
theorem d_A_isRepeated_57 : decode b_A_isRepeated 57 = .ok (.getfield 9, 3) := by decide +kernel
theorem d_A_isRepeated_60 : decode b_A_isRepeated 60 = .ok (.iload_n 1, 1) := by decide +kernel
theorem d_A_isRepeated_61 : decode b_A_isRepeated 61 = .ok (.bipush 6, 2) := by decide +kernel
theorem d_A_isRepeated_63 : decode b_A_isRepeated 63 = .ok (.imul, 1) := by decide +kernel
theorem d_A_isRepeated_64 : decode b_A_isRepeated 64 = .ok (.iload 4, 2) := by decide +kernel
theorem d_A_isRepeated_66 : decode b_A_isRepeated 66 = .ok (.iadd, 1) := by decide +kernel
theorem d_A_isRepeated_67 : decode b_A_isRepeated 67 = .ok (.laload, 1) := by decide +kernel
theorem d_A_isRepeated_68 : decode b_A_isRepeated 68 = .ok (.lcmp, 1) := by decide +kernel
theorem d_A_isRepeated_69 : decode b_A_isRepeated 69 = .ok (.ifCond .ne 7, 3) := by decide +kernel
theorem d_A_isRepeated_72 : decode b_A_isRepeated 72 = .ok (.iconst 1, 1) := by decide +kernel
theorem d_A_isRepeated_73 : decode b_A_isRepeated 73 = .ok (.goto 4, 3) := by decide +kernel
theorem d_A_isRepeated_76 : decode b_A_isRepeated 76 = .ok (.iconst 0, 1) := by decide +kernel
theorem d_A_isRepeated_77 : decode b_A_isRepeated 77 = .ok (.istore_n 3, 1) := by decide +kernel
theorem d_A_isRepeated_78 : decode b_A_isRepeated 78 = .ok (.iinc 4 1, 3) := by decide +kernel
theorem d_A_isRepeated_81 : decode b_A_isRepeated 81 = .ok (.goto (-50), 3) := by decide +kernel
theorem d_A_isRepeated_84 : decode b_A_isRepeated 84 = .ok (.iload_n 3, 1) := by decide +kernel
theorem d_A_isRepeated_85 : decode b_A_isRepeated 85 = .ok (.ifCond .eq 5, 3) := by decide +kernel
theorem d_A_isRepeated_88 : decode b_A_isRepeated 88 = .ok (.iconst 1, 1) := by decide +kernel
theorem d_A_isRepeated_89 : decode b_A_isRepeated 89 = .ok (.ireturn, 1) := by decide +kernel
theorem d_A_isRepeated_90 : decode b_A_isRepeated 90 = .ok (.iinc 2 1, 3) := by decide +kernel
theorem d_A_isRepeated_93 : decode b_A_isRepeated 93 = .ok (.goto (-91), 3) := by decide +kernel
theorem d_A_isRepeated_96 : decode b_A_isRepeated 96 = .ok (.iconst 0, 1) := by decide +kernel
theorem d_A_isRepeated_97 : decode b_A_isRepeated 97 = .ok (.ireturn, 1) := by decide +kernel
theorem d_A_finish_0 : decode b_A_finish 0 = .ok (.aload_n 0, 1) := by decide +kernel
theorem d_A_finish_1 : decode b_A_finish 1 = .ok (.aload_n 1, 1) := by decide +kernel
theorem d_A_finish_2 : decode b_A_finish 2 = .ok (.getfield 39, 3) := by decide +kernel
theorem d_A_finish_5 : decode b_A_finish 5 = .ok (.putfield 22, 3) := by decide +kernel
theorem d_A_finish_8 : decode b_A_finish 8 = .ok (.iconst 0, 1) := by decide +kernel
theorem d_A_finish_9 : decode b_A_finish 9 = .ok (.istore_n 2, 1) := by decide +kernel
theorem d_A_finish_10 : decode b_A_finish 10 = .ok (.iconst 0, 1) := by decide +kernel
theorem d_A_finish_11 : decode b_A_finish 11 = .ok (.istore_n 3, 1) := by decide +kernel
theorem d_A_finish_12 : decode b_A_finish 12 = .ok (.iload_n 3, 1) := by decide +kernel
theorem d_A_finish_13 : decode b_A_finish 13 = .ok (.aload_n 0, 1) := by decide +kernel
theorem d_A_finish_14 : decode b_A_finish 14 = .ok (.getfield 29, 3) := by decide +kernel
theorem d_A_finish_17 : decode b_A_finish 17 = .ok (.if_icmp .ge 34, 3) := by decide +kernel
theorem d_A_finish_20 : decode b_A_finish 20 = .ok (.aload_n 1, 1) := by decide +kernel
theorem d_A_finish_21 : decode b_A_finish 21 = .ok (.getfield 44, 3) := by decide +kernel
theorem d_A_finish_24 : decode b_A_finish 24 = .ok (.ifCond .eq 11, 3) := by decide +kernel
theorem d_A_finish_27 : decode b_A_finish 27 = .ok (.aload_n 0, 1) := by decide +kernel
theorem d_A_finish_28 : decode b_A_finish 28 = .ok (.iload_n 3, 1) := by decide +kernel
theorem d_A_finish_29 : decode b_A_finish 29 = .ok (.invokevirtual 48, 3) := by decide +kernel
theorem d_A_finish_32 : decode b_A_finish 32 = .ok (.ifCond .ne 13, 3) := by decide +kernel
theorem d_A_finish_35 : decode b_A_finish 35 = .ok (.aload_n 0, 1) := by decide +kernel
theorem d_A_finish_36 : decode b_A_finish 36 = .ok (.iload_n 3, 1) := by decide +kernel
theorem d_A_finish_37 : decode b_A_finish 37 = .ok (.iload_n 2, 1) := by decide +kernel
theorem d_A_finish_38 : decode b_A_finish 38 = .ok (.aload_n 1, 1) := by decide +kernel
theorem d_A_finish_39 : decode b_A_finish 39 = .ok (.invokevirtual 52, 3) := by decide +kernel
theorem d_A_finish_42 : decode b_A_finish 42 = .ok (.iinc 2 1, 3) := by decide +kernel
theorem d_A_finish_45 : decode b_A_finish 45 = .ok (.iinc 3 1, 3) := by decide +kernel
theorem d_A_finish_48 : decode b_A_finish 48 = .ok (.goto (-36), 3) := by decide +kernel
theorem d_A_finish_51 : decode b_A_finish 51 = .ok (.aload_n 0, 1) := by decide +kernel
theorem d_A_finish_52 : decode b_A_finish 52 = .ok (.aload_n 1, 1) := by decide +kernel
theorem d_A_finish_53 : decode b_A_finish 53 = .ok (.getfield 56, 3) := by decide +kernel
theorem d_A_finish_56 : decode b_A_finish 56 = .ok (.iload_n 2, 1) := by decide +kernel
theorem d_A_finish_57 : decode b_A_finish 57 = .ok (.invokestatic 59, 3) := by decide +kernel
theorem d_A_finish_60 : decode b_A_finish 60 = .ok (.putfield 32, 3) := by decide +kernel
theorem d_A_finish_63 : decode b_A_finish 63 = .ok (.aload_n 0, 1) := by decide +kernel
theorem d_A_finish_64 : decode b_A_finish 64 = .ok (.aload_n 1, 1) := by decide +kernel
theorem d_A_finish_65 : decode b_A_finish 65 = .ok (.getfield 65, 3) := by decide +kernel
theorem d_A_finish_68 : decode b_A_finish 68 = .ok (.iload_n 2, 1) := by decide +kernel
theorem d_A_finish_69 : decode b_A_finish 69 = .ok (.aload_n 0, 1) := by decide +kernel
theorem d_A_finish_70 : decode b_A_finish 70 = .ok (.getfield 32, 3) := by decide +kernel
theorem d_A_finish_73 : decode b_A_finish 73 = .ok (.isub, 1) := by decide +kernel
theorem d_A_finish_74 : decode b_A_finish 74 = .ok (.invokestatic 59, 3) := by decide +kernel
theorem d_A_finish_77 : decode b_A_finish 77 = .ok (.putfield 26, 3) := by decide +kernel
theorem d_A_finish_80 : decode b_A_finish 80 = .ok (.return_, 1) := by decide +kernel
theorem d_G_enter_0 : decode b_G_enter 0 = .ok (.aload_n 0, 1) := by decide +kernel
theorem d_G_enter_1 : decode b_G_enter 1 = .ok (.iload_n 1, 1) := by decide +kernel
theorem d_G_enter_2 : decode b_G_enter 2 = .ok (.putfield 66, 3) := by decide +kernel
theorem d_G_enter_5 : decode b_G_enter 5 = .ok (.aload_n 0, 1) := by decide +kernel
theorem d_G_enter_6 : decode b_G_enter 6 = .ok (.getfield 19, 3) := by decide +kernel
theorem d_G_enter_9 : decode b_G_enter 9 = .ok (.iload_n 1, 1) := by decide +kernel
theorem d_G_enter_10 : decode b_G_enter 10 = .ok (.iaload, 1) := by decide +kernel
theorem d_G_enter_11 : decode b_G_enter 11 = .ok (.istore_n 3, 1) := by decide +kernel
theorem d_G_enter_12 : decode b_G_enter 12 = .ok (.iload_n 3, 1) := by decide +kernel
theorem d_G_enter_13 : decode b_G_enter 13 = .ok (.iconst (-1), 1) := by decide +kernel
theorem d_G_enter_14 : decode b_G_enter 14 = .ok (.if_icmp .ne 7, 3) := by decide +kernel
theorem d_G_enter_17 : decode b_G_enter 17 = .ok (.iconst 0, 1) := by decide +kernel
theorem d_G_enter_18 : decode b_G_enter 18 = .ok (.goto 9, 3) := by decide +kernel
theorem d_G_enter_21 : decode b_G_enter 21 = .ok (.aload_n 0, 1) := by decide +kernel
theorem d_G_enter_22 : decode b_G_enter 22 = .ok (.getfield 28, 3) := by decide +kernel
theorem d_G_enter_25 : decode b_G_enter 25 = .ok (.iload_n 3, 1) := by decide +kernel
theorem d_G_enter_26 : decode b_G_enter 26 = .ok (.iaload, 1) := by decide +kernel
theorem d_G_enter_27 : decode b_G_enter 27 = .ok (.istore 4, 2) := by decide +kernel
theorem d_G_enter_29 : decode b_G_enter 29 = .ok (.iconst 0, 1) := by decide +kernel
theorem d_G_enter_30 : decode b_G_enter 30 = .ok (.istore 5, 2) := by decide +kernel
theorem d_G_enter_32 : decode b_G_enter 32 = .ok (.iload 5, 2) := by decide +kernel
theorem d_G_enter_34 : decode b_G_enter 34 = .ok (.aload_n 2, 1) := by decide +kernel
theorem d_G_enter_35 : decode b_G_enter 35 = .ok (.arraylength, 1) := by decide +kernel
theorem d_G_enter_36 : decode b_G_enter 36 = .ok (.if_icmp .ge 25, 3) := by decide +kernel
theorem d_G_enter_39 : decode b_G_enter 39 = .ok (.aload_n 2, 1) := by decide +kernel
theorem d_G_enter_40 : decode b_G_enter 40 = .ok (.iload 5, 2) := by decide +kernel
theorem d_G_enter_42 : decode b_G_enter 42 = .ok (.iload 4, 2) := by decide +kernel
theorem d_G_enter_44 : decode b_G_enter 44 = .ok (.iconst 4, 1) := by decide +kernel
theorem d_G_enter_45 : decode b_G_enter 45 = .ok (.iload 5, 2) := by decide +kernel
theorem d_G_enter_47 : decode b_G_enter 47 = .ok (.imul, 1) := by decide +kernel
theorem d_G_enter_48 : decode b_G_enter 48 = .ok (.ishr, 1) := by decide +kernel
theorem d_G_enter_49 : decode b_G_enter 49 = .ok (.bipush 15, 2) := by decide +kernel
theorem d_G_enter_51 : decode b_G_enter 51 = .ok (.iand, 1) := by decide +kernel
theorem d_G_enter_52 : decode b_G_enter 52 = .ok (.iconst 1, 1) := by decide +kernel
theorem d_G_enter_53 : decode b_G_enter 53 = .ok (.isub, 1) := by decide +kernel
theorem d_G_enter_54 : decode b_G_enter 54 = .ok (.iastore, 1) := by decide +kernel
theorem d_G_enter_55 : decode b_G_enter 55 = .ok (.iinc 5 1, 3) := by decide +kernel
theorem d_G_enter_58 : decode b_G_enter 58 = .ok (.goto (-26), 3) := by decide +kernel
theorem d_G_enter_61 : decode b_G_enter 61 = .ok (.return_, 1) := by decide +kernel
theorem d_A_isFull_0 : decode b_A_isFull 0 = .ok (.aload_n 0, 1) := by decide +kernel
theorem d_A_isFull_1 : decode b_A_isFull 1 = .ok (.getfield 29, 3) := by decide +kernel
theorem d_A_isFull_4 : decode b_A_isFull 4 = .ok (.sipush 200, 3) := by decide +kernel
theorem d_A_isFull_7 : decode b_A_isFull 7 = .ok (.if_icmp .lt 7, 3) := by decide +kernel
theorem d_A_isFull_10 : decode b_A_isFull 10 = .ok (.iconst 1, 1) := by decide +kernel
theorem d_A_isFull_11 : decode b_A_isFull 11 = .ok (.goto 4, 3) := by decide +kernel
theorem d_A_isFull_14 : decode b_A_isFull 14 = .ok (.iconst 0, 1) := by decide +kernel
theorem d_A_isFull_15 : decode b_A_isFull 15 = .ok (.ireturn, 1) := by decide +kernel
theorem d_A_startRow_0 : decode b_A_startRow 0 = .ok (.aload_n 0, 1) := by decide +kernel
theorem d_A_startRow_1 : decode b_A_startRow 1 = .ok (.getfield 15, 3) := by decide +kernel
theorem d_A_startRow_4 : decode b_A_startRow 4 = .ok (.aload_n 0, 1) := by decide +kernel
theorem d_A_startRow_5 : decode b_A_startRow 5 = .ok (.getfield 29, 3) := by decide +kernel
theorem d_A_startRow_8 : decode b_A_startRow 8 = .ok (.iconst 0, 1) := by decide +kernel
theorem d_A_startRow_9 : decode b_A_startRow 9 = .ok (.iastore, 1) := by decide +kernel
theorem d_A_startRow_10 : decode b_A_startRow 10 = .ok (.return_, 1) := by decide +kernel
theorem d_A_endRow_0 : decode b_A_endRow 0 = .ok (.aload_n 0, 1) := by decide +kernel
theorem d_A_endRow_1 : decode b_A_endRow 1 = .ok (.dup, 1) := by decide +kernel
theorem d_A_endRow_2 : decode b_A_endRow 2 = .ok (.getfield 29, 3) := by decide +kernel
theorem d_A_endRow_5 : decode b_A_endRow 5 = .ok (.iconst 1, 1) := by decide +kernel
theorem d_A_endRow_6 : decode b_A_endRow 6 = .ok (.iadd, 1) := by decide +kernel
theorem d_A_endRow_7 : decode b_A_endRow 7 = .ok (.putfield 29, 3) := by decide +kernel
theorem d_A_endRow_10 : decode b_A_endRow 10 = .ok (.return_, 1) := by decide +kernel
theorem d_V_lookUp_0 : decode b_V_lookUp 0 = .ok (.iload_n 1, 1) := by decide +kernel
theorem d_V_lookUp_1 : decode b_V_lookUp 1 = .ok (.iconst 4, 1) := by decide +kernel
theorem d_V_lookUp_2 : decode b_V_lookUp 2 = .ok (.idiv, 1) := by decide +kernel
theorem d_V_lookUp_3 : decode b_V_lookUp 3 = .ok (.istore_n 2, 1) := by decide +kernel
theorem d_V_lookUp_4 : decode b_V_lookUp 4 = .ok (.iload_n 1, 1) := by decide +kernel
theorem d_V_lookUp_5 : decode b_V_lookUp 5 = .ok (.iconst 4, 1) := by decide +kernel
theorem d_V_lookUp_6 : decode b_V_lookUp 6 = .ok (.irem, 1) := by decide +kernel
theorem d_V_lookUp_7 : decode b_V_lookUp 7 = .ok (.istore_n 3, 1) := by decide +kernel
theorem d_V_lookUp_8 : decode b_V_lookUp 8 = .ok (.aload_n 0, 1) := by decide +kernel
theorem d_V_lookUp_9 : decode b_V_lookUp 9 = .ok (.getfield 9, 3) := by decide +kernel
theorem d_V_lookUp_12 : decode b_V_lookUp 12 = .ok (.iload_n 2, 1) := by decide +kernel
theorem d_V_lookUp_13 : decode b_V_lookUp 13 = .ok (.iaload, 1) := by decide +kernel
theorem d_V_lookUp_14 : decode b_V_lookUp 14 = .ok (.istore 4, 2) := by decide +kernel
theorem d_V_lookUp_16 : decode b_V_lookUp 16 = .ok (.iload 4, 2) := by decide +kernel
theorem d_V_lookUp_18 : decode b_V_lookUp 18 = .ok (.iconst (-1), 1) := by decide +kernel
theorem d_V_lookUp_19 : decode b_V_lookUp 19 = .ok (.if_icmp .ne 5, 3) := by decide +kernel
theorem d_V_lookUp_22 : decode b_V_lookUp 22 = .ok (.iconst 0, 1) := by decide +kernel
theorem d_V_lookUp_23 : decode b_V_lookUp 23 = .ok (.ireturn, 1) := by decide +kernel
theorem d_V_lookUp_24 : decode b_V_lookUp 24 = .ok (.aload_n 0, 1) := by decide +kernel
theorem d_V_lookUp_25 : decode b_V_lookUp 25 = .ok (.getfield 23, 3) := by decide +kernel
theorem d_V_lookUp_28 : decode b_V_lookUp 28 = .ok (.getfield 78, 3) := by decide +kernel
theorem d_V_lookUp_31 : decode b_V_lookUp 31 = .ok (.iload_n 2, 1) := by decide +kernel
theorem d_V_lookUp_32 : decode b_V_lookUp 32 = .ok (.iaload, 1) := by decide +kernel
theorem d_V_lookUp_33 : decode b_V_lookUp 33 = .ok (.bipush 8, 2) := by decide +kernel
theorem d_V_lookUp_35 : decode b_V_lookUp 35 = .ok (.imul, 1) := by decide +kernel
theorem d_V_lookUp_36 : decode b_V_lookUp 36 = .ok (.iload 4, 2) := by decide +kernel
theorem d_V_lookUp_38 : decode b_V_lookUp 38 = .ok (.iadd, 1) := by decide +kernel
theorem d_V_lookUp_39 : decode b_V_lookUp 39 = .ok (.istore 5, 2) := by decide +kernel
theorem d_V_lookUp_41 : decode b_V_lookUp 41 = .ok (.aload_n 0, 1) := by decide +kernel
theorem d_V_lookUp_42 : decode b_V_lookUp 42 = .ok (.getfield 15, 3) := by decide +kernel
theorem d_V_lookUp_45 : decode b_V_lookUp 45 = .ok (.getfield 83, 3) := by decide +kernel
theorem d_V_lookUp_48 : decode b_V_lookUp 48 = .ok (.iload 5, 2) := by decide +kernel
theorem d_V_lookUp_50 : decode b_V_lookUp 50 = .ok (.iaload, 1) := by decide +kernel
theorem d_V_lookUp_51 : decode b_V_lookUp 51 = .ok (.iload_n 3, 1) := by decide +kernel
theorem d_V_lookUp_52 : decode b_V_lookUp 52 = .ok (.ishr, 1) := by decide +kernel
theorem d_V_lookUp_53 : decode b_V_lookUp 53 = .ok (.iconst 1, 1) := by decide +kernel
theorem d_V_lookUp_54 : decode b_V_lookUp 54 = .ok (.iand, 1) := by decide +kernel
theorem d_V_lookUp_55 : decode b_V_lookUp 55 = .ok (.ifCond .eq 5, 3) := by decide +kernel
theorem d_V_lookUp_58 : decode b_V_lookUp 58 = .ok (.iconst 0, 1) := by decide +kernel
theorem d_V_lookUp_59 : decode b_V_lookUp 59 = .ok (.ireturn, 1) := by decide +kernel
theorem d_V_lookUp_60 : decode b_V_lookUp 60 = .ok (.aload_n 0, 1) := by decide +kernel
theorem d_V_lookUp_61 : decode b_V_lookUp 61 = .ok (.aload_n 0, 1) := by decide +kernel
theorem d_V_lookUp_62 : decode b_V_lookUp 62 = .ok (.getfield 15, 3) := by decide +kernel
theorem d_V_lookUp_65 : decode b_V_lookUp 65 = .ok (.getfield 88, 3) := by decide +kernel
theorem d_V_lookUp_68 : decode b_V_lookUp 68 = .ok (.iload 5, 2) := by decide +kernel
theorem d_V_lookUp_70 : decode b_V_lookUp 70 = .ok (.iconst 4, 1) := by decide +kernel
theorem d_V_lookUp_71 : decode b_V_lookUp 71 = .ok (.imul, 1) := by decide +kernel
theorem d_V_lookUp_72 : decode b_V_lookUp 72 = .ok (.iload_n 3, 1) := by decide +kernel
theorem d_V_lookUp_73 : decode b_V_lookUp 73 = .ok (.iadd, 1) := by decide +kernel
theorem d_V_lookUp_74 : decode b_V_lookUp 74 = .ok (.laload, 1) := by decide +kernel
theorem d_V_lookUp_75 : decode b_V_lookUp 75 = .ok (.putfield 27, 3) := by decide +kernel
theorem d_V_lookUp_78 : decode b_V_lookUp 78 = .ok (.iconst 1, 1) := by decide +kernel
theorem d_V_lookUp_79 : decode b_V_lookUp 79 = .ok (.ireturn, 1) := by decide +kernel
