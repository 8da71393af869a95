theorem d_M_isBound_0 : decode b_M_isBound 0 = .ok (.iconst 1, 1) := by decide +kernel
theorem d_M_isBound_1 : decode b_M_isBound 1 = .ok (.istore_n 2, 1) := by decide +kernel
theorem d_M_isBound_2 : decode b_M_isBound 2 = .ok (.aload_n 0, 1) := by decide +kernel
theorem d_M_isBound_3 : decode b_M_isBound 3 = .ok (.iconst 0, 1) := by decide +kernel
theorem d_M_isBound_4 : decode b_M_isBound 4 = .ok (.putfield 193, 3) := by decide +kernel
theorem d_M_isBound_7 : decode b_M_isBound 7 = .ok (.aload_n 0, 1) := by decide +kernel
theorem d_M_isBound_8 : decode b_M_isBound 8 = .ok (.iload_n 1, 1) := by decide +kernel
theorem d_M_isBound_9 : decode b_M_isBound 9 = .ok (.invokevirtual 196, 3) := by decide +kernel
theorem d_M_isBound_12 : decode b_M_isBound 12 = .ok (.aload_n 0, 1) := by decide +kernel
theorem d_M_isBound_13 : decode b_M_isBound 13 = .ok (.getfield 193, 3) := by decide +kernel
theorem d_M_isBound_16 : decode b_M_isBound 16 = .ok (.ifCond .le 100, 3) := by decide +kernel
theorem d_M_isBound_19 : decode b_M_isBound 19 = .ok (.aload_n 0, 1) := by decide +kernel
theorem d_M_isBound_20 : decode b_M_isBound 20 = .ok (.dup, 1) := by decide +kernel
theorem d_M_isBound_21 : decode b_M_isBound 21 = .ok (.getfield 193, 3) := by decide +kernel
theorem d_M_isBound_24 : decode b_M_isBound 24 = .ok (.iconst 1, 1) := by decide +kernel
theorem d_M_isBound_25 : decode b_M_isBound 25 = .ok (.isub, 1) := by decide +kernel
theorem d_M_isBound_26 : decode b_M_isBound 26 = .ok (.putfield 193, 3) := by decide +kernel
theorem d_M_isBound_29 : decode b_M_isBound 29 = .ok (.aload_n 0, 1) := by decide +kernel
theorem d_M_isBound_30 : decode b_M_isBound 30 = .ok (.getfield 112, 3) := by decide +kernel
theorem d_M_isBound_33 : decode b_M_isBound 33 = .ok (.aload_n 0, 1) := by decide +kernel
theorem d_M_isBound_34 : decode b_M_isBound 34 = .ok (.getfield 193, 3) := by decide +kernel
theorem d_M_isBound_37 : decode b_M_isBound 37 = .ok (.iaload, 1) := by decide +kernel
theorem d_M_isBound_38 : decode b_M_isBound 38 = .ok (.istore_n 3, 1) := by decide +kernel
theorem d_M_isBound_39 : decode b_M_isBound 39 = .ok (.aload_n 0, 1) := by decide +kernel
theorem d_M_isBound_40 : decode b_M_isBound 40 = .ok (.getfield 24, 3) := by decide +kernel
theorem d_M_isBound_43 : decode b_M_isBound 43 = .ok (.iload_n 3, 1) := by decide +kernel
theorem d_M_isBound_44 : decode b_M_isBound 44 = .ok (.iaload, 1) := by decide +kernel
theorem d_M_isBound_45 : decode b_M_isBound 45 = .ok (.istore 4, 2) := by decide +kernel
theorem d_M_isBound_47 : decode b_M_isBound 47 = .ok (.aload_n 0, 1) := by decide +kernel
theorem d_M_isBound_48 : decode b_M_isBound 48 = .ok (.iload_n 3, 1) := by decide +kernel
theorem d_M_isBound_49 : decode b_M_isBound 49 = .ok (.invokevirtual 203, 3) := by decide +kernel
theorem d_M_isBound_52 : decode b_M_isBound 52 = .ok (.ifCond .ge (-40), 3) := by decide +kernel
theorem d_M_isBound_55 : decode b_M_isBound 55 = .ok (.iload 4, 2) := by decide +kernel
theorem d_M_isBound_57 : decode b_M_isBound 57 = .ok (.bipush 30, 2) := by decide +kernel
theorem d_M_isBound_59 : decode b_M_isBound 59 = .ok (.if_icmp .ge (-47), 3) := by decide +kernel
theorem d_M_isBound_62 : decode b_M_isBound 62 = .ok (.iload 4, 2) := by decide +kernel
theorem d_M_isBound_64 : decode b_M_isBound 64 = .ok (.bipush 20, 2) := by decide +kernel
theorem d_M_isBound_66 : decode b_M_isBound 66 = .ok (.if_icmp .ne 6, 3) := by decide +kernel
theorem d_M_isBound_69 : decode b_M_isBound 69 = .ok (.goto (-57), 3) := by decide +kernel
theorem d_M_isBound_72 : decode b_M_isBound 72 = .ok (.iload 4, 2) := by decide +kernel
theorem d_M_isBound_74 : decode b_M_isBound 74 = .ok (.bipush 21, 2) := by decide +kernel
theorem d_M_isBound_76 : decode b_M_isBound 76 = .ok (.if_icmp .ne 8, 3) := by decide +kernel
theorem d_M_isBound_79 : decode b_M_isBound 79 = .ok (.iconst 0, 1) := by decide +kernel
theorem d_M_isBound_80 : decode b_M_isBound 80 = .ok (.istore_n 2, 1) := by decide +kernel
theorem d_M_isBound_81 : decode b_M_isBound 81 = .ok (.goto (-69), 3) := by decide +kernel
theorem d_M_isBound_84 : decode b_M_isBound 84 = .ok (.aload_n 0, 1) := by decide +kernel
theorem d_M_isBound_85 : decode b_M_isBound 85 = .ok (.aload_n 0, 1) := by decide +kernel
theorem d_M_isBound_86 : decode b_M_isBound 86 = .ok (.getfield 27, 3) := by decide +kernel
theorem d_M_isBound_89 : decode b_M_isBound 89 = .ok (.iload_n 3, 1) := by decide +kernel
theorem d_M_isBound_90 : decode b_M_isBound 90 = .ok (.iaload, 1) := by decide +kernel
theorem d_M_isBound_91 : decode b_M_isBound 91 = .ok (.invokevirtual 196, 3) := by decide +kernel
theorem d_M_isBound_94 : decode b_M_isBound 94 = .ok (.aload_n 0, 1) := by decide +kernel
theorem d_M_isBound_95 : decode b_M_isBound 95 = .ok (.iload 4, 2) := by decide +kernel
theorem d_M_isBound_97 : decode b_M_isBound 97 = .ok (.invokevirtual 162, 3) := by decide +kernel
theorem d_M_isBound_100 : decode b_M_isBound 100 = .ok (.ifCond .eq 13, 3) := by decide +kernel
theorem d_M_isBound_103 : decode b_M_isBound 103 = .ok (.aload_n 0, 1) := by decide +kernel
theorem d_M_isBound_104 : decode b_M_isBound 104 = .ok (.aload_n 0, 1) := by decide +kernel
theorem d_M_isBound_105 : decode b_M_isBound 105 = .ok (.getfield 30, 3) := by decide +kernel
theorem d_M_isBound_108 : decode b_M_isBound 108 = .ok (.iload_n 3, 1) := by decide +kernel
theorem d_M_isBound_109 : decode b_M_isBound 109 = .ok (.iaload, 1) := by decide +kernel
theorem d_M_isBound_110 : decode b_M_isBound 110 = .ok (.invokevirtual 196, 3) := by decide +kernel
theorem d_M_isBound_113 : decode b_M_isBound 113 = .ok (.goto (-101), 3) := by decide +kernel
theorem d_M_isBound_116 : decode b_M_isBound 116 = .ok (.iload_n 2, 1) := by decide +kernel
theorem d_M_isBound_117 : decode b_M_isBound 117 = .ok (.ireturn, 1) := by decide +kernel
theorem d_M_areAllBound_0 : decode b_M_areAllBound 0 = .ok (.aload_n 0, 1) := by decide +kernel
theorem d_M_areAllBound_1 : decode b_M_areAllBound 1 = .ok (.getfield 64, 3) := by decide +kernel
theorem d_M_areAllBound_4 : decode b_M_areAllBound 4 = .ok (.ifCond .lt 14, 3) := by decide +kernel
theorem d_M_areAllBound_7 : decode b_M_areAllBound 7 = .ok (.aload_n 0, 1) := by decide +kernel
theorem d_M_areAllBound_8 : decode b_M_areAllBound 8 = .ok (.aload_n 0, 1) := by decide +kernel
theorem d_M_areAllBound_9 : decode b_M_areAllBound 9 = .ok (.getfield 64, 3) := by decide +kernel
theorem d_M_areAllBound_12 : decode b_M_areAllBound 12 = .ok (.invokevirtual 207, 3) := by decide +kernel
theorem d_M_areAllBound_15 : decode b_M_areAllBound 15 = .ok (.ifCond .eq 7, 3) := by decide +kernel
theorem d_M_areAllBound_18 : decode b_M_areAllBound 18 = .ok (.iconst 1, 1) := by decide +kernel
theorem d_M_areAllBound_19 : decode b_M_areAllBound 19 = .ok (.goto 4, 3) := by decide +kernel
theorem d_M_areAllBound_22 : decode b_M_areAllBound 22 = .ok (.iconst 0, 1) := by decide +kernel
theorem d_M_areAllBound_23 : decode b_M_areAllBound 23 = .ok (.istore_n 1, 1) := by decide +kernel
theorem d_M_areAllBound_24 : decode b_M_areAllBound 24 = .ok (.iconst 0, 1) := by decide +kernel
theorem d_M_areAllBound_25 : decode b_M_areAllBound 25 = .ok (.istore_n 2, 1) := by decide +kernel
theorem d_M_areAllBound_26 : decode b_M_areAllBound 26 = .ok (.iload_n 2, 1) := by decide +kernel
theorem d_M_areAllBound_27 : decode b_M_areAllBound 27 = .ok (.aload_n 0, 1) := by decide +kernel
theorem d_M_areAllBound_28 : decode b_M_areAllBound 28 = .ok (.getfield 149, 3) := by decide +kernel
theorem d_M_areAllBound_31 : decode b_M_areAllBound 31 = .ok (.if_icmp .ge 32, 3) := by decide +kernel
theorem d_M_areAllBound_34 : decode b_M_areAllBound 34 = .ok (.iload_n 1, 1) := by decide +kernel
theorem d_M_areAllBound_35 : decode b_M_areAllBound 35 = .ok (.ifCond .eq 20, 3) := by decide +kernel
theorem d_M_areAllBound_38 : decode b_M_areAllBound 38 = .ok (.aload_n 0, 1) := by decide +kernel
theorem d_M_areAllBound_39 : decode b_M_areAllBound 39 = .ok (.aload_n 0, 1) := by decide +kernel
theorem d_M_areAllBound_40 : decode b_M_areAllBound 40 = .ok (.getfield 70, 3) := by decide +kernel
theorem d_M_areAllBound_43 : decode b_M_areAllBound 43 = .ok (.iload_n 2, 1) := by decide +kernel
theorem d_M_areAllBound_44 : decode b_M_areAllBound 44 = .ok (.iaload, 1) := by decide +kernel
theorem d_M_areAllBound_45 : decode b_M_areAllBound 45 = .ok (.invokevirtual 207, 3) := by decide +kernel
theorem d_M_areAllBound_48 : decode b_M_areAllBound 48 = .ok (.ifCond .eq 7, 3) := by decide +kernel
theorem d_M_areAllBound_51 : decode b_M_areAllBound 51 = .ok (.iconst 1, 1) := by decide +kernel
theorem d_M_areAllBound_52 : decode b_M_areAllBound 52 = .ok (.goto 4, 3) := by decide +kernel
theorem d_M_areAllBound_55 : decode b_M_areAllBound 55 = .ok (.iconst 0, 1) := by decide +kernel
theorem d_M_areAllBound_56 : decode b_M_areAllBound 56 = .ok (.istore_n 1, 1) := by decide +kernel
theorem d_M_areAllBound_57 : decode b_M_areAllBound 57 = .ok (.iinc 2 1, 3) := by decide +kernel
theorem d_M_areAllBound_60 : decode b_M_areAllBound 60 = .ok (.goto (-34), 3) := by decide +kernel
theorem d_M_areAllBound_63 : decode b_M_areAllBound 63 = .ok (.iload_n 1, 1) := by decide +kernel
theorem d_M_areAllBound_64 : decode b_M_areAllBound 64 = .ok (.ireturn, 1) := by decide +kernel
theorem d_M_areAggregatesRight_0 : decode b_M_areAggregatesRight 0 = .ok (.aload_n 0, 1) := by decide +kernel
theorem d_M_areAggregatesRight_1 : decode b_M_areAggregatesRight 1 = .ok (.getfield 60, 3) := by decide +kernel
theorem d_M_areAggregatesRight_4 : decode b_M_areAggregatesRight 4 = .ok (.ifCond .lt 15, 3) := by decide +kernel
theorem d_M_areAggregatesRight_7 : decode b_M_areAggregatesRight 7 = .ok (.aload_n 0, 1) := by decide +kernel
theorem d_M_areAggregatesRight_8 : decode b_M_areAggregatesRight 8 = .ok (.getfield 42, 3) := by decide +kernel
theorem d_M_areAggregatesRight_11 : decode b_M_areAggregatesRight 11 = .ok (.aload_n 0, 1) := by decide +kernel
theorem d_M_areAggregatesRight_12 : decode b_M_areAggregatesRight 12 = .ok (.getfield 60, 3) := by decide +kernel
theorem d_M_areAggregatesRight_15 : decode b_M_areAggregatesRight 15 = .ok (.baload, 1) := by decide +kernel
theorem d_M_areAggregatesRight_16 : decode b_M_areAggregatesRight 16 = .ok (.ifCond .ne 7, 3) := by decide +kernel
theorem d_M_areAggregatesRight_19 : decode b_M_areAggregatesRight 19 = .ok (.iconst 1, 1) := by decide +kernel
theorem d_M_areAggregatesRight_20 : decode b_M_areAggregatesRight 20 = .ok (.goto 4, 3) := by decide +kernel
theorem d_M_areAggregatesRight_23 : decode b_M_areAggregatesRight 23 = .ok (.iconst 0, 1) := by decide +kernel
theorem d_M_areAggregatesRight_24 : decode b_M_areAggregatesRight 24 = .ok (.istore_n 1, 1) := by decide +kernel
theorem d_M_areAggregatesRight_25 : decode b_M_areAggregatesRight 25 = .ok (.iconst 0, 1) := by decide +kernel
theorem d_M_areAggregatesRight_26 : decode b_M_areAggregatesRight 26 = .ok (.istore_n 2, 1) := by decide +kernel
theorem d_M_areAggregatesRight_27 : decode b_M_areAggregatesRight 27 = .ok (.iload_n 2, 1) := by decide +kernel
theorem d_M_areAggregatesRight_28 : decode b_M_areAggregatesRight 28 = .ok (.aload_n 0, 1) := by decide +kernel
theorem d_M_areAggregatesRight_29 : decode b_M_areAggregatesRight 29 = .ok (.getfield 143, 3) := by decide +kernel
theorem d_M_areAggregatesRight_32 : decode b_M_areAggregatesRight 32 = .ok (.if_icmp .ge 42, 3) := by decide +kernel
theorem d_M_areAggregatesRight_35 : decode b_M_areAggregatesRight 35 = .ok (.iload_n 1, 1) := by decide +kernel
theorem d_M_areAggregatesRight_36 : decode b_M_areAggregatesRight 36 = .ok (.ifCond .eq 30, 3) := by decide +kernel
theorem d_M_areAggregatesRight_39 : decode b_M_areAggregatesRight 39 = .ok (.aload_n 0, 1) := by decide +kernel
theorem d_M_areAggregatesRight_40 : decode b_M_areAggregatesRight 40 = .ok (.getfield 54, 3) := by decide +kernel
theorem d_M_areAggregatesRight_43 : decode b_M_areAggregatesRight 43 = .ok (.iload_n 2, 1) := by decide +kernel
theorem d_M_areAggregatesRight_44 : decode b_M_areAggregatesRight 44 = .ok (.iaload, 1) := by decide +kernel
theorem d_M_areAggregatesRight_45 : decode b_M_areAggregatesRight 45 = .ok (.ifCond .eq 17, 3) := by decide +kernel
theorem d_M_areAggregatesRight_48 : decode b_M_areAggregatesRight 48 = .ok (.aload_n 0, 1) := by decide +kernel
theorem d_M_areAggregatesRight_49 : decode b_M_areAggregatesRight 49 = .ok (.getfield 42, 3) := by decide +kernel
theorem d_M_areAggregatesRight_52 : decode b_M_areAggregatesRight 52 = .ok (.aload_n 0, 1) := by decide +kernel
theorem d_M_areAggregatesRight_53 : decode b_M_areAggregatesRight 53 = .ok (.getfield 57, 3) := by decide +kernel
theorem d_M_areAggregatesRight_56 : decode b_M_areAggregatesRight 56 = .ok (.iload_n 2, 1) := by decide +kernel
theorem d_M_areAggregatesRight_57 : decode b_M_areAggregatesRight 57 = .ok (.iaload, 1) := by decide +kernel
theorem d_M_areAggregatesRight_58 : decode b_M_areAggregatesRight 58 = .ok (.baload, 1) := by decide +kernel
theorem d_M_areAggregatesRight_59 : decode b_M_areAggregatesRight 59 = .ok (.ifCond .ne 7, 3) := by decide +kernel
theorem d_M_areAggregatesRight_62 : decode b_M_areAggregatesRight 62 = .ok (.iconst 1, 1) := by decide +kernel
theorem d_M_areAggregatesRight_63 : decode b_M_areAggregatesRight 63 = .ok (.goto 4, 3) := by decide +kernel
theorem d_M_areAggregatesRight_66 : decode b_M_areAggregatesRight 66 = .ok (.iconst 0, 1) := by decide +kernel
theorem d_M_areAggregatesRight_67 : decode b_M_areAggregatesRight 67 = .ok (.istore_n 1, 1) := by decide +kernel
theorem d_M_areAggregatesRight_68 : decode b_M_areAggregatesRight 68 = .ok (.iinc 2 1, 3) := by decide +kernel
theorem d_M_areAggregatesRight_71 : decode b_M_areAggregatesRight 71 = .ok (.goto (-44), 3) := by decide +kernel
theorem d_M_areAggregatesRight_74 : decode b_M_areAggregatesRight 74 = .ok (.iconst 0, 1) := by decide +kernel
theorem d_M_areAggregatesRight_75 : decode b_M_areAggregatesRight 75 = .ok (.istore_n 2, 1) := by decide +kernel
theorem d_M_areAggregatesRight_76 : decode b_M_areAggregatesRight 76 = .ok (.iload_n 2, 1) := by decide +kernel
theorem d_M_areAggregatesRight_77 : decode b_M_areAggregatesRight 77 = .ok (.aload_n 0, 1) := by decide +kernel
theorem d_M_areAggregatesRight_78 : decode b_M_areAggregatesRight 78 = .ok (.getfield 146, 3) := by decide +kernel
theorem d_M_areAggregatesRight_81 : decode b_M_areAggregatesRight 81 = .ok (.if_icmp .ge 33, 3) := by decide +kernel
theorem d_M_areAggregatesRight_84 : decode b_M_areAggregatesRight 84 = .ok (.iload_n 1, 1) := by decide +kernel
theorem d_M_areAggregatesRight_85 : decode b_M_areAggregatesRight 85 = .ok (.ifCond .eq 21, 3) := by decide +kernel
theorem d_M_areAggregatesRight_88 : decode b_M_areAggregatesRight 88 = .ok (.aload_n 0, 1) := by decide +kernel
theorem d_M_areAggregatesRight_89 : decode b_M_areAggregatesRight 89 = .ok (.getfield 42, 3) := by decide +kernel
theorem d_M_areAggregatesRight_92 : decode b_M_areAggregatesRight 92 = .ok (.aload_n 0, 1) := by decide +kernel
theorem d_M_areAggregatesRight_93 : decode b_M_areAggregatesRight 93 = .ok (.getfield 67, 3) := by decide +kernel
theorem d_M_areAggregatesRight_96 : decode b_M_areAggregatesRight 96 = .ok (.iload_n 2, 1) := by decide +kernel
theorem d_M_areAggregatesRight_97 : decode b_M_areAggregatesRight 97 = .ok (.iaload, 1) := by decide +kernel
theorem d_M_areAggregatesRight_98 : decode b_M_areAggregatesRight 98 = .ok (.baload, 1) := by decide +kernel
theorem d_M_areAggregatesRight_99 : decode b_M_areAggregatesRight 99 = .ok (.ifCond .ne 7, 3) := by decide +kernel
theorem d_M_areAggregatesRight_102 : decode b_M_areAggregatesRight 102 = .ok (.iconst 1, 1) := by decide +kernel
theorem d_M_areAggregatesRight_103 : decode b_M_areAggregatesRight 103 = .ok (.goto 4, 3) := by decide +kernel
theorem d_M_areAggregatesRight_106 : decode b_M_areAggregatesRight 106 = .ok (.iconst 0, 1) := by decide +kernel
theorem d_M_areAggregatesRight_107 : decode b_M_areAggregatesRight 107 = .ok (.istore_n 1, 1) := by decide +kernel
theorem d_M_areAggregatesRight_108 : decode b_M_areAggregatesRight 108 = .ok (.iinc 2 1, 3) := by decide +kernel
theorem d_M_areAggregatesRight_111 : decode b_M_areAggregatesRight 111 = .ok (.goto (-35), 3) := by decide +kernel
theorem d_M_areAggregatesRight_114 : decode b_M_areAggregatesRight 114 = .ok (.iload_n 1, 1) := by decide +kernel
theorem d_M_areAggregatesRight_115 : decode b_M_areAggregatesRight 115 = .ok (.ireturn, 1) := by decide +kernel
theorem d_M_hasColumns_0 : decode b_M_hasColumns 0 = .ok (.iconst 1, 1) := by decide +kernel
theorem d_M_hasColumns_1 : decode b_M_hasColumns 1 = .ok (.istore_n 3, 1) := by decide +kernel
theorem d_M_hasColumns_2 : decode b_M_hasColumns 2 = .ok (.aload_n 0, 1) := by decide +kernel
theorem d_M_hasColumns_3 : decode b_M_hasColumns 3 = .ok (.iconst 0, 1) := by decide +kernel
theorem d_M_hasColumns_4 : decode b_M_hasColumns 4 = .ok (.putfield 193, 3) := by decide +kernel
theorem d_M_hasColumns_7 : decode b_M_hasColumns 7 = .ok (.aload_n 0, 1) := by decide +kernel
theorem d_M_hasColumns_8 : decode b_M_hasColumns 8 = .ok (.iload_n 1, 1) := by decide +kernel
theorem d_M_hasColumns_9 : decode b_M_hasColumns 9 = .ok (.invokevirtual 196, 3) := by decide +kernel
theorem d_M_hasColumns_12 : decode b_M_hasColumns 12 = .ok (.aload_n 0, 1) := by decide +kernel
theorem d_M_hasColumns_13 : decode b_M_hasColumns 13 = .ok (.getfield 193, 3) := by decide +kernel
theorem d_M_hasColumns_16 : decode b_M_hasColumns 16 = .ok (.ifCond .le 132, 3) := by decide +kernel
theorem d_M_hasColumns_19 : decode b_M_hasColumns 19 = .ok (.aload_n 0, 1) := by decide +kernel
theorem d_M_hasColumns_20 : decode b_M_hasColumns 20 = .ok (.dup, 1) := by decide +kernel
theorem d_M_hasColumns_21 : decode b_M_hasColumns 21 = .ok (.getfield 193, 3) := by decide +kernel
theorem d_M_hasColumns_24 : decode b_M_hasColumns 24 = .ok (.iconst 1, 1) := by decide +kernel
theorem d_M_hasColumns_25 : decode b_M_hasColumns 25 = .ok (.isub, 1) := by decide +kernel
theorem d_M_hasColumns_26 : decode b_M_hasColumns 26 = .ok (.putfield 193, 3) := by decide +kernel
theorem d_M_hasColumns_29 : decode b_M_hasColumns 29 = .ok (.aload_n 0, 1) := by decide +kernel
theorem d_M_hasColumns_30 : decode b_M_hasColumns 30 = .ok (.getfield 112, 3) := by decide +kernel
theorem d_M_hasColumns_33 : decode b_M_hasColumns 33 = .ok (.aload_n 0, 1) := by decide +kernel
theorem d_M_hasColumns_34 : decode b_M_hasColumns 34 = .ok (.getfield 193, 3) := by decide +kernel
theorem d_M_hasColumns_37 : decode b_M_hasColumns 37 = .ok (.iaload, 1) := by decide +kernel
theorem d_M_hasColumns_38 : decode b_M_hasColumns 38 = .ok (.istore 4, 2) := by decide +kernel
theorem d_M_hasColumns_40 : decode b_M_hasColumns 40 = .ok (.aload_n 0, 1) := by decide +kernel
theorem d_M_hasColumns_41 : decode b_M_hasColumns 41 = .ok (.getfield 24, 3) := by decide +kernel
theorem d_M_hasColumns_44 : decode b_M_hasColumns 44 = .ok (.iload 4, 2) := by decide +kernel
theorem d_M_hasColumns_46 : decode b_M_hasColumns 46 = .ok (.iaload, 1) := by decide +kernel
theorem d_M_hasColumns_47 : decode b_M_hasColumns 47 = .ok (.istore 5, 2) := by decide +kernel
theorem d_M_hasColumns_49 : decode b_M_hasColumns 49 = .ok (.iload 5, 2) := by decide +kernel
theorem d_M_hasColumns_51 : decode b_M_hasColumns 51 = .ok (.bipush 21, 2) := by decide +kernel
theorem d_M_hasColumns_53 : decode b_M_hasColumns 53 = .ok (.if_icmp .ne 54, 3) := by decide +kernel
theorem d_M_hasColumns_56 : decode b_M_hasColumns 56 = .ok (.iload_n 3, 1) := by decide +kernel
theorem d_M_hasColumns_57 : decode b_M_hasColumns 57 = .ok (.ifCond .eq 45, 3) := by decide +kernel
theorem d_M_hasColumns_60 : decode b_M_hasColumns 60 = .ok (.aload_n 0, 1) := by decide +kernel
theorem d_M_hasColumns_61 : decode b_M_hasColumns 61 = .ok (.getfield 27, 3) := by decide +kernel
theorem d_M_hasColumns_64 : decode b_M_hasColumns 64 = .ok (.iload 4, 2) := by decide +kernel
theorem d_M_hasColumns_66 : decode b_M_hasColumns 66 = .ok (.iaload, 1) := by decide +kernel
theorem d_M_hasColumns_67 : decode b_M_hasColumns 67 = .ok (.iload_n 2, 1) := by decide +kernel
theorem d_M_hasColumns_68 : decode b_M_hasColumns 68 = .ok (.if_icmp .gt 34, 3) := by decide +kernel
theorem d_M_hasColumns_71 : decode b_M_hasColumns 71 = .ok (.aload_n 0, 1) := by decide +kernel
theorem d_M_hasColumns_72 : decode b_M_hasColumns 72 = .ok (.getfield 30, 3) := by decide +kernel
theorem d_M_hasColumns_75 : decode b_M_hasColumns 75 = .ok (.iload 4, 2) := by decide +kernel
theorem d_M_hasColumns_77 : decode b_M_hasColumns 77 = .ok (.iaload, 1) := by decide +kernel
theorem d_M_hasColumns_78 : decode b_M_hasColumns 78 = .ok (.aload_n 0, 1) := by decide +kernel
theorem d_M_hasColumns_79 : decode b_M_hasColumns 79 = .ok (.getfield 7, 3) := by decide +kernel
theorem d_M_hasColumns_82 : decode b_M_hasColumns 82 = .ok (.aload_n 0, 1) := by decide +kernel
theorem d_M_hasColumns_83 : decode b_M_hasColumns 83 = .ok (.getfield 51, 3) := by decide +kernel
theorem d_M_hasColumns_86 : decode b_M_hasColumns 86 = .ok (.aload_n 0, 1) := by decide +kernel
theorem d_M_hasColumns_87 : decode b_M_hasColumns 87 = .ok (.getfield 27, 3) := by decide +kernel
theorem d_M_hasColumns_90 : decode b_M_hasColumns 90 = .ok (.iload 4, 2) := by decide +kernel
theorem d_M_hasColumns_92 : decode b_M_hasColumns 92 = .ok (.iaload, 1) := by decide +kernel
theorem d_M_hasColumns_93 : decode b_M_hasColumns 93 = .ok (.iaload, 1) := by decide +kernel
theorem d_M_hasColumns_94 : decode b_M_hasColumns 94 = .ok (.iaload, 1) := by decide +kernel
theorem d_M_hasColumns_95 : decode b_M_hasColumns 95 = .ok (.if_icmp .ge 7, 3) := by decide +kernel
theorem d_M_hasColumns_98 : decode b_M_hasColumns 98 = .ok (.iconst 1, 1) := by decide +kernel
theorem d_M_hasColumns_99 : decode b_M_hasColumns 99 = .ok (.goto 4, 3) := by decide +kernel
theorem d_M_hasColumns_102 : decode b_M_hasColumns 102 = .ok (.iconst 0, 1) := by decide +kernel
theorem d_M_hasColumns_103 : decode b_M_hasColumns 103 = .ok (.istore_n 3, 1) := by decide +kernel
theorem d_M_hasColumns_104 : decode b_M_hasColumns 104 = .ok (.goto 41, 3) := by decide +kernel
theorem d_M_hasColumns_107 : decode b_M_hasColumns 107 = .ok (.iload 5, 2) := by decide +kernel
theorem d_M_hasColumns_109 : decode b_M_hasColumns 109 = .ok (.bipush 20, 2) := by decide +kernel
theorem d_M_hasColumns_111 : decode b_M_hasColumns 111 = .ok (.if_icmp .eq 34, 3) := by decide +kernel
theorem d_M_hasColumns_114 : decode b_M_hasColumns 114 = .ok (.aload_n 0, 1) := by decide +kernel
theorem d_M_hasColumns_115 : decode b_M_hasColumns 115 = .ok (.aload_n 0, 1) := by decide +kernel
theorem d_M_hasColumns_116 : decode b_M_hasColumns 116 = .ok (.getfield 27, 3) := by decide +kernel
theorem d_M_hasColumns_119 : decode b_M_hasColumns 119 = .ok (.iload 4, 2) := by decide +kernel
theorem d_M_hasColumns_121 : decode b_M_hasColumns 121 = .ok (.iaload, 1) := by decide +kernel
theorem d_M_hasColumns_122 : decode b_M_hasColumns 122 = .ok (.invokevirtual 196, 3) := by decide +kernel
theorem d_M_hasColumns_125 : decode b_M_hasColumns 125 = .ok (.aload_n 0, 1) := by decide +kernel
theorem d_M_hasColumns_126 : decode b_M_hasColumns 126 = .ok (.iload 5, 2) := by decide +kernel
theorem d_M_hasColumns_128 : decode b_M_hasColumns 128 = .ok (.invokevirtual 162, 3) := by decide +kernel
theorem d_M_hasColumns_131 : decode b_M_hasColumns 131 = .ok (.ifCond .eq 14, 3) := by decide +kernel
theorem d_M_hasColumns_134 : decode b_M_hasColumns 134 = .ok (.aload_n 0, 1) := by decide +kernel
theorem d_M_hasColumns_135 : decode b_M_hasColumns 135 = .ok (.aload_n 0, 1) := by decide +kernel
theorem d_M_hasColumns_136 : decode b_M_hasColumns 136 = .ok (.getfield 30, 3) := by decide +kernel
theorem d_M_hasColumns_139 : decode b_M_hasColumns 139 = .ok (.iload 4, 2) := by decide +kernel
theorem d_M_hasColumns_141 : decode b_M_hasColumns 141 = .ok (.iaload, 1) := by decide +kernel
theorem d_M_hasColumns_142 : decode b_M_hasColumns 142 = .ok (.invokevirtual 196, 3) := by decide +kernel
theorem d_M_hasColumns_145 : decode b_M_hasColumns 145 = .ok (.goto (-133), 3) := by decide +kernel
theorem d_M_hasColumns_148 : decode b_M_hasColumns 148 = .ok (.iload_n 3, 1) := by decide +kernel
theorem d_M_hasColumns_149 : decode b_M_hasColumns 149 = .ok (.ireturn, 1) := by decide +kernel
theorem d_M_areColumnsRight_0 : decode b_M_areColumnsRight 0 = .ok (.iconst 1, 1) := by decide +kernel
theorem d_M_areColumnsRight_1 : decode b_M_areColumnsRight 1 = .ok (.istore_n 1, 1) := by decide +kernel
theorem d_M_areColumnsRight_2 : decode b_M_areColumnsRight 2 = .ok (.iconst 0, 1) := by decide +kernel
theorem d_M_areColumnsRight_3 : decode b_M_areColumnsRight 3 = .ok (.istore_n 2, 1) := by decide +kernel
theorem d_M_areColumnsRight_4 : decode b_M_areColumnsRight 4 = .ok (.iload_n 2, 1) := by decide +kernel
theorem d_M_areColumnsRight_5 : decode b_M_areColumnsRight 5 = .ok (.aload_n 0, 1) := by decide +kernel
theorem d_M_areColumnsRight_6 : decode b_M_areColumnsRight 6 = .ok (.getfield 143, 3) := by decide +kernel
theorem d_M_areColumnsRight_9 : decode b_M_areColumnsRight 9 = .ok (.if_icmp .ge 42, 3) := by decide +kernel
theorem d_M_areColumnsRight_12 : decode b_M_areColumnsRight 12 = .ok (.iload_n 1, 1) := by decide +kernel
theorem d_M_areColumnsRight_13 : decode b_M_areColumnsRight 13 = .ok (.ifCond .eq 30, 3) := by decide +kernel
theorem d_M_areColumnsRight_16 : decode b_M_areColumnsRight 16 = .ok (.aload_n 0, 1) := by decide +kernel
theorem d_M_areColumnsRight_17 : decode b_M_areColumnsRight 17 = .ok (.getfield 54, 3) := by decide +kernel
theorem d_M_areColumnsRight_20 : decode b_M_areColumnsRight 20 = .ok (.iload_n 2, 1) := by decide +kernel
theorem d_M_areColumnsRight_21 : decode b_M_areColumnsRight 21 = .ok (.iaload, 1) := by decide +kernel
theorem d_M_areColumnsRight_22 : decode b_M_areColumnsRight 22 = .ok (.ifCond .eq 17, 3) := by decide +kernel
theorem d_M_areColumnsRight_25 : decode b_M_areColumnsRight 25 = .ok (.aload_n 0, 1) := by decide +kernel
theorem d_M_areColumnsRight_26 : decode b_M_areColumnsRight 26 = .ok (.aload_n 0, 1) := by decide +kernel
theorem d_M_areColumnsRight_27 : decode b_M_areColumnsRight 27 = .ok (.getfield 57, 3) := by decide +kernel
theorem d_M_areColumnsRight_30 : decode b_M_areColumnsRight 30 = .ok (.iload_n 2, 1) := by decide +kernel
theorem d_M_areColumnsRight_31 : decode b_M_areColumnsRight 31 = .ok (.iaload, 1) := by decide +kernel
theorem d_M_areColumnsRight_32 : decode b_M_areColumnsRight 32 = .ok (.iload_n 2, 1) := by decide +kernel
theorem d_M_areColumnsRight_33 : decode b_M_areColumnsRight 33 = .ok (.invokevirtual 200, 3) := by decide +kernel
theorem d_M_areColumnsRight_36 : decode b_M_areColumnsRight 36 = .ok (.ifCond .eq 7, 3) := by decide +kernel
theorem d_M_areColumnsRight_39 : decode b_M_areColumnsRight 39 = .ok (.iconst 1, 1) := by decide +kernel
theorem d_M_areColumnsRight_40 : decode b_M_areColumnsRight 40 = .ok (.goto 4, 3) := by decide +kernel
theorem d_M_areColumnsRight_43 : decode b_M_areColumnsRight 43 = .ok (.iconst 0, 1) := by decide +kernel
theorem d_M_areColumnsRight_44 : decode b_M_areColumnsRight 44 = .ok (.istore_n 1, 1) := by decide +kernel
theorem d_M_areColumnsRight_45 : decode b_M_areColumnsRight 45 = .ok (.iinc 2 1, 3) := by decide +kernel
theorem d_M_areColumnsRight_48 : decode b_M_areColumnsRight 48 = .ok (.goto (-44), 3) := by decide +kernel
theorem d_M_areColumnsRight_51 : decode b_M_areColumnsRight 51 = .ok (.iload_n 1, 1) := by decide +kernel
theorem d_M_areColumnsRight_52 : decode b_M_areColumnsRight 52 = .ok (.ifCond .eq 55, 3) := by decide +kernel
theorem d_M_areColumnsRight_55 : decode b_M_areColumnsRight 55 = .ok (.aload_n 0, 1) := by decide +kernel
theorem d_M_areColumnsRight_56 : decode b_M_areColumnsRight 56 = .ok (.getfield 60, 3) := by decide +kernel
theorem d_M_areColumnsRight_59 : decode b_M_areColumnsRight 59 = .ok (.ifCond .lt 20, 3) := by decide +kernel
theorem d_M_areColumnsRight_62 : decode b_M_areColumnsRight 62 = .ok (.aload_n 0, 1) := by decide +kernel
theorem d_M_areColumnsRight_63 : decode b_M_areColumnsRight 63 = .ok (.aload_n 0, 1) := by decide +kernel
theorem d_M_areColumnsRight_64 : decode b_M_areColumnsRight 64 = .ok (.getfield 60, 3) := by decide +kernel
theorem d_M_areColumnsRight_67 : decode b_M_areColumnsRight 67 = .ok (.aload_n 0, 1) := by decide +kernel
theorem d_M_areColumnsRight_68 : decode b_M_areColumnsRight 68 = .ok (.getfield 143, 3) := by decide +kernel
theorem d_M_areColumnsRight_71 : decode b_M_areColumnsRight 71 = .ok (.iconst 1, 1) := by decide +kernel
theorem d_M_areColumnsRight_72 : decode b_M_areColumnsRight 72 = .ok (.isub, 1) := by decide +kernel
theorem d_M_areColumnsRight_73 : decode b_M_areColumnsRight 73 = .ok (.invokevirtual 200, 3) := by decide +kernel
theorem d_M_areColumnsRight_76 : decode b_M_areColumnsRight 76 = .ok (.ifCond .eq 31, 3) := by decide +kernel
theorem d_M_areColumnsRight_79 : decode b_M_areColumnsRight 79 = .ok (.aload_n 0, 1) := by decide +kernel
theorem d_M_areColumnsRight_80 : decode b_M_areColumnsRight 80 = .ok (.getfield 64, 3) := by decide +kernel
theorem d_M_areColumnsRight_83 : decode b_M_areColumnsRight 83 = .ok (.ifCond .lt 20, 3) := by decide +kernel
theorem d_M_areColumnsRight_86 : decode b_M_areColumnsRight 86 = .ok (.aload_n 0, 1) := by decide +kernel
theorem d_M_areColumnsRight_87 : decode b_M_areColumnsRight 87 = .ok (.aload_n 0, 1) := by decide +kernel
theorem d_M_areColumnsRight_88 : decode b_M_areColumnsRight 88 = .ok (.getfield 64, 3) := by decide +kernel
theorem d_M_areColumnsRight_91 : decode b_M_areColumnsRight 91 = .ok (.aload_n 0, 1) := by decide +kernel
theorem d_M_areColumnsRight_92 : decode b_M_areColumnsRight 92 = .ok (.getfield 143, 3) := by decide +kernel
theorem d_M_areColumnsRight_95 : decode b_M_areColumnsRight 95 = .ok (.iconst 1, 1) := by decide +kernel
theorem d_M_areColumnsRight_96 : decode b_M_areColumnsRight 96 = .ok (.isub, 1) := by decide +kernel
theorem d_M_areColumnsRight_97 : decode b_M_areColumnsRight 97 = .ok (.invokevirtual 200, 3) := by decide +kernel
theorem d_M_areColumnsRight_100 : decode b_M_areColumnsRight 100 = .ok (.ifCond .eq 7, 3) := by decide +kernel
theorem d_M_areColumnsRight_103 : decode b_M_areColumnsRight 103 = .ok (.iconst 1, 1) := by decide +kernel
theorem d_M_areColumnsRight_104 : decode b_M_areColumnsRight 104 = .ok (.goto 4, 3) := by decide +kernel
theorem d_M_areColumnsRight_107 : decode b_M_areColumnsRight 107 = .ok (.iconst 0, 1) := by decide +kernel
theorem d_M_areColumnsRight_108 : decode b_M_areColumnsRight 108 = .ok (.istore_n 1, 1) := by decide +kernel
theorem d_M_areColumnsRight_109 : decode b_M_areColumnsRight 109 = .ok (.iconst 0, 1) := by decide +kernel
theorem d_M_areColumnsRight_110 : decode b_M_areColumnsRight 110 = .ok (.istore_n 2, 1) := by decide +kernel
theorem d_M_areColumnsRight_111 : decode b_M_areColumnsRight 111 = .ok (.iload_n 2, 1) := by decide +kernel
theorem d_M_areColumnsRight_112 : decode b_M_areColumnsRight 112 = .ok (.aload_n 0, 1) := by decide +kernel
theorem d_M_areColumnsRight_113 : decode b_M_areColumnsRight 113 = .ok (.getfield 146, 3) := by decide +kernel
theorem d_M_areColumnsRight_116 : decode b_M_areColumnsRight 116 = .ok (.if_icmp .ge 38, 3) := by decide +kernel
theorem d_M_areColumnsRight_119 : decode b_M_areColumnsRight 119 = .ok (.iload_n 1, 1) := by decide +kernel
theorem d_M_areColumnsRight_120 : decode b_M_areColumnsRight 120 = .ok (.ifCond .eq 26, 3) := by decide +kernel
theorem d_M_areColumnsRight_123 : decode b_M_areColumnsRight 123 = .ok (.aload_n 0, 1) := by decide +kernel
theorem d_M_areColumnsRight_124 : decode b_M_areColumnsRight 124 = .ok (.aload_n 0, 1) := by decide +kernel
theorem d_M_areColumnsRight_125 : decode b_M_areColumnsRight 125 = .ok (.getfield 67, 3) := by decide +kernel
theorem d_M_areColumnsRight_128 : decode b_M_areColumnsRight 128 = .ok (.iload_n 2, 1) := by decide +kernel
theorem d_M_areColumnsRight_129 : decode b_M_areColumnsRight 129 = .ok (.iaload, 1) := by decide +kernel
theorem d_M_areColumnsRight_130 : decode b_M_areColumnsRight 130 = .ok (.aload_n 0, 1) := by decide +kernel
theorem d_M_areColumnsRight_131 : decode b_M_areColumnsRight 131 = .ok (.getfield 143, 3) := by decide +kernel
theorem d_M_areColumnsRight_134 : decode b_M_areColumnsRight 134 = .ok (.iconst 1, 1) := by decide +kernel
theorem d_M_areColumnsRight_135 : decode b_M_areColumnsRight 135 = .ok (.isub, 1) := by decide +kernel
theorem d_M_areColumnsRight_136 : decode b_M_areColumnsRight 136 = .ok (.invokevirtual 200, 3) := by decide +kernel
theorem d_M_areColumnsRight_139 : decode b_M_areColumnsRight 139 = .ok (.ifCond .eq 7, 3) := by decide +kernel
theorem d_M_areColumnsRight_142 : decode b_M_areColumnsRight 142 = .ok (.iconst 1, 1) := by decide +kernel
theorem d_M_areColumnsRight_143 : decode b_M_areColumnsRight 143 = .ok (.goto 4, 3) := by decide +kernel
theorem d_M_areColumnsRight_146 : decode b_M_areColumnsRight 146 = .ok (.iconst 0, 1) := by decide +kernel
theorem d_M_areColumnsRight_147 : decode b_M_areColumnsRight 147 = .ok (.istore_n 1, 1) := by decide +kernel
theorem d_M_areColumnsRight_148 : decode b_M_areColumnsRight 148 = .ok (.iinc 2 1, 3) := by decide +kernel
theorem d_M_areColumnsRight_151 : decode b_M_areColumnsRight 151 = .ok (.goto (-40), 3) := by decide +kernel
theorem d_M_areColumnsRight_154 : decode b_M_areColumnsRight 154 = .ok (.iconst 0, 1) := by decide +kernel
theorem d_M_areColumnsRight_155 : decode b_M_areColumnsRight 155 = .ok (.istore_n 2, 1) := by decide +kernel
theorem d_M_areColumnsRight_156 : decode b_M_areColumnsRight 156 = .ok (.iload_n 2, 1) := by decide +kernel
theorem d_M_areColumnsRight_157 : decode b_M_areColumnsRight 157 = .ok (.aload_n 0, 1) := by decide +kernel
theorem d_M_areColumnsRight_158 : decode b_M_areColumnsRight 158 = .ok (.getfield 149, 3) := by decide +kernel
theorem d_M_areColumnsRight_161 : decode b_M_areColumnsRight 161 = .ok (.if_icmp .ge 38, 3) := by decide +kernel
theorem d_M_areColumnsRight_164 : decode b_M_areColumnsRight 164 = .ok (.iload_n 1, 1) := by decide +kernel
theorem d_M_areColumnsRight_165 : decode b_M_areColumnsRight 165 = .ok (.ifCond .eq 26, 3) := by decide +kernel
theorem d_M_areColumnsRight_168 : decode b_M_areColumnsRight 168 = .ok (.aload_n 0, 1) := by decide +kernel
theorem d_M_areColumnsRight_169 : decode b_M_areColumnsRight 169 = .ok (.aload_n 0, 1) := by decide +kernel
theorem d_M_areColumnsRight_170 : decode b_M_areColumnsRight 170 = .ok (.getfield 70, 3) := by decide +kernel
theorem d_M_areColumnsRight_173 : decode b_M_areColumnsRight 173 = .ok (.iload_n 2, 1) := by decide +kernel
theorem d_M_areColumnsRight_174 : decode b_M_areColumnsRight 174 = .ok (.iaload, 1) := by decide +kernel
theorem d_M_areColumnsRight_175 : decode b_M_areColumnsRight 175 = .ok (.aload_n 0, 1) := by decide +kernel
theorem d_M_areColumnsRight_176 : decode b_M_areColumnsRight 176 = .ok (.getfield 143, 3) := by decide +kernel
theorem d_M_areColumnsRight_179 : decode b_M_areColumnsRight 179 = .ok (.iconst 1, 1) := by decide +kernel
theorem d_M_areColumnsRight_180 : decode b_M_areColumnsRight 180 = .ok (.isub, 1) := by decide +kernel
theorem d_M_areColumnsRight_181 : decode b_M_areColumnsRight 181 = .ok (.invokevirtual 200, 3) := by decide +kernel
theorem d_M_areColumnsRight_184 : decode b_M_areColumnsRight 184 = .ok (.ifCond .eq 7, 3) := by decide +kernel
theorem d_M_areColumnsRight_187 : decode b_M_areColumnsRight 187 = .ok (.iconst 1, 1) := by decide +kernel
theorem d_M_areColumnsRight_188 : decode b_M_areColumnsRight 188 = .ok (.goto 4, 3) := by decide +kernel
theorem d_M_areColumnsRight_191 : decode b_M_areColumnsRight 191 = .ok (.iconst 0, 1) := by decide +kernel
theorem d_M_areColumnsRight_192 : decode b_M_areColumnsRight 192 = .ok (.istore_n 1, 1) := by decide +kernel
theorem d_M_areColumnsRight_193 : decode b_M_areColumnsRight 193 = .ok (.iinc 2 1, 3) := by decide +kernel
theorem d_M_areColumnsRight_196 : decode b_M_areColumnsRight 196 = .ok (.goto (-40), 3) := by decide +kernel
theorem d_M_areColumnsRight_199 : decode b_M_areColumnsRight 199 = .ok (.iload_n 1, 1) := by decide +kernel
theorem d_M_areColumnsRight_200 : decode b_M_areColumnsRight 200 = .ok (.ireturn, 1) := by decide +kernel
theorem d_M_run_0 : decode b_M_run 0 = .ok (.aload_n 0, 1) := by decide +kernel
theorem d_M_run_1 : decode b_M_run 1 = .ok (.iconst 0, 1) := by decide +kernel
theorem d_M_run_2 : decode b_M_run 2 = .ok (.putfield 268, 3) := by decide +kernel
theorem d_M_run_5 : decode b_M_run 5 = .ok (.aload_n 0, 1) := by decide +kernel
theorem d_M_run_6 : decode b_M_run 6 = .ok (.iconst 0, 1) := by decide +kernel
theorem d_M_run_7 : decode b_M_run 7 = .ok (.putfield 305, 3) := by decide +kernel
theorem d_M_run_10 : decode b_M_run 10 = .ok (.aload_n 0, 1) := by decide +kernel
theorem d_M_run_11 : decode b_M_run 11 = .ok (.aload_n 0, 1) := by decide +kernel
theorem d_M_run_12 : decode b_M_run 12 = .ok (.getfield 143, 3) := by decide +kernel
theorem d_M_run_15 : decode b_M_run 15 = .ok (.ifCond .eq 10, 3) := by decide +kernel
theorem d_M_run_18 : decode b_M_run 18 = .ok (.aload_n 0, 1) := by decide +kernel
theorem d_M_run_19 : decode b_M_run 19 = .ok (.getfield 149, 3) := by decide +kernel
theorem d_M_run_22 : decode b_M_run 22 = .ok (.ifCond .ne 7, 3) := by decide +kernel
theorem d_M_run_25 : decode b_M_run 25 = .ok (.iconst (-1), 1) := by decide +kernel
theorem d_M_run_26 : decode b_M_run 26 = .ok (.goto 4, 3) := by decide +kernel
theorem d_M_run_29 : decode b_M_run 29 = .ok (.iconst 0, 1) := by decide +kernel
theorem d_M_run_30 : decode b_M_run 30 = .ok (.putfield 213, 3) := by decide +kernel
theorem d_M_run_33 : decode b_M_run 33 = .ok (.aload_n 0, 1) := by decide +kernel
theorem d_M_run_34 : decode b_M_run 34 = .ok (.aload_n 0, 1) := by decide +kernel
theorem d_M_run_35 : decode b_M_run 35 = .ok (.getfield 213, 3) := by decide +kernel
theorem d_M_run_38 : decode b_M_run 38 = .ok (.ifCond .ne 15, 3) := by decide +kernel
theorem d_M_run_41 : decode b_M_run 41 = .ok (.aload_n 0, 1) := by decide +kernel
theorem d_M_run_42 : decode b_M_run 42 = .ok (.invokevirtual 308, 3) := by decide +kernel
theorem d_M_run_45 : decode b_M_run 45 = .ok (.ifCond .ne 8, 3) := by decide +kernel
theorem d_M_run_48 : decode b_M_run 48 = .ok (.bipush (-11), 2) := by decide +kernel
theorem d_M_run_50 : decode b_M_run 50 = .ok (.goto 7, 3) := by decide +kernel
theorem d_M_run_53 : decode b_M_run 53 = .ok (.aload_n 0, 1) := by decide +kernel
theorem d_M_run_54 : decode b_M_run 54 = .ok (.getfield 213, 3) := by decide +kernel
theorem d_M_run_57 : decode b_M_run 57 = .ok (.putfield 213, 3) := by decide +kernel
theorem d_M_run_60 : decode b_M_run 60 = .ok (.aload_n 0, 1) := by decide +kernel
theorem d_M_run_61 : decode b_M_run 61 = .ok (.aload_n 0, 1) := by decide +kernel
theorem d_M_run_62 : decode b_M_run 62 = .ok (.getfield 213, 3) := by decide +kernel
theorem d_M_run_65 : decode b_M_run 65 = .ok (.ifCond .ne 15, 3) := by decide +kernel
theorem d_M_run_68 : decode b_M_run 68 = .ok (.aload_n 0, 1) := by decide +kernel
theorem d_M_run_69 : decode b_M_run 69 = .ok (.invokevirtual 312, 3) := by decide +kernel
theorem d_M_run_72 : decode b_M_run 72 = .ok (.ifCond .ne 8, 3) := by decide +kernel
theorem d_M_run_75 : decode b_M_run 75 = .ok (.bipush (-12), 2) := by decide +kernel
theorem d_M_run_77 : decode b_M_run 77 = .ok (.goto 7, 3) := by decide +kernel
theorem d_M_run_80 : decode b_M_run 80 = .ok (.aload_n 0, 1) := by decide +kernel
theorem d_M_run_81 : decode b_M_run 81 = .ok (.getfield 213, 3) := by decide +kernel
theorem d_M_run_84 : decode b_M_run 84 = .ok (.putfield 213, 3) := by decide +kernel
theorem d_M_run_87 : decode b_M_run 87 = .ok (.aload_n 0, 1) := by decide +kernel
theorem d_M_run_88 : decode b_M_run 88 = .ok (.aload_n 0, 1) := by decide +kernel
theorem d_M_run_89 : decode b_M_run 89 = .ok (.getfield 146, 3) := by decide +kernel
theorem d_M_run_92 : decode b_M_run 92 = .ok (.ifCond .gt 10, 3) := by decide +kernel
theorem d_M_run_95 : decode b_M_run 95 = .ok (.aload_n 0, 1) := by decide +kernel
theorem d_M_run_96 : decode b_M_run 96 = .ok (.getfield 64, 3) := by decide +kernel
theorem d_M_run_99 : decode b_M_run 99 = .ok (.ifCond .lt 7, 3) := by decide +kernel
theorem d_M_run_102 : decode b_M_run 102 = .ok (.iconst 1, 1) := by decide +kernel
theorem d_M_run_103 : decode b_M_run 103 = .ok (.goto 4, 3) := by decide +kernel
theorem d_M_run_106 : decode b_M_run 106 = .ok (.iconst 0, 1) := by decide +kernel
theorem d_M_run_107 : decode b_M_run 107 = .ok (.putfield 274, 3) := by decide +kernel
theorem d_M_run_110 : decode b_M_run 110 = .ok (.iconst 0, 1) := by decide +kernel
theorem d_M_run_111 : decode b_M_run 111 = .ok (.istore_n 1, 1) := by decide +kernel
theorem d_M_run_112 : decode b_M_run 112 = .ok (.iload_n 1, 1) := by decide +kernel
theorem d_M_run_113 : decode b_M_run 113 = .ok (.aload_n 0, 1) := by decide +kernel
theorem d_M_run_114 : decode b_M_run 114 = .ok (.getfield 149, 3) := by decide +kernel
theorem d_M_run_117 : decode b_M_run 117 = .ok (.if_icmp .ge 39, 3) := by decide +kernel
theorem d_M_run_120 : decode b_M_run 120 = .ok (.aload_n 0, 1) := by decide +kernel
theorem d_M_run_121 : decode b_M_run 121 = .ok (.aload_n 0, 1) := by decide +kernel
theorem d_M_run_122 : decode b_M_run 122 = .ok (.getfield 274, 3) := by decide +kernel
theorem d_M_run_125 : decode b_M_run 125 = .ok (.ifCond .ne 17, 3) := by decide +kernel
theorem d_M_run_128 : decode b_M_run 128 = .ok (.aload_n 0, 1) := by decide +kernel
theorem d_M_run_129 : decode b_M_run 129 = .ok (.getfield 42, 3) := by decide +kernel
theorem d_M_run_132 : decode b_M_run 132 = .ok (.aload_n 0, 1) := by decide +kernel
theorem d_M_run_133 : decode b_M_run 133 = .ok (.getfield 70, 3) := by decide +kernel
theorem d_M_run_136 : decode b_M_run 136 = .ok (.iload_n 1, 1) := by decide +kernel
theorem d_M_run_137 : decode b_M_run 137 = .ok (.iaload, 1) := by decide +kernel
theorem d_M_run_138 : decode b_M_run 138 = .ok (.baload, 1) := by decide +kernel
theorem d_M_run_139 : decode b_M_run 139 = .ok (.ifCond .eq 7, 3) := by decide +kernel
theorem d_M_run_142 : decode b_M_run 142 = .ok (.iconst 1, 1) := by decide +kernel
theorem d_M_run_143 : decode b_M_run 143 = .ok (.goto 4, 3) := by decide +kernel
theorem d_M_run_146 : decode b_M_run 146 = .ok (.iconst 0, 1) := by decide +kernel
theorem d_M_run_147 : decode b_M_run 147 = .ok (.putfield 274, 3) := by decide +kernel
theorem d_M_run_150 : decode b_M_run 150 = .ok (.iinc 1 1, 3) := by decide +kernel
theorem d_M_run_153 : decode b_M_run 153 = .ok (.goto (-41), 3) := by decide +kernel
theorem d_M_run_156 : decode b_M_run 156 = .ok (.aload_n 0, 1) := by decide +kernel
theorem d_M_run_157 : decode b_M_run 157 = .ok (.aload_n 0, 1) := by decide +kernel
theorem d_M_run_158 : decode b_M_run 158 = .ok (.getfield 213, 3) := by decide +kernel
theorem d_M_run_161 : decode b_M_run 161 = .ok (.ifCond .ne 22, 3) := by decide +kernel
theorem d_M_run_164 : decode b_M_run 164 = .ok (.aload_n 0, 1) := by decide +kernel
theorem d_M_run_165 : decode b_M_run 165 = .ok (.getfield 274, 3) := by decide +kernel
theorem d_M_run_168 : decode b_M_run 168 = .ok (.ifCond .eq 15, 3) := by decide +kernel
theorem d_M_run_171 : decode b_M_run 171 = .ok (.aload_n 0, 1) := by decide +kernel
theorem d_M_run_172 : decode b_M_run 172 = .ok (.invokevirtual 315, 3) := by decide +kernel
theorem d_M_run_175 : decode b_M_run 175 = .ok (.ifCond .ne 8, 3) := by decide +kernel
theorem d_M_run_178 : decode b_M_run 178 = .ok (.bipush (-13), 2) := by decide +kernel
theorem d_M_run_180 : decode b_M_run 180 = .ok (.goto 7, 3) := by decide +kernel
theorem d_M_run_183 : decode b_M_run 183 = .ok (.aload_n 0, 1) := by decide +kernel
theorem d_M_run_184 : decode b_M_run 184 = .ok (.getfield 213, 3) := by decide +kernel
theorem d_M_run_187 : decode b_M_run 187 = .ok (.putfield 213, 3) := by decide +kernel
theorem d_M_run_190 : decode b_M_run 190 = .ok (.aload_n 0, 1) := by decide +kernel
theorem d_M_run_191 : decode b_M_run 191 = .ok (.getfield 213, 3) := by decide +kernel
theorem d_M_run_194 : decode b_M_run 194 = .ok (.ifCond .eq 8, 3) := by decide +kernel
theorem d_M_run_197 : decode b_M_run 197 = .ok (.aload_n 0, 1) := by decide +kernel
theorem d_M_run_198 : decode b_M_run 198 = .ok (.getfield 213, 3) := by decide +kernel
theorem d_M_run_201 : decode b_M_run 201 = .ok (.ireturn, 1) := by decide +kernel
theorem d_M_run_202 : decode b_M_run 202 = .ok (.iconst 0, 1) := by decide +kernel
theorem d_M_run_203 : decode b_M_run 203 = .ok (.istore_n 1, 1) := by decide +kernel
theorem d_M_run_204 : decode b_M_run 204 = .ok (.iload_n 1, 1) := by decide +kernel
theorem d_M_run_205 : decode b_M_run 205 = .ok (.bipush 8, 2) := by decide +kernel
theorem d_M_run_207 : decode b_M_run 207 = .ok (.if_icmp .ge 16, 3) := by decide +kernel
theorem d_M_run_210 : decode b_M_run 210 = .ok (.aload_n 0, 1) := by decide +kernel
theorem d_M_run_211 : decode b_M_run 211 = .ok (.getfield 109, 3) := by decide +kernel
theorem d_M_run_214 : decode b_M_run 214 = .ok (.iload_n 1, 1) := by decide +kernel
theorem d_M_run_215 : decode b_M_run 215 = .ok (.iconst 0, 1) := by decide +kernel
theorem d_M_run_216 : decode b_M_run 216 = .ok (.bastore, 1) := by decide +kernel
theorem d_M_run_217 : decode b_M_run 217 = .ok (.iinc 1 1, 3) := by decide +kernel
theorem d_M_run_220 : decode b_M_run 220 = .ok (.goto (-16), 3) := by decide +kernel
theorem d_M_run_223 : decode b_M_run 223 = .ok (.aload_n 0, 1) := by decide +kernel
theorem d_M_run_224 : decode b_M_run 224 = .ok (.getfield 64, 3) := by decide +kernel
theorem d_M_run_227 : decode b_M_run 227 = .ok (.ifCond .lt 11, 3) := by decide +kernel
theorem d_M_run_230 : decode b_M_run 230 = .ok (.aload_n 0, 1) := by decide +kernel
theorem d_M_run_231 : decode b_M_run 231 = .ok (.aload_n 0, 1) := by decide +kernel
theorem d_M_run_232 : decode b_M_run 232 = .ok (.getfield 64, 3) := by decide +kernel
theorem d_M_run_235 : decode b_M_run 235 = .ok (.invokevirtual 318, 3) := by decide +kernel
theorem d_M_run_238 : decode b_M_run 238 = .ok (.iconst 0, 1) := by decide +kernel
theorem d_M_run_239 : decode b_M_run 239 = .ok (.istore_n 1, 1) := by decide +kernel
theorem d_M_run_240 : decode b_M_run 240 = .ok (.iload_n 1, 1) := by decide +kernel
theorem d_M_run_241 : decode b_M_run 241 = .ok (.aload_n 0, 1) := by decide +kernel
theorem d_M_run_242 : decode b_M_run 242 = .ok (.getfield 149, 3) := by decide +kernel
theorem d_M_run_245 : decode b_M_run 245 = .ok (.if_icmp .ge 19, 3) := by decide +kernel
theorem d_M_run_248 : decode b_M_run 248 = .ok (.aload_n 0, 1) := by decide +kernel
theorem d_M_run_249 : decode b_M_run 249 = .ok (.aload_n 0, 1) := by decide +kernel
theorem d_M_run_250 : decode b_M_run 250 = .ok (.getfield 70, 3) := by decide +kernel
theorem d_M_run_253 : decode b_M_run 253 = .ok (.iload_n 1, 1) := by decide +kernel
theorem d_M_run_254 : decode b_M_run 254 = .ok (.iaload, 1) := by decide +kernel
theorem d_M_run_255 : decode b_M_run 255 = .ok (.invokevirtual 318, 3) := by decide +kernel
theorem d_M_run_258 : decode b_M_run 258 = .ok (.iinc 1 1, 3) := by decide +kernel
theorem d_M_run_261 : decode b_M_run 261 = .ok (.goto (-21), 3) := by decide +kernel
theorem d_M_run_264 : decode b_M_run 264 = .ok (.aload_n 0, 1) := by decide +kernel
theorem d_M_run_265 : decode b_M_run 265 = .ok (.iconst 0, 1) := by decide +kernel
theorem d_M_run_266 : decode b_M_run 266 = .ok (.putfield 255, 3) := by decide +kernel
theorem d_M_run_269 : decode b_M_run 269 = .ok (.aload_n 0, 1) := by decide +kernel
theorem d_M_run_270 : decode b_M_run 270 = .ok (.iconst 0, 1) := by decide +kernel
theorem d_M_run_271 : decode b_M_run 271 = .ok (.putfield 261, 3) := by decide +kernel
theorem d_M_run_274 : decode b_M_run 274 = .ok (.aload_n 0, 1) := by decide +kernel
theorem d_M_run_275 : decode b_M_run 275 = .ok (.iconst (-1), 1) := by decide +kernel
theorem d_M_run_276 : decode b_M_run 276 = .ok (.putfield 234, 3) := by decide +kernel
theorem d_M_run_279 : decode b_M_run 279 = .ok (.aload_n 0, 1) := by decide +kernel
theorem d_M_run_280 : decode b_M_run 280 = .ok (.invokevirtual 321, 3) := by decide +kernel
theorem d_M_run_283 : decode b_M_run 283 = .ok (.aload_n 0, 1) := by decide +kernel
theorem d_M_run_284 : decode b_M_run 284 = .ok (.getfield 274, 3) := by decide +kernel
theorem d_M_run_287 : decode b_M_run 287 = .ok (.ifCond .eq 14, 3) := by decide +kernel
theorem d_M_run_290 : decode b_M_run 290 = .ok (.aload_n 0, 1) := by decide +kernel
theorem d_M_run_291 : decode b_M_run 291 = .ok (.getfield 213, 3) := by decide +kernel
theorem d_M_run_294 : decode b_M_run 294 = .ok (.ifCond .ne 7, 3) := by decide +kernel
theorem d_M_run_297 : decode b_M_run 297 = .ok (.aload_n 0, 1) := by decide +kernel
theorem d_M_run_298 : decode b_M_run 298 = .ok (.invokevirtual 324, 3) := by decide +kernel
theorem d_M_run_301 : decode b_M_run 301 = .ok (.aload_n 0, 1) := by decide +kernel
theorem d_M_run_302 : decode b_M_run 302 = .ok (.getfield 213, 3) := by decide +kernel
theorem d_M_run_305 : decode b_M_run 305 = .ok (.ifCond .eq 13, 3) := by decide +kernel
theorem d_M_run_308 : decode b_M_run 308 = .ok (.aload_n 0, 1) := by decide +kernel
theorem d_M_run_309 : decode b_M_run 309 = .ok (.iconst 0, 1) := by decide +kernel
theorem d_M_run_310 : decode b_M_run 310 = .ok (.putfield 268, 3) := by decide +kernel
theorem d_M_run_313 : decode b_M_run 313 = .ok (.aload_n 0, 1) := by decide +kernel
theorem d_M_run_314 : decode b_M_run 314 = .ok (.getfield 213, 3) := by decide +kernel
theorem d_M_run_317 : decode b_M_run 317 = .ok (.ireturn, 1) := by decide +kernel
theorem d_M_run_318 : decode b_M_run 318 = .ok (.aload_n 0, 1) := by decide +kernel
theorem d_M_run_319 : decode b_M_run 319 = .ok (.getfield 155, 3) := by decide +kernel
theorem d_M_run_322 : decode b_M_run 322 = .ok (.ifCond .eq 7, 3) := by decide +kernel
theorem d_M_run_325 : decode b_M_run 325 = .ok (.aload_n 0, 1) := by decide +kernel
theorem d_M_run_326 : decode b_M_run 326 = .ok (.invokevirtual 327, 3) := by decide +kernel
theorem d_M_run_329 : decode b_M_run 329 = .ok (.aload_n 0, 1) := by decide +kernel
theorem d_M_run_330 : decode b_M_run 330 = .ok (.invokevirtual 330, 3) := by decide +kernel
theorem d_M_run_333 : decode b_M_run 333 = .ok (.aload_n 0, 1) := by decide +kernel
theorem d_M_run_334 : decode b_M_run 334 = .ok (.invokevirtual 333, 3) := by decide +kernel
theorem d_M_run_337 : decode b_M_run 337 = .ok (.aload_n 0, 1) := by decide +kernel
theorem d_M_run_338 : decode b_M_run 338 = .ok (.aload_n 0, 1) := by decide +kernel
theorem d_M_run_339 : decode b_M_run 339 = .ok (.getfield 149, 3) := by decide +kernel
theorem d_M_run_342 : decode b_M_run 342 = .ok (.putfield 305, 3) := by decide +kernel
theorem d_M_run_345 : decode b_M_run 345 = .ok (.aload_n 0, 1) := by decide +kernel
theorem d_M_run_346 : decode b_M_run 346 = .ok (.getfield 268, 3) := by decide +kernel
theorem d_M_run_349 : decode b_M_run 349 = .ok (.ireturn, 1) := by decide +kernel
theorem d_M_isThere_0 : decode b_M_isThere 0 = .ok (.iload_n 1, 1) := by decide +kernel
theorem d_M_isThere_1 : decode b_M_isThere 1 = .ok (.i2l, 1) := by decide +kernel
theorem d_M_isThere_2 : decode b_M_isThere 2 = .ok (.lconst 0, 1) := by decide +kernel
theorem d_M_isThere_3 : decode b_M_isThere 3 = .ok (.aload_n 0, 1) := by decide +kernel
theorem d_M_isThere_4 : decode b_M_isThere 4 = .ok (.getfield 268, 3) := by decide +kernel
theorem d_M_isThere_7 : decode b_M_isThere 7 = .ok (.iconst 1, 1) := by decide +kernel
theorem d_M_isThere_8 : decode b_M_isThere 8 = .ok (.isub, 1) := by decide +kernel
theorem d_M_isThere_9 : decode b_M_isThere 9 = .ok (.i2l, 1) := by decide +kernel
theorem d_M_isThere_10 : decode b_M_isThere 10 = .ok (.invokestatic 126, 3) := by decide +kernel
theorem d_M_isThere_13 : decode b_M_isThere 13 = .ok (.ifCond .eq 23, 3) := by decide +kernel
theorem d_M_isThere_16 : decode b_M_isThere 16 = .ok (.iload_n 2, 1) := by decide +kernel
theorem d_M_isThere_17 : decode b_M_isThere 17 = .ok (.i2l, 1) := by decide +kernel
theorem d_M_isThere_18 : decode b_M_isThere 18 = .ok (.lconst 0, 1) := by decide +kernel
theorem d_M_isThere_19 : decode b_M_isThere 19 = .ok (.aload_n 0, 1) := by decide +kernel
theorem d_M_isThere_20 : decode b_M_isThere 20 = .ok (.getfield 305, 3) := by decide +kernel
theorem d_M_isThere_23 : decode b_M_isThere 23 = .ok (.iconst 1, 1) := by decide +kernel
theorem d_M_isThere_24 : decode b_M_isThere 24 = .ok (.isub, 1) := by decide +kernel
theorem d_M_isThere_25 : decode b_M_isThere 25 = .ok (.i2l, 1) := by decide +kernel
theorem d_M_isThere_26 : decode b_M_isThere 26 = .ok (.invokestatic 126, 3) := by decide +kernel
theorem d_M_isThere_29 : decode b_M_isThere 29 = .ok (.ifCond .eq 7, 3) := by decide +kernel
theorem d_M_isThere_32 : decode b_M_isThere 32 = .ok (.iconst 1, 1) := by decide +kernel
theorem d_M_isThere_33 : decode b_M_isThere 33 = .ok (.goto 4, 3) := by decide +kernel
theorem d_M_isThere_36 : decode b_M_isThere 36 = .ok (.iconst 0, 1) := by decide +kernel
theorem d_M_isThere_37 : decode b_M_isThere 37 = .ok (.ireturn, 1) := by decide +kernel
theorem d_M_cell_0 : decode b_M_cell 0 = .ok (.aload_n 0, 1) := by decide +kernel
theorem d_M_cell_1 : decode b_M_cell 1 = .ok (.iload_n 1, 1) := by decide +kernel
theorem d_M_cell_2 : decode b_M_cell 2 = .ok (.iload_n 2, 1) := by decide +kernel
theorem d_M_cell_3 : decode b_M_cell 3 = .ok (.invokevirtual 336, 3) := by decide +kernel
theorem d_M_cell_6 : decode b_M_cell 6 = .ok (.ifCond .eq 31, 3) := by decide +kernel
theorem d_M_cell_9 : decode b_M_cell 9 = .ok (.aload_n 0, 1) := by decide +kernel
theorem d_M_cell_10 : decode b_M_cell 10 = .ok (.getfield 85, 3) := by decide +kernel
theorem d_M_cell_13 : decode b_M_cell 13 = .ok (.bipush 6, 2) := by decide +kernel
theorem d_M_cell_15 : decode b_M_cell 15 = .ok (.iload_n 1, 1) := by decide +kernel
theorem d_M_cell_16 : decode b_M_cell 16 = .ok (.imul, 1) := by decide +kernel
theorem d_M_cell_17 : decode b_M_cell 17 = .ok (.iload_n 2, 1) := by decide +kernel
theorem d_M_cell_18 : decode b_M_cell 18 = .ok (.iadd, 1) := by decide +kernel
theorem d_M_cell_19 : decode b_M_cell 19 = .ok (.baload, 1) := by decide +kernel
theorem d_M_cell_20 : decode b_M_cell 20 = .ok (.ifCond .ne 17, 3) := by decide +kernel
theorem d_M_cell_23 : decode b_M_cell 23 = .ok (.aload_n 0, 1) := by decide +kernel
theorem d_M_cell_24 : decode b_M_cell 24 = .ok (.getfield 82, 3) := by decide +kernel
theorem d_M_cell_27 : decode b_M_cell 27 = .ok (.bipush 6, 2) := by decide +kernel
theorem d_M_cell_29 : decode b_M_cell 29 = .ok (.iload_n 1, 1) := by decide +kernel
theorem d_M_cell_30 : decode b_M_cell 30 = .ok (.imul, 1) := by decide +kernel
theorem d_M_cell_31 : decode b_M_cell 31 = .ok (.iload_n 2, 1) := by decide +kernel
theorem d_M_cell_32 : decode b_M_cell 32 = .ok (.iadd, 1) := by decide +kernel
theorem d_M_cell_33 : decode b_M_cell 33 = .ok (.laload, 1) := by decide +kernel
theorem d_M_cell_34 : decode b_M_cell 34 = .ok (.goto 4, 3) := by decide +kernel
theorem d_M_cell_37 : decode b_M_cell 37 = .ok (.lconst 0, 1) := by decide +kernel
theorem d_M_cell_38 : decode b_M_cell 38 = .ok (.lreturn, 1) := by decide +kernel
theorem d_M_isNull_0 : decode b_M_isNull 0 = .ok (.aload_n 0, 1) := by decide +kernel
theorem d_M_isNull_1 : decode b_M_isNull 1 = .ok (.iload_n 1, 1) := by decide +kernel
theorem d_M_isNull_2 : decode b_M_isNull 2 = .ok (.iload_n 2, 1) := by decide +kernel
theorem d_M_isNull_3 : decode b_M_isNull 3 = .ok (.invokevirtual 336, 3) := by decide +kernel
theorem d_M_isNull_6 : decode b_M_isNull 6 = .ok (.ifCond .eq 21, 3) := by decide +kernel
theorem d_M_isNull_9 : decode b_M_isNull 9 = .ok (.aload_n 0, 1) := by decide +kernel
theorem d_M_isNull_10 : decode b_M_isNull 10 = .ok (.getfield 85, 3) := by decide +kernel
theorem d_M_isNull_13 : decode b_M_isNull 13 = .ok (.bipush 6, 2) := by decide +kernel
theorem d_M_isNull_15 : decode b_M_isNull 15 = .ok (.iload_n 1, 1) := by decide +kernel
theorem d_M_isNull_16 : decode b_M_isNull 16 = .ok (.imul, 1) := by decide +kernel
theorem d_M_isNull_17 : decode b_M_isNull 17 = .ok (.iload_n 2, 1) := by decide +kernel
theorem d_M_isNull_18 : decode b_M_isNull 18 = .ok (.iadd, 1) := by decide +kernel
theorem d_M_isNull_19 : decode b_M_isNull 19 = .ok (.baload, 1) := by decide +kernel
theorem d_M_isNull_20 : decode b_M_isNull 20 = .ok (.ifCond .eq 7, 3) := by decide +kernel
theorem d_M_isNull_23 : decode b_M_isNull 23 = .ok (.iconst 1, 1) := by decide +kernel
theorem d_M_isNull_24 : decode b_M_isNull 24 = .ok (.goto 4, 3) := by decide +kernel
theorem d_M_isNull_27 : decode b_M_isNull 27 = .ok (.iconst 0, 1) := by decide +kernel
theorem d_M_isNull_28 : decode b_M_isNull 28 = .ok (.ireturn, 1) := by decide +kernel
theorem d_M_answer_0 : decode b_M_answer 0 = .ok (.iload_n 1, 1) := by decide +kernel
theorem d_M_answer_1 : decode b_M_answer 1 = .ok (.ifCond .ne 10, 3) := by decide +kernel
theorem d_M_answer_4 : decode b_M_answer 4 = .ok (.aload_n 0, 1) := by decide +kernel
theorem d_M_answer_5 : decode b_M_answer 5 = .ok (.getfield 268, 3) := by decide +kernel
theorem d_M_answer_8 : decode b_M_answer 8 = .ok (.goto 16, 3) := by decide +kernel
theorem d_M_answer_11 : decode b_M_answer 11 = .ok (.iload_n 1, 1) := by decide +kernel
theorem d_M_answer_12 : decode b_M_answer 12 = .ok (.iconst 1, 1) := by decide +kernel
theorem d_M_answer_13 : decode b_M_answer 13 = .ok (.if_icmp .ne 10, 3) := by decide +kernel
theorem d_M_answer_16 : decode b_M_answer 16 = .ok (.aload_n 0, 1) := by decide +kernel
theorem d_M_answer_17 : decode b_M_answer 17 = .ok (.getfield 305, 3) := by decide +kernel
theorem d_M_answer_20 : decode b_M_answer 20 = .ok (.goto 4, 3) := by decide +kernel
theorem d_M_answer_23 : decode b_M_answer 23 = .ok (.iconst (-1), 1) := by decide +kernel
theorem d_M_answer_24 : decode b_M_answer 24 = .ok (.ireturn, 1) := by decide +kernel
theorem d_T_init_0 : decode b_T_init 0 = .ok (.aload_n 0, 1) := by decide +kernel
theorem d_T_init_1 : decode b_T_init 1 = .ok (.invokespecial 3, 3) := by decide +kernel
theorem d_T_init_4 : decode b_T_init 4 = .ok (.aload_n 0, 1) := by decide +kernel
theorem d_T_init_5 : decode b_T_init 5 = .ok (.bipush 6, 2) := by decide +kernel
theorem d_T_init_7 : decode b_T_init 7 = .ok (.newarray .int, 2) := by decide +kernel
theorem d_T_init_9 : decode b_T_init 9 = .ok (.putfield 9, 3) := by decide +kernel
theorem d_T_init_12 : decode b_T_init 12 = .ok (.aload_n 0, 1) := by decide +kernel
theorem d_T_init_13 : decode b_T_init 13 = .ok (.bipush 6, 2) := by decide +kernel
theorem d_T_init_15 : decode b_T_init 15 = .ok (.newarray .int, 2) := by decide +kernel
theorem d_T_init_17 : decode b_T_init 17 = .ok (.putfield 15, 3) := by decide +kernel
theorem d_T_init_20 : decode b_T_init 20 = .ok (.aload_n 0, 1) := by decide +kernel
theorem d_T_init_21 : decode b_T_init 21 = .ok (.sipush 192, 3) := by decide +kernel
theorem d_T_init_24 : decode b_T_init 24 = .ok (.newarray .long, 2) := by decide +kernel
theorem d_T_init_26 : decode b_T_init 26 = .ok (.putfield 18, 3) := by decide +kernel
theorem d_T_init_29 : decode b_T_init 29 = .ok (.aload_n 0, 1) := by decide +kernel
theorem d_T_init_30 : decode b_T_init 30 = .ok (.bipush 48, 2) := by decide +kernel
theorem d_T_init_32 : decode b_T_init 32 = .ok (.newarray .int, 2) := by decide +kernel
theorem d_T_init_34 : decode b_T_init 34 = .ok (.putfield 22, 3) := by decide +kernel
theorem d_T_init_37 : decode b_T_init 37 = .ok (.return_, 1) := by decide +kernel
theorem d_E_init_0 : decode b_E_init 0 = .ok (.aload_n 0, 1) := by decide +kernel
theorem d_E_init_1 : decode b_E_init 1 = .ok (.invokespecial 3, 3) := by decide +kernel
theorem d_E_init_4 : decode b_E_init 4 = .ok (.aload_n 0, 1) := by decide +kernel
theorem d_E_init_5 : decode b_E_init 5 = .ok (.bipush 60, 2) := by decide +kernel
theorem d_E_init_7 : decode b_E_init 7 = .ok (.newarray .int, 2) := by decide +kernel
theorem d_E_init_9 : decode b_E_init 9 = .ok (.putfield 9, 3) := by decide +kernel
theorem d_E_init_12 : decode b_E_init 12 = .ok (.aload_n 0, 1) := by decide +kernel
theorem d_E_init_13 : decode b_E_init 13 = .ok (.bipush 60, 2) := by decide +kernel
theorem d_E_init_15 : decode b_E_init 15 = .ok (.newarray .long, 2) := by decide +kernel
theorem d_E_init_17 : decode b_E_init 17 = .ok (.putfield 15, 3) := by decide +kernel
theorem d_E_init_20 : decode b_E_init 20 = .ok (.aload_n 0, 1) := by decide +kernel
theorem d_E_init_21 : decode b_E_init 21 = .ok (.bipush 60, 2) := by decide +kernel
theorem d_E_init_23 : decode b_E_init 23 = .ok (.newarray .int, 2) := by decide +kernel
theorem d_E_init_25 : decode b_E_init 25 = .ok (.putfield 19, 3) := by decide +kernel
theorem d_E_init_28 : decode b_E_init 28 = .ok (.aload_n 0, 1) := by decide +kernel
theorem d_E_init_29 : decode b_E_init 29 = .ok (.bipush 60, 2) := by decide +kernel
theorem d_E_init_31 : decode b_E_init 31 = .ok (.newarray .int, 2) := by decide +kernel
theorem d_E_init_33 : decode b_E_init 33 = .ok (.putfield 22, 3) := by decide +kernel
theorem d_E_init_36 : decode b_E_init 36 = .ok (.aload_n 0, 1) := by decide +kernel
theorem d_E_init_37 : decode b_E_init 37 = .ok (.bipush 60, 2) := by decide +kernel
theorem d_E_init_39 : decode b_E_init 39 = .ok (.newarray .int, 2) := by decide +kernel
theorem d_E_init_41 : decode b_E_init 41 = .ok (.putfield 25, 3) := by decide +kernel
theorem d_E_init_44 : decode b_E_init 44 = .ok (.aload_n 0, 1) := by decide +kernel
theorem d_E_init_45 : decode b_E_init 45 = .ok (.bipush 60, 2) := by decide +kernel
theorem d_E_init_47 : decode b_E_init 47 = .ok (.newarray .int, 2) := by decide +kernel
theorem d_E_init_49 : decode b_E_init 49 = .ok (.putfield 28, 3) := by decide +kernel
theorem d_E_init_52 : decode b_E_init 52 = .ok (.aload_n 0, 1) := by decide +kernel
theorem d_E_init_53 : decode b_E_init 53 = .ok (.bipush 60, 2) := by decide +kernel
theorem d_E_init_55 : decode b_E_init 55 = .ok (.newarray .int, 2) := by decide +kernel
theorem d_E_init_57 : decode b_E_init 57 = .ok (.putfield 31, 3) := by decide +kernel
theorem d_E_init_60 : decode b_E_init 60 = .ok (.aload_n 0, 1) := by decide +kernel
theorem d_E_init_61 : decode b_E_init 61 = .ok (.bipush 60, 2) := by decide +kernel
theorem d_E_init_63 : decode b_E_init 63 = .ok (.newarray .int, 2) := by decide +kernel
theorem d_E_init_65 : decode b_E_init 65 = .ok (.putfield 34, 3) := by decide +kernel
theorem d_E_init_68 : decode b_E_init 68 = .ok (.aload_n 0, 1) := by decide +kernel
theorem d_E_init_69 : decode b_E_init 69 = .ok (.bipush 8, 2) := by decide +kernel
theorem d_E_init_71 : decode b_E_init 71 = .ok (.newarray .int, 2) := by decide +kernel
theorem d_E_init_73 : decode b_E_init 73 = .ok (.putfield 37, 3) := by decide +kernel
theorem d_E_init_76 : decode b_E_init 76 = .ok (.aload_n 0, 1) := by decide +kernel
theorem d_E_init_77 : decode b_E_init 77 = .ok (.bipush 8, 2) := by decide +kernel
theorem d_E_init_79 : decode b_E_init 79 = .ok (.newarray .int, 2) := by decide +kernel
theorem d_E_init_81 : decode b_E_init 81 = .ok (.putfield 40, 3) := by decide +kernel
theorem d_E_init_84 : decode b_E_init 84 = .ok (.aload_n 0, 1) := by decide +kernel
theorem d_E_init_85 : decode b_E_init 85 = .ok (.bipush 8, 2) := by decide +kernel
theorem d_E_init_87 : decode b_E_init 87 = .ok (.newarray .boolean, 2) := by decide +kernel
theorem d_E_init_89 : decode b_E_init 89 = .ok (.putfield 43, 3) := by decide +kernel
theorem d_E_init_92 : decode b_E_init 92 = .ok (.return_, 1) := by decide +kernel
theorem d_Y_init_0 : decode b_Y_init 0 = .ok (.aload_n 0, 1) := by decide +kernel
theorem d_Y_init_1 : decode b_Y_init 1 = .ok (.invokespecial 3, 3) := by decide +kernel
theorem d_Y_init_4 : decode b_Y_init 4 = .ok (.aload_n 0, 1) := by decide +kernel
theorem d_Y_init_5 : decode b_Y_init 5 = .ok (.iconst 3, 1) := by decide +kernel
theorem d_Y_init_6 : decode b_Y_init 6 = .ok (.newarray .int, 2) := by decide +kernel
theorem d_Y_init_8 : decode b_Y_init 8 = .ok (.putfield 9, 3) := by decide +kernel
theorem d_Y_init_11 : decode b_Y_init 11 = .ok (.aload_n 0, 1) := by decide +kernel
theorem d_Y_init_12 : decode b_Y_init 12 = .ok (.iconst 3, 1) := by decide +kernel
theorem d_Y_init_13 : decode b_Y_init 13 = .ok (.newarray .int, 2) := by decide +kernel
theorem d_Y_init_15 : decode b_Y_init 15 = .ok (.putfield 15, 3) := by decide +kernel
theorem d_Y_init_18 : decode b_Y_init 18 = .ok (.aload_n 0, 1) := by decide +kernel
theorem d_Y_init_19 : decode b_Y_init 19 = .ok (.iconst 3, 1) := by decide +kernel
theorem d_Y_init_20 : decode b_Y_init 20 = .ok (.newarray .int, 2) := by decide +kernel
theorem d_Y_init_22 : decode b_Y_init 22 = .ok (.putfield 18, 3) := by decide +kernel
theorem d_Y_init_25 : decode b_Y_init 25 = .ok (.aload_n 0, 1) := by decide +kernel
theorem d_Y_init_26 : decode b_Y_init 26 = .ok (.iconst (-1), 1) := by decide +kernel
theorem d_Y_init_27 : decode b_Y_init 27 = .ok (.putfield 21, 3) := by decide +kernel
theorem d_Y_init_30 : decode b_Y_init 30 = .ok (.aload_n 0, 1) := by decide +kernel
theorem d_Y_init_31 : decode b_Y_init 31 = .ok (.iconst (-1), 1) := by decide +kernel
theorem d_Y_init_32 : decode b_Y_init 32 = .ok (.putfield 25, 3) := by decide +kernel
theorem d_Y_init_35 : decode b_Y_init 35 = .ok (.aload_n 0, 1) := by decide +kernel
theorem d_Y_init_36 : decode b_Y_init 36 = .ok (.iconst 4, 1) := by decide +kernel
theorem d_Y_init_37 : decode b_Y_init 37 = .ok (.newarray .int, 2) := by decide +kernel
theorem d_Y_init_39 : decode b_Y_init 39 = .ok (.putfield 28, 3) := by decide +kernel
theorem d_Y_init_42 : decode b_Y_init 42 = .ok (.aload_n 0, 1) := by decide +kernel
theorem d_Y_init_43 : decode b_Y_init 43 = .ok (.bipush 6, 2) := by decide +kernel
theorem d_Y_init_45 : decode b_Y_init 45 = .ok (.newarray .int, 2) := by decide +kernel
theorem d_Y_init_47 : decode b_Y_init 47 = .ok (.putfield 31, 3) := by decide +kernel
theorem d_Y_init_50 : decode b_Y_init 50 = .ok (.aload_n 0, 1) := by decide +kernel
theorem d_Y_init_51 : decode b_Y_init 51 = .ok (.iconst 4, 1) := by decide +kernel
theorem d_Y_init_52 : decode b_Y_init 52 = .ok (.newarray .int, 2) := by decide +kernel
theorem d_Y_init_54 : decode b_Y_init 54 = .ok (.putfield 34, 3) := by decide +kernel
theorem d_Y_init_57 : decode b_Y_init 57 = .ok (.aload_n 0, 1) := by decide +kernel
theorem d_Y_init_58 : decode b_Y_init 58 = .ok (.iconst 4, 1) := by decide +kernel
theorem d_Y_init_59 : decode b_Y_init 59 = .ok (.newarray .boolean, 2) := by decide +kernel
theorem d_Y_init_61 : decode b_Y_init 61 = .ok (.putfield 37, 3) := by decide +kernel
theorem d_Y_init_64 : decode b_Y_init 64 = .ok (.aload_n 0, 1) := by decide +kernel
theorem d_Y_init_65 : decode b_Y_init 65 = .ok (.sipush 1000, 3) := by decide +kernel
theorem d_Y_init_68 : decode b_Y_init 68 = .ok (.putfield 41, 3) := by decide +kernel
theorem d_Y_init_71 : decode b_Y_init 71 = .ok (.return_, 1) := by decide +kernel
theorem d_A_init_0 : decode b_A_init 0 = .ok (.aload_n 0, 1) := by decide +kernel
theorem d_A_init_1 : decode b_A_init 1 = .ok (.invokespecial 3, 3) := by decide +kernel
theorem d_A_init_4 : decode b_A_init 4 = .ok (.aload_n 0, 1) := by decide +kernel
theorem d_A_init_5 : decode b_A_init 5 = .ok (.sipush 1200, 3) := by decide +kernel
theorem d_A_init_8 : decode b_A_init 8 = .ok (.newarray .long, 2) := by decide +kernel
theorem d_A_init_10 : decode b_A_init 10 = .ok (.putfield 9, 3) := by decide +kernel
theorem d_A_init_13 : decode b_A_init 13 = .ok (.aload_n 0, 1) := by decide +kernel
theorem d_A_init_14 : decode b_A_init 14 = .ok (.sipush 200, 3) := by decide +kernel
theorem d_A_init_17 : decode b_A_init 17 = .ok (.newarray .int, 2) := by decide +kernel
theorem d_A_init_19 : decode b_A_init 19 = .ok (.putfield 15, 3) := by decide +kernel
theorem d_A_init_22 : decode b_A_init 22 = .ok (.aload_n 0, 1) := by decide +kernel
theorem d_A_init_23 : decode b_A_init 23 = .ok (.sipush 200, 3) := by decide +kernel
theorem d_A_init_26 : decode b_A_init 26 = .ok (.newarray .int, 2) := by decide +kernel
theorem d_A_init_28 : decode b_A_init 28 = .ok (.putfield 19, 3) := by decide +kernel
theorem d_A_init_31 : decode b_A_init 31 = .ok (.return_, 1) := by decide +kernel
theorem d_C_init_0 : decode b_C_init 0 = .ok (.aload_n 0, 1) := by decide +kernel
theorem d_C_init_1 : decode b_C_init 1 = .ok (.invokespecial 3, 3) := by decide +kernel
theorem d_C_init_4 : decode b_C_init 4 = .ok (.aload_n 0, 1) := by decide +kernel
theorem d_C_init_5 : decode b_C_init 5 = .ok (.bipush 60, 2) := by decide +kernel
theorem d_C_init_7 : decode b_C_init 7 = .ok (.newarray .boolean, 2) := by decide +kernel
theorem d_C_init_9 : decode b_C_init 9 = .ok (.putfield 9, 3) := by decide +kernel
theorem d_C_init_12 : decode b_C_init 12 = .ok (.aload_n 0, 1) := by decide +kernel
theorem d_C_init_13 : decode b_C_init 13 = .ok (.aload_n 1, 1) := by decide +kernel
theorem d_C_init_14 : decode b_C_init 14 = .ok (.putfield 15, 3) := by decide +kernel
theorem d_C_init_17 : decode b_C_init 17 = .ok (.aload_n 0, 1) := by decide +kernel
theorem d_C_init_18 : decode b_C_init 18 = .ok (.aload_n 2, 1) := by decide +kernel
theorem d_C_init_19 : decode b_C_init 19 = .ok (.putfield 19, 3) := by decide +kernel
theorem d_C_init_22 : decode b_C_init 22 = .ok (.aload_n 0, 1) := by decide +kernel
theorem d_C_init_23 : decode b_C_init 23 = .ok (.aload_n 3, 1) := by decide +kernel
theorem d_C_init_24 : decode b_C_init 24 = .ok (.putfield 23, 3) := by decide +kernel
theorem d_C_init_27 : decode b_C_init 27 = .ok (.return_, 1) := by decide +kernel
theorem d_V_init_0 : decode b_V_init 0 = .ok (.aload_n 0, 1) := by decide +kernel
theorem d_V_init_1 : decode b_V_init 1 = .ok (.invokespecial 3, 3) := by decide +kernel
theorem d_V_init_4 : decode b_V_init 4 = .ok (.aload_n 0, 1) := by decide +kernel
theorem d_V_init_5 : decode b_V_init 5 = .ok (.iconst 3, 1) := by decide +kernel
theorem d_V_init_6 : decode b_V_init 6 = .ok (.newarray .int, 2) := by decide +kernel
theorem d_V_init_8 : decode b_V_init 8 = .ok (.putfield 9, 3) := by decide +kernel
theorem d_V_init_11 : decode b_V_init 11 = .ok (.aload_n 0, 1) := by decide +kernel
theorem d_V_init_12 : decode b_V_init 12 = .ok (.aload_n 1, 1) := by decide +kernel
theorem d_V_init_13 : decode b_V_init 13 = .ok (.putfield 15, 3) := by decide +kernel
theorem d_V_init_16 : decode b_V_init 16 = .ok (.aload_n 0, 1) := by decide +kernel
theorem d_V_init_17 : decode b_V_init 17 = .ok (.aload_n 2, 1) := by decide +kernel
theorem d_V_init_18 : decode b_V_init 18 = .ok (.putfield 19, 3) := by decide +kernel
theorem d_V_init_21 : decode b_V_init 21 = .ok (.aload_n 0, 1) := by decide +kernel
theorem d_V_init_22 : decode b_V_init 22 = .ok (.aload_n 3, 1) := by decide +kernel
theorem d_V_init_23 : decode b_V_init 23 = .ok (.putfield 23, 3) := by decide +kernel
theorem d_V_init_26 : decode b_V_init 26 = .ok (.return_, 1) := by decide +kernel
theorem d_R_init_0 : decode b_R_init 0 = .ok (.aload_n 0, 1) := by decide +kernel
theorem d_R_init_1 : decode b_R_init 1 = .ok (.invokespecial 3, 3) := by decide +kernel
theorem d_R_init_4 : decode b_R_init 4 = .ok (.aload_n 0, 1) := by decide +kernel
theorem d_R_init_5 : decode b_R_init 5 = .ok (.aload_n 1, 1) := by decide +kernel
theorem d_R_init_6 : decode b_R_init 6 = .ok (.putfield 9, 3) := by decide +kernel
theorem d_R_init_9 : decode b_R_init 9 = .ok (.aload_n 0, 1) := by decide +kernel
theorem d_R_init_10 : decode b_R_init 10 = .ok (.aload_n 2, 1) := by decide +kernel
theorem d_R_init_11 : decode b_R_init 11 = .ok (.putfield 15, 3) := by decide +kernel
theorem d_R_init_14 : decode b_R_init 14 = .ok (.aload_n 0, 1) := by decide +kernel
theorem d_R_init_15 : decode b_R_init 15 = .ok (.aload_n 3, 1) := by decide +kernel
theorem d_R_init_16 : decode b_R_init 16 = .ok (.putfield 19, 3) := by decide +kernel
theorem d_R_init_19 : decode b_R_init 19 = .ok (.aload_n 0, 1) := by decide +kernel
theorem d_R_init_20 : decode b_R_init 20 = .ok (.aload 4, 2) := by decide +kernel
theorem d_R_init_22 : decode b_R_init 22 = .ok (.putfield 23, 3) := by decide +kernel
theorem d_R_init_25 : decode b_R_init 25 = .ok (.aload_n 0, 1) := by decide +kernel
theorem d_R_init_26 : decode b_R_init 26 = .ok (.new 27, 3) := by decide +kernel
theorem d_R_init_29 : decode b_R_init 29 = .ok (.dup, 1) := by decide +kernel
theorem d_R_init_30 : decode b_R_init 30 = .ok (.aload_n 1, 1) := by decide +kernel
theorem d_R_init_31 : decode b_R_init 31 = .ok (.aload_n 2, 1) := by decide +kernel
theorem d_R_init_32 : decode b_R_init 32 = .ok (.aload_n 3, 1) := by decide +kernel
theorem d_R_init_33 : decode b_R_init 33 = .ok (.invokespecial 29, 3) := by decide +kernel
theorem d_R_init_36 : decode b_R_init 36 = .ok (.putfield 32, 3) := by decide +kernel
theorem d_R_init_39 : decode b_R_init 39 = .ok (.aload_n 0, 1) := by decide +kernel
theorem d_R_init_40 : decode b_R_init 40 = .ok (.new 36, 3) := by decide +kernel
theorem d_R_init_43 : decode b_R_init 43 = .ok (.dup, 1) := by decide +kernel
theorem d_R_init_44 : decode b_R_init 44 = .ok (.aload_n 1, 1) := by decide +kernel
theorem d_R_init_45 : decode b_R_init 45 = .ok (.aload_n 2, 1) := by decide +kernel
theorem d_R_init_46 : decode b_R_init 46 = .ok (.aload_n 3, 1) := by decide +kernel
theorem d_R_init_47 : decode b_R_init 47 = .ok (.invokespecial 38, 3) := by decide +kernel
theorem d_R_init_50 : decode b_R_init 50 = .ok (.putfield 39, 3) := by decide +kernel
theorem d_R_init_53 : decode b_R_init 53 = .ok (.return_, 1) := by decide +kernel
theorem d_Q_init_0 : decode b_Q_init 0 = .ok (.aload_n 0, 1) := by decide +kernel
theorem d_Q_init_1 : decode b_Q_init 1 = .ok (.invokespecial 1, 3) := by decide +kernel
theorem d_Q_init_4 : decode b_Q_init 4 = .ok (.aload_n 0, 1) := by decide +kernel
theorem d_Q_init_5 : decode b_Q_init 5 = .ok (.new 7, 3) := by decide +kernel
theorem d_Q_init_8 : decode b_Q_init 8 = .ok (.dup, 1) := by decide +kernel
theorem d_Q_init_9 : decode b_Q_init 9 = .ok (.invokespecial 9, 3) := by decide +kernel
theorem d_Q_init_12 : decode b_Q_init 12 = .ok (.putfield 10, 3) := by decide +kernel
theorem d_Q_init_15 : decode b_Q_init 15 = .ok (.aload_n 0, 1) := by decide +kernel
theorem d_Q_init_16 : decode b_Q_init 16 = .ok (.new 16, 3) := by decide +kernel
theorem d_Q_init_19 : decode b_Q_init 19 = .ok (.dup, 1) := by decide +kernel
theorem d_Q_init_20 : decode b_Q_init 20 = .ok (.invokespecial 18, 3) := by decide +kernel
theorem d_Q_init_23 : decode b_Q_init 23 = .ok (.putfield 19, 3) := by decide +kernel
theorem d_Q_init_26 : decode b_Q_init 26 = .ok (.aload_n 0, 1) := by decide +kernel
theorem d_Q_init_27 : decode b_Q_init 27 = .ok (.new 23, 3) := by decide +kernel
theorem d_Q_init_30 : decode b_Q_init 30 = .ok (.dup, 1) := by decide +kernel
theorem d_Q_init_31 : decode b_Q_init 31 = .ok (.invokespecial 25, 3) := by decide +kernel
theorem d_Q_init_34 : decode b_Q_init 34 = .ok (.putfield 26, 3) := by decide +kernel
theorem d_Q_init_37 : decode b_Q_init 37 = .ok (.aload_n 0, 1) := by decide +kernel
theorem d_Q_init_38 : decode b_Q_init 38 = .ok (.new 30, 3) := by decide +kernel
theorem d_Q_init_41 : decode b_Q_init 41 = .ok (.dup, 1) := by decide +kernel
theorem d_Q_init_42 : decode b_Q_init 42 = .ok (.invokespecial 32, 3) := by decide +kernel
theorem d_Q_init_45 : decode b_Q_init 45 = .ok (.putfield 33, 3) := by decide +kernel
theorem d_Q_init_48 : decode b_Q_init 48 = .ok (.aload_n 0, 1) := by decide +kernel
theorem d_Q_init_49 : decode b_Q_init 49 = .ok (.new 37, 3) := by decide +kernel
theorem d_Q_init_52 : decode b_Q_init 52 = .ok (.dup, 1) := by decide +kernel
theorem d_Q_init_53 : decode b_Q_init 53 = .ok (.aload_n 0, 1) := by decide +kernel
theorem d_Q_init_54 : decode b_Q_init 54 = .ok (.getfield 10, 3) := by decide +kernel
theorem d_Q_init_57 : decode b_Q_init 57 = .ok (.aload_n 0, 1) := by decide +kernel
theorem d_Q_init_58 : decode b_Q_init 58 = .ok (.getfield 19, 3) := by decide +kernel
theorem d_Q_init_61 : decode b_Q_init 61 = .ok (.aload_n 0, 1) := by decide +kernel
theorem d_Q_init_62 : decode b_Q_init 62 = .ok (.getfield 26, 3) := by decide +kernel
theorem d_Q_init_65 : decode b_Q_init 65 = .ok (.aload_n 0, 1) := by decide +kernel
theorem d_Q_init_66 : decode b_Q_init 66 = .ok (.getfield 33, 3) := by decide +kernel
theorem d_Q_init_69 : decode b_Q_init 69 = .ok (.invokespecial 39, 3) := by decide +kernel
theorem d_Q_init_72 : decode b_Q_init 72 = .ok (.putfield 42, 3) := by decide +kernel
theorem d_Q_init_75 : decode b_Q_init 75 = .ok (.return_, 1) := by decide +kernel
theorem d_G_init_0 : decode b_G_init 0 = .ok (.aload_n 0, 1) := by decide +kernel
theorem d_G_init_1 : decode b_G_init 1 = .ok (.invokespecial 3, 3) := by decide +kernel
theorem d_G_init_4 : decode b_G_init 4 = .ok (.aload_n 0, 1) := by decide +kernel
theorem d_G_init_5 : decode b_G_init 5 = .ok (.sipush 2048, 3) := by decide +kernel
theorem d_G_init_8 : decode b_G_init 8 = .ok (.newarray .long, 2) := by decide +kernel
theorem d_G_init_10 : decode b_G_init 10 = .ok (.putfield 9, 3) := by decide +kernel
theorem d_G_init_13 : decode b_G_init 13 = .ok (.aload_n 0, 1) := by decide +kernel
theorem d_G_init_14 : decode b_G_init 14 = .ok (.sipush 512, 3) := by decide +kernel
theorem d_G_init_17 : decode b_G_init 17 = .ok (.newarray .int, 2) := by decide +kernel
theorem d_G_init_19 : decode b_G_init 19 = .ok (.putfield 15, 3) := by decide +kernel
theorem d_G_init_22 : decode b_G_init 22 = .ok (.aload_n 0, 1) := by decide +kernel
theorem d_G_init_23 : decode b_G_init 23 = .ok (.sipush 512, 3) := by decide +kernel
theorem d_G_init_26 : decode b_G_init 26 = .ok (.newarray .int, 2) := by decide +kernel
theorem d_G_init_28 : decode b_G_init 28 = .ok (.putfield 19, 3) := by decide +kernel
theorem d_G_init_31 : decode b_G_init 31 = .ok (.aload_n 0, 1) := by decide +kernel
theorem d_G_init_32 : decode b_G_init 32 = .ok (.sipush 512, 3) := by decide +kernel
theorem d_G_init_35 : decode b_G_init 35 = .ok (.newarray .int, 2) := by decide +kernel
theorem d_G_init_37 : decode b_G_init 37 = .ok (.putfield 22, 3) := by decide +kernel
theorem d_G_init_40 : decode b_G_init 40 = .ok (.aload_n 0, 1) := by decide +kernel
theorem d_G_init_41 : decode b_G_init 41 = .ok (.sipush 512, 3) := by decide +kernel
theorem d_G_init_44 : decode b_G_init 44 = .ok (.newarray .int, 2) := by decide +kernel
theorem d_G_init_46 : decode b_G_init 46 = .ok (.putfield 25, 3) := by decide +kernel
theorem d_G_init_49 : decode b_G_init 49 = .ok (.aload_n 0, 1) := by decide +kernel
theorem d_G_init_50 : decode b_G_init 50 = .ok (.sipush 512, 3) := by decide +kernel
theorem d_G_init_53 : decode b_G_init 53 = .ok (.newarray .int, 2) := by decide +kernel
theorem d_G_init_55 : decode b_G_init 55 = .ok (.putfield 28, 3) := by decide +kernel
theorem d_G_init_58 : decode b_G_init 58 = .ok (.aload_n 0, 1) := by decide +kernel
theorem d_G_init_59 : decode b_G_init 59 = .ok (.sipush 4096, 3) := by decide +kernel
theorem d_G_init_62 : decode b_G_init 62 = .ok (.newarray .long, 2) := by decide +kernel
theorem d_G_init_64 : decode b_G_init 64 = .ok (.putfield 31, 3) := by decide +kernel
theorem d_G_init_67 : decode b_G_init 67 = .ok (.aload_n 0, 1) := by decide +kernel
theorem d_G_init_68 : decode b_G_init 68 = .ok (.sipush 512, 3) := by decide +kernel
theorem d_G_init_71 : decode b_G_init 71 = .ok (.newarray .int, 2) := by decide +kernel
theorem d_G_init_73 : decode b_G_init 73 = .ok (.putfield 34, 3) := by decide +kernel
theorem d_G_init_76 : decode b_G_init 76 = .ok (.aload_n 0, 1) := by decide +kernel
theorem d_G_init_77 : decode b_G_init 77 = .ok (.bipush 8, 2) := by decide +kernel
theorem d_G_init_79 : decode b_G_init 79 = .ok (.newarray .long, 2) := by decide +kernel
theorem d_G_init_81 : decode b_G_init 81 = .ok (.putfield 37, 3) := by decide +kernel
theorem d_G_init_84 : decode b_G_init 84 = .ok (.aload_n 0, 1) := by decide +kernel
theorem d_G_init_85 : decode b_G_init 85 = .ok (.bipush 8, 2) := by decide +kernel
theorem d_G_init_87 : decode b_G_init 87 = .ok (.newarray .int, 2) := by decide +kernel
theorem d_G_init_89 : decode b_G_init 89 = .ok (.putfield 40, 3) := by decide +kernel
theorem d_G_init_92 : decode b_G_init 92 = .ok (.aload_n 0, 1) := by decide +kernel
theorem d_G_init_93 : decode b_G_init 93 = .ok (.aload_n 1, 1) := by decide +kernel
theorem d_G_init_94 : decode b_G_init 94 = .ok (.putfield 43, 3) := by decide +kernel
theorem d_G_init_97 : decode b_G_init 97 = .ok (.return_, 1) := by decide +kernel
theorem d_M_init_0 : decode b_M_init 0 = .ok (.aload_n 0, 1) := by decide +kernel
theorem d_M_init_1 : decode b_M_init 1 = .ok (.invokespecial 1, 3) := by decide +kernel
theorem d_M_init_4 : decode b_M_init 4 = .ok (.aload_n 0, 1) := by decide +kernel
theorem d_M_init_5 : decode b_M_init 5 = .ok (.bipush 6, 2) := by decide +kernel
theorem d_M_init_7 : decode b_M_init 7 = .ok (.newarray .int, 2) := by decide +kernel
theorem d_M_init_9 : decode b_M_init 9 = .ok (.putfield 7, 3) := by decide +kernel
theorem d_M_init_12 : decode b_M_init 12 = .ok (.aload_n 0, 1) := by decide +kernel
theorem d_M_init_13 : decode b_M_init 13 = .ok (.bipush 6, 2) := by decide +kernel
theorem d_M_init_15 : decode b_M_init 15 = .ok (.newarray .int, 2) := by decide +kernel
theorem d_M_init_17 : decode b_M_init 17 = .ok (.putfield 13, 3) := by decide +kernel
theorem d_M_init_20 : decode b_M_init 20 = .ok (.aload_n 0, 1) := by decide +kernel
theorem d_M_init_21 : decode b_M_init 21 = .ok (.sipush 192, 3) := by decide +kernel
theorem d_M_init_24 : decode b_M_init 24 = .ok (.newarray .long, 2) := by decide +kernel
theorem d_M_init_26 : decode b_M_init 26 = .ok (.putfield 16, 3) := by decide +kernel
theorem d_M_init_29 : decode b_M_init 29 = .ok (.aload_n 0, 1) := by decide +kernel
theorem d_M_init_30 : decode b_M_init 30 = .ok (.sipush 192, 3) := by decide +kernel
theorem d_M_init_33 : decode b_M_init 33 = .ok (.newarray .boolean, 2) := by decide +kernel
theorem d_M_init_35 : decode b_M_init 35 = .ok (.putfield 20, 3) := by decide +kernel
theorem d_M_init_38 : decode b_M_init 38 = .ok (.aload_n 0, 1) := by decide +kernel
theorem d_M_init_39 : decode b_M_init 39 = .ok (.bipush 60, 2) := by decide +kernel
theorem d_M_init_41 : decode b_M_init 41 = .ok (.newarray .int, 2) := by decide +kernel
theorem d_M_init_43 : decode b_M_init 43 = .ok (.putfield 24, 3) := by decide +kernel
theorem d_M_init_46 : decode b_M_init 46 = .ok (.aload_n 0, 1) := by decide +kernel
theorem d_M_init_47 : decode b_M_init 47 = .ok (.bipush 60, 2) := by decide +kernel
theorem d_M_init_49 : decode b_M_init 49 = .ok (.newarray .int, 2) := by decide +kernel
theorem d_M_init_51 : decode b_M_init 51 = .ok (.putfield 27, 3) := by decide +kernel
theorem d_M_init_54 : decode b_M_init 54 = .ok (.aload_n 0, 1) := by decide +kernel
theorem d_M_init_55 : decode b_M_init 55 = .ok (.bipush 60, 2) := by decide +kernel
theorem d_M_init_57 : decode b_M_init 57 = .ok (.newarray .int, 2) := by decide +kernel
theorem d_M_init_59 : decode b_M_init 59 = .ok (.putfield 30, 3) := by decide +kernel
theorem d_M_init_62 : decode b_M_init 62 = .ok (.aload_n 0, 1) := by decide +kernel
theorem d_M_init_63 : decode b_M_init 63 = .ok (.bipush 60, 2) := by decide +kernel
theorem d_M_init_65 : decode b_M_init 65 = .ok (.newarray .long, 2) := by decide +kernel
theorem d_M_init_67 : decode b_M_init 67 = .ok (.putfield 33, 3) := by decide +kernel
theorem d_M_init_70 : decode b_M_init 70 = .ok (.aload_n 0, 1) := by decide +kernel
theorem d_M_init_71 : decode b_M_init 71 = .ok (.bipush 60, 2) := by decide +kernel
theorem d_M_init_73 : decode b_M_init 73 = .ok (.newarray .boolean, 2) := by decide +kernel
theorem d_M_init_75 : decode b_M_init 75 = .ok (.putfield 36, 3) := by decide +kernel
theorem d_M_init_78 : decode b_M_init 78 = .ok (.aload_n 0, 1) := by decide +kernel
theorem d_M_init_79 : decode b_M_init 79 = .ok (.bipush 60, 2) := by decide +kernel
theorem d_M_init_81 : decode b_M_init 81 = .ok (.newarray .int, 2) := by decide +kernel
theorem d_M_init_83 : decode b_M_init 83 = .ok (.putfield 39, 3) := by decide +kernel
theorem d_M_init_86 : decode b_M_init 86 = .ok (.aload_n 0, 1) := by decide +kernel
theorem d_M_init_87 : decode b_M_init 87 = .ok (.bipush 60, 2) := by decide +kernel
theorem d_M_init_89 : decode b_M_init 89 = .ok (.newarray .boolean, 2) := by decide +kernel
theorem d_M_init_91 : decode b_M_init 91 = .ok (.putfield 42, 3) := by decide +kernel
theorem d_M_init_94 : decode b_M_init 94 = .ok (.aload_n 0, 1) := by decide +kernel
theorem d_M_init_95 : decode b_M_init 95 = .ok (.bipush 60, 2) := by decide +kernel
theorem d_M_init_97 : decode b_M_init 97 = .ok (.newarray .int, 2) := by decide +kernel
theorem d_M_init_99 : decode b_M_init 99 = .ok (.putfield 45, 3) := by decide +kernel
theorem d_M_init_102 : decode b_M_init 102 = .ok (.aload_n 0, 1) := by decide +kernel
theorem d_M_init_103 : decode b_M_init 103 = .ok (.bipush 8, 2) := by decide +kernel
theorem d_M_init_105 : decode b_M_init 105 = .ok (.newarray .int, 2) := by decide +kernel
theorem d_M_init_107 : decode b_M_init 107 = .ok (.putfield 48, 3) := by decide +kernel
theorem d_M_init_110 : decode b_M_init 110 = .ok (.aload_n 0, 1) := by decide +kernel
theorem d_M_init_111 : decode b_M_init 111 = .ok (.iconst 3, 1) := by decide +kernel
theorem d_M_init_112 : decode b_M_init 112 = .ok (.newarray .int, 2) := by decide +kernel
theorem d_M_init_114 : decode b_M_init 114 = .ok (.putfield 51, 3) := by decide +kernel
theorem d_M_init_117 : decode b_M_init 117 = .ok (.aload_n 0, 1) := by decide +kernel
theorem d_M_init_118 : decode b_M_init 118 = .ok (.iconst 3, 1) := by decide +kernel
theorem d_M_init_119 : decode b_M_init 119 = .ok (.newarray .int, 2) := by decide +kernel
theorem d_M_init_121 : decode b_M_init 121 = .ok (.putfield 54, 3) := by decide +kernel
theorem d_M_init_124 : decode b_M_init 124 = .ok (.aload_n 0, 1) := by decide +kernel
theorem d_M_init_125 : decode b_M_init 125 = .ok (.iconst 3, 1) := by decide +kernel
theorem d_M_init_126 : decode b_M_init 126 = .ok (.newarray .int, 2) := by decide +kernel
theorem d_M_init_128 : decode b_M_init 128 = .ok (.putfield 57, 3) := by decide +kernel
theorem d_M_init_131 : decode b_M_init 131 = .ok (.aload_n 0, 1) := by decide +kernel
theorem d_M_init_132 : decode b_M_init 132 = .ok (.iconst (-1), 1) := by decide +kernel
theorem d_M_init_133 : decode b_M_init 133 = .ok (.putfield 60, 3) := by decide +kernel
theorem d_M_init_136 : decode b_M_init 136 = .ok (.aload_n 0, 1) := by decide +kernel
theorem d_M_init_137 : decode b_M_init 137 = .ok (.iconst (-1), 1) := by decide +kernel
theorem d_M_init_138 : decode b_M_init 138 = .ok (.putfield 64, 3) := by decide +kernel
theorem d_M_init_141 : decode b_M_init 141 = .ok (.aload_n 0, 1) := by decide +kernel
theorem d_M_init_142 : decode b_M_init 142 = .ok (.iconst 4, 1) := by decide +kernel
theorem d_M_init_143 : decode b_M_init 143 = .ok (.newarray .int, 2) := by decide +kernel
theorem d_M_init_145 : decode b_M_init 145 = .ok (.putfield 67, 3) := by decide +kernel
theorem d_M_init_148 : decode b_M_init 148 = .ok (.aload_n 0, 1) := by decide +kernel
theorem d_M_init_149 : decode b_M_init 149 = .ok (.bipush 6, 2) := by decide +kernel
theorem d_M_init_151 : decode b_M_init 151 = .ok (.newarray .int, 2) := by decide +kernel
theorem d_M_init_153 : decode b_M_init 153 = .ok (.putfield 70, 3) := by decide +kernel
theorem d_M_init_156 : decode b_M_init 156 = .ok (.aload_n 0, 1) := by decide +kernel
theorem d_M_init_157 : decode b_M_init 157 = .ok (.iconst 4, 1) := by decide +kernel
theorem d_M_init_158 : decode b_M_init 158 = .ok (.newarray .int, 2) := by decide +kernel
theorem d_M_init_160 : decode b_M_init 160 = .ok (.putfield 73, 3) := by decide +kernel
theorem d_M_init_163 : decode b_M_init 163 = .ok (.aload_n 0, 1) := by decide +kernel
theorem d_M_init_164 : decode b_M_init 164 = .ok (.iconst 4, 1) := by decide +kernel
theorem d_M_init_165 : decode b_M_init 165 = .ok (.newarray .boolean, 2) := by decide +kernel
theorem d_M_init_167 : decode b_M_init 167 = .ok (.putfield 76, 3) := by decide +kernel
theorem d_M_init_170 : decode b_M_init 170 = .ok (.aload_n 0, 1) := by decide +kernel
theorem d_M_init_171 : decode b_M_init 171 = .ok (.sipush 1000, 3) := by decide +kernel
theorem d_M_init_174 : decode b_M_init 174 = .ok (.putfield 79, 3) := by decide +kernel
theorem d_M_init_177 : decode b_M_init 177 = .ok (.aload_n 0, 1) := by decide +kernel
theorem d_M_init_178 : decode b_M_init 178 = .ok (.sipush 1206, 3) := by decide +kernel
theorem d_M_init_181 : decode b_M_init 181 = .ok (.newarray .long, 2) := by decide +kernel
theorem d_M_init_183 : decode b_M_init 183 = .ok (.putfield 82, 3) := by decide +kernel
theorem d_M_init_186 : decode b_M_init 186 = .ok (.aload_n 0, 1) := by decide +kernel
theorem d_M_init_187 : decode b_M_init 187 = .ok (.sipush 1206, 3) := by decide +kernel
theorem d_M_init_190 : decode b_M_init 190 = .ok (.newarray .boolean, 2) := by decide +kernel
theorem d_M_init_192 : decode b_M_init 192 = .ok (.putfield 85, 3) := by decide +kernel
theorem d_M_init_195 : decode b_M_init 195 = .ok (.aload_n 0, 1) := by decide +kernel
theorem d_M_init_196 : decode b_M_init 196 = .ok (.iconst 3, 1) := by decide +kernel
theorem d_M_init_197 : decode b_M_init 197 = .ok (.newarray .int, 2) := by decide +kernel
theorem d_M_init_199 : decode b_M_init 199 = .ok (.putfield 88, 3) := by decide +kernel
theorem d_M_init_202 : decode b_M_init 202 = .ok (.aload_n 0, 1) := by decide +kernel
theorem d_M_init_203 : decode b_M_init 203 = .ok (.sipush 520, 3) := by decide +kernel
theorem d_M_init_206 : decode b_M_init 206 = .ok (.newarray .int, 2) := by decide +kernel
theorem d_M_init_208 : decode b_M_init 208 = .ok (.putfield 91, 3) := by decide +kernel
theorem d_M_init_211 : decode b_M_init 211 = .ok (.aload_n 0, 1) := by decide +kernel
theorem d_M_init_212 : decode b_M_init 212 = .ok (.sipush 4160, 3) := by decide +kernel
theorem d_M_init_215 : decode b_M_init 215 = .ok (.newarray .long, 2) := by decide +kernel
theorem d_M_init_217 : decode b_M_init 217 = .ok (.putfield 94, 3) := by decide +kernel
theorem d_M_init_220 : decode b_M_init 220 = .ok (.aload_n 0, 1) := by decide +kernel
theorem d_M_init_221 : decode b_M_init 221 = .ok (.sipush 4160, 3) := by decide +kernel
theorem d_M_init_224 : decode b_M_init 224 = .ok (.newarray .boolean, 2) := by decide +kernel
theorem d_M_init_226 : decode b_M_init 226 = .ok (.putfield 97, 3) := by decide +kernel
theorem d_M_init_229 : decode b_M_init 229 = .ok (.aload_n 0, 1) := by decide +kernel
theorem d_M_init_230 : decode b_M_init 230 = .ok (.sipush 2080, 3) := by decide +kernel
theorem d_M_init_233 : decode b_M_init 233 = .ok (.newarray .long, 2) := by decide +kernel
theorem d_M_init_235 : decode b_M_init 235 = .ok (.putfield 100, 3) := by decide +kernel
theorem d_M_init_238 : decode b_M_init 238 = .ok (.aload_n 0, 1) := by decide +kernel
theorem d_M_init_239 : decode b_M_init 239 = .ok (.sipush 2080, 3) := by decide +kernel
theorem d_M_init_242 : decode b_M_init 242 = .ok (.newarray .boolean, 2) := by decide +kernel
theorem d_M_init_244 : decode b_M_init 244 = .ok (.putfield 103, 3) := by decide +kernel
theorem d_M_init_247 : decode b_M_init 247 = .ok (.aload_n 0, 1) := by decide +kernel
theorem d_M_init_248 : decode b_M_init 248 = .ok (.sipush 4160, 3) := by decide +kernel
theorem d_M_init_251 : decode b_M_init 251 = .ok (.newarray .long, 2) := by decide +kernel
theorem d_M_init_253 : decode b_M_init 253 = .ok (.putfield 106, 3) := by decide +kernel
theorem d_M_init_256 : decode b_M_init 256 = .ok (.aload_n 0, 1) := by decide +kernel
theorem d_M_init_257 : decode b_M_init 257 = .ok (.bipush 8, 2) := by decide +kernel
theorem d_M_init_259 : decode b_M_init 259 = .ok (.newarray .boolean, 2) := by decide +kernel
theorem d_M_init_261 : decode b_M_init 261 = .ok (.putfield 109, 3) := by decide +kernel
theorem d_M_init_264 : decode b_M_init 264 = .ok (.aload_n 0, 1) := by decide +kernel
theorem d_M_init_265 : decode b_M_init 265 = .ok (.bipush 64, 2) := by decide +kernel
theorem d_M_init_267 : decode b_M_init 267 = .ok (.newarray .int, 2) := by decide +kernel
theorem d_M_init_269 : decode b_M_init 269 = .ok (.putfield 112, 3) := by decide +kernel
theorem d_M_init_272 : decode b_M_init 272 = .ok (.aload_n 0, 1) := by decide +kernel
theorem d_M_init_273 : decode b_M_init 273 = .ok (.bipush 64, 2) := by decide +kernel
theorem d_M_init_275 : decode b_M_init 275 = .ok (.newarray .int, 2) := by decide +kernel
theorem d_M_init_277 : decode b_M_init 277 = .ok (.putfield 115, 3) := by decide +kernel
theorem d_M_init_280 : decode b_M_init 280 = .ok (.aload_n 0, 1) := by decide +kernel
theorem d_M_init_281 : decode b_M_init 281 = .ok (.bipush 64, 2) := by decide +kernel
theorem d_M_init_283 : decode b_M_init 283 = .ok (.newarray .long, 2) := by decide +kernel
theorem d_M_init_285 : decode b_M_init 285 = .ok (.putfield 118, 3) := by decide +kernel
theorem d_M_init_288 : decode b_M_init 288 = .ok (.aload_n 0, 1) := by decide +kernel
theorem d_M_init_289 : decode b_M_init 289 = .ok (.bipush 64, 2) := by decide +kernel
theorem d_M_init_291 : decode b_M_init 291 = .ok (.newarray .boolean, 2) := by decide +kernel
theorem d_M_init_293 : decode b_M_init 293 = .ok (.putfield 121, 3) := by decide +kernel
theorem d_M_init_296 : decode b_M_init 296 = .ok (.return_, 1) := by decide +kernel
