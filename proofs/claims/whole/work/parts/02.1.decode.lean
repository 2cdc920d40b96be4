theorem dX6_settle_50 : decode cX6_settle 50 = .ok (.iload 5, 2) := by decide +kernel
theorem dX6_settle_52 : decode cX6_settle 52 = .ok (.aaload, 1) := by decide +kernel
theorem dX6_settle_53 : decode cX6_settle 53 = .ok (.getfield 70, 3) := by decide +kernel
theorem dX6_settle_56 : decode cX6_settle 56 = .ok (.iload_n 3, 1) := by decide +kernel
theorem dX6_settle_57 : decode cX6_settle 57 = .ok (.iaload, 1) := by decide +kernel
theorem dX6_settle_58 : decode cX6_settle 58 = .ok (.iastore, 1) := by decide +kernel
theorem dX6_settle_59 : decode cX6_settle 59 = .ok (.aload_n 0, 1) := by decide +kernel
theorem dX6_settle_60 : decode cX6_settle 60 = .ok (.getfield 25, 3) := by decide +kernel
theorem dX6_settle_63 : decode cX6_settle 63 = .ok (.iload 4, 2) := by decide +kernel
theorem dX6_settle_65 : decode cX6_settle 65 = .ok (.iload_n 2, 1) := by decide +kernel
theorem dX6_settle_66 : decode cX6_settle 66 = .ok (.iastore, 1) := by decide +kernel
theorem dX6_settle_67 : decode cX6_settle 67 = .ok (.goto 73, 3) := by decide +kernel
theorem dX6_settle_70 : decode cX6_settle 70 = .ok (.iload_n 3, 1) := by decide +kernel
theorem dX6_settle_71 : decode cX6_settle 71 = .ok (.iconst 2, 1) := by decide +kernel
theorem dX6_settle_72 : decode cX6_settle 72 = .ok (.if_icmp .ge 51, 3) := by decide +kernel
theorem dX6_settle_75 : decode cX6_settle 75 = .ok (.iload 6, 2) := by decide +kernel
theorem dX6_settle_77 : decode cX6_settle 77 = .ok (.iload_n 2, 1) := by decide +kernel
theorem dX6_settle_78 : decode cX6_settle 78 = .ok (.invokestatic 67, 3) := by decide +kernel
theorem dX6_settle_81 : decode cX6_settle 81 = .ok (.ifCond .eq 42, 3) := by decide +kernel
theorem dX6_settle_84 : decode cX6_settle 84 = .ok (.aload_n 0, 1) := by decide +kernel
theorem dX6_settle_85 : decode cX6_settle 85 = .ok (.getfield 22, 3) := by decide +kernel
theorem dX6_settle_88 : decode cX6_settle 88 = .ok (.iload 4, 2) := by decide +kernel
theorem dX6_settle_90 : decode cX6_settle 90 = .ok (.aload_n 0, 1) := by decide +kernel
theorem dX6_settle_91 : decode cX6_settle 91 = .ok (.getfield 22, 3) := by decide +kernel
theorem dX6_settle_94 : decode cX6_settle 94 = .ok (.iconst 4, 1) := by decide +kernel
theorem dX6_settle_95 : decode cX6_settle 95 = .ok (.iload 6, 2) := by decide +kernel
theorem dX6_settle_97 : decode cX6_settle 97 = .ok (.imul, 1) := by decide +kernel
theorem dX6_settle_98 : decode cX6_settle 98 = .ok (.iload_n 3, 1) := by decide +kernel
theorem dX6_settle_99 : decode cX6_settle 99 = .ok (.iadd, 1) := by decide +kernel
theorem dX6_settle_100 : decode cX6_settle 100 = .ok (.iaload, 1) := by decide +kernel
theorem dX6_settle_101 : decode cX6_settle 101 = .ok (.iastore, 1) := by decide +kernel
theorem dX6_settle_102 : decode cX6_settle 102 = .ok (.aload_n 0, 1) := by decide +kernel
theorem dX6_settle_103 : decode cX6_settle 103 = .ok (.getfield 25, 3) := by decide +kernel
theorem dX6_settle_106 : decode cX6_settle 106 = .ok (.iload 4, 2) := by decide +kernel
theorem dX6_settle_108 : decode cX6_settle 108 = .ok (.aload_n 0, 1) := by decide +kernel
theorem dX6_settle_109 : decode cX6_settle 109 = .ok (.getfield 25, 3) := by decide +kernel
theorem dX6_settle_112 : decode cX6_settle 112 = .ok (.iconst 4, 1) := by decide +kernel
theorem dX6_settle_113 : decode cX6_settle 113 = .ok (.iload 6, 2) := by decide +kernel
theorem dX6_settle_115 : decode cX6_settle 115 = .ok (.imul, 1) := by decide +kernel
theorem dX6_settle_116 : decode cX6_settle 116 = .ok (.iload_n 3, 1) := by decide +kernel
theorem dX6_settle_117 : decode cX6_settle 117 = .ok (.iadd, 1) := by decide +kernel
theorem dX6_settle_118 : decode cX6_settle 118 = .ok (.iaload, 1) := by decide +kernel
theorem dX6_settle_119 : decode cX6_settle 119 = .ok (.iastore, 1) := by decide +kernel
theorem dX6_settle_120 : decode cX6_settle 120 = .ok (.goto 20, 3) := by decide +kernel
theorem dX6_settle_123 : decode cX6_settle 123 = .ok (.aload_n 0, 1) := by decide +kernel
theorem dX6_settle_124 : decode cX6_settle 124 = .ok (.getfield 22, 3) := by decide +kernel
theorem dX6_settle_127 : decode cX6_settle 127 = .ok (.iload 4, 2) := by decide +kernel
theorem dX6_settle_129 : decode cX6_settle 129 = .ok (.iconst 0, 1) := by decide +kernel
theorem dX6_settle_130 : decode cX6_settle 130 = .ok (.iastore, 1) := by decide +kernel
theorem dX6_settle_131 : decode cX6_settle 131 = .ok (.aload_n 0, 1) := by decide +kernel
theorem dX6_settle_132 : decode cX6_settle 132 = .ok (.getfield 25, 3) := by decide +kernel
theorem dX6_settle_135 : decode cX6_settle 135 = .ok (.iload 4, 2) := by decide +kernel
theorem dX6_settle_137 : decode cX6_settle 137 = .ok (.bipush (-9), 2) := by decide +kernel
theorem dX6_settle_139 : decode cX6_settle 139 = .ok (.iastore, 1) := by decide +kernel
theorem dX6_settle_140 : decode cX6_settle 140 = .ok (.return_, 1) := by decide +kernel
theorem dX6_nodesOf_0 : decode cX6_nodesOf 0 = .ok (.iload_n 1, 1) := by decide +kernel
theorem dX6_nodesOf_1 : decode cX6_nodesOf 1 = .ok (.bipush 8, 2) := by decide +kernel
theorem dX6_nodesOf_3 : decode cX6_nodesOf 3 = .ok (.invokestatic 67, 3) := by decide +kernel
theorem dX6_nodesOf_6 : decode cX6_nodesOf 6 = .ok (.ifCond .eq 12, 3) := by decide +kernel
theorem dX6_nodesOf_9 : decode cX6_nodesOf 9 = .ok (.aload_n 0, 1) := by decide +kernel
theorem dX6_nodesOf_10 : decode cX6_nodesOf 10 = .ok (.getfield 15, 3) := by decide +kernel
theorem dX6_nodesOf_13 : decode cX6_nodesOf 13 = .ok (.iload_n 1, 1) := by decide +kernel
theorem dX6_nodesOf_14 : decode cX6_nodesOf 14 = .ok (.iaload, 1) := by decide +kernel
theorem dX6_nodesOf_15 : decode cX6_nodesOf 15 = .ok (.goto 4, 3) := by decide +kernel
theorem dX6_nodesOf_18 : decode cX6_nodesOf 18 = .ok (.iconst 0, 1) := by decide +kernel
theorem dX6_nodesOf_19 : decode cX6_nodesOf 19 = .ok (.ireturn, 1) := by decide +kernel
theorem dX6_rulesOf_0 : decode cX6_rulesOf 0 = .ok (.iload_n 1, 1) := by decide +kernel
theorem dX6_rulesOf_1 : decode cX6_rulesOf 1 = .ok (.aload_n 0, 1) := by decide +kernel
theorem dX6_rulesOf_2 : decode cX6_rulesOf 2 = .ok (.getfield 9, 3) := by decide +kernel
theorem dX6_rulesOf_5 : decode cX6_rulesOf 5 = .ok (.invokestatic 67, 3) := by decide +kernel
theorem dX6_rulesOf_8 : decode cX6_rulesOf 8 = .ok (.ifCond .eq 12, 3) := by decide +kernel
theorem dX6_rulesOf_11 : decode cX6_rulesOf 11 = .ok (.aload_n 0, 1) := by decide +kernel
theorem dX6_rulesOf_12 : decode cX6_rulesOf 12 = .ok (.getfield 19, 3) := by decide +kernel
theorem dX6_rulesOf_15 : decode cX6_rulesOf 15 = .ok (.iload_n 1, 1) := by decide +kernel
theorem dX6_rulesOf_16 : decode cX6_rulesOf 16 = .ok (.iaload, 1) := by decide +kernel
theorem dX6_rulesOf_17 : decode cX6_rulesOf 17 = .ok (.goto 4, 3) := by decide +kernel
theorem dX6_rulesOf_20 : decode cX6_rulesOf 20 = .ok (.iconst 0, 1) := by decide +kernel
theorem dX6_rulesOf_21 : decode cX6_rulesOf 21 = .ok (.ireturn, 1) := by decide +kernel
theorem dX6_valueAt_0 : decode cX6_valueAt 0 = .ok (.iload_n 1, 1) := by decide +kernel
theorem dX6_valueAt_1 : decode cX6_valueAt 1 = .ok (.aload_n 0, 1) := by decide +kernel
theorem dX6_valueAt_2 : decode cX6_valueAt 2 = .ok (.getfield 9, 3) := by decide +kernel
theorem dX6_valueAt_5 : decode cX6_valueAt 5 = .ok (.invokestatic 67, 3) := by decide +kernel
theorem dX6_valueAt_8 : decode cX6_valueAt 8 = .ok (.ifCond .eq 24, 3) := by decide +kernel
theorem dX6_valueAt_11 : decode cX6_valueAt 11 = .ok (.iload_n 2, 1) := by decide +kernel
theorem dX6_valueAt_12 : decode cX6_valueAt 12 = .ok (.iconst 4, 1) := by decide +kernel
theorem dX6_valueAt_13 : decode cX6_valueAt 13 = .ok (.invokestatic 67, 3) := by decide +kernel
theorem dX6_valueAt_16 : decode cX6_valueAt 16 = .ok (.ifCond .eq 16, 3) := by decide +kernel
theorem dX6_valueAt_19 : decode cX6_valueAt 19 = .ok (.aload_n 0, 1) := by decide +kernel
theorem dX6_valueAt_20 : decode cX6_valueAt 20 = .ok (.getfield 22, 3) := by decide +kernel
theorem dX6_valueAt_23 : decode cX6_valueAt 23 = .ok (.iconst 4, 1) := by decide +kernel
theorem dX6_valueAt_24 : decode cX6_valueAt 24 = .ok (.iload_n 1, 1) := by decide +kernel
theorem dX6_valueAt_25 : decode cX6_valueAt 25 = .ok (.imul, 1) := by decide +kernel
theorem dX6_valueAt_26 : decode cX6_valueAt 26 = .ok (.iload_n 2, 1) := by decide +kernel
theorem dX6_valueAt_27 : decode cX6_valueAt 27 = .ok (.iadd, 1) := by decide +kernel
theorem dX6_valueAt_28 : decode cX6_valueAt 28 = .ok (.iaload, 1) := by decide +kernel
theorem dX6_valueAt_29 : decode cX6_valueAt 29 = .ok (.goto 4, 3) := by decide +kernel
theorem dX6_valueAt_32 : decode cX6_valueAt 32 = .ok (.iconst 0, 1) := by decide +kernel
theorem dX6_valueAt_33 : decode cX6_valueAt 33 = .ok (.ireturn, 1) := by decide +kernel
theorem dX6_sourceAt_0 : decode cX6_sourceAt 0 = .ok (.iload_n 1, 1) := by decide +kernel
theorem dX6_sourceAt_1 : decode cX6_sourceAt 1 = .ok (.aload_n 0, 1) := by decide +kernel
theorem dX6_sourceAt_2 : decode cX6_sourceAt 2 = .ok (.getfield 9, 3) := by decide +kernel
theorem dX6_sourceAt_5 : decode cX6_sourceAt 5 = .ok (.invokestatic 67, 3) := by decide +kernel
theorem dX6_sourceAt_8 : decode cX6_sourceAt 8 = .ok (.ifCond .eq 24, 3) := by decide +kernel
theorem dX6_sourceAt_11 : decode cX6_sourceAt 11 = .ok (.iload_n 2, 1) := by decide +kernel
theorem dX6_sourceAt_12 : decode cX6_sourceAt 12 = .ok (.iconst 4, 1) := by decide +kernel
theorem dX6_sourceAt_13 : decode cX6_sourceAt 13 = .ok (.invokestatic 67, 3) := by decide +kernel
theorem dX6_sourceAt_16 : decode cX6_sourceAt 16 = .ok (.ifCond .eq 16, 3) := by decide +kernel
theorem dX6_sourceAt_19 : decode cX6_sourceAt 19 = .ok (.aload_n 0, 1) := by decide +kernel
theorem dX6_sourceAt_20 : decode cX6_sourceAt 20 = .ok (.getfield 25, 3) := by decide +kernel
theorem dX6_sourceAt_23 : decode cX6_sourceAt 23 = .ok (.iconst 4, 1) := by decide +kernel
theorem dX6_sourceAt_24 : decode cX6_sourceAt 24 = .ok (.iload_n 1, 1) := by decide +kernel
theorem dX6_sourceAt_25 : decode cX6_sourceAt 25 = .ok (.imul, 1) := by decide +kernel
theorem dX6_sourceAt_26 : decode cX6_sourceAt 26 = .ok (.iload_n 2, 1) := by decide +kernel
theorem dX6_sourceAt_27 : decode cX6_sourceAt 27 = .ok (.iadd, 1) := by decide +kernel
theorem dX6_sourceAt_28 : decode cX6_sourceAt 28 = .ok (.iaload, 1) := by decide +kernel
theorem dX6_sourceAt_29 : decode cX6_sourceAt 29 = .ok (.goto 5, 3) := by decide +kernel
theorem dX6_sourceAt_32 : decode cX6_sourceAt 32 = .ok (.bipush (-9), 2) := by decide +kernel
theorem dX6_sourceAt_34 : decode cX6_sourceAt 34 = .ok (.ireturn, 1) := by decide +kernel
theorem dX6_styleOf_0 : decode cX6_styleOf 0 = .ok (.iconst 0, 1) := by decide +kernel
theorem dX6_styleOf_1 : decode cX6_styleOf 1 = .ok (.istore_n 2, 1) := by decide +kernel
theorem dX6_styleOf_2 : decode cX6_styleOf 2 = .ok (.iconst 0, 1) := by decide +kernel
theorem dX6_styleOf_3 : decode cX6_styleOf 3 = .ok (.istore_n 3, 1) := by decide +kernel
theorem dX6_styleOf_4 : decode cX6_styleOf 4 = .ok (.iload_n 3, 1) := by decide +kernel
theorem dX6_styleOf_5 : decode cX6_styleOf 5 = .ok (.iconst 4, 1) := by decide +kernel
theorem dX6_styleOf_6 : decode cX6_styleOf 6 = .ok (.if_icmp .ge 21, 3) := by decide +kernel
theorem dX6_styleOf_9 : decode cX6_styleOf 9 = .ok (.bipush 10, 2) := by decide +kernel
theorem dX6_styleOf_11 : decode cX6_styleOf 11 = .ok (.iload_n 2, 1) := by decide +kernel
theorem dX6_styleOf_12 : decode cX6_styleOf 12 = .ok (.imul, 1) := by decide +kernel
theorem dX6_styleOf_13 : decode cX6_styleOf 13 = .ok (.aload_n 0, 1) := by decide +kernel
theorem dX6_styleOf_14 : decode cX6_styleOf 14 = .ok (.iload_n 1, 1) := by decide +kernel
theorem dX6_styleOf_15 : decode cX6_styleOf 15 = .ok (.iload_n 3, 1) := by decide +kernel
theorem dX6_styleOf_16 : decode cX6_styleOf 16 = .ok (.invokevirtual 73, 3) := by decide +kernel
theorem dX6_styleOf_19 : decode cX6_styleOf 19 = .ok (.iadd, 1) := by decide +kernel
theorem dX6_styleOf_20 : decode cX6_styleOf 20 = .ok (.istore_n 2, 1) := by decide +kernel
theorem dX6_styleOf_21 : decode cX6_styleOf 21 = .ok (.iinc 3 1, 3) := by decide +kernel
theorem dX6_styleOf_24 : decode cX6_styleOf 24 = .ok (.goto (-20), 3) := by decide +kernel
theorem dX6_styleOf_27 : decode cX6_styleOf 27 = .ok (.iload_n 2, 1) := by decide +kernel
theorem dX6_styleOf_28 : decode cX6_styleOf 28 = .ok (.ireturn, 1) := by decide +kernel
theorem dX6_recordOf_0 : decode cX6_recordOf 0 = .ok (.aload_n 0, 1) := by decide +kernel
theorem dX6_recordOf_1 : decode cX6_recordOf 1 = .ok (.iload_n 1, 1) := by decide +kernel
theorem dX6_recordOf_2 : decode cX6_recordOf 2 = .ok (.invokevirtual 76, 3) := by decide +kernel
theorem dX6_recordOf_5 : decode cX6_recordOf 5 = .ok (.istore_n 2, 1) := by decide +kernel
theorem dX6_recordOf_6 : decode cX6_recordOf 6 = .ok (.iconst 0, 1) := by decide +kernel
theorem dX6_recordOf_7 : decode cX6_recordOf 7 = .ok (.istore_n 3, 1) := by decide +kernel
theorem dX6_recordOf_8 : decode cX6_recordOf 8 = .ok (.iload_n 3, 1) := by decide +kernel
theorem dX6_recordOf_9 : decode cX6_recordOf 9 = .ok (.iload_n 1, 1) := by decide +kernel
theorem dX6_recordOf_10 : decode cX6_recordOf 10 = .ok (.if_icmp .ge 20, 3) := by decide +kernel
theorem dX6_recordOf_13 : decode cX6_recordOf 13 = .ok (.aload_n 0, 1) := by decide +kernel
theorem dX6_recordOf_14 : decode cX6_recordOf 14 = .ok (.iload_n 3, 1) := by decide +kernel
theorem dX6_recordOf_15 : decode cX6_recordOf 15 = .ok (.invokevirtual 76, 3) := by decide +kernel
theorem dX6_recordOf_18 : decode cX6_recordOf 18 = .ok (.iload_n 2, 1) := by decide +kernel
theorem dX6_recordOf_19 : decode cX6_recordOf 19 = .ok (.if_icmp .ne 5, 3) := by decide +kernel
theorem dX6_recordOf_22 : decode cX6_recordOf 22 = .ok (.iload_n 3, 1) := by decide +kernel
theorem dX6_recordOf_23 : decode cX6_recordOf 23 = .ok (.ireturn, 1) := by decide +kernel
theorem dX6_recordOf_24 : decode cX6_recordOf 24 = .ok (.iinc 3 1, 3) := by decide +kernel
theorem dX6_recordOf_27 : decode cX6_recordOf 27 = .ok (.goto (-19), 3) := by decide +kernel
theorem dX6_recordOf_30 : decode cX6_recordOf 30 = .ok (.iload_n 1, 1) := by decide +kernel
theorem dX6_recordOf_31 : decode cX6_recordOf 31 = .ok (.ireturn, 1) := by decide +kernel
theorem dX6_unlikeStyles_0 : decode cX6_unlikeStyles 0 = .ok (.iconst 0, 1) := by decide +kernel
theorem dX6_unlikeStyles_1 : decode cX6_unlikeStyles 1 = .ok (.istore_n 1, 1) := by decide +kernel
theorem dX6_unlikeStyles_2 : decode cX6_unlikeStyles 2 = .ok (.iconst 0, 1) := by decide +kernel
theorem dX6_unlikeStyles_3 : decode cX6_unlikeStyles 3 = .ok (.istore_n 2, 1) := by decide +kernel
theorem dX6_unlikeStyles_4 : decode cX6_unlikeStyles 4 = .ok (.iload_n 2, 1) := by decide +kernel
theorem dX6_unlikeStyles_5 : decode cX6_unlikeStyles 5 = .ok (.aload_n 0, 1) := by decide +kernel
theorem dX6_unlikeStyles_6 : decode cX6_unlikeStyles 6 = .ok (.getfield 9, 3) := by decide +kernel
theorem dX6_unlikeStyles_9 : decode cX6_unlikeStyles 9 = .ok (.if_icmp .ge 21, 3) := by decide +kernel
theorem dX6_unlikeStyles_12 : decode cX6_unlikeStyles 12 = .ok (.aload_n 0, 1) := by decide +kernel
theorem dX6_unlikeStyles_13 : decode cX6_unlikeStyles 13 = .ok (.iload_n 2, 1) := by decide +kernel
theorem dX6_unlikeStyles_14 : decode cX6_unlikeStyles 14 = .ok (.invokevirtual 80, 3) := by decide +kernel
theorem dX6_unlikeStyles_17 : decode cX6_unlikeStyles 17 = .ok (.iload_n 2, 1) := by decide +kernel
theorem dX6_unlikeStyles_18 : decode cX6_unlikeStyles 18 = .ok (.if_icmp .ne 6, 3) := by decide +kernel
theorem dX6_unlikeStyles_21 : decode cX6_unlikeStyles 21 = .ok (.iinc 1 1, 3) := by decide +kernel
theorem dX6_unlikeStyles_24 : decode cX6_unlikeStyles 24 = .ok (.iinc 2 1, 3) := by decide +kernel
theorem dX6_unlikeStyles_27 : decode cX6_unlikeStyles 27 = .ok (.goto (-23), 3) := by decide +kernel
theorem dX6_unlikeStyles_30 : decode cX6_unlikeStyles 30 = .ok (.iload_n 1, 1) := by decide +kernel
theorem dX6_unlikeStyles_31 : decode cX6_unlikeStyles 31 = .ok (.ireturn, 1) := by decide +kernel
theorem dX6_differences_0 : decode cX6_differences 0 = .ok (.iconst 0, 1) := by decide +kernel
theorem dX6_differences_1 : decode cX6_differences 1 = .ok (.istore_n 2, 1) := by decide +kernel
theorem dX6_differences_2 : decode cX6_differences 2 = .ok (.iconst 0, 1) := by decide +kernel
theorem dX6_differences_3 : decode cX6_differences 3 = .ok (.istore_n 3, 1) := by decide +kernel
theorem dX6_differences_4 : decode cX6_differences 4 = .ok (.iload_n 3, 1) := by decide +kernel
theorem dX6_differences_5 : decode cX6_differences 5 = .ok (.aload_n 0, 1) := by decide +kernel
theorem dX6_differences_6 : decode cX6_differences 6 = .ok (.getfield 9, 3) := by decide +kernel
theorem dX6_differences_9 : decode cX6_differences 9 = .ok (.if_icmp .ge 28, 3) := by decide +kernel
theorem dX6_differences_12 : decode cX6_differences 12 = .ok (.aload_n 0, 1) := by decide +kernel
theorem dX6_differences_13 : decode cX6_differences 13 = .ok (.iload_n 3, 1) := by decide +kernel
theorem dX6_differences_14 : decode cX6_differences 14 = .ok (.invokevirtual 76, 3) := by decide +kernel
theorem dX6_differences_17 : decode cX6_differences 17 = .ok (.aload_n 1, 1) := by decide +kernel
theorem dX6_differences_18 : decode cX6_differences 18 = .ok (.iload_n 3, 1) := by decide +kernel
theorem dX6_differences_19 : decode cX6_differences 19 = .ok (.invokevirtual 76, 3) := by decide +kernel
theorem dX6_differences_22 : decode cX6_differences 22 = .ok (.if_icmp .eq 9, 3) := by decide +kernel
theorem dX6_differences_25 : decode cX6_differences 25 = .ok (.iload_n 2, 1) := by decide +kernel
theorem dX6_differences_26 : decode cX6_differences 26 = .ok (.iconst 1, 1) := by decide +kernel
theorem dX6_differences_27 : decode cX6_differences 27 = .ok (.iload_n 3, 1) := by decide +kernel
theorem dX6_differences_28 : decode cX6_differences 28 = .ok (.ishl, 1) := by decide +kernel
theorem dX6_differences_29 : decode cX6_differences 29 = .ok (.ior, 1) := by decide +kernel
theorem dX6_differences_30 : decode cX6_differences 30 = .ok (.istore_n 2, 1) := by decide +kernel
theorem dX6_differences_31 : decode cX6_differences 31 = .ok (.iinc 3 1, 3) := by decide +kernel
theorem dX6_differences_34 : decode cX6_differences 34 = .ok (.goto (-30), 3) := by decide +kernel
theorem dX6_differences_37 : decode cX6_differences 37 = .ok (.iload_n 2, 1) := by decide +kernel
theorem dX6_differences_38 : decode cX6_differences 38 = .ok (.ireturn, 1) := by decide +kernel
theorem dX7_init_0 : decode cX7_init 0 = .ok (.aload_n 0, 1) := by decide +kernel
theorem dX7_init_1 : decode cX7_init 1 = .ok (.invokespecial 1, 3) := by decide +kernel
theorem dX7_init_4 : decode cX7_init 4 = .ok (.aload_n 0, 1) := by decide +kernel
theorem dX7_init_5 : decode cX7_init 5 = .ok (.bipush 120, 2) := by decide +kernel
theorem dX7_init_7 : decode cX7_init 7 = .ok (.newarray .char, 2) := by decide +kernel
theorem dX7_init_9 : decode cX7_init 9 = .ok (.putfield 9, 3) := by decide +kernel
theorem dX7_init_12 : decode cX7_init 12 = .ok (.aload_n 0, 1) := by decide +kernel
theorem dX7_init_13 : decode cX7_init 13 = .ok (.iconst 0, 1) := by decide +kernel
theorem dX7_init_14 : decode cX7_init 14 = .ok (.putfield 13, 3) := by decide +kernel
theorem dX7_init_17 : decode cX7_init 17 = .ok (.aload_n 0, 1) := by decide +kernel
theorem dX7_init_18 : decode cX7_init 18 = .ok (.new 17, 3) := by decide +kernel
theorem dX7_init_21 : decode cX7_init 21 = .ok (.dup, 1) := by decide +kernel
theorem dX7_init_22 : decode cX7_init 22 = .ok (.invokespecial 19, 3) := by decide +kernel
theorem dX7_init_25 : decode cX7_init 25 = .ok (.putfield 20, 3) := by decide +kernel
theorem dX7_init_28 : decode cX7_init 28 = .ok (.aload_n 0, 1) := by decide +kernel
theorem dX7_init_29 : decode cX7_init 29 = .ok (.new 24, 3) := by decide +kernel
theorem dX7_init_32 : decode cX7_init 32 = .ok (.dup, 1) := by decide +kernel
theorem dX7_init_33 : decode cX7_init 33 = .ok (.invokespecial 26, 3) := by decide +kernel
theorem dX7_init_36 : decode cX7_init 36 = .ok (.putfield 27, 3) := by decide +kernel
theorem dX7_init_39 : decode cX7_init 39 = .ok (.aload_n 0, 1) := by decide +kernel
theorem dX7_init_40 : decode cX7_init 40 = .ok (.new 31, 3) := by decide +kernel
theorem dX7_init_43 : decode cX7_init 43 = .ok (.dup, 1) := by decide +kernel
theorem dX7_init_44 : decode cX7_init 44 = .ok (.invokespecial 33, 3) := by decide +kernel
theorem dX7_init_47 : decode cX7_init 47 = .ok (.putfield 34, 3) := by decide +kernel
theorem dX7_init_50 : decode cX7_init 50 = .ok (.aload_n 0, 1) := by decide +kernel
theorem dX7_init_51 : decode cX7_init 51 = .ok (.new 31, 3) := by decide +kernel
theorem dX7_init_54 : decode cX7_init 54 = .ok (.dup, 1) := by decide +kernel
theorem dX7_init_55 : decode cX7_init 55 = .ok (.invokespecial 33, 3) := by decide +kernel
theorem dX7_init_58 : decode cX7_init 58 = .ok (.putfield 38, 3) := by decide +kernel
theorem dX7_init_61 : decode cX7_init 61 = .ok (.aload_n 0, 1) := by decide +kernel
theorem dX7_init_62 : decode cX7_init 62 = .ok (.new 41, 3) := by decide +kernel
theorem dX7_init_65 : decode cX7_init 65 = .ok (.dup, 1) := by decide +kernel
theorem dX7_init_66 : decode cX7_init 66 = .ok (.invokespecial 43, 3) := by decide +kernel
theorem dX7_init_69 : decode cX7_init 69 = .ok (.putfield 44, 3) := by decide +kernel
theorem dX7_init_72 : decode cX7_init 72 = .ok (.aload_n 0, 1) := by decide +kernel
theorem dX7_init_73 : decode cX7_init 73 = .ok (.new 41, 3) := by decide +kernel
theorem dX7_init_76 : decode cX7_init 76 = .ok (.dup, 1) := by decide +kernel
theorem dX7_init_77 : decode cX7_init 77 = .ok (.invokespecial 43, 3) := by decide +kernel
theorem dX7_init_80 : decode cX7_init 80 = .ok (.putfield 48, 3) := by decide +kernel
theorem dX7_init_83 : decode cX7_init 83 = .ok (.aload_n 0, 1) := by decide +kernel
theorem dX7_init_84 : decode cX7_init 84 = .ok (.new 51, 3) := by decide +kernel
theorem dX7_init_87 : decode cX7_init 87 = .ok (.dup, 1) := by decide +kernel
theorem dX7_init_88 : decode cX7_init 88 = .ok (.invokespecial 53, 3) := by decide +kernel
theorem dX7_init_91 : decode cX7_init 91 = .ok (.putfield 54, 3) := by decide +kernel
theorem dX7_init_94 : decode cX7_init 94 = .ok (.aload_n 0, 1) := by decide +kernel
theorem dX7_init_95 : decode cX7_init 95 = .ok (.new 58, 3) := by decide +kernel
theorem dX7_init_98 : decode cX7_init 98 = .ok (.dup, 1) := by decide +kernel
theorem dX7_init_99 : decode cX7_init 99 = .ok (.invokespecial 60, 3) := by decide +kernel
theorem dX7_init_102 : decode cX7_init 102 = .ok (.putfield 61, 3) := by decide +kernel
theorem dX7_init_105 : decode cX7_init 105 = .ok (.aload_n 0, 1) := by decide +kernel
theorem dX7_init_106 : decode cX7_init 106 = .ok (.iconst 2, 1) := by decide +kernel
theorem dX7_init_107 : decode cX7_init 107 = .ok (.anewarray 31, 3) := by decide +kernel
theorem dX7_init_110 : decode cX7_init 110 = .ok (.putfield 65, 3) := by decide +kernel
theorem dX7_init_113 : decode cX7_init 113 = .ok (.aload_n 0, 1) := by decide +kernel
theorem dX7_init_114 : decode cX7_init 114 = .ok (.iconst 0, 1) := by decide +kernel
theorem dX7_init_115 : decode cX7_init 115 = .ok (.putfield 69, 3) := by decide +kernel
theorem dX7_init_118 : decode cX7_init 118 = .ok (.aload_n 0, 1) := by decide +kernel
theorem dX7_init_119 : decode cX7_init 119 = .ok (.bipush 36, 2) := by decide +kernel
theorem dX7_init_121 : decode cX7_init 121 = .ok (.newarray .int, 2) := by decide +kernel
theorem dX7_init_123 : decode cX7_init 123 = .ok (.putfield 72, 3) := by decide +kernel
theorem dX7_init_126 : decode cX7_init 126 = .ok (.iconst 0, 1) := by decide +kernel
theorem dX7_init_127 : decode cX7_init 127 = .ok (.istore_n 1, 1) := by decide +kernel
theorem dX7_init_128 : decode cX7_init 128 = .ok (.iload_n 1, 1) := by decide +kernel
theorem dX7_init_129 : decode cX7_init 129 = .ok (.iconst 2, 1) := by decide +kernel
theorem dX7_init_130 : decode cX7_init 130 = .ok (.if_icmp .ge 22, 3) := by decide +kernel
theorem dX7_init_133 : decode cX7_init 133 = .ok (.aload_n 0, 1) := by decide +kernel
theorem dX7_init_134 : decode cX7_init 134 = .ok (.getfield 65, 3) := by decide +kernel
theorem dX7_init_137 : decode cX7_init 137 = .ok (.iload_n 1, 1) := by decide +kernel
theorem dX7_init_138 : decode cX7_init 138 = .ok (.new 31, 3) := by decide +kernel
theorem dX7_init_141 : decode cX7_init 141 = .ok (.dup, 1) := by decide +kernel
theorem dX7_init_142 : decode cX7_init 142 = .ok (.invokespecial 33, 3) := by decide +kernel
theorem dX7_init_145 : decode cX7_init 145 = .ok (.aastore, 1) := by decide +kernel
theorem dX7_init_146 : decode cX7_init 146 = .ok (.iinc 1 1, 3) := by decide +kernel
theorem dX7_init_149 : decode cX7_init 149 = .ok (.goto (-21), 3) := by decide +kernel
theorem dX7_init_152 : decode cX7_init 152 = .ok (.return_, 1) := by decide +kernel
theorem dX7_type_0 : decode cX7_type 0 = .ok (.iload_n 1, 1) := by decide +kernel
theorem dX7_type_1 : decode cX7_type 1 = .ok (.sipush 256, 3) := by decide +kernel
theorem dX7_type_4 : decode cX7_type 4 = .ok (.invokestatic 76, 3) := by decide +kernel
theorem dX7_type_7 : decode cX7_type 7 = .ok (.ifCond .ne 6, 3) := by decide +kernel
theorem dX7_type_10 : decode cX7_type 10 = .ok (.bipush (-2), 2) := by decide +kernel
theorem dX7_type_12 : decode cX7_type 12 = .ok (.ireturn, 1) := by decide +kernel
theorem dX7_type_13 : decode cX7_type 13 = .ok (.aload_n 0, 1) := by decide +kernel
theorem dX7_type_14 : decode cX7_type 14 = .ok (.getfield 13, 3) := by decide +kernel
theorem dX7_type_17 : decode cX7_type 17 = .ok (.bipush 120, 2) := by decide +kernel
theorem dX7_type_19 : decode cX7_type 19 = .ok (.invokestatic 76, 3) := by decide +kernel
theorem dX7_type_22 : decode cX7_type 22 = .ok (.ifCond .ne 6, 3) := by decide +kernel
theorem dX7_type_25 : decode cX7_type 25 = .ok (.bipush (-4), 2) := by decide +kernel
theorem dX7_type_27 : decode cX7_type 27 = .ok (.ireturn, 1) := by decide +kernel
theorem dX7_type_28 : decode cX7_type 28 = .ok (.aload_n 0, 1) := by decide +kernel
theorem dX7_type_29 : decode cX7_type 29 = .ok (.getfield 9, 3) := by decide +kernel
theorem dX7_type_32 : decode cX7_type 32 = .ok (.aload_n 0, 1) := by decide +kernel
theorem dX7_type_33 : decode cX7_type 33 = .ok (.getfield 13, 3) := by decide +kernel
theorem dX7_type_36 : decode cX7_type 36 = .ok (.iload_n 1, 1) := by decide +kernel
theorem dX7_type_37 : decode cX7_type 37 = .ok (.i2c, 1) := by decide +kernel
theorem dX7_type_38 : decode cX7_type 38 = .ok (.castore, 1) := by decide +kernel
theorem dX7_type_39 : decode cX7_type 39 = .ok (.aload_n 0, 1) := by decide +kernel
theorem dX7_type_40 : decode cX7_type 40 = .ok (.dup, 1) := by decide +kernel
theorem dX7_type_41 : decode cX7_type 41 = .ok (.getfield 13, 3) := by decide +kernel
theorem dX7_type_44 : decode cX7_type 44 = .ok (.iconst 1, 1) := by decide +kernel
theorem dX7_type_45 : decode cX7_type 45 = .ok (.iadd, 1) := by decide +kernel
theorem dX7_type_46 : decode cX7_type 46 = .ok (.putfield 13, 3) := by decide +kernel
theorem dX7_type_49 : decode cX7_type 49 = .ok (.aload_n 0, 1) := by decide +kernel
theorem dX7_type_50 : decode cX7_type 50 = .ok (.getfield 13, 3) := by decide +kernel
theorem dX7_type_53 : decode cX7_type 53 = .ok (.ireturn, 1) := by decide +kernel
theorem dX7_clear_0 : decode cX7_clear 0 = .ok (.aload_n 0, 1) := by decide +kernel
theorem dX7_clear_1 : decode cX7_clear 1 = .ok (.getfield 13, 3) := by decide +kernel
theorem dX7_clear_4 : decode cX7_clear 4 = .ok (.istore_n 1, 1) := by decide +kernel
theorem dX7_clear_5 : decode cX7_clear 5 = .ok (.aload_n 0, 1) := by decide +kernel
theorem dX7_clear_6 : decode cX7_clear 6 = .ok (.iconst 0, 1) := by decide +kernel
theorem dX7_clear_7 : decode cX7_clear 7 = .ok (.putfield 13, 3) := by decide +kernel
theorem dX7_clear_10 : decode cX7_clear 10 = .ok (.iload_n 1, 1) := by decide +kernel
theorem dX7_clear_11 : decode cX7_clear 11 = .ok (.ireturn, 1) := by decide +kernel
theorem dX7_page_0 : decode cX7_page 0 = .ok (.aload_n 0, 1) := by decide +kernel
theorem dX7_page_1 : decode cX7_page 1 = .ok (.getfield 20, 3) := by decide +kernel
theorem dX7_page_4 : decode cX7_page 4 = .ok (.aload_n 0, 1) := by decide +kernel
theorem dX7_page_5 : decode cX7_page 5 = .ok (.getfield 9, 3) := by decide +kernel
theorem dX7_page_8 : decode cX7_page 8 = .ok (.aload_n 0, 1) := by decide +kernel
theorem dX7_page_9 : decode cX7_page 9 = .ok (.getfield 13, 3) := by decide +kernel
theorem dX7_page_12 : decode cX7_page 12 = .ok (.invokevirtual 80, 3) := by decide +kernel
theorem dX7_page_15 : decode cX7_page 15 = .ok (.istore_n 1, 1) := by decide +kernel
theorem dX7_page_16 : decode cX7_page 16 = .ok (.iload_n 1, 1) := by decide +kernel
theorem dX7_page_17 : decode cX7_page 17 = .ok (.bipush (-9), 2) := by decide +kernel
theorem dX7_page_19 : decode cX7_page 19 = .ok (.if_icmp .ne 14, 3) := by decide +kernel
theorem dX7_page_22 : decode cX7_page 22 = .ok (.bipush (-10), 2) := by decide +kernel
theorem dX7_page_24 : decode cX7_page 24 = .ok (.aload_n 0, 1) := by decide +kernel
theorem dX7_page_25 : decode cX7_page 25 = .ok (.getfield 20, 3) := by decide +kernel
theorem dX7_page_28 : decode cX7_page 28 = .ok (.invokevirtual 84, 3) := by decide +kernel
theorem dX7_page_31 : decode cX7_page 31 = .ok (.isub, 1) := by decide +kernel
theorem dX7_page_32 : decode cX7_page 32 = .ok (.ireturn, 1) := by decide +kernel
theorem dX7_page_33 : decode cX7_page 33 = .ok (.aload_n 0, 1) := by decide +kernel
theorem dX7_page_34 : decode cX7_page 34 = .ok (.aload_n 0, 1) := by decide +kernel
theorem dX7_page_35 : decode cX7_page 35 = .ok (.getfield 20, 3) := by decide +kernel
theorem dX7_page_38 : decode cX7_page 38 = .ok (.aload_n 0, 1) := by decide +kernel
theorem dX7_page_39 : decode cX7_page 39 = .ok (.getfield 27, 3) := by decide +kernel
theorem dX7_page_42 : decode cX7_page 42 = .ok (.invokevirtual 88, 3) := by decide +kernel
theorem dX7_page_45 : decode cX7_page 45 = .ok (.putfield 27, 3) := by decide +kernel
theorem dX7_page_48 : decode cX7_page 48 = .ok (.aload_n 0, 1) := by decide +kernel
theorem dX7_page_49 : decode cX7_page 49 = .ok (.iconst 0, 1) := by decide +kernel
theorem dX7_page_50 : decode cX7_page 50 = .ok (.putfield 13, 3) := by decide +kernel
theorem dX7_page_53 : decode cX7_page 53 = .ok (.aload_n 0, 1) := by decide +kernel
theorem dX7_page_54 : decode cX7_page 54 = .ok (.getfield 34, 3) := by decide +kernel
theorem dX7_page_57 : decode cX7_page 57 = .ok (.aload_n 0, 1) := by decide +kernel
theorem dX7_page_58 : decode cX7_page 58 = .ok (.getfield 27, 3) := by decide +kernel
theorem dX7_page_61 : decode cX7_page 61 = .ok (.getfield 92, 3) := by decide +kernel
theorem dX7_page_64 : decode cX7_page 64 = .ok (.invokevirtual 95, 3) := by decide +kernel
theorem dX7_page_67 : decode cX7_page 67 = .ok (.aload_n 0, 1) := by decide +kernel
theorem dX7_page_68 : decode cX7_page 68 = .ok (.getfield 54, 3) := by decide +kernel
theorem dX7_page_71 : decode cX7_page 71 = .ok (.invokevirtual 99, 3) := by decide +kernel
theorem dX7_page_74 : decode cX7_page 74 = .ok (.aload_n 0, 1) := by decide +kernel
theorem dX7_page_75 : decode cX7_page 75 = .ok (.getfield 61, 3) := by decide +kernel
theorem dX7_page_78 : decode cX7_page 78 = .ok (.invokevirtual 102, 3) := by decide +kernel
theorem dX7_page_81 : decode cX7_page 81 = .ok (.aload_n 0, 1) := by decide +kernel
theorem dX7_page_82 : decode cX7_page 82 = .ok (.iconst 0, 1) := by decide +kernel
theorem dX7_page_83 : decode cX7_page 83 = .ok (.putfield 69, 3) := by decide +kernel
theorem dX7_page_86 : decode cX7_page 86 = .ok (.aload_n 0, 1) := by decide +kernel
theorem dX7_page_87 : decode cX7_page 87 = .ok (.invokevirtual 103, 3) := by decide +kernel
theorem dX7_page_90 : decode cX7_page 90 = .ok (.iload_n 1, 1) := by decide +kernel
theorem dX7_page_91 : decode cX7_page 91 = .ok (.ireturn, 1) := by decide +kernel
theorem dX7_node_0 : decode cX7_node 0 = .ok (.iload_n 1, 1) := by decide +kernel
theorem dX7_node_1 : decode cX7_node 1 = .ok (.aload_n 0, 1) := by decide +kernel
theorem dX7_node_2 : decode cX7_node 2 = .ok (.getfield 27, 3) := by decide +kernel
theorem dX7_node_5 : decode cX7_node 5 = .ok (.getfield 106, 3) := by decide +kernel
theorem dX7_node_8 : decode cX7_node 8 = .ok (.invokestatic 76, 3) := by decide +kernel
theorem dX7_node_11 : decode cX7_node 11 = .ok (.ifCond .eq 12, 3) := by decide +kernel
theorem dX7_node_14 : decode cX7_node 14 = .ok (.iload_n 2, 1) := by decide +kernel
theorem dX7_node_15 : decode cX7_node 15 = .ok (.bipush 6, 2) := by decide +kernel
theorem dX7_node_17 : decode cX7_node 17 = .ok (.invokestatic 76, 3) := by decide +kernel
theorem dX7_node_20 : decode cX7_node 20 = .ok (.ifCond .ne 6, 3) := by decide +kernel
theorem dX7_node_23 : decode cX7_node 23 = .ok (.bipush (-2), 2) := by decide +kernel
theorem dX7_node_25 : decode cX7_node 25 = .ok (.ireturn, 1) := by decide +kernel
theorem dX7_node_26 : decode cX7_node 26 = .ok (.iload_n 2, 1) := by decide +kernel
theorem dX7_node_27 : decode cX7_node 27 = .ok (.tableswitch 81 0 4 #[33, 43, 53, 63, 72], 33) := by decide +kernel
theorem dX7_node_60 : decode cX7_node 60 = .ok (.aload_n 0, 1) := by decide +kernel
theorem dX7_node_61 : decode cX7_node 61 = .ok (.getfield 27, 3) := by decide +kernel
theorem dX7_node_64 : decode cX7_node 64 = .ok (.getfield 109, 3) := by decide +kernel
theorem dX7_node_67 : decode cX7_node 67 = .ok (.iload_n 1, 1) := by decide +kernel
theorem dX7_node_68 : decode cX7_node 68 = .ok (.iaload, 1) := by decide +kernel
theorem dX7_node_69 : decode cX7_node 69 = .ok (.ireturn, 1) := by decide +kernel
theorem dX7_node_70 : decode cX7_node 70 = .ok (.aload_n 0, 1) := by decide +kernel
theorem dX7_node_71 : decode cX7_node 71 = .ok (.getfield 34, 3) := by decide +kernel
theorem dX7_node_74 : decode cX7_node 74 = .ok (.getfield 112, 3) := by decide +kernel
theorem dX7_node_77 : decode cX7_node 77 = .ok (.iload_n 1, 1) := by decide +kernel
theorem dX7_node_78 : decode cX7_node 78 = .ok (.iaload, 1) := by decide +kernel
theorem dX7_node_79 : decode cX7_node 79 = .ok (.ireturn, 1) := by decide +kernel
theorem dX7_node_80 : decode cX7_node 80 = .ok (.aload_n 0, 1) := by decide +kernel
theorem dX7_node_81 : decode cX7_node 81 = .ok (.getfield 34, 3) := by decide +kernel
theorem dX7_node_84 : decode cX7_node 84 = .ok (.getfield 115, 3) := by decide +kernel
theorem dX7_node_87 : decode cX7_node 87 = .ok (.iload_n 1, 1) := by decide +kernel
theorem dX7_node_88 : decode cX7_node 88 = .ok (.iaload, 1) := by decide +kernel
theorem dX7_node_89 : decode cX7_node 89 = .ok (.ireturn, 1) := by decide +kernel
theorem dX7_node_90 : decode cX7_node 90 = .ok (.aload_n 0, 1) := by decide +kernel
theorem dX7_node_91 : decode cX7_node 91 = .ok (.getfield 44, 3) := by decide +kernel
theorem dX7_node_94 : decode cX7_node 94 = .ok (.iload_n 1, 1) := by decide +kernel
theorem dX7_node_95 : decode cX7_node 95 = .ok (.invokevirtual 118, 3) := by decide +kernel
theorem dX7_node_98 : decode cX7_node 98 = .ok (.ireturn, 1) := by decide +kernel
theorem dX7_node_99 : decode cX7_node 99 = .ok (.aload_n 0, 1) := by decide +kernel
theorem dX7_node_100 : decode cX7_node 100 = .ok (.getfield 44, 3) := by decide +kernel
theorem dX7_node_103 : decode cX7_node 103 = .ok (.iload_n 1, 1) := by decide +kernel
theorem dX7_node_104 : decode cX7_node 104 = .ok (.invokevirtual 122, 3) := by decide +kernel
theorem dX7_node_107 : decode cX7_node 107 = .ok (.ireturn, 1) := by decide +kernel
theorem dX7_node_108 : decode cX7_node 108 = .ok (.aload_n 0, 1) := by decide +kernel
theorem dX7_node_109 : decode cX7_node 109 = .ok (.getfield 27, 3) := by decide +kernel
theorem dX7_node_112 : decode cX7_node 112 = .ok (.iload_n 1, 1) := by decide +kernel
theorem dX7_node_113 : decode cX7_node 113 = .ok (.invokevirtual 125, 3) := by decide +kernel
theorem dX7_node_116 : decode cX7_node 116 = .ok (.ireturn, 1) := by decide +kernel
theorem dX7_rule_0 : decode cX7_rule 0 = .ok (.iload_n 1, 1) := by decide +kernel
theorem dX7_rule_1 : decode cX7_rule 1 = .ok (.aload_n 0, 1) := by decide +kernel
theorem dX7_rule_2 : decode cX7_rule 2 = .ok (.getfield 27, 3) := by decide +kernel
theorem dX7_rule_5 : decode cX7_rule 5 = .ok (.getfield 128, 3) := by decide +kernel
theorem dX7_rule_8 : decode cX7_rule 8 = .ok (.invokestatic 76, 3) := by decide +kernel
theorem dX7_rule_11 : decode cX7_rule 11 = .ok (.ifCond .eq 12, 3) := by decide +kernel
theorem dX7_rule_14 : decode cX7_rule 14 = .ok (.iload_n 2, 1) := by decide +kernel
theorem dX7_rule_15 : decode cX7_rule 15 = .ok (.bipush 7, 2) := by decide +kernel
theorem dX7_rule_17 : decode cX7_rule 17 = .ok (.invokestatic 76, 3) := by decide +kernel
theorem dX7_rule_20 : decode cX7_rule 20 = .ok (.ifCond .ne 6, 3) := by decide +kernel
theorem dX7_rule_23 : decode cX7_rule 23 = .ok (.bipush (-2), 2) := by decide +kernel
theorem dX7_rule_25 : decode cX7_rule 25 = .ok (.ireturn, 1) := by decide +kernel
theorem dX7_rule_26 : decode cX7_rule 26 = .ok (.aload_n 0, 1) := by decide +kernel
theorem dX7_rule_27 : decode cX7_rule 27 = .ok (.getfield 27, 3) := by decide +kernel
theorem dX7_rule_30 : decode cX7_rule 30 = .ok (.getfield 131, 3) := by decide +kernel
theorem dX7_rule_33 : decode cX7_rule 33 = .ok (.iload_n 1, 1) := by decide +kernel
theorem dX7_rule_34 : decode cX7_rule 34 = .ok (.aaload, 1) := by decide +kernel
theorem dX7_rule_35 : decode cX7_rule 35 = .ok (.astore_n 3, 1) := by decide +kernel
theorem dX7_rule_36 : decode cX7_rule 36 = .ok (.iload_n 2, 1) := by decide +kernel
theorem dX7_rule_37 : decode cX7_rule 37 = .ok (.tableswitch 89 0 5 #[39, 52, 57, 62, 67, 72], 39) := by decide +kernel
theorem dX7_rule_76 : decode cX7_rule 76 = .ok (.aload_n 3, 1) := by decide +kernel
theorem dX7_rule_77 : decode cX7_rule 77 = .ok (.getfield 135, 3) := by decide +kernel
theorem dX7_rule_80 : decode cX7_rule 80 = .ok (.ifCond .eq 7, 3) := by decide +kernel
theorem dX7_rule_83 : decode cX7_rule 83 = .ok (.iconst 1, 1) := by decide +kernel
theorem dX7_rule_84 : decode cX7_rule 84 = .ok (.goto 4, 3) := by decide +kernel
theorem dX7_rule_87 : decode cX7_rule 87 = .ok (.iconst 0, 1) := by decide +kernel
theorem dX7_rule_88 : decode cX7_rule 88 = .ok (.ireturn, 1) := by decide +kernel
theorem dX7_rule_89 : decode cX7_rule 89 = .ok (.aload_n 3, 1) := by decide +kernel
theorem dX7_rule_90 : decode cX7_rule 90 = .ok (.getfield 141, 3) := by decide +kernel
theorem dX7_rule_93 : decode cX7_rule 93 = .ok (.ireturn, 1) := by decide +kernel
theorem dX7_rule_94 : decode cX7_rule 94 = .ok (.aload_n 3, 1) := by decide +kernel
theorem dX7_rule_95 : decode cX7_rule 95 = .ok (.getfield 144, 3) := by decide +kernel
theorem dX7_rule_98 : decode cX7_rule 98 = .ok (.ireturn, 1) := by decide +kernel
theorem dX7_rule_99 : decode cX7_rule 99 = .ok (.aload_n 3, 1) := by decide +kernel
theorem dX7_rule_100 : decode cX7_rule 100 = .ok (.getfield 147, 3) := by decide +kernel
theorem dX7_rule_103 : decode cX7_rule 103 = .ok (.ireturn, 1) := by decide +kernel
theorem dX7_rule_104 : decode cX7_rule 104 = .ok (.aload_n 3, 1) := by decide +kernel
theorem dX7_rule_105 : decode cX7_rule 105 = .ok (.getfield 150, 3) := by decide +kernel
theorem dX7_rule_108 : decode cX7_rule 108 = .ok (.ireturn, 1) := by decide +kernel
theorem dX7_rule_109 : decode cX7_rule 109 = .ok (.aload_n 0, 1) := by decide +kernel
theorem dX7_rule_110 : decode cX7_rule 110 = .ok (.getfield 34, 3) := by decide +kernel
theorem dX7_rule_113 : decode cX7_rule 113 = .ok (.iload_n 1, 1) := by decide +kernel
theorem dX7_rule_114 : decode cX7_rule 114 = .ok (.invokevirtual 153, 3) := by decide +kernel
theorem dX7_rule_117 : decode cX7_rule 117 = .ok (.ifCond .eq 7, 3) := by decide +kernel
theorem dX7_rule_120 : decode cX7_rule 120 = .ok (.iconst 1, 1) := by decide +kernel
theorem dX7_rule_121 : decode cX7_rule 121 = .ok (.goto 4, 3) := by decide +kernel
theorem dX7_rule_124 : decode cX7_rule 124 = .ok (.iconst 0, 1) := by decide +kernel
theorem dX7_rule_125 : decode cX7_rule 125 = .ok (.ireturn, 1) := by decide +kernel
theorem dX7_rule_126 : decode cX7_rule 126 = .ok (.aload_n 0, 1) := by decide +kernel
theorem dX7_rule_127 : decode cX7_rule 127 = .ok (.getfield 44, 3) := by decide +kernel
theorem dX7_rule_130 : decode cX7_rule 130 = .ok (.iload_n 1, 1) := by decide +kernel
theorem dX7_rule_131 : decode cX7_rule 131 = .ok (.invokevirtual 157, 3) := by decide +kernel
theorem dX7_rule_134 : decode cX7_rule 134 = .ok (.ireturn, 1) := by decide +kernel
theorem dX7_toggles_0 : decode cX7_toggles 0 = .ok (.iload_n 1, 1) := by decide +kernel
theorem dX7_toggles_1 : decode cX7_toggles 1 = .ok (.aload_n 0, 1) := by decide +kernel
theorem dX7_toggles_2 : decode cX7_toggles 2 = .ok (.getfield 27, 3) := by decide +kernel
theorem dX7_toggles_5 : decode cX7_toggles 5 = .ok (.getfield 106, 3) := by decide +kernel
theorem dX7_toggles_8 : decode cX7_toggles 8 = .ok (.invokestatic 76, 3) := by decide +kernel
theorem dX7_toggles_11 : decode cX7_toggles 11 = .ok (.ifCond .eq 11, 3) := by decide +kernel
theorem dX7_toggles_14 : decode cX7_toggles 14 = .ok (.iload_n 2, 1) := by decide +kernel
theorem dX7_toggles_15 : decode cX7_toggles 15 = .ok (.iconst 4, 1) := by decide +kernel
theorem dX7_toggles_16 : decode cX7_toggles 16 = .ok (.invokestatic 76, 3) := by decide +kernel
theorem dX7_toggles_19 : decode cX7_toggles 19 = .ok (.ifCond .ne 6, 3) := by decide +kernel
theorem dX7_toggles_22 : decode cX7_toggles 22 = .ok (.bipush (-2), 2) := by decide +kernel
theorem dX7_toggles_24 : decode cX7_toggles 24 = .ok (.ireturn, 1) := by decide +kernel
theorem dX7_toggles_25 : decode cX7_toggles 25 = .ok (.iconst 4, 1) := by decide +kernel
theorem dX7_toggles_26 : decode cX7_toggles 26 = .ok (.iload_n 1, 1) := by decide +kernel
theorem dX7_toggles_27 : decode cX7_toggles 27 = .ok (.imul, 1) := by decide +kernel
theorem dX7_toggles_28 : decode cX7_toggles 28 = .ok (.iload_n 2, 1) := by decide +kernel
theorem dX7_toggles_29 : decode cX7_toggles 29 = .ok (.iadd, 1) := by decide +kernel
theorem dX7_toggles_30 : decode cX7_toggles 30 = .ok (.istore_n 3, 1) := by decide +kernel
theorem dX7_toggles_31 : decode cX7_toggles 31 = .ok (.aload_n 0, 1) := by decide +kernel
theorem dX7_toggles_32 : decode cX7_toggles 32 = .ok (.iload_n 3, 1) := by decide +kernel
theorem dX7_toggles_33 : decode cX7_toggles 33 = .ok (.iload_n 3, 1) := by decide +kernel
theorem dX7_toggles_34 : decode cX7_toggles 34 = .ok (.invokevirtual 160, 3) := by decide +kernel
theorem dX7_toggles_37 : decode cX7_toggles 37 = .ok (.aload_n 0, 1) := by decide +kernel
theorem dX7_toggles_38 : decode cX7_toggles 38 = .ok (.getfield 34, 3) := by decide +kernel
theorem dX7_toggles_41 : decode cX7_toggles 41 = .ok (.getfield 115, 3) := by decide +kernel
theorem dX7_toggles_44 : decode cX7_toggles 44 = .ok (.iload_n 1, 1) := by decide +kernel
theorem dX7_toggles_45 : decode cX7_toggles 45 = .ok (.iaload, 1) := by decide +kernel
theorem dX7_toggles_46 : decode cX7_toggles 46 = .ok (.ireturn, 1) := by decide +kernel
theorem dX7_tags_0 : decode cX7_tags 0 = .ok (.iload_n 1, 1) := by decide +kernel
theorem dX7_tags_1 : decode cX7_tags 1 = .ok (.aload_n 0, 1) := by decide +kernel
theorem dX7_tags_2 : decode cX7_tags 2 = .ok (.getfield 27, 3) := by decide +kernel
theorem dX7_tags_5 : decode cX7_tags 5 = .ok (.getfield 106, 3) := by decide +kernel
theorem dX7_tags_8 : decode cX7_tags 8 = .ok (.invokestatic 76, 3) := by decide +kernel
theorem dX7_tags_11 : decode cX7_tags 11 = .ok (.ifCond .eq 11, 3) := by decide +kernel
theorem dX7_tags_14 : decode cX7_tags 14 = .ok (.iload_n 2, 1) := by decide +kernel
theorem dX7_tags_15 : decode cX7_tags 15 = .ok (.iconst 4, 1) := by decide +kernel
theorem dX7_tags_16 : decode cX7_tags 16 = .ok (.invokestatic 76, 3) := by decide +kernel
theorem dX7_tags_19 : decode cX7_tags 19 = .ok (.ifCond .ne 6, 3) := by decide +kernel
theorem dX7_tags_22 : decode cX7_tags 22 = .ok (.bipush (-2), 2) := by decide +kernel
theorem dX7_tags_24 : decode cX7_tags 24 = .ok (.ireturn, 1) := by decide +kernel
theorem dX7_tags_25 : decode cX7_tags 25 = .ok (.aload_n 0, 1) := by decide +kernel
theorem dX7_tags_26 : decode cX7_tags 26 = .ok (.getfield 34, 3) := by decide +kernel
theorem dX7_tags_29 : decode cX7_tags 29 = .ok (.getfield 112, 3) := by decide +kernel
theorem dX7_tags_32 : decode cX7_tags 32 = .ok (.iload_n 1, 1) := by decide +kernel
theorem dX7_tags_33 : decode cX7_tags 33 = .ok (.iaload, 1) := by decide +kernel
theorem dX7_tags_34 : decode cX7_tags 34 = .ok (.istore_n 3, 1) := by decide +kernel
theorem dX7_tags_35 : decode cX7_tags 35 = .ok (.iload_n 3, 1) := by decide +kernel
theorem dX7_tags_36 : decode cX7_tags 36 = .ok (.iload_n 2, 1) := by decide +kernel
theorem dX7_tags_37 : decode cX7_tags 37 = .ok (.if_icmp .ne 6, 3) := by decide +kernel
theorem dX7_tags_40 : decode cX7_tags 40 = .ok (.bipush (-3), 2) := by decide +kernel
theorem dX7_tags_42 : decode cX7_tags 42 = .ok (.ireturn, 1) := by decide +kernel
theorem dX7_tags_43 : decode cX7_tags 43 = .ok (.sipush 200, 3) := by decide +kernel
theorem dX7_tags_46 : decode cX7_tags 46 = .ok (.iconst 4, 1) := by decide +kernel
theorem dX7_tags_47 : decode cX7_tags 47 = .ok (.iload_n 1, 1) := by decide +kernel
theorem dX7_tags_48 : decode cX7_tags 48 = .ok (.imul, 1) := by decide +kernel
theorem dX7_tags_49 : decode cX7_tags 49 = .ok (.iadd, 1) := by decide +kernel
theorem dX7_tags_50 : decode cX7_tags 50 = .ok (.istore 4, 2) := by decide +kernel
theorem dX7_tags_52 : decode cX7_tags 52 = .ok (.aload_n 0, 1) := by decide +kernel
theorem dX7_tags_53 : decode cX7_tags 53 = .ok (.iload 4, 2) := by decide +kernel
theorem dX7_tags_55 : decode cX7_tags 55 = .ok (.iload_n 2, 1) := by decide +kernel
theorem dX7_tags_56 : decode cX7_tags 56 = .ok (.iadd, 1) := by decide +kernel
theorem dX7_tags_57 : decode cX7_tags 57 = .ok (.iload 4, 2) := by decide +kernel
theorem dX7_tags_59 : decode cX7_tags 59 = .ok (.iload_n 3, 1) := by decide +kernel
theorem dX7_tags_60 : decode cX7_tags 60 = .ok (.iadd, 1) := by decide +kernel
theorem dX7_tags_61 : decode cX7_tags 61 = .ok (.invokevirtual 160, 3) := by decide +kernel
theorem dX7_tags_64 : decode cX7_tags 64 = .ok (.iload_n 3, 1) := by decide +kernel
theorem dX7_tags_65 : decode cX7_tags 65 = .ok (.ireturn, 1) := by decide +kernel
theorem dX7_switches_0 : decode cX7_switches 0 = .ok (.iload_n 1, 1) := by decide +kernel
theorem dX7_switches_1 : decode cX7_switches 1 = .ok (.aload_n 0, 1) := by decide +kernel
theorem dX7_switches_2 : decode cX7_switches 2 = .ok (.getfield 27, 3) := by decide +kernel
theorem dX7_switches_5 : decode cX7_switches 5 = .ok (.getfield 128, 3) := by decide +kernel
theorem dX7_switches_8 : decode cX7_switches 8 = .ok (.invokestatic 76, 3) := by decide +kernel
theorem dX7_switches_11 : decode cX7_switches 11 = .ok (.ifCond .ne 6, 3) := by decide +kernel
theorem dX7_switches_14 : decode cX7_switches 14 = .ok (.bipush (-2), 2) := by decide +kernel
theorem dX7_switches_16 : decode cX7_switches 16 = .ok (.ireturn, 1) := by decide +kernel
theorem dX7_switches_17 : decode cX7_switches 17 = .ok (.bipush 100, 2) := by decide +kernel
theorem dX7_switches_19 : decode cX7_switches 19 = .ok (.iload_n 1, 1) := by decide +kernel
theorem dX7_switches_20 : decode cX7_switches 20 = .ok (.iadd, 1) := by decide +kernel
theorem dX7_switches_21 : decode cX7_switches 21 = .ok (.istore_n 2, 1) := by decide +kernel
theorem dX7_switches_22 : decode cX7_switches 22 = .ok (.aload_n 0, 1) := by decide +kernel
theorem dX7_switches_23 : decode cX7_switches 23 = .ok (.iload_n 2, 1) := by decide +kernel
theorem dX7_switches_24 : decode cX7_switches 24 = .ok (.iload_n 2, 1) := by decide +kernel
theorem dX7_switches_25 : decode cX7_switches 25 = .ok (.invokevirtual 160, 3) := by decide +kernel
theorem dX7_switches_28 : decode cX7_switches 28 = .ok (.aload_n 0, 1) := by decide +kernel
theorem dX7_switches_29 : decode cX7_switches 29 = .ok (.getfield 34, 3) := by decide +kernel
theorem dX7_switches_32 : decode cX7_switches 32 = .ok (.iload_n 1, 1) := by decide +kernel
theorem dX7_switches_33 : decode cX7_switches 33 = .ok (.invokevirtual 153, 3) := by decide +kernel
theorem dX7_switches_36 : decode cX7_switches 36 = .ok (.ifCond .eq 7, 3) := by decide +kernel
theorem dX7_switches_39 : decode cX7_switches 39 = .ok (.iconst 1, 1) := by decide +kernel
theorem dX7_switches_40 : decode cX7_switches 40 = .ok (.goto 4, 3) := by decide +kernel
theorem dX7_switches_43 : decode cX7_switches 43 = .ok (.iconst 0, 1) := by decide +kernel
theorem dX7_switches_44 : decode cX7_switches 44 = .ok (.ireturn, 1) := by decide +kernel
theorem dX7_undo_0 : decode cX7_undo 0 = .ok (.aload_n 0, 1) := by decide +kernel
theorem dX7_undo_1 : decode cX7_undo 1 = .ok (.getfield 54, 3) := by decide +kernel
theorem dX7_undo_4 : decode cX7_undo 4 = .ok (.invokevirtual 164, 3) := by decide +kernel
theorem dX7_undo_7 : decode cX7_undo 7 = .ok (.istore_n 1, 1) := by decide +kernel
theorem dX7_undo_8 : decode cX7_undo 8 = .ok (.iload_n 1, 1) := by decide +kernel
theorem dX7_undo_9 : decode cX7_undo 9 = .ok (.bipush (-9), 2) := by decide +kernel
theorem dX7_undo_11 : decode cX7_undo 11 = .ok (.if_icmp .ne 6, 3) := by decide +kernel
theorem dX7_undo_14 : decode cX7_undo 14 = .ok (.bipush (-3), 2) := by decide +kernel
theorem dX7_undo_16 : decode cX7_undo 16 = .ok (.ireturn, 1) := by decide +kernel
theorem dX7_undo_17 : decode cX7_undo 17 = .ok (.aload_n 0, 1) := by decide +kernel
theorem dX7_undo_18 : decode cX7_undo 18 = .ok (.getfield 34, 3) := by decide +kernel
theorem dX7_undo_21 : decode cX7_undo 21 = .ok (.iload_n 1, 1) := by decide +kernel
theorem dX7_undo_22 : decode cX7_undo 22 = .ok (.invokevirtual 167, 3) := by decide +kernel
theorem dX7_undo_25 : decode cX7_undo 25 = .ok (.aload_n 0, 1) := by decide +kernel
theorem dX7_undo_26 : decode cX7_undo 26 = .ok (.invokevirtual 103, 3) := by decide +kernel
theorem dX7_undo_29 : decode cX7_undo 29 = .ok (.aload_n 0, 1) := by decide +kernel
theorem dX7_undo_30 : decode cX7_undo 30 = .ok (.getfield 54, 3) := by decide +kernel
theorem dX7_undo_33 : decode cX7_undo 33 = .ok (.getfield 171, 3) := by decide +kernel
theorem dX7_undo_36 : decode cX7_undo 36 = .ok (.ireturn, 1) := by decide +kernel
theorem dX7_value_0 : decode cX7_value 0 = .ok (.aload_n 0, 1) := by decide +kernel
theorem dX7_value_1 : decode cX7_value 1 = .ok (.iload_n 1, 1) := by decide +kernel
theorem dX7_value_2 : decode cX7_value 2 = .ok (.iload_n 2, 1) := by decide +kernel
theorem dX7_value_3 : decode cX7_value 3 = .ok (.invokevirtual 174, 3) := by decide +kernel
theorem dX7_value_6 : decode cX7_value 6 = .ok (.ifCond .ne 6, 3) := by decide +kernel
theorem dX7_value_9 : decode cX7_value 9 = .ok (.bipush (-2), 2) := by decide +kernel
theorem dX7_value_11 : decode cX7_value 11 = .ok (.ireturn, 1) := by decide +kernel
theorem dX7_value_12 : decode cX7_value 12 = .ok (.aload_n 0, 1) := by decide +kernel
theorem dX7_value_13 : decode cX7_value 13 = .ok (.getfield 44, 3) := by decide +kernel
theorem dX7_value_16 : decode cX7_value 16 = .ok (.iload_n 1, 1) := by decide +kernel
theorem dX7_value_17 : decode cX7_value 17 = .ok (.iload_n 2, 1) := by decide +kernel
theorem dX7_value_18 : decode cX7_value 18 = .ok (.invokevirtual 177, 3) := by decide +kernel
theorem dX7_value_21 : decode cX7_value 21 = .ok (.ireturn, 1) := by decide +kernel
theorem dX7_winner_0 : decode cX7_winner 0 = .ok (.aload_n 0, 1) := by decide +kernel
theorem dX7_winner_1 : decode cX7_winner 1 = .ok (.iload_n 1, 1) := by decide +kernel
theorem dX7_winner_2 : decode cX7_winner 2 = .ok (.iload_n 2, 1) := by decide +kernel
theorem dX7_winner_3 : decode cX7_winner 3 = .ok (.invokevirtual 174, 3) := by decide +kernel
theorem dX7_winner_6 : decode cX7_winner 6 = .ok (.ifCond .eq 7, 3) := by decide +kernel
theorem dX7_winner_9 : decode cX7_winner 9 = .ok (.iload_n 3, 1) := by decide +kernel
theorem dX7_winner_10 : decode cX7_winner 10 = .ok (.ifCond .ge 6, 3) := by decide +kernel
theorem dX7_winner_13 : decode cX7_winner 13 = .ok (.bipush (-2), 2) := by decide +kernel
theorem dX7_winner_15 : decode cX7_winner 15 = .ok (.ireturn, 1) := by decide +kernel
theorem dX7_winner_16 : decode cX7_winner 16 = .ok (.aload_n 0, 1) := by decide +kernel
theorem dX7_winner_17 : decode cX7_winner 17 = .ok (.getfield 44, 3) := by decide +kernel
theorem dX7_winner_20 : decode cX7_winner 20 = .ok (.iload_n 1, 1) := by decide +kernel
theorem dX7_winner_21 : decode cX7_winner 21 = .ok (.invokevirtual 118, 3) := by decide +kernel
theorem dX7_winner_24 : decode cX7_winner 24 = .ok (.istore 4, 2) := by decide +kernel
theorem dX7_winner_26 : decode cX7_winner 26 = .ok (.aload_n 0, 1) := by decide +kernel
theorem dX7_winner_27 : decode cX7_winner 27 = .ok (.getfield 27, 3) := by decide +kernel
theorem dX7_winner_30 : decode cX7_winner 30 = .ok (.iload 4, 2) := by decide +kernel
theorem dX7_winner_32 : decode cX7_winner 32 = .ok (.iload_n 2, 1) := by decide +kernel
theorem dX7_winner_33 : decode cX7_winner 33 = .ok (.invokevirtual 181, 3) := by decide +kernel
theorem dX7_winner_36 : decode cX7_winner 36 = .ok (.istore 5, 2) := by decide +kernel
theorem dX7_winner_38 : decode cX7_winner 38 = .ok (.iconst 0, 1) := by decide +kernel
theorem dX7_winner_39 : decode cX7_winner 39 = .ok (.istore 6, 2) := by decide +kernel
theorem dX7_winner_41 : decode cX7_winner 41 = .ok (.iload 6, 2) := by decide +kernel
theorem dX7_winner_43 : decode cX7_winner 43 = .ok (.iload_n 3, 1) := by decide +kernel
theorem dX7_winner_44 : decode cX7_winner 44 = .ok (.bipush 8, 2) := by decide +kernel
theorem dX7_winner_46 : decode cX7_winner 46 = .ok (.invokestatic 184, 3) := by decide +kernel
theorem dX7_winner_49 : decode cX7_winner 49 = .ok (.if_icmp .ge 39, 3) := by decide +kernel
theorem dX7_winner_52 : decode cX7_winner 52 = .ok (.iload 5, 2) := by decide +kernel
theorem dX7_winner_54 : decode cX7_winner 54 = .ok (.bipush (-9), 2) := by decide +kernel
theorem dX7_winner_56 : decode cX7_winner 56 = .ok (.if_icmp .eq 32, 3) := by decide +kernel
theorem dX7_winner_59 : decode cX7_winner 59 = .ok (.iload 4, 2) := by decide +kernel
theorem dX7_winner_61 : decode cX7_winner 61 = .ok (.iconst 1, 1) := by decide +kernel
theorem dX7_winner_62 : decode cX7_winner 62 = .ok (.iload 5, 2) := by decide +kernel
theorem dX7_winner_64 : decode cX7_winner 64 = .ok (.ishl, 1) := by decide +kernel
theorem dX7_winner_65 : decode cX7_winner 65 = .ok (.iconst (-1), 1) := by decide +kernel
theorem dX7_winner_66 : decode cX7_winner 66 = .ok (.ixor, 1) := by decide +kernel
theorem dX7_winner_67 : decode cX7_winner 67 = .ok (.iand, 1) := by decide +kernel
theorem dX7_winner_68 : decode cX7_winner 68 = .ok (.istore 4, 2) := by decide +kernel
theorem dX7_winner_70 : decode cX7_winner 70 = .ok (.aload_n 0, 1) := by decide +kernel
theorem dX7_winner_71 : decode cX7_winner 71 = .ok (.getfield 27, 3) := by decide +kernel
theorem dX7_winner_74 : decode cX7_winner 74 = .ok (.iload 4, 2) := by decide +kernel
theorem dX7_winner_76 : decode cX7_winner 76 = .ok (.iload_n 2, 1) := by decide +kernel
theorem dX7_winner_77 : decode cX7_winner 77 = .ok (.invokevirtual 181, 3) := by decide +kernel
theorem dX7_winner_80 : decode cX7_winner 80 = .ok (.istore 5, 2) := by decide +kernel
theorem dX7_winner_82 : decode cX7_winner 82 = .ok (.iinc 6 1, 3) := by decide +kernel
theorem dX7_winner_85 : decode cX7_winner 85 = .ok (.goto (-44), 3) := by decide +kernel
theorem dX7_winner_88 : decode cX7_winner 88 = .ok (.iload 5, 2) := by decide +kernel
theorem dX7_winner_90 : decode cX7_winner 90 = .ok (.ireturn, 1) := by decide +kernel
theorem dX7_source_0 : decode cX7_source 0 = .ok (.aload_n 0, 1) := by decide +kernel
theorem dX7_source_1 : decode cX7_source 1 = .ok (.iload_n 1, 1) := by decide +kernel
theorem dX7_source_2 : decode cX7_source 2 = .ok (.iload_n 2, 1) := by decide +kernel
theorem dX7_source_3 : decode cX7_source 3 = .ok (.invokevirtual 174, 3) := by decide +kernel
theorem dX7_source_6 : decode cX7_source 6 = .ok (.ifCond .ne 6, 3) := by decide +kernel
theorem dX7_source_9 : decode cX7_source 9 = .ok (.bipush (-2), 2) := by decide +kernel
theorem dX7_source_11 : decode cX7_source 11 = .ok (.ireturn, 1) := by decide +kernel
theorem dX7_source_12 : decode cX7_source 12 = .ok (.aload_n 0, 1) := by decide +kernel
theorem dX7_source_13 : decode cX7_source 13 = .ok (.getfield 44, 3) := by decide +kernel
theorem dX7_source_16 : decode cX7_source 16 = .ok (.iload_n 1, 1) := by decide +kernel
theorem dX7_source_17 : decode cX7_source 17 = .ok (.iload_n 2, 1) := by decide +kernel
theorem dX7_source_18 : decode cX7_source 18 = .ok (.invokevirtual 189, 3) := by decide +kernel
theorem dX7_source_21 : decode cX7_source 21 = .ok (.ireturn, 1) := by decide +kernel
theorem dX7_change_0 : decode cX7_change 0 = .ok (.iload_n 1, 1) := by decide +kernel
theorem dX7_change_1 : decode cX7_change 1 = .ok (.aload_n 0, 1) := by decide +kernel
theorem dX7_change_2 : decode cX7_change 2 = .ok (.getfield 27, 3) := by decide +kernel
theorem dX7_change_5 : decode cX7_change 5 = .ok (.getfield 106, 3) := by decide +kernel
theorem dX7_change_8 : decode cX7_change 8 = .ok (.invokestatic 76, 3) := by decide +kernel
theorem dX7_change_11 : decode cX7_change 11 = .ok (.ifCond .eq 19, 3) := by decide +kernel
theorem dX7_change_14 : decode cX7_change 14 = .ok (.iload_n 2, 1) := by decide +kernel
theorem dX7_change_15 : decode cX7_change 15 = .ok (.iconst 4, 1) := by decide +kernel
theorem dX7_change_16 : decode cX7_change 16 = .ok (.invokestatic 76, 3) := by decide +kernel
theorem dX7_change_19 : decode cX7_change 19 = .ok (.ifCond .eq 11, 3) := by decide +kernel
theorem dX7_change_22 : decode cX7_change 22 = .ok (.iload_n 3, 1) := by decide +kernel
theorem dX7_change_23 : decode cX7_change 23 = .ok (.iconst 2, 1) := by decide +kernel
theorem dX7_change_24 : decode cX7_change 24 = .ok (.invokestatic 76, 3) := by decide +kernel
theorem dX7_change_27 : decode cX7_change 27 = .ok (.ifCond .ne 6, 3) := by decide +kernel
theorem dX7_change_30 : decode cX7_change 30 = .ok (.bipush (-2), 2) := by decide +kernel
theorem dX7_change_32 : decode cX7_change 32 = .ok (.ireturn, 1) := by decide +kernel
theorem dX7_change_33 : decode cX7_change 33 = .ok (.iload_n 3, 1) := by decide +kernel
theorem dX7_change_34 : decode cX7_change 34 = .ok (.ifCond .ne 17, 3) := by decide +kernel
theorem dX7_change_37 : decode cX7_change 37 = .ok (.aload_n 0, 1) := by decide +kernel
theorem dX7_change_38 : decode cX7_change 38 = .ok (.getfield 27, 3) := by decide +kernel
theorem dX7_change_41 : decode cX7_change 41 = .ok (.aload_n 0, 1) := by decide +kernel
theorem dX7_change_42 : decode cX7_change 42 = .ok (.getfield 34, 3) := by decide +kernel
theorem dX7_change_45 : decode cX7_change 45 = .ok (.iload_n 1, 1) := by decide +kernel
theorem dX7_change_46 : decode cX7_change 46 = .ok (.iload_n 2, 1) := by decide +kernel
theorem dX7_change_47 : decode cX7_change 47 = .ok (.invokevirtual 192, 3) := by decide +kernel
theorem dX7_change_50 : decode cX7_change 50 = .ok (.ireturn, 1) := by decide +kernel
theorem dX7_change_51 : decode cX7_change 51 = .ok (.aload_n 0, 1) := by decide +kernel
theorem dX7_change_52 : decode cX7_change 52 = .ok (.iconst 4, 1) := by decide +kernel
theorem dX7_change_53 : decode cX7_change 53 = .ok (.iload_n 1, 1) := by decide +kernel
theorem dX7_change_54 : decode cX7_change 54 = .ok (.imul, 1) := by decide +kernel
theorem dX7_change_55 : decode cX7_change 55 = .ok (.iload_n 2, 1) := by decide +kernel
theorem dX7_change_56 : decode cX7_change 56 = .ok (.iadd, 1) := by decide +kernel
theorem dX7_change_57 : decode cX7_change 57 = .ok (.invokevirtual 196, 3) := by decide +kernel
theorem dX7_change_60 : decode cX7_change 60 = .ok (.aload_n 0, 1) := by decide +kernel
theorem dX7_change_61 : decode cX7_change 61 = .ok (.getfield 44, 3) := by decide +kernel
theorem dX7_change_64 : decode cX7_change 64 = .ok (.aload_n 0, 1) := by decide +kernel
theorem dX7_change_65 : decode cX7_change 65 = .ok (.getfield 48, 3) := by decide +kernel
theorem dX7_change_68 : decode cX7_change 68 = .ok (.invokevirtual 199, 3) := by decide +kernel
theorem dX7_change_71 : decode cX7_change 71 = .ok (.ireturn, 1) := by decide +kernel
theorem dX7_wanted_0 : decode cX7_wanted 0 = .ok (.aload_n 0, 1) := by decide +kernel
theorem dX7_wanted_1 : decode cX7_wanted 1 = .ok (.iload_n 1, 1) := by decide +kernel
theorem dX7_wanted_2 : decode cX7_wanted 2 = .ok (.iload_n 2, 1) := by decide +kernel
theorem dX7_wanted_3 : decode cX7_wanted 3 = .ok (.invokevirtual 174, 3) := by decide +kernel
theorem dX7_wanted_6 : decode cX7_wanted 6 = .ok (.ifCond .eq 12, 3) := by decide +kernel
theorem dX7_wanted_9 : decode cX7_wanted 9 = .ok (.iload_n 3, 1) := by decide +kernel
theorem dX7_wanted_10 : decode cX7_wanted 10 = .ok (.bipush 10, 2) := by decide +kernel
theorem dX7_wanted_12 : decode cX7_wanted 12 = .ok (.invokestatic 76, 3) := by decide +kernel
theorem dX7_wanted_15 : decode cX7_wanted 15 = .ok (.ifCond .ne 6, 3) := by decide +kernel
theorem dX7_wanted_18 : decode cX7_wanted 18 = .ok (.bipush (-2), 2) := by decide +kernel
theorem dX7_wanted_20 : decode cX7_wanted 20 = .ok (.ireturn, 1) := by decide +kernel
theorem dX7_wanted_21 : decode cX7_wanted 21 = .ok (.aload_n 0, 1) := by decide +kernel
theorem dX7_wanted_22 : decode cX7_wanted 22 = .ok (.getfield 44, 3) := by decide +kernel
theorem dX7_wanted_25 : decode cX7_wanted 25 = .ok (.iload_n 1, 1) := by decide +kernel
theorem dX7_wanted_26 : decode cX7_wanted 26 = .ok (.iload_n 2, 1) := by decide +kernel
theorem dX7_wanted_27 : decode cX7_wanted 27 = .ok (.invokevirtual 177, 3) := by decide +kernel
theorem dX7_wanted_30 : decode cX7_wanted 30 = .ok (.iload_n 3, 1) := by decide +kernel
theorem dX7_wanted_31 : decode cX7_wanted 31 = .ok (.if_icmp .ne 5, 3) := by decide +kernel
theorem dX7_wanted_34 : decode cX7_wanted 34 = .ok (.iconst (-1), 1) := by decide +kernel
theorem dX7_wanted_35 : decode cX7_wanted 35 = .ok (.ireturn, 1) := by decide +kernel
theorem dX7_wanted_36 : decode cX7_wanted 36 = .ok (.iconst 0, 1) := by decide +kernel
theorem dX7_wanted_37 : decode cX7_wanted 37 = .ok (.istore 4, 2) := by decide +kernel
theorem dX7_wanted_39 : decode cX7_wanted 39 = .ok (.iload 4, 2) := by decide +kernel
theorem dX7_wanted_41 : decode cX7_wanted 41 = .ok (.iconst 4, 1) := by decide +kernel
theorem dX7_wanted_42 : decode cX7_wanted 42 = .ok (.aload_n 0, 1) := by decide +kernel
theorem dX7_wanted_43 : decode cX7_wanted 43 = .ok (.getfield 27, 3) := by decide +kernel
theorem dX7_wanted_46 : decode cX7_wanted 46 = .ok (.getfield 106, 3) := by decide +kernel
theorem dX7_wanted_49 : decode cX7_wanted 49 = .ok (.imul, 1) := by decide +kernel
theorem dX7_wanted_50 : decode cX7_wanted 50 = .ok (.if_icmp .ge 31, 3) := by decide +kernel
theorem dX7_wanted_53 : decode cX7_wanted 53 = .ok (.aload_n 0, 1) := by decide +kernel
theorem dX7_wanted_54 : decode cX7_wanted 54 = .ok (.iload 4, 2) := by decide +kernel
theorem dX7_wanted_56 : decode cX7_wanted 56 = .ok (.invokevirtual 196, 3) := by decide +kernel
theorem dX7_wanted_59 : decode cX7_wanted 59 = .ok (.aload_n 0, 1) := by decide +kernel
theorem dX7_wanted_60 : decode cX7_wanted 60 = .ok (.getfield 48, 3) := by decide +kernel
theorem dX7_wanted_63 : decode cX7_wanted 63 = .ok (.iload_n 1, 1) := by decide +kernel
theorem dX7_wanted_64 : decode cX7_wanted 64 = .ok (.iload_n 2, 1) := by decide +kernel
theorem dX7_wanted_65 : decode cX7_wanted 65 = .ok (.invokevirtual 177, 3) := by decide +kernel
theorem dX7_wanted_68 : decode cX7_wanted 68 = .ok (.iload_n 3, 1) := by decide +kernel
theorem dX7_wanted_69 : decode cX7_wanted 69 = .ok (.if_icmp .ne 6, 3) := by decide +kernel
theorem dX7_wanted_72 : decode cX7_wanted 72 = .ok (.iload 4, 2) := by decide +kernel
theorem dX7_wanted_74 : decode cX7_wanted 74 = .ok (.ireturn, 1) := by decide +kernel
theorem dX7_wanted_75 : decode cX7_wanted 75 = .ok (.iinc 4 1, 3) := by decide +kernel
theorem dX7_wanted_78 : decode cX7_wanted 78 = .ok (.goto (-39), 3) := by decide +kernel
theorem dX7_wanted_81 : decode cX7_wanted 81 = .ok (.iconst 0, 1) := by decide +kernel
theorem dX7_wanted_82 : decode cX7_wanted 82 = .ok (.istore 4, 2) := by decide +kernel
theorem dX7_wanted_84 : decode cX7_wanted 84 = .ok (.iload 4, 2) := by decide +kernel
theorem dX7_wanted_86 : decode cX7_wanted 86 = .ok (.aload_n 0, 1) := by decide +kernel
theorem dX7_wanted_87 : decode cX7_wanted 87 = .ok (.getfield 27, 3) := by decide +kernel
theorem dX7_wanted_90 : decode cX7_wanted 90 = .ok (.getfield 128, 3) := by decide +kernel
theorem dX7_wanted_93 : decode cX7_wanted 93 = .ok (.if_icmp .ge 37, 3) := by decide +kernel
theorem dX7_wanted_96 : decode cX7_wanted 96 = .ok (.aload_n 0, 1) := by decide +kernel
theorem dX7_wanted_97 : decode cX7_wanted 97 = .ok (.bipush 100, 2) := by decide +kernel
theorem dX7_wanted_99 : decode cX7_wanted 99 = .ok (.iload 4, 2) := by decide +kernel
theorem dX7_wanted_101 : decode cX7_wanted 101 = .ok (.iadd, 1) := by decide +kernel
theorem dX7_wanted_102 : decode cX7_wanted 102 = .ok (.invokevirtual 196, 3) := by decide +kernel
theorem dX7_wanted_105 : decode cX7_wanted 105 = .ok (.aload_n 0, 1) := by decide +kernel
theorem dX7_wanted_106 : decode cX7_wanted 106 = .ok (.getfield 48, 3) := by decide +kernel
theorem dX7_wanted_109 : decode cX7_wanted 109 = .ok (.iload_n 1, 1) := by decide +kernel
theorem dX7_wanted_110 : decode cX7_wanted 110 = .ok (.iload_n 2, 1) := by decide +kernel
theorem dX7_wanted_111 : decode cX7_wanted 111 = .ok (.invokevirtual 177, 3) := by decide +kernel
theorem dX7_wanted_114 : decode cX7_wanted 114 = .ok (.iload_n 3, 1) := by decide +kernel
theorem dX7_wanted_115 : decode cX7_wanted 115 = .ok (.if_icmp .ne 9, 3) := by decide +kernel
theorem dX7_wanted_118 : decode cX7_wanted 118 = .ok (.bipush 100, 2) := by decide +kernel
theorem dX7_wanted_120 : decode cX7_wanted 120 = .ok (.iload 4, 2) := by decide +kernel
theorem dX7_wanted_122 : decode cX7_wanted 122 = .ok (.iadd, 1) := by decide +kernel
theorem dX7_wanted_123 : decode cX7_wanted 123 = .ok (.ireturn, 1) := by decide +kernel
theorem dX7_wanted_124 : decode cX7_wanted 124 = .ok (.iinc 4 1, 3) := by decide +kernel
theorem dX7_wanted_127 : decode cX7_wanted 127 = .ok (.goto (-43), 3) := by decide +kernel
theorem dX7_wanted_130 : decode cX7_wanted 130 = .ok (.bipush (-9), 2) := by decide +kernel
theorem dX7_wanted_132 : decode cX7_wanted 132 = .ok (.ireturn, 1) := by decide +kernel
theorem dX7_sees_0 : decode cX7_sees 0 = .ok (.aload_n 0, 1) := by decide +kernel
theorem dX7_sees_1 : decode cX7_sees 1 = .ok (.iload_n 1, 1) := by decide +kernel
theorem dX7_sees_2 : decode cX7_sees 2 = .ok (.iload_n 2, 1) := by decide +kernel
theorem dX7_sees_3 : decode cX7_sees 3 = .ok (.invokevirtual 174, 3) := by decide +kernel
theorem dX7_sees_6 : decode cX7_sees 6 = .ok (.ifCond .eq 12, 3) := by decide +kernel
theorem dX7_sees_9 : decode cX7_sees 9 = .ok (.iload_n 3, 1) := by decide +kernel
theorem dX7_sees_10 : decode cX7_sees 10 = .ok (.bipush 10, 2) := by decide +kernel
theorem dX7_sees_12 : decode cX7_sees 12 = .ok (.invokestatic 76, 3) := by decide +kernel
theorem dX7_sees_15 : decode cX7_sees 15 = .ok (.ifCond .ne 6, 3) := by decide +kernel
theorem dX7_sees_18 : decode cX7_sees 18 = .ok (.bipush (-2), 2) := by decide +kernel
theorem dX7_sees_20 : decode cX7_sees 20 = .ok (.ireturn, 1) := by decide +kernel
theorem dX7_sees_21 : decode cX7_sees 21 = .ok (.aload_n 0, 1) := by decide +kernel
theorem dX7_sees_22 : decode cX7_sees 22 = .ok (.getfield 61, 3) := by decide +kernel
theorem dX7_sees_25 : decode cX7_sees 25 = .ok (.iload_n 1, 1) := by decide +kernel
theorem dX7_sees_26 : decode cX7_sees 26 = .ok (.iload_n 2, 1) := by decide +kernel
theorem dX7_sees_27 : decode cX7_sees 27 = .ok (.iload_n 3, 1) := by decide +kernel
theorem dX7_sees_28 : decode cX7_sees 28 = .ok (.invokevirtual 203, 3) := by decide +kernel
theorem dX7_sees_31 : decode cX7_sees 31 = .ok (.ifCond .ne 6, 3) := by decide +kernel
theorem dX7_sees_34 : decode cX7_sees 34 = .ok (.bipush (-4), 2) := by decide +kernel
theorem dX7_sees_36 : decode cX7_sees 36 = .ok (.ireturn, 1) := by decide +kernel
theorem dX7_sees_37 : decode cX7_sees 37 = .ok (.aload_n 0, 1) := by decide +kernel
theorem dX7_sees_38 : decode cX7_sees 38 = .ok (.getfield 61, 3) := by decide +kernel
theorem dX7_sees_41 : decode cX7_sees 41 = .ok (.getfield 207, 3) := by decide +kernel
theorem dX7_sees_44 : decode cX7_sees 44 = .ok (.ireturn, 1) := by decide +kernel
theorem dX7_forget_0 : decode cX7_forget 0 = .ok (.aload_n 0, 1) := by decide +kernel
theorem dX7_forget_1 : decode cX7_forget 1 = .ok (.getfield 61, 3) := by decide +kernel
theorem dX7_forget_4 : decode cX7_forget 4 = .ok (.getfield 207, 3) := by decide +kernel
theorem dX7_forget_7 : decode cX7_forget 7 = .ok (.istore_n 1, 1) := by decide +kernel
theorem dX7_forget_8 : decode cX7_forget 8 = .ok (.aload_n 0, 1) := by decide +kernel
theorem dX7_forget_9 : decode cX7_forget 9 = .ok (.getfield 61, 3) := by decide +kernel
theorem dX7_forget_12 : decode cX7_forget 12 = .ok (.invokevirtual 102, 3) := by decide +kernel
theorem dX7_forget_15 : decode cX7_forget 15 = .ok (.iload_n 1, 1) := by decide +kernel
theorem dX7_forget_16 : decode cX7_forget 16 = .ok (.ireturn, 1) := by decide +kernel
theorem dX7_unseen_0 : decode cX7_unseen 0 = .ok (.iconst 0, 1) := by decide +kernel
theorem dX7_unseen_1 : decode cX7_unseen 1 = .ok (.istore_n 1, 1) := by decide +kernel
theorem dX7_unseen_2 : decode cX7_unseen 2 = .ok (.iconst 0, 1) := by decide +kernel
theorem dX7_unseen_3 : decode cX7_unseen 3 = .ok (.istore_n 2, 1) := by decide +kernel
theorem dX7_unseen_4 : decode cX7_unseen 4 = .ok (.iload_n 2, 1) := by decide +kernel
theorem dX7_unseen_5 : decode cX7_unseen 5 = .ok (.aload_n 0, 1) := by decide +kernel
theorem dX7_unseen_6 : decode cX7_unseen 6 = .ok (.getfield 27, 3) := by decide +kernel
theorem dX7_unseen_9 : decode cX7_unseen 9 = .ok (.getfield 128, 3) := by decide +kernel
theorem dX7_unseen_12 : decode cX7_unseen 12 = .ok (.if_icmp .ge 37, 3) := by decide +kernel
theorem dX7_unseen_15 : decode cX7_unseen 15 = .ok (.aload_n 0, 1) := by decide +kernel
theorem dX7_unseen_16 : decode cX7_unseen 16 = .ok (.bipush 100, 2) := by decide +kernel
theorem dX7_unseen_18 : decode cX7_unseen 18 = .ok (.iload_n 2, 1) := by decide +kernel
theorem dX7_unseen_19 : decode cX7_unseen 19 = .ok (.iadd, 1) := by decide +kernel
theorem dX7_unseen_20 : decode cX7_unseen 20 = .ok (.invokevirtual 196, 3) := by decide +kernel
theorem dX7_unseen_23 : decode cX7_unseen 23 = .ok (.aload_n 0, 1) := by decide +kernel
theorem dX7_unseen_24 : decode cX7_unseen 24 = .ok (.getfield 61, 3) := by decide +kernel
theorem dX7_unseen_27 : decode cX7_unseen 27 = .ok (.aload_n 0, 1) := by decide +kernel
theorem dX7_unseen_28 : decode cX7_unseen 28 = .ok (.getfield 48, 3) := by decide +kernel
theorem dX7_unseen_31 : decode cX7_unseen 31 = .ok (.invokevirtual 208, 3) := by decide +kernel
theorem dX7_unseen_34 : decode cX7_unseen 34 = .ok (.ifCond .eq 9, 3) := by decide +kernel
theorem dX7_unseen_37 : decode cX7_unseen 37 = .ok (.iload_n 1, 1) := by decide +kernel
theorem dX7_unseen_38 : decode cX7_unseen 38 = .ok (.iconst 1, 1) := by decide +kernel
theorem dX7_unseen_39 : decode cX7_unseen 39 = .ok (.iload_n 2, 1) := by decide +kernel
theorem dX7_unseen_40 : decode cX7_unseen 40 = .ok (.ishl, 1) := by decide +kernel
theorem dX7_unseen_41 : decode cX7_unseen 41 = .ok (.ior, 1) := by decide +kernel
theorem dX7_unseen_42 : decode cX7_unseen 42 = .ok (.istore_n 1, 1) := by decide +kernel
theorem dX7_unseen_43 : decode cX7_unseen 43 = .ok (.iinc 2 1, 3) := by decide +kernel
theorem dX7_unseen_46 : decode cX7_unseen 46 = .ok (.goto (-42), 3) := by decide +kernel
theorem dX7_unseen_49 : decode cX7_unseen 49 = .ok (.iload_n 1, 1) := by decide +kernel
theorem dX7_unseen_50 : decode cX7_unseen 50 = .ok (.ireturn, 1) := by decide +kernel
theorem dX7_ask_0 : decode cX7_ask 0 = .ok (.aload_n 0, 1) := by decide +kernel
theorem dX7_ask_1 : decode cX7_ask 1 = .ok (.invokevirtual 212, 3) := by decide +kernel
theorem dX7_ask_4 : decode cX7_ask 4 = .ok (.istore_n 1, 1) := by decide +kernel
theorem dX7_ask_5 : decode cX7_ask 5 = .ok (.iload_n 1, 1) := by decide +kernel
theorem dX7_ask_6 : decode cX7_ask 6 = .ok (.invokestatic 215, 3) := by decide +kernel
theorem dX7_ask_9 : decode cX7_ask 9 = .ok (.iconst 1, 1) := by decide +kernel
theorem dX7_ask_10 : decode cX7_ask 10 = .ok (.if_icmp .gt 6, 3) := by decide +kernel
theorem dX7_ask_13 : decode cX7_ask 13 = .ok (.bipush (-9), 2) := by decide +kernel
theorem dX7_ask_15 : decode cX7_ask 15 = .ok (.ireturn, 1) := by decide +kernel
theorem dX7_ask_16 : decode cX7_ask 16 = .ok (.aload_n 0, 1) := by decide +kernel
theorem dX7_ask_17 : decode cX7_ask 17 = .ok (.iload_n 1, 1) := by decide +kernel
theorem dX7_ask_18 : decode cX7_ask 18 = .ok (.invokevirtual 220, 3) := by decide +kernel
theorem dX7_ask_21 : decode cX7_ask 21 = .ok (.bipush (-9), 2) := by decide +kernel
theorem dX7_ask_23 : decode cX7_ask 23 = .ok (.istore_n 2, 1) := by decide +kernel
theorem dX7_ask_24 : decode cX7_ask 24 = .ok (.iconst 0, 1) := by decide +kernel
theorem dX7_ask_25 : decode cX7_ask 25 = .ok (.istore_n 3, 1) := by decide +kernel
theorem dX7_ask_26 : decode cX7_ask 26 = .ok (.iconst 0, 1) := by decide +kernel
theorem dX7_ask_27 : decode cX7_ask 27 = .ok (.istore 4, 2) := by decide +kernel
theorem dX7_ask_29 : decode cX7_ask 29 = .ok (.iload 4, 2) := by decide +kernel
theorem dX7_ask_31 : decode cX7_ask 31 = .ok (.iconst 4, 1) := by decide +kernel
theorem dX7_ask_32 : decode cX7_ask 32 = .ok (.aload_n 0, 1) := by decide +kernel
theorem dX7_ask_33 : decode cX7_ask 33 = .ok (.getfield 27, 3) := by decide +kernel
theorem dX7_ask_36 : decode cX7_ask 36 = .ok (.getfield 106, 3) := by decide +kernel
theorem dX7_ask_39 : decode cX7_ask 39 = .ok (.imul, 1) := by decide +kernel
theorem dX7_ask_40 : decode cX7_ask 40 = .ok (.if_icmp .ge 33, 3) := by decide +kernel
theorem dX7_ask_43 : decode cX7_ask 43 = .ok (.aload_n 0, 1) := by decide +kernel
theorem dX7_ask_44 : decode cX7_ask 44 = .ok (.getfield 72, 3) := by decide +kernel
theorem dX7_ask_47 : decode cX7_ask 47 = .ok (.iload 4, 2) := by decide +kernel
theorem dX7_ask_49 : decode cX7_ask 49 = .ok (.iaload, 1) := by decide +kernel
theorem dX7_ask_50 : decode cX7_ask 50 = .ok (.invokestatic 215, 3) := by decide +kernel
theorem dX7_ask_53 : decode cX7_ask 53 = .ok (.istore 5, 2) := by decide +kernel
theorem dX7_ask_55 : decode cX7_ask 55 = .ok (.iload 5, 2) := by decide +kernel
theorem dX7_ask_57 : decode cX7_ask 57 = .ok (.iload_n 3, 1) := by decide +kernel
theorem dX7_ask_58 : decode cX7_ask 58 = .ok (.if_icmp .le 9, 3) := by decide +kernel
theorem dX7_ask_61 : decode cX7_ask 61 = .ok (.iload 5, 2) := by decide +kernel
theorem dX7_ask_63 : decode cX7_ask 63 = .ok (.istore_n 3, 1) := by decide +kernel
theorem dX7_ask_64 : decode cX7_ask 64 = .ok (.iload 4, 2) := by decide +kernel
theorem dX7_ask_66 : decode cX7_ask 66 = .ok (.istore_n 2, 1) := by decide +kernel
theorem dX7_ask_67 : decode cX7_ask 67 = .ok (.iinc 4 1, 3) := by decide +kernel
theorem dX7_ask_70 : decode cX7_ask 70 = .ok (.goto (-41), 3) := by decide +kernel
theorem dX7_ask_73 : decode cX7_ask 73 = .ok (.iload_n 2, 1) := by decide +kernel
theorem dX7_ask_74 : decode cX7_ask 74 = .ok (.ireturn, 1) := by decide +kernel
theorem dX7_keep_0 : decode cX7_keep 0 = .ok (.iload_n 1, 1) := by decide +kernel
theorem dX7_keep_1 : decode cX7_keep 1 = .ok (.iconst 2, 1) := by decide +kernel
theorem dX7_keep_2 : decode cX7_keep 2 = .ok (.invokestatic 76, 3) := by decide +kernel
theorem dX7_keep_5 : decode cX7_keep 5 = .ok (.ifCond .ne 6, 3) := by decide +kernel
theorem dX7_keep_8 : decode cX7_keep 8 = .ok (.bipush (-2), 2) := by decide +kernel
theorem dX7_keep_10 : decode cX7_keep 10 = .ok (.ireturn, 1) := by decide +kernel
theorem dX7_keep_11 : decode cX7_keep 11 = .ok (.aload_n 0, 1) := by decide +kernel
theorem dX7_keep_12 : decode cX7_keep 12 = .ok (.getfield 65, 3) := by decide +kernel
theorem dX7_keep_15 : decode cX7_keep 15 = .ok (.iload_n 1, 1) := by decide +kernel
theorem dX7_keep_16 : decode cX7_keep 16 = .ok (.aaload, 1) := by decide +kernel
theorem dX7_keep_17 : decode cX7_keep 17 = .ok (.aload_n 0, 1) := by decide +kernel
theorem dX7_keep_18 : decode cX7_keep 18 = .ok (.getfield 34, 3) := by decide +kernel
theorem dX7_keep_21 : decode cX7_keep 21 = .ok (.invokevirtual 95, 3) := by decide +kernel
theorem dX7_keep_24 : decode cX7_keep 24 = .ok (.aload_n 0, 1) := by decide +kernel
theorem dX7_keep_25 : decode cX7_keep 25 = .ok (.dup, 1) := by decide +kernel
theorem dX7_keep_26 : decode cX7_keep 26 = .ok (.getfield 69, 3) := by decide +kernel
theorem dX7_keep_29 : decode cX7_keep 29 = .ok (.iconst 1, 1) := by decide +kernel
theorem dX7_keep_30 : decode cX7_keep 30 = .ok (.iload_n 1, 1) := by decide +kernel
theorem dX7_keep_31 : decode cX7_keep 31 = .ok (.ishl, 1) := by decide +kernel
theorem dX7_keep_32 : decode cX7_keep 32 = .ok (.ior, 1) := by decide +kernel
theorem dX7_keep_33 : decode cX7_keep 33 = .ok (.putfield 69, 3) := by decide +kernel
theorem dX7_keep_36 : decode cX7_keep 36 = .ok (.aload_n 0, 1) := by decide +kernel
theorem dX7_keep_37 : decode cX7_keep 37 = .ok (.getfield 27, 3) := by decide +kernel
theorem dX7_keep_40 : decode cX7_keep 40 = .ok (.getfield 106, 3) := by decide +kernel
theorem dX7_keep_43 : decode cX7_keep 43 = .ok (.ireturn, 1) := by decide +kernel
theorem dX7_back_0 : decode cX7_back 0 = .ok (.iload_n 1, 1) := by decide +kernel
theorem dX7_back_1 : decode cX7_back 1 = .ok (.iconst 2, 1) := by decide +kernel
theorem dX7_back_2 : decode cX7_back 2 = .ok (.invokestatic 76, 3) := by decide +kernel
theorem dX7_back_5 : decode cX7_back 5 = .ok (.ifCond .ne 6, 3) := by decide +kernel
theorem dX7_back_8 : decode cX7_back 8 = .ok (.bipush (-2), 2) := by decide +kernel
theorem dX7_back_10 : decode cX7_back 10 = .ok (.ireturn, 1) := by decide +kernel
theorem dX7_back_11 : decode cX7_back 11 = .ok (.aload_n 0, 1) := by decide +kernel
theorem dX7_back_12 : decode cX7_back 12 = .ok (.getfield 69, 3) := by decide +kernel
theorem dX7_back_15 : decode cX7_back 15 = .ok (.iload_n 1, 1) := by decide +kernel
theorem dX7_back_16 : decode cX7_back 16 = .ok (.invokestatic 223, 3) := by decide +kernel
theorem dX7_back_19 : decode cX7_back 19 = .ok (.ifCond .ne 6, 3) := by decide +kernel
theorem dX7_back_22 : decode cX7_back 22 = .ok (.bipush (-3), 2) := by decide +kernel
theorem dX7_back_24 : decode cX7_back 24 = .ok (.ireturn, 1) := by decide +kernel
theorem dX7_back_25 : decode cX7_back 25 = .ok (.aload_n 0, 1) := by decide +kernel
theorem dX7_back_26 : decode cX7_back 26 = .ok (.getfield 34, 3) := by decide +kernel
theorem dX7_back_29 : decode cX7_back 29 = .ok (.aload_n 0, 1) := by decide +kernel
theorem dX7_back_30 : decode cX7_back 30 = .ok (.getfield 65, 3) := by decide +kernel
theorem dX7_back_33 : decode cX7_back 33 = .ok (.iload_n 1, 1) := by decide +kernel
theorem dX7_back_34 : decode cX7_back 34 = .ok (.aaload, 1) := by decide +kernel
theorem dX7_back_35 : decode cX7_back 35 = .ok (.invokevirtual 95, 3) := by decide +kernel
theorem dX7_back_38 : decode cX7_back 38 = .ok (.aload_n 0, 1) := by decide +kernel
theorem dX7_back_39 : decode cX7_back 39 = .ok (.getfield 54, 3) := by decide +kernel
theorem dX7_back_42 : decode cX7_back 42 = .ok (.invokevirtual 99, 3) := by decide +kernel
theorem dX7_back_45 : decode cX7_back 45 = .ok (.aload_n 0, 1) := by decide +kernel
theorem dX7_back_46 : decode cX7_back 46 = .ok (.invokevirtual 103, 3) := by decide +kernel
theorem dX7_back_49 : decode cX7_back 49 = .ok (.aload_n 0, 1) := by decide +kernel
theorem dX7_back_50 : decode cX7_back 50 = .ok (.getfield 27, 3) := by decide +kernel
theorem dX7_back_53 : decode cX7_back 53 = .ok (.getfield 106, 3) := by decide +kernel
theorem dX7_back_56 : decode cX7_back 56 = .ok (.ireturn, 1) := by decide +kernel
theorem dX7_count_0 : decode cX7_count 0 = .ok (.iload_n 1, 1) := by decide +kernel
theorem dX7_count_1 : decode cX7_count 1 = .ok (.tableswitch 96 0 6 #[43, 51, 59, 67, 75, 83, 88], 43) := by decide +kernel
theorem dX7_count_44 : decode cX7_count 44 = .ok (.aload_n 0, 1) := by decide +kernel
theorem dX7_count_45 : decode cX7_count 45 = .ok (.getfield 27, 3) := by decide +kernel
theorem dX7_count_48 : decode cX7_count 48 = .ok (.getfield 106, 3) := by decide +kernel
theorem dX7_count_51 : decode cX7_count 51 = .ok (.ireturn, 1) := by decide +kernel
theorem dX7_count_52 : decode cX7_count 52 = .ok (.aload_n 0, 1) := by decide +kernel
theorem dX7_count_53 : decode cX7_count 53 = .ok (.getfield 27, 3) := by decide +kernel
theorem dX7_count_56 : decode cX7_count 56 = .ok (.getfield 128, 3) := by decide +kernel
theorem dX7_count_59 : decode cX7_count 59 = .ok (.ireturn, 1) := by decide +kernel
theorem dX7_count_60 : decode cX7_count 60 = .ok (.aload_n 0, 1) := by decide +kernel
theorem dX7_count_61 : decode cX7_count 61 = .ok (.getfield 34, 3) := by decide +kernel
theorem dX7_count_64 : decode cX7_count 64 = .ok (.getfield 226, 3) := by decide +kernel
theorem dX7_count_67 : decode cX7_count 67 = .ok (.ireturn, 1) := by decide +kernel
theorem dX7_count_68 : decode cX7_count 68 = .ok (.aload_n 0, 1) := by decide +kernel
theorem dX7_count_69 : decode cX7_count 69 = .ok (.getfield 44, 3) := by decide +kernel
theorem dX7_count_72 : decode cX7_count 72 = .ok (.invokevirtual 229, 3) := by decide +kernel
theorem dX7_count_75 : decode cX7_count 75 = .ok (.ireturn, 1) := by decide +kernel
theorem dX7_count_76 : decode cX7_count 76 = .ok (.aload_n 0, 1) := by decide +kernel
theorem dX7_count_77 : decode cX7_count 77 = .ok (.getfield 61, 3) := by decide +kernel
theorem dX7_count_80 : decode cX7_count 80 = .ok (.getfield 207, 3) := by decide +kernel
theorem dX7_count_83 : decode cX7_count 83 = .ok (.ireturn, 1) := by decide +kernel
theorem dX7_count_84 : decode cX7_count 84 = .ok (.aload_n 0, 1) := by decide +kernel
theorem dX7_count_85 : decode cX7_count 85 = .ok (.getfield 13, 3) := by decide +kernel
theorem dX7_count_88 : decode cX7_count 88 = .ok (.ireturn, 1) := by decide +kernel
theorem dX7_count_89 : decode cX7_count 89 = .ok (.aload_n 0, 1) := by decide +kernel
theorem dX7_count_90 : decode cX7_count 90 = .ok (.getfield 54, 3) := by decide +kernel
theorem dX7_count_93 : decode cX7_count 93 = .ok (.getfield 171, 3) := by decide +kernel
theorem dX7_count_96 : decode cX7_count 96 = .ok (.ireturn, 1) := by decide +kernel
theorem dX7_count_97 : decode cX7_count 97 = .ok (.bipush (-2), 2) := by decide +kernel
theorem dX7_count_99 : decode cX7_count 99 = .ok (.ireturn, 1) := by decide +kernel
theorem dX7_within_0 : decode cX7_within 0 = .ok (.iload_n 0, 1) := by decide +kernel
theorem dX7_within_1 : decode cX7_within 1 = .ok (.ifCond .lt 12, 3) := by decide +kernel
theorem dX7_within_4 : decode cX7_within 4 = .ok (.iload_n 0, 1) := by decide +kernel
theorem dX7_within_5 : decode cX7_within 5 = .ok (.iload_n 1, 1) := by decide +kernel
theorem dX7_within_6 : decode cX7_within 6 = .ok (.if_icmp .ge 7, 3) := by decide +kernel
theorem dX7_within_9 : decode cX7_within 9 = .ok (.iconst 1, 1) := by decide +kernel
theorem dX7_within_10 : decode cX7_within 10 = .ok (.goto 4, 3) := by decide +kernel
theorem dX7_within_13 : decode cX7_within 13 = .ok (.iconst 0, 1) := by decide +kernel
theorem dX7_within_14 : decode cX7_within 14 = .ok (.ireturn, 1) := by decide +kernel
theorem dX7_hasBit_0 : decode cX7_hasBit 0 = .ok (.iload_n 0, 1) := by decide +kernel
theorem dX7_hasBit_1 : decode cX7_hasBit 1 = .ok (.iload_n 1, 1) := by decide +kernel
theorem dX7_hasBit_2 : decode cX7_hasBit 2 = .ok (.ishr, 1) := by decide +kernel
theorem dX7_hasBit_3 : decode cX7_hasBit 3 = .ok (.iconst 1, 1) := by decide +kernel
theorem dX7_hasBit_4 : decode cX7_hasBit 4 = .ok (.iand, 1) := by decide +kernel
theorem dX7_hasBit_5 : decode cX7_hasBit 5 = .ok (.iconst 1, 1) := by decide +kernel
theorem dX7_hasBit_6 : decode cX7_hasBit 6 = .ok (.if_icmp .ne 7, 3) := by decide +kernel
theorem dX7_hasBit_9 : decode cX7_hasBit 9 = .ok (.iconst 1, 1) := by decide +kernel
theorem dX7_hasBit_10 : decode cX7_hasBit 10 = .ok (.goto 4, 3) := by decide +kernel
theorem dX7_hasBit_13 : decode cX7_hasBit 13 = .ok (.iconst 0, 1) := by decide +kernel
theorem dX7_hasBit_14 : decode cX7_hasBit 14 = .ok (.ireturn, 1) := by decide +kernel
theorem dX7_isPlace_0 : decode cX7_isPlace 0 = .ok (.iload_n 1, 1) := by decide +kernel
theorem dX7_isPlace_1 : decode cX7_isPlace 1 = .ok (.aload_n 0, 1) := by decide +kernel
theorem dX7_isPlace_2 : decode cX7_isPlace 2 = .ok (.getfield 27, 3) := by decide +kernel
theorem dX7_isPlace_5 : decode cX7_isPlace 5 = .ok (.getfield 106, 3) := by decide +kernel
theorem dX7_isPlace_8 : decode cX7_isPlace 8 = .ok (.invokestatic 76, 3) := by decide +kernel
theorem dX7_isPlace_11 : decode cX7_isPlace 11 = .ok (.ifCond .eq 15, 3) := by decide +kernel
theorem dX7_isPlace_14 : decode cX7_isPlace 14 = .ok (.iload_n 2, 1) := by decide +kernel
theorem dX7_isPlace_15 : decode cX7_isPlace 15 = .ok (.iconst 4, 1) := by decide +kernel
theorem dX7_isPlace_16 : decode cX7_isPlace 16 = .ok (.invokestatic 76, 3) := by decide +kernel
theorem dX7_isPlace_19 : decode cX7_isPlace 19 = .ok (.ifCond .eq 7, 3) := by decide +kernel
theorem dX7_isPlace_22 : decode cX7_isPlace 22 = .ok (.iconst 1, 1) := by decide +kernel
theorem dX7_isPlace_23 : decode cX7_isPlace 23 = .ok (.goto 4, 3) := by decide +kernel
theorem dX7_isPlace_26 : decode cX7_isPlace 26 = .ok (.iconst 0, 1) := by decide +kernel
theorem dX7_isPlace_27 : decode cX7_isPlace 27 = .ok (.ireturn, 1) := by decide +kernel
theorem dX7_refresh_0 : decode cX7_refresh 0 = .ok (.aload_n 0, 1) := by decide +kernel
theorem dX7_refresh_1 : decode cX7_refresh 1 = .ok (.getfield 44, 3) := by decide +kernel
theorem dX7_refresh_4 : decode cX7_refresh 4 = .ok (.aload_n 0, 1) := by decide +kernel
theorem dX7_refresh_5 : decode cX7_refresh 5 = .ok (.getfield 27, 3) := by decide +kernel
theorem dX7_refresh_8 : decode cX7_refresh 8 = .ok (.aload_n 0, 1) := by decide +kernel
theorem dX7_refresh_9 : decode cX7_refresh 9 = .ok (.getfield 34, 3) := by decide +kernel
theorem dX7_refresh_12 : decode cX7_refresh 12 = .ok (.invokevirtual 232, 3) := by decide +kernel
theorem dX7_refresh_15 : decode cX7_refresh 15 = .ok (.return_, 1) := by decide +kernel
theorem dX7_perform_0 : decode cX7_perform 0 = .ok (.aload_n 0, 1) := by decide +kernel
theorem dX7_perform_1 : decode cX7_perform 1 = .ok (.getfield 34, 3) := by decide +kernel
theorem dX7_perform_4 : decode cX7_perform 4 = .ok (.iload_n 1, 1) := by decide +kernel
theorem dX7_perform_5 : decode cX7_perform 5 = .ok (.invokevirtual 167, 3) := by decide +kernel
theorem dX7_perform_8 : decode cX7_perform 8 = .ok (.aload_n 0, 1) := by decide +kernel
theorem dX7_perform_9 : decode cX7_perform 9 = .ok (.getfield 54, 3) := by decide +kernel
theorem dX7_perform_12 : decode cX7_perform 12 = .ok (.iload_n 2, 1) := by decide +kernel
theorem dX7_perform_13 : decode cX7_perform 13 = .ok (.invokevirtual 236, 3) := by decide +kernel
theorem dX7_perform_16 : decode cX7_perform 16 = .ok (.aload_n 0, 1) := by decide +kernel
theorem dX7_perform_17 : decode cX7_perform 17 = .ok (.invokevirtual 103, 3) := by decide +kernel
theorem dX7_perform_20 : decode cX7_perform 20 = .ok (.return_, 1) := by decide +kernel
theorem dX7_tryOut_0 : decode cX7_tryOut 0 = .ok (.aload_n 0, 1) := by decide +kernel
theorem dX7_tryOut_1 : decode cX7_tryOut 1 = .ok (.getfield 38, 3) := by decide +kernel
theorem dX7_tryOut_4 : decode cX7_tryOut 4 = .ok (.aload_n 0, 1) := by decide +kernel
theorem dX7_tryOut_5 : decode cX7_tryOut 5 = .ok (.getfield 34, 3) := by decide +kernel
theorem dX7_tryOut_8 : decode cX7_tryOut 8 = .ok (.invokevirtual 95, 3) := by decide +kernel
theorem dX7_tryOut_11 : decode cX7_tryOut 11 = .ok (.aload_n 0, 1) := by decide +kernel
theorem dX7_tryOut_12 : decode cX7_tryOut 12 = .ok (.getfield 38, 3) := by decide +kernel
theorem dX7_tryOut_15 : decode cX7_tryOut 15 = .ok (.iload_n 1, 1) := by decide +kernel
theorem dX7_tryOut_16 : decode cX7_tryOut 16 = .ok (.invokevirtual 167, 3) := by decide +kernel
theorem dX7_tryOut_19 : decode cX7_tryOut 19 = .ok (.aload_n 0, 1) := by decide +kernel
theorem dX7_tryOut_20 : decode cX7_tryOut 20 = .ok (.getfield 48, 3) := by decide +kernel
theorem dX7_tryOut_23 : decode cX7_tryOut 23 = .ok (.aload_n 0, 1) := by decide +kernel
theorem dX7_tryOut_24 : decode cX7_tryOut 24 = .ok (.getfield 27, 3) := by decide +kernel
theorem dX7_tryOut_27 : decode cX7_tryOut 27 = .ok (.aload_n 0, 1) := by decide +kernel
theorem dX7_tryOut_28 : decode cX7_tryOut 28 = .ok (.getfield 38, 3) := by decide +kernel
theorem dX7_tryOut_31 : decode cX7_tryOut 31 = .ok (.invokevirtual 232, 3) := by decide +kernel
theorem dX7_tryOut_34 : decode cX7_tryOut 34 = .ok (.return_, 1) := by decide +kernel
theorem dX7_gatherAnswers_0 : decode cX7_gatherAnswers 0 = .ok (.iconst 0, 1) := by decide +kernel
theorem dX7_gatherAnswers_1 : decode cX7_gatherAnswers 1 = .ok (.istore_n 2, 1) := by decide +kernel
theorem dX7_gatherAnswers_2 : decode cX7_gatherAnswers 2 = .ok (.iload_n 2, 1) := by decide +kernel
theorem dX7_gatherAnswers_3 : decode cX7_gatherAnswers 3 = .ok (.aload_n 0, 1) := by decide +kernel
theorem dX7_gatherAnswers_4 : decode cX7_gatherAnswers 4 = .ok (.getfield 72, 3) := by decide +kernel
theorem dX7_gatherAnswers_7 : decode cX7_gatherAnswers 7 = .ok (.arraylength, 1) := by decide +kernel
theorem dX7_gatherAnswers_8 : decode cX7_gatherAnswers 8 = .ok (.if_icmp .ge 16, 3) := by decide +kernel
theorem dX7_gatherAnswers_11 : decode cX7_gatherAnswers 11 = .ok (.aload_n 0, 1) := by decide +kernel
theorem dX7_gatherAnswers_12 : decode cX7_gatherAnswers 12 = .ok (.getfield 72, 3) := by decide +kernel
theorem dX7_gatherAnswers_15 : decode cX7_gatherAnswers 15 = .ok (.iload_n 2, 1) := by decide +kernel
theorem dX7_gatherAnswers_16 : decode cX7_gatherAnswers 16 = .ok (.iconst 0, 1) := by decide +kernel
theorem dX7_gatherAnswers_17 : decode cX7_gatherAnswers 17 = .ok (.iastore, 1) := by decide +kernel
theorem dX7_gatherAnswers_18 : decode cX7_gatherAnswers 18 = .ok (.iinc 2 1, 3) := by decide +kernel
theorem dX7_gatherAnswers_21 : decode cX7_gatherAnswers 21 = .ok (.goto (-19), 3) := by decide +kernel
theorem dX7_gatherAnswers_24 : decode cX7_gatherAnswers 24 = .ok (.iconst 0, 1) := by decide +kernel
theorem dX7_gatherAnswers_25 : decode cX7_gatherAnswers 25 = .ok (.istore_n 2, 1) := by decide +kernel
theorem dX7_gatherAnswers_26 : decode cX7_gatherAnswers 26 = .ok (.iload_n 2, 1) := by decide +kernel
theorem dX7_gatherAnswers_27 : decode cX7_gatherAnswers 27 = .ok (.aload_n 0, 1) := by decide +kernel
theorem dX7_gatherAnswers_28 : decode cX7_gatherAnswers 28 = .ok (.getfield 27, 3) := by decide +kernel
theorem dX7_gatherAnswers_31 : decode cX7_gatherAnswers 31 = .ok (.getfield 128, 3) := by decide +kernel
theorem dX7_gatherAnswers_34 : decode cX7_gatherAnswers 34 = .ok (.if_icmp .ge 29, 3) := by decide +kernel
theorem dX7_gatherAnswers_37 : decode cX7_gatherAnswers 37 = .ok (.iload_n 1, 1) := by decide +kernel
theorem dX7_gatherAnswers_38 : decode cX7_gatherAnswers 38 = .ok (.iload_n 2, 1) := by decide +kernel
theorem dX7_gatherAnswers_39 : decode cX7_gatherAnswers 39 = .ok (.invokestatic 223, 3) := by decide +kernel
theorem dX7_gatherAnswers_42 : decode cX7_gatherAnswers 42 = .ok (.ifCond .eq 15, 3) := by decide +kernel
theorem dX7_gatherAnswers_45 : decode cX7_gatherAnswers 45 = .ok (.aload_n 0, 1) := by decide +kernel
theorem dX7_gatherAnswers_46 : decode cX7_gatherAnswers 46 = .ok (.bipush 100, 2) := by decide +kernel
theorem dX7_gatherAnswers_48 : decode cX7_gatherAnswers 48 = .ok (.iload_n 2, 1) := by decide +kernel
theorem dX7_gatherAnswers_49 : decode cX7_gatherAnswers 49 = .ok (.iadd, 1) := by decide +kernel
theorem dX7_gatherAnswers_50 : decode cX7_gatherAnswers 50 = .ok (.invokevirtual 196, 3) := by decide +kernel
theorem dX7_gatherAnswers_53 : decode cX7_gatherAnswers 53 = .ok (.aload_n 0, 1) := by decide +kernel
theorem dX7_gatherAnswers_54 : decode cX7_gatherAnswers 54 = .ok (.invokevirtual 238, 3) := by decide +kernel
theorem dX7_gatherAnswers_57 : decode cX7_gatherAnswers 57 = .ok (.iinc 2 1, 3) := by decide +kernel
theorem dX7_gatherAnswers_60 : decode cX7_gatherAnswers 60 = .ok (.goto (-34), 3) := by decide +kernel
theorem dX7_gatherAnswers_63 : decode cX7_gatherAnswers 63 = .ok (.return_, 1) := by decide +kernel
theorem dX7_addAnswers_0 : decode cX7_addAnswers 0 = .ok (.iconst 0, 1) := by decide +kernel
theorem dX7_addAnswers_1 : decode cX7_addAnswers 1 = .ok (.istore_n 1, 1) := by decide +kernel
theorem dX7_addAnswers_2 : decode cX7_addAnswers 2 = .ok (.iload_n 1, 1) := by decide +kernel
theorem dX7_addAnswers_3 : decode cX7_addAnswers 3 = .ok (.aload_n 0, 1) := by decide +kernel
theorem dX7_addAnswers_4 : decode cX7_addAnswers 4 = .ok (.getfield 27, 3) := by decide +kernel
theorem dX7_addAnswers_7 : decode cX7_addAnswers 7 = .ok (.getfield 106, 3) := by decide +kernel
theorem dX7_addAnswers_10 : decode cX7_addAnswers 10 = .ok (.if_icmp .ge 46, 3) := by decide +kernel
theorem dX7_addAnswers_13 : decode cX7_addAnswers 13 = .ok (.iconst 0, 1) := by decide +kernel
theorem dX7_addAnswers_14 : decode cX7_addAnswers 14 = .ok (.istore_n 2, 1) := by decide +kernel
theorem dX7_addAnswers_15 : decode cX7_addAnswers 15 = .ok (.iload_n 2, 1) := by decide +kernel
theorem dX7_addAnswers_16 : decode cX7_addAnswers 16 = .ok (.iconst 4, 1) := by decide +kernel
theorem dX7_addAnswers_17 : decode cX7_addAnswers 17 = .ok (.if_icmp .ge 33, 3) := by decide +kernel
theorem dX7_addAnswers_20 : decode cX7_addAnswers 20 = .ok (.aload_n 0, 1) := by decide +kernel
theorem dX7_addAnswers_21 : decode cX7_addAnswers 21 = .ok (.getfield 72, 3) := by decide +kernel
theorem dX7_addAnswers_24 : decode cX7_addAnswers 24 = .ok (.iconst 4, 1) := by decide +kernel
theorem dX7_addAnswers_25 : decode cX7_addAnswers 25 = .ok (.iload_n 1, 1) := by decide +kernel
theorem dX7_addAnswers_26 : decode cX7_addAnswers 26 = .ok (.imul, 1) := by decide +kernel
theorem dX7_addAnswers_27 : decode cX7_addAnswers 27 = .ok (.iload_n 2, 1) := by decide +kernel
theorem dX7_addAnswers_28 : decode cX7_addAnswers 28 = .ok (.iadd, 1) := by decide +kernel
theorem dX7_addAnswers_29 : decode cX7_addAnswers 29 = .ok (.dup2, 1) := by decide +kernel
theorem dX7_addAnswers_30 : decode cX7_addAnswers 30 = .ok (.iaload, 1) := by decide +kernel
theorem dX7_addAnswers_31 : decode cX7_addAnswers 31 = .ok (.iconst 1, 1) := by decide +kernel
theorem dX7_addAnswers_32 : decode cX7_addAnswers 32 = .ok (.aload_n 0, 1) := by decide +kernel
theorem dX7_addAnswers_33 : decode cX7_addAnswers 33 = .ok (.getfield 48, 3) := by decide +kernel
theorem dX7_addAnswers_36 : decode cX7_addAnswers 36 = .ok (.iload_n 1, 1) := by decide +kernel
theorem dX7_addAnswers_37 : decode cX7_addAnswers 37 = .ok (.iload_n 2, 1) := by decide +kernel
theorem dX7_addAnswers_38 : decode cX7_addAnswers 38 = .ok (.invokevirtual 177, 3) := by decide +kernel
theorem dX7_addAnswers_41 : decode cX7_addAnswers 41 = .ok (.ishl, 1) := by decide +kernel
theorem dX7_addAnswers_42 : decode cX7_addAnswers 42 = .ok (.ior, 1) := by decide +kernel
theorem dX7_addAnswers_43 : decode cX7_addAnswers 43 = .ok (.iastore, 1) := by decide +kernel
theorem dX7_addAnswers_44 : decode cX7_addAnswers 44 = .ok (.iinc 2 1, 3) := by decide +kernel
theorem dX7_addAnswers_47 : decode cX7_addAnswers 47 = .ok (.goto (-32), 3) := by decide +kernel
theorem dX7_addAnswers_50 : decode cX7_addAnswers 50 = .ok (.iinc 1 1, 3) := by decide +kernel
theorem dX7_addAnswers_53 : decode cX7_addAnswers 53 = .ok (.goto (-51), 3) := by decide +kernel
theorem dX7_addAnswers_56 : decode cX7_addAnswers 56 = .ok (.return_, 1) := by decide +kernel
theorem dX8_init_0 : decode cX8_init 0 = .ok (.aload_n 0, 1) := by decide +kernel
theorem dX8_init_1 : decode cX8_init 1 = .ok (.invokespecial 1, 3) := by decide +kernel
theorem dX8_init_4 : decode cX8_init 4 = .ok (.aload_n 0, 1) := by decide +kernel
theorem dX8_init_5 : decode cX8_init 5 = .ok (.bipush 120, 2) := by decide +kernel
theorem dX8_init_7 : decode cX8_init 7 = .ok (.newarray .int, 2) := by decide +kernel
theorem dX8_init_9 : decode cX8_init 9 = .ok (.putfield 7, 3) := by decide +kernel
theorem dX8_init_12 : decode cX8_init 12 = .ok (.aload_n 0, 1) := by decide +kernel
theorem dX8_init_13 : decode cX8_init 13 = .ok (.sipush 140, 3) := by decide +kernel
theorem dX8_init_16 : decode cX8_init 16 = .ok (.newarray .int, 2) := by decide +kernel
theorem dX8_init_18 : decode cX8_init 18 = .ok (.putfield 13, 3) := by decide +kernel
theorem dX8_init_21 : decode cX8_init 21 = .ok (.aload_n 0, 1) := by decide +kernel
theorem dX8_init_22 : decode cX8_init 22 = .ok (.sipush 140, 3) := by decide +kernel
theorem dX8_init_25 : decode cX8_init 25 = .ok (.newarray .int, 2) := by decide +kernel
theorem dX8_init_27 : decode cX8_init 27 = .ok (.putfield 16, 3) := by decide +kernel
theorem dX8_init_30 : decode cX8_init 30 = .ok (.aload_n 0, 1) := by decide +kernel
theorem dX8_init_31 : decode cX8_init 31 = .ok (.bipush 19, 2) := by decide +kernel
theorem dX8_init_33 : decode cX8_init 33 = .ok (.newarray .int, 2) := by decide +kernel
theorem dX8_init_35 : decode cX8_init 35 = .ok (.putfield 19, 3) := by decide +kernel
theorem dX8_init_38 : decode cX8_init 38 = .ok (.aload_n 0, 1) := by decide +kernel
theorem dX8_init_39 : decode cX8_init 39 = .ok (.bipush 19, 2) := by decide +kernel
theorem dX8_init_41 : decode cX8_init 41 = .ok (.newarray .int, 2) := by decide +kernel
theorem dX8_init_43 : decode cX8_init 43 = .ok (.putfield 22, 3) := by decide +kernel
theorem dX8_init_46 : decode cX8_init 46 = .ok (.aload_n 0, 1) := by decide +kernel
theorem dX8_init_47 : decode cX8_init 47 = .ok (.sipush 190, 3) := by decide +kernel
theorem dX8_init_50 : decode cX8_init 50 = .ok (.newarray .int, 2) := by decide +kernel
theorem dX8_init_52 : decode cX8_init 52 = .ok (.putfield 25, 3) := by decide +kernel
theorem dX8_init_55 : decode cX8_init 55 = .ok (.aload_n 0, 1) := by decide +kernel
theorem dX8_init_56 : decode cX8_init 56 = .ok (.bipush 38, 2) := by decide +kernel
theorem dX8_init_58 : decode cX8_init 58 = .ok (.newarray .int, 2) := by decide +kernel
theorem dX8_init_60 : decode cX8_init 60 = .ok (.putfield 28, 3) := by decide +kernel
theorem dX8_init_63 : decode cX8_init 63 = .ok (.aload_n 0, 1) := by decide +kernel
theorem dX8_init_64 : decode cX8_init 64 = .ok (.iconst 2, 1) := by decide +kernel
theorem dX8_init_65 : decode cX8_init 65 = .ok (.newarray .boolean, 2) := by decide +kernel
theorem dX8_init_67 : decode cX8_init 67 = .ok (.putfield 31, 3) := by decide +kernel
theorem dX8_init_70 : decode cX8_init 70 = .ok (.aload_n 0, 1) := by decide +kernel
theorem dX8_init_71 : decode cX8_init 71 = .ok (.bipush 6, 2) := by decide +kernel
theorem dX8_init_73 : decode cX8_init 73 = .ok (.newarray .int, 2) := by decide +kernel
theorem dX8_init_75 : decode cX8_init 75 = .ok (.putfield 35, 3) := by decide +kernel
theorem dX8_init_78 : decode cX8_init 78 = .ok (.aload_n 0, 1) := by decide +kernel
theorem dX8_init_79 : decode cX8_init 79 = .ok (.bipush 6, 2) := by decide +kernel
theorem dX8_init_81 : decode cX8_init 81 = .ok (.newarray .int, 2) := by decide +kernel
theorem dX8_init_83 : decode cX8_init 83 = .ok (.putfield 38, 3) := by decide +kernel
theorem dX8_init_86 : decode cX8_init 86 = .ok (.aload_n 0, 1) := by decide +kernel
theorem dX8_init_87 : decode cX8_init 87 = .ok (.bipush 6, 2) := by decide +kernel
theorem dX8_init_89 : decode cX8_init 89 = .ok (.newarray .int, 2) := by decide +kernel
theorem dX8_init_91 : decode cX8_init 91 = .ok (.putfield 41, 3) := by decide +kernel
theorem dX8_init_94 : decode cX8_init 94 = .ok (.aload_n 0, 1) := by decide +kernel
theorem dX8_init_95 : decode cX8_init 95 = .ok (.bipush 36, 2) := by decide +kernel
theorem dX8_init_97 : decode cX8_init 97 = .ok (.newarray .int, 2) := by decide +kernel
theorem dX8_init_99 : decode cX8_init 99 = .ok (.putfield 44, 3) := by decide +kernel
theorem dX8_init_102 : decode cX8_init 102 = .ok (.aload_n 0, 1) := by decide +kernel
theorem dX8_init_103 : decode cX8_init 103 = .ok (.bipush 8, 2) := by decide +kernel
theorem dX8_init_105 : decode cX8_init 105 = .ok (.newarray .int, 2) := by decide +kernel
theorem dX8_init_107 : decode cX8_init 107 = .ok (.putfield 47, 3) := by decide +kernel
theorem dX8_init_110 : decode cX8_init 110 = .ok (.aload_n 0, 1) := by decide +kernel
theorem dX8_init_111 : decode cX8_init 111 = .ok (.invokevirtual 50, 3) := by decide +kernel
theorem dX8_init_114 : decode cX8_init 114 = .ok (.aload_n 0, 1) := by decide +kernel
theorem dX8_init_115 : decode cX8_init 115 = .ok (.invokevirtual 53, 3) := by decide +kernel
theorem dX8_init_118 : decode cX8_init 118 = .ok (.return_, 1) := by decide +kernel
theorem dX8_in_0 : decode cX8_in 0 = .ok (.iload_n 0, 1) := by decide +kernel
theorem dX8_in_1 : decode cX8_in 1 = .ok (.iload_n 1, 1) := by decide +kernel
theorem dX8_in_2 : decode cX8_in 2 = .ok (.if_icmp .lt 12, 3) := by decide +kernel
theorem dX8_in_5 : decode cX8_in 5 = .ok (.iload_n 0, 1) := by decide +kernel
theorem dX8_in_6 : decode cX8_in 6 = .ok (.iload_n 2, 1) := by decide +kernel
theorem dX8_in_7 : decode cX8_in 7 = .ok (.if_icmp .gt 7, 3) := by decide +kernel
theorem dX8_in_10 : decode cX8_in 10 = .ok (.iconst 1, 1) := by decide +kernel
theorem dX8_in_11 : decode cX8_in 11 = .ok (.goto 4, 3) := by decide +kernel
theorem dX8_in_14 : decode cX8_in 14 = .ok (.iconst 0, 1) := by decide +kernel
theorem dX8_in_15 : decode cX8_in 15 = .ok (.ireturn, 1) := by decide +kernel
theorem dX8_has_0 : decode cX8_has 0 = .ok (.iload_n 0, 1) := by decide +kernel
theorem dX8_has_1 : decode cX8_has 1 = .ok (.iload_n 1, 1) := by decide +kernel
theorem dX8_has_2 : decode cX8_has 2 = .ok (.ishr, 1) := by decide +kernel
theorem dX8_has_3 : decode cX8_has 3 = .ok (.iconst 1, 1) := by decide +kernel
theorem dX8_has_4 : decode cX8_has 4 = .ok (.iand, 1) := by decide +kernel
theorem dX8_has_5 : decode cX8_has 5 = .ok (.iconst 1, 1) := by decide +kernel
theorem dX8_has_6 : decode cX8_has 6 = .ok (.if_icmp .ne 7, 3) := by decide +kernel
theorem dX8_has_9 : decode cX8_has 9 = .ok (.iconst 1, 1) := by decide +kernel
theorem dX8_has_10 : decode cX8_has 10 = .ok (.goto 4, 3) := by decide +kernel
theorem dX8_has_13 : decode cX8_has 13 = .ok (.iconst 0, 1) := by decide +kernel
theorem dX8_has_14 : decode cX8_has 14 = .ok (.ireturn, 1) := by decide +kernel
theorem dX8_ones_0 : decode cX8_ones 0 = .ok (.iconst 0, 1) := by decide +kernel
theorem dX8_ones_1 : decode cX8_ones 1 = .ok (.istore_n 1, 1) := by decide +kernel
theorem dX8_ones_2 : decode cX8_ones 2 = .ok (.iload_n 0, 1) := by decide +kernel
theorem dX8_ones_3 : decode cX8_ones 3 = .ok (.istore_n 2, 1) := by decide +kernel
theorem dX8_ones_4 : decode cX8_ones 4 = .ok (.iload_n 2, 1) := by decide +kernel
theorem dX8_ones_5 : decode cX8_ones 5 = .ok (.ifCond .eq 15, 3) := by decide +kernel
theorem dX8_ones_8 : decode cX8_ones 8 = .ok (.iinc 1 1, 3) := by decide +kernel
theorem dX8_ones_11 : decode cX8_ones 11 = .ok (.iload_n 2, 1) := by decide +kernel
theorem dX8_ones_12 : decode cX8_ones 12 = .ok (.iload_n 2, 1) := by decide +kernel
theorem dX8_ones_13 : decode cX8_ones 13 = .ok (.iconst 1, 1) := by decide +kernel
theorem dX8_ones_14 : decode cX8_ones 14 = .ok (.isub, 1) := by decide +kernel
theorem dX8_ones_15 : decode cX8_ones 15 = .ok (.iand, 1) := by decide +kernel
theorem dX8_ones_16 : decode cX8_ones 16 = .ok (.istore_n 2, 1) := by decide +kernel
theorem dX8_ones_17 : decode cX8_ones 17 = .ok (.goto (-13), 3) := by decide +kernel
theorem dX8_ones_20 : decode cX8_ones 20 = .ok (.iload_n 1, 1) := by decide +kernel
theorem dX8_ones_21 : decode cX8_ones 21 = .ok (.ireturn, 1) := by decide +kernel
theorem dX8_type_0 : decode cX8_type 0 = .ok (.aload_n 0, 1) := by decide +kernel
theorem dX8_type_1 : decode cX8_type 1 = .ok (.iconst 0, 1) := by decide +kernel
theorem dX8_type_2 : decode cX8_type 2 = .ok (.putfield 56, 3) := by decide +kernel
theorem dX8_type_5 : decode cX8_type 5 = .ok (.iload_n 1, 1) := by decide +kernel
theorem dX8_type_6 : decode cX8_type 6 = .ok (.iconst 0, 1) := by decide +kernel
theorem dX8_type_7 : decode cX8_type 7 = .ok (.sipush 255, 3) := by decide +kernel
theorem dX8_type_10 : decode cX8_type 10 = .ok (.invokestatic 60, 3) := by decide +kernel
theorem dX8_type_13 : decode cX8_type 13 = .ok (.ifCond .ne 6, 3) := by decide +kernel
theorem dX8_type_16 : decode cX8_type 16 = .ok (.bipush (-2), 2) := by decide +kernel
theorem dX8_type_18 : decode cX8_type 18 = .ok (.ireturn, 1) := by decide +kernel
theorem dX8_type_19 : decode cX8_type 19 = .ok (.aload_n 0, 1) := by decide +kernel
theorem dX8_type_20 : decode cX8_type 20 = .ok (.getfield 64, 3) := by decide +kernel
theorem dX8_type_23 : decode cX8_type 23 = .ok (.bipush 120, 2) := by decide +kernel
theorem dX8_type_25 : decode cX8_type 25 = .ok (.if_icmp .ne 6, 3) := by decide +kernel
theorem dX8_type_28 : decode cX8_type 28 = .ok (.bipush (-4), 2) := by decide +kernel
theorem dX8_type_30 : decode cX8_type 30 = .ok (.ireturn, 1) := by decide +kernel
theorem dX8_type_31 : decode cX8_type 31 = .ok (.aload_n 0, 1) := by decide +kernel
theorem dX8_type_32 : decode cX8_type 32 = .ok (.getfield 7, 3) := by decide +kernel
theorem dX8_type_35 : decode cX8_type 35 = .ok (.aload_n 0, 1) := by decide +kernel
theorem dX8_type_36 : decode cX8_type 36 = .ok (.getfield 64, 3) := by decide +kernel
theorem dX8_type_39 : decode cX8_type 39 = .ok (.iload_n 1, 1) := by decide +kernel
theorem dX8_type_40 : decode cX8_type 40 = .ok (.iastore, 1) := by decide +kernel
theorem dX8_type_41 : decode cX8_type 41 = .ok (.aload_n 0, 1) := by decide +kernel
theorem dX8_type_42 : decode cX8_type 42 = .ok (.dup, 1) := by decide +kernel
theorem dX8_type_43 : decode cX8_type 43 = .ok (.getfield 64, 3) := by decide +kernel
theorem dX8_type_46 : decode cX8_type 46 = .ok (.iconst 1, 1) := by decide +kernel
theorem dX8_type_47 : decode cX8_type 47 = .ok (.iadd, 1) := by decide +kernel
theorem dX8_type_48 : decode cX8_type 48 = .ok (.putfield 64, 3) := by decide +kernel
theorem dX8_type_51 : decode cX8_type 51 = .ok (.aload_n 0, 1) := by decide +kernel
theorem dX8_type_52 : decode cX8_type 52 = .ok (.getfield 64, 3) := by decide +kernel
theorem dX8_type_55 : decode cX8_type 55 = .ok (.ireturn, 1) := by decide +kernel
theorem dX8_clear_0 : decode cX8_clear 0 = .ok (.aload_n 0, 1) := by decide +kernel
theorem dX8_clear_1 : decode cX8_clear 1 = .ok (.iconst 0, 1) := by decide +kernel
theorem dX8_clear_2 : decode cX8_clear 2 = .ok (.putfield 56, 3) := by decide +kernel
theorem dX8_clear_5 : decode cX8_clear 5 = .ok (.aload_n 0, 1) := by decide +kernel
theorem dX8_clear_6 : decode cX8_clear 6 = .ok (.getfield 64, 3) := by decide +kernel
theorem dX8_clear_9 : decode cX8_clear 9 = .ok (.istore_n 1, 1) := by decide +kernel
theorem dX8_clear_10 : decode cX8_clear 10 = .ok (.aload_n 0, 1) := by decide +kernel
theorem dX8_clear_11 : decode cX8_clear 11 = .ok (.iconst 0, 1) := by decide +kernel
theorem dX8_clear_12 : decode cX8_clear 12 = .ok (.putfield 64, 3) := by decide +kernel
theorem dX8_clear_15 : decode cX8_clear 15 = .ok (.iload_n 1, 1) := by decide +kernel
theorem dX8_clear_16 : decode cX8_clear 16 = .ok (.ireturn, 1) := by decide +kernel
theorem dX8_letterAt_0 : decode cX8_letterAt 0 = .ok (.iload_n 1, 1) := by decide +kernel
theorem dX8_letterAt_1 : decode cX8_letterAt 1 = .ok (.aload_n 0, 1) := by decide +kernel
theorem dX8_letterAt_2 : decode cX8_letterAt 2 = .ok (.getfield 64, 3) := by decide +kernel
theorem dX8_letterAt_5 : decode cX8_letterAt 5 = .ok (.if_icmp .ge 12, 3) := by decide +kernel
theorem dX8_letterAt_8 : decode cX8_letterAt 8 = .ok (.aload_n 0, 1) := by decide +kernel
theorem dX8_letterAt_9 : decode cX8_letterAt 9 = .ok (.getfield 7, 3) := by decide +kernel
theorem dX8_letterAt_12 : decode cX8_letterAt 12 = .ok (.iload_n 1, 1) := by decide +kernel
theorem dX8_letterAt_13 : decode cX8_letterAt 13 = .ok (.iaload, 1) := by decide +kernel
theorem dX8_letterAt_14 : decode cX8_letterAt 14 = .ok (.goto 4, 3) := by decide +kernel
theorem dX8_letterAt_17 : decode cX8_letterAt 17 = .ok (.iconst (-1), 1) := by decide +kernel
theorem dX8_letterAt_18 : decode cX8_letterAt 18 = .ok (.ireturn, 1) := by decide +kernel
theorem dX8_isSign_0 : decode cX8_isSign 0 = .ok (.iload_n 0, 1) := by decide +kernel
theorem dX8_isSign_1 : decode cX8_isSign 1 = .ok (.bipush 78, 2) := by decide +kernel
theorem dX8_isSign_3 : decode cX8_isSign 3 = .ok (.if_icmp .eq 84, 3) := by decide +kernel
theorem dX8_isSign_6 : decode cX8_isSign 6 = .ok (.iload_n 0, 1) := by decide +kernel
theorem dX8_isSign_7 : decode cX8_isSign 7 = .ok (.bipush 82, 2) := by decide +kernel
theorem dX8_isSign_9 : decode cX8_isSign 9 = .ok (.if_icmp .eq 78, 3) := by decide +kernel
theorem dX8_isSign_12 : decode cX8_isSign 12 = .ok (.iload_n 0, 1) := by decide +kernel
theorem dX8_isSign_13 : decode cX8_isSign 13 = .ok (.bipush 85, 2) := by decide +kernel
theorem dX8_isSign_15 : decode cX8_isSign 15 = .ok (.if_icmp .eq 72, 3) := by decide +kernel
theorem dX8_isSign_18 : decode cX8_isSign 18 = .ok (.iload_n 0, 1) := by decide +kernel
theorem dX8_isSign_19 : decode cX8_isSign 19 = .ok (.bipush 97, 2) := by decide +kernel
theorem dX8_isSign_21 : decode cX8_isSign 21 = .ok (.bipush 100, 2) := by decide +kernel
theorem dX8_isSign_23 : decode cX8_isSign 23 = .ok (.invokestatic 60, 3) := by decide +kernel
theorem dX8_isSign_26 : decode cX8_isSign 26 = .ok (.ifCond .ne 61, 3) := by decide +kernel
theorem dX8_isSign_29 : decode cX8_isSign 29 = .ok (.iload_n 0, 1) := by decide +kernel
theorem dX8_isSign_30 : decode cX8_isSign 30 = .ok (.bipush 112, 2) := by decide +kernel
theorem dX8_isSign_32 : decode cX8_isSign 32 = .ok (.bipush 115, 2) := by decide +kernel
theorem dX8_isSign_34 : decode cX8_isSign 34 = .ok (.invokestatic 60, 3) := by decide +kernel
theorem dX8_isSign_37 : decode cX8_isSign 37 = .ok (.ifCond .ne 50, 3) := by decide +kernel
theorem dX8_isSign_40 : decode cX8_isSign 40 = .ok (.iload_n 0, 1) := by decide +kernel
theorem dX8_isSign_41 : decode cX8_isSign 41 = .ok (.bipush 119, 2) := by decide +kernel
theorem dX8_isSign_43 : decode cX8_isSign 43 = .ok (.bipush 122, 2) := by decide +kernel
theorem dX8_isSign_45 : decode cX8_isSign 45 = .ok (.invokestatic 60, 3) := by decide +kernel
theorem dX8_isSign_48 : decode cX8_isSign 48 = .ok (.ifCond .ne 39, 3) := by decide +kernel
theorem dX8_isSign_51 : decode cX8_isSign 51 = .ok (.iload_n 0, 1) := by decide +kernel
theorem dX8_isSign_52 : decode cX8_isSign 52 = .ok (.bipush 62, 2) := by decide +kernel
theorem dX8_isSign_54 : decode cX8_isSign 54 = .ok (.if_icmp .eq 33, 3) := by decide +kernel
theorem dX8_isSign_57 : decode cX8_isSign 57 = .ok (.iload_n 0, 1) := by decide +kernel
theorem dX8_isSign_58 : decode cX8_isSign 58 = .ok (.bipush 47, 2) := by decide +kernel
theorem dX8_isSign_60 : decode cX8_isSign 60 = .ok (.if_icmp .eq 27, 3) := by decide +kernel
theorem dX8_isSign_63 : decode cX8_isSign 63 = .ok (.iload_n 0, 1) := by decide +kernel
theorem dX8_isSign_64 : decode cX8_isSign 64 = .ok (.bipush 46, 2) := by decide +kernel
theorem dX8_isSign_66 : decode cX8_isSign 66 = .ok (.if_icmp .eq 21, 3) := by decide +kernel
theorem dX8_isSign_69 : decode cX8_isSign 69 = .ok (.iload_n 0, 1) := by decide +kernel
theorem dX8_isSign_70 : decode cX8_isSign 70 = .ok (.bipush 58, 2) := by decide +kernel
theorem dX8_isSign_72 : decode cX8_isSign 72 = .ok (.if_icmp .eq 15, 3) := by decide +kernel
theorem dX8_isSign_75 : decode cX8_isSign 75 = .ok (.iload_n 0, 1) := by decide +kernel
theorem dX8_isSign_76 : decode cX8_isSign 76 = .ok (.bipush 33, 2) := by decide +kernel
theorem dX8_isSign_78 : decode cX8_isSign 78 = .ok (.if_icmp .eq 9, 3) := by decide +kernel
theorem dX8_isSign_81 : decode cX8_isSign 81 = .ok (.iload_n 0, 1) := by decide +kernel
theorem dX8_isSign_82 : decode cX8_isSign 82 = .ok (.bipush 59, 2) := by decide +kernel
theorem dX8_isSign_84 : decode cX8_isSign 84 = .ok (.if_icmp .ne 7, 3) := by decide +kernel
theorem dX8_isSign_87 : decode cX8_isSign 87 = .ok (.iconst 1, 1) := by decide +kernel
theorem dX8_isSign_88 : decode cX8_isSign 88 = .ok (.goto 4, 3) := by decide +kernel
theorem dX8_isSign_91 : decode cX8_isSign 91 = .ok (.iconst 0, 1) := by decide +kernel
theorem dX8_isSign_92 : decode cX8_isSign 92 = .ok (.ireturn, 1) := by decide +kernel
theorem dX8_advances_0 : decode cX8_advances 0 = .ok (.aload_n 0, 1) := by decide +kernel
theorem dX8_advances_1 : decode cX8_advances 1 = .ok (.aload_n 0, 1) := by decide +kernel
theorem dX8_advances_2 : decode cX8_advances 2 = .ok (.getfield 67, 3) := by decide +kernel
theorem dX8_advances_5 : decode cX8_advances 5 = .ok (.invokevirtual 70, 3) := by decide +kernel
theorem dX8_advances_8 : decode cX8_advances 8 = .ok (.bipush 32, 2) := by decide +kernel
theorem dX8_advances_10 : decode cX8_advances 10 = .ok (.if_icmp .ne 16, 3) := by decide +kernel
theorem dX8_advances_13 : decode cX8_advances 13 = .ok (.aload_n 0, 1) := by decide +kernel
theorem dX8_advances_14 : decode cX8_advances 14 = .ok (.dup, 1) := by decide +kernel
theorem dX8_advances_15 : decode cX8_advances 15 = .ok (.getfield 67, 3) := by decide +kernel
theorem dX8_advances_18 : decode cX8_advances 18 = .ok (.iconst 1, 1) := by decide +kernel
theorem dX8_advances_19 : decode cX8_advances 19 = .ok (.iadd, 1) := by decide +kernel
theorem dX8_advances_20 : decode cX8_advances 20 = .ok (.putfield 67, 3) := by decide +kernel
theorem dX8_advances_23 : decode cX8_advances 23 = .ok (.goto (-23), 3) := by decide +kernel
theorem dX8_advances_26 : decode cX8_advances 26 = .ok (.aload_n 0, 1) := by decide +kernel
theorem dX8_advances_27 : decode cX8_advances 27 = .ok (.aload_n 0, 1) := by decide +kernel
theorem dX8_advances_28 : decode cX8_advances 28 = .ok (.getfield 67, 3) := by decide +kernel
theorem dX8_advances_31 : decode cX8_advances 31 = .ok (.putfield 74, 3) := by decide +kernel
theorem dX8_advances_34 : decode cX8_advances 34 = .ok (.aload_n 0, 1) := by decide +kernel
theorem dX8_advances_35 : decode cX8_advances 35 = .ok (.aload_n 0, 1) := by decide +kernel
theorem dX8_advances_36 : decode cX8_advances 36 = .ok (.getfield 67, 3) := by decide +kernel
theorem dX8_advances_39 : decode cX8_advances 39 = .ok (.invokevirtual 70, 3) := by decide +kernel
theorem dX8_advances_42 : decode cX8_advances 42 = .ok (.istore_n 1, 1) := by decide +kernel
theorem dX8_advances_43 : decode cX8_advances 43 = .ok (.iload_n 1, 1) := by decide +kernel
theorem dX8_advances_44 : decode cX8_advances 44 = .ok (.ifCond .ge 11, 3) := by decide +kernel
theorem dX8_advances_47 : decode cX8_advances 47 = .ok (.aload_n 0, 1) := by decide +kernel
theorem dX8_advances_48 : decode cX8_advances 48 = .ok (.iconst 0, 1) := by decide +kernel
theorem dX8_advances_49 : decode cX8_advances 49 = .ok (.putfield 77, 3) := by decide +kernel
theorem dX8_advances_52 : decode cX8_advances 52 = .ok (.goto 154, 3) := by decide +kernel
theorem dX8_advances_55 : decode cX8_advances 55 = .ok (.iload_n 1, 1) := by decide +kernel
theorem dX8_advances_56 : decode cX8_advances 56 = .ok (.bipush 48, 2) := by decide +kernel
theorem dX8_advances_58 : decode cX8_advances 58 = .ok (.bipush 57, 2) := by decide +kernel
theorem dX8_advances_60 : decode cX8_advances 60 = .ok (.invokestatic 60, 3) := by decide +kernel
theorem dX8_advances_63 : decode cX8_advances 63 = .ok (.ifCond .eq 112, 3) := by decide +kernel
theorem dX8_advances_66 : decode cX8_advances 66 = .ok (.aload_n 0, 1) := by decide +kernel
theorem dX8_advances_67 : decode cX8_advances 67 = .ok (.iconst 0, 1) := by decide +kernel
theorem dX8_advances_68 : decode cX8_advances 68 = .ok (.putfield 80, 3) := by decide +kernel
theorem dX8_advances_71 : decode cX8_advances 71 = .ok (.aload_n 0, 1) := by decide +kernel
theorem dX8_advances_72 : decode cX8_advances 72 = .ok (.aload_n 0, 1) := by decide +kernel
theorem dX8_advances_73 : decode cX8_advances 73 = .ok (.getfield 67, 3) := by decide +kernel
theorem dX8_advances_76 : decode cX8_advances 76 = .ok (.invokevirtual 70, 3) := by decide +kernel
theorem dX8_advances_79 : decode cX8_advances 79 = .ok (.bipush 48, 2) := by decide +kernel
theorem dX8_advances_81 : decode cX8_advances 81 = .ok (.bipush 57, 2) := by decide +kernel
theorem dX8_advances_83 : decode cX8_advances 83 = .ok (.invokestatic 60, 3) := by decide +kernel
theorem dX8_advances_86 : decode cX8_advances 86 = .ok (.ifCond .eq 55, 3) := by decide +kernel
theorem dX8_advances_89 : decode cX8_advances 89 = .ok (.aload_n 0, 1) := by decide +kernel
theorem dX8_advances_90 : decode cX8_advances 90 = .ok (.aload_n 0, 1) := by decide +kernel
theorem dX8_advances_91 : decode cX8_advances 91 = .ok (.getfield 80, 3) := by decide +kernel
theorem dX8_advances_94 : decode cX8_advances 94 = .ok (.bipush 9, 2) := by decide +kernel
theorem dX8_advances_96 : decode cX8_advances 96 = .ok (.if_icmp .le 10, 3) := by decide +kernel
theorem dX8_advances_99 : decode cX8_advances 99 = .ok (.aload_n 0, 1) := by decide +kernel
theorem dX8_advances_100 : decode cX8_advances 100 = .ok (.getfield 80, 3) := by decide +kernel
theorem dX8_advances_103 : decode cX8_advances 103 = .ok (.goto 22, 3) := by decide +kernel
theorem dX8_advances_106 : decode cX8_advances 106 = .ok (.bipush 10, 2) := by decide +kernel
theorem dX8_advances_108 : decode cX8_advances 108 = .ok (.aload_n 0, 1) := by decide +kernel
theorem dX8_advances_109 : decode cX8_advances 109 = .ok (.getfield 80, 3) := by decide +kernel
theorem dX8_advances_112 : decode cX8_advances 112 = .ok (.imul, 1) := by decide +kernel
theorem dX8_advances_113 : decode cX8_advances 113 = .ok (.aload_n 0, 1) := by decide +kernel
theorem dX8_advances_114 : decode cX8_advances 114 = .ok (.aload_n 0, 1) := by decide +kernel
theorem dX8_advances_115 : decode cX8_advances 115 = .ok (.getfield 67, 3) := by decide +kernel
theorem dX8_advances_118 : decode cX8_advances 118 = .ok (.invokevirtual 70, 3) := by decide +kernel
theorem dX8_advances_121 : decode cX8_advances 121 = .ok (.iadd, 1) := by decide +kernel
theorem dX8_advances_122 : decode cX8_advances 122 = .ok (.bipush 48, 2) := by decide +kernel
theorem dX8_advances_124 : decode cX8_advances 124 = .ok (.isub, 1) := by decide +kernel
theorem dX8_advances_125 : decode cX8_advances 125 = .ok (.putfield 80, 3) := by decide +kernel
theorem dX8_advances_128 : decode cX8_advances 128 = .ok (.aload_n 0, 1) := by decide +kernel
theorem dX8_advances_129 : decode cX8_advances 129 = .ok (.dup, 1) := by decide +kernel
theorem dX8_advances_130 : decode cX8_advances 130 = .ok (.getfield 67, 3) := by decide +kernel
theorem dX8_advances_133 : decode cX8_advances 133 = .ok (.iconst 1, 1) := by decide +kernel
theorem dX8_advances_134 : decode cX8_advances 134 = .ok (.iadd, 1) := by decide +kernel
theorem dX8_advances_135 : decode cX8_advances 135 = .ok (.putfield 67, 3) := by decide +kernel
theorem dX8_advances_138 : decode cX8_advances 138 = .ok (.goto (-67), 3) := by decide +kernel
theorem dX8_advances_141 : decode cX8_advances 141 = .ok (.aload_n 0, 1) := by decide +kernel
theorem dX8_advances_142 : decode cX8_advances 142 = .ok (.aload_n 0, 1) := by decide +kernel
theorem dX8_advances_143 : decode cX8_advances 143 = .ok (.getfield 80, 3) := by decide +kernel
theorem dX8_advances_146 : decode cX8_advances 146 = .ok (.bipush 9, 2) := by decide +kernel
theorem dX8_advances_148 : decode cX8_advances 148 = .ok (.if_icmp .gt 16, 3) := by decide +kernel
theorem dX8_advances_151 : decode cX8_advances 151 = .ok (.aload_n 0, 1) := by decide +kernel
theorem dX8_advances_152 : decode cX8_advances 152 = .ok (.getfield 67, 3) := by decide +kernel
theorem dX8_advances_155 : decode cX8_advances 155 = .ok (.aload_n 0, 1) := by decide +kernel
theorem dX8_advances_156 : decode cX8_advances 156 = .ok (.getfield 74, 3) := by decide +kernel
theorem dX8_advances_159 : decode cX8_advances 159 = .ok (.isub, 1) := by decide +kernel
theorem dX8_advances_160 : decode cX8_advances 160 = .ok (.iconst 1, 1) := by decide +kernel
theorem dX8_advances_161 : decode cX8_advances 161 = .ok (.if_icmp .le 7, 3) := by decide +kernel
theorem dX8_advances_164 : decode cX8_advances 164 = .ok (.iconst 3, 1) := by decide +kernel
theorem dX8_advances_165 : decode cX8_advances 165 = .ok (.goto 4, 3) := by decide +kernel
theorem dX8_advances_168 : decode cX8_advances 168 = .ok (.iconst 2, 1) := by decide +kernel
theorem dX8_advances_169 : decode cX8_advances 169 = .ok (.putfield 77, 3) := by decide +kernel
theorem dX8_advances_172 : decode cX8_advances 172 = .ok (.goto 34, 3) := by decide +kernel
theorem dX8_advances_175 : decode cX8_advances 175 = .ok (.aload_n 0, 1) := by decide +kernel
theorem dX8_advances_176 : decode cX8_advances 176 = .ok (.dup, 1) := by decide +kernel
theorem dX8_advances_177 : decode cX8_advances 177 = .ok (.getfield 67, 3) := by decide +kernel
theorem dX8_advances_180 : decode cX8_advances 180 = .ok (.iconst 1, 1) := by decide +kernel
theorem dX8_advances_181 : decode cX8_advances 181 = .ok (.iadd, 1) := by decide +kernel
theorem dX8_advances_182 : decode cX8_advances 182 = .ok (.putfield 67, 3) := by decide +kernel
theorem dX8_advances_185 : decode cX8_advances 185 = .ok (.aload_n 0, 1) := by decide +kernel
theorem dX8_advances_186 : decode cX8_advances 186 = .ok (.iload_n 1, 1) := by decide +kernel
theorem dX8_advances_187 : decode cX8_advances 187 = .ok (.putfield 80, 3) := by decide +kernel
theorem dX8_advances_190 : decode cX8_advances 190 = .ok (.aload_n 0, 1) := by decide +kernel
theorem dX8_advances_191 : decode cX8_advances 191 = .ok (.iload_n 1, 1) := by decide +kernel
theorem dX8_advances_192 : decode cX8_advances 192 = .ok (.invokestatic 83, 3) := by decide +kernel
theorem dX8_advances_195 : decode cX8_advances 195 = .ok (.ifCond .eq 7, 3) := by decide +kernel
theorem dX8_advances_198 : decode cX8_advances 198 = .ok (.iconst 1, 1) := by decide +kernel
theorem dX8_advances_199 : decode cX8_advances 199 = .ok (.goto 4, 3) := by decide +kernel
theorem dX8_advances_202 : decode cX8_advances 202 = .ok (.iconst 3, 1) := by decide +kernel
theorem dX8_advances_203 : decode cX8_advances 203 = .ok (.putfield 77, 3) := by decide +kernel
theorem dX8_advances_206 : decode cX8_advances 206 = .ok (.return_, 1) := by decide +kernel
theorem dX8_isWell_0 : decode cX8_isWell 0 = .ok (.aload_n 0, 1) := by decide +kernel
theorem dX8_isWell_1 : decode cX8_isWell 1 = .ok (.getfield 87, 3) := by decide +kernel
theorem dX8_isWell_4 : decode cX8_isWell 4 = .ok (.ifCond .ge 7, 3) := by decide +kernel
theorem dX8_isWell_7 : decode cX8_isWell 7 = .ok (.iconst 1, 1) := by decide +kernel
theorem dX8_isWell_8 : decode cX8_isWell 8 = .ok (.goto 4, 3) := by decide +kernel
theorem dX8_isWell_11 : decode cX8_isWell 11 = .ok (.iconst 0, 1) := by decide +kernel
theorem dX8_isWell_12 : decode cX8_isWell 12 = .ok (.ireturn, 1) := by decide +kernel
theorem dX8_takes_0 : decode cX8_takes 0 = .ok (.aload_n 0, 1) := by decide +kernel
theorem dX8_takes_1 : decode cX8_takes 1 = .ok (.invokevirtual 90, 3) := by decide +kernel
theorem dX8_takes_4 : decode cX8_takes 4 = .ok (.ifCond .ne 5, 3) := by decide +kernel
theorem dX8_takes_7 : decode cX8_takes 7 = .ok (.iconst 0, 1) := by decide +kernel
theorem dX8_takes_8 : decode cX8_takes 8 = .ok (.ireturn, 1) := by decide +kernel
theorem dX8_takes_9 : decode cX8_takes 9 = .ok (.iload_n 1, 1) := by decide +kernel
theorem dX8_takes_10 : decode cX8_takes 10 = .ok (.ifCond .ne 13, 3) := by decide +kernel
theorem dX8_takes_13 : decode cX8_takes 13 = .ok (.aload_n 0, 1) := by decide +kernel
theorem dX8_takes_14 : decode cX8_takes 14 = .ok (.aload_n 0, 1) := by decide +kernel
theorem dX8_takes_15 : decode cX8_takes 15 = .ok (.getfield 74, 3) := by decide +kernel
theorem dX8_takes_18 : decode cX8_takes 18 = .ok (.putfield 87, 3) := by decide +kernel
theorem dX8_takes_21 : decode cX8_takes 21 = .ok (.iconst 0, 1) := by decide +kernel
theorem dX8_takes_22 : decode cX8_takes 22 = .ok (.ireturn, 1) := by decide +kernel
theorem dX8_takes_23 : decode cX8_takes 23 = .ok (.aload_n 0, 1) := by decide +kernel
theorem dX8_takes_24 : decode cX8_takes 24 = .ok (.getfield 80, 3) := by decide +kernel
theorem dX8_takes_27 : decode cX8_takes 27 = .ok (.istore_n 2, 1) := by decide +kernel
theorem dX8_takes_28 : decode cX8_takes 28 = .ok (.aload_n 0, 1) := by decide +kernel
theorem dX8_takes_29 : decode cX8_takes 29 = .ok (.invokevirtual 94, 3) := by decide +kernel
theorem dX8_takes_32 : decode cX8_takes 32 = .ok (.iload_n 2, 1) := by decide +kernel
theorem dX8_takes_33 : decode cX8_takes 33 = .ok (.ireturn, 1) := by decide +kernel
theorem dX8_isThis_0 : decode cX8_isThis 0 = .ok (.aload_n 0, 1) := by decide +kernel
theorem dX8_isThis_1 : decode cX8_isThis 1 = .ok (.invokevirtual 90, 3) := by decide +kernel
theorem dX8_isThis_4 : decode cX8_isThis 4 = .ok (.ifCond .eq 23, 3) := by decide +kernel
theorem dX8_isThis_7 : decode cX8_isThis 7 = .ok (.aload_n 0, 1) := by decide +kernel
theorem dX8_isThis_8 : decode cX8_isThis 8 = .ok (.getfield 77, 3) := by decide +kernel
theorem dX8_isThis_11 : decode cX8_isThis 11 = .ok (.iconst 1, 1) := by decide +kernel
theorem dX8_isThis_12 : decode cX8_isThis 12 = .ok (.if_icmp .ne 15, 3) := by decide +kernel
theorem dX8_isThis_15 : decode cX8_isThis 15 = .ok (.aload_n 0, 1) := by decide +kernel
theorem dX8_isThis_16 : decode cX8_isThis 16 = .ok (.getfield 80, 3) := by decide +kernel
theorem dX8_isThis_19 : decode cX8_isThis 19 = .ok (.iload_n 1, 1) := by decide +kernel
theorem dX8_isThis_20 : decode cX8_isThis 20 = .ok (.if_icmp .ne 7, 3) := by decide +kernel
theorem dX8_isThis_23 : decode cX8_isThis 23 = .ok (.iconst 1, 1) := by decide +kernel
theorem dX8_isThis_24 : decode cX8_isThis 24 = .ok (.goto 4, 3) := by decide +kernel
theorem dX8_isThis_27 : decode cX8_isThis 27 = .ok (.iconst 0, 1) := by decide +kernel
theorem dX8_isThis_28 : decode cX8_isThis 28 = .ok (.ireturn, 1) := by decide +kernel
theorem dX8_isFrom_0 : decode cX8_isFrom 0 = .ok (.aload_n 0, 1) := by decide +kernel
theorem dX8_isFrom_1 : decode cX8_isFrom 1 = .ok (.invokevirtual 90, 3) := by decide +kernel
theorem dX8_isFrom_4 : decode cX8_isFrom 4 = .ok (.ifCond .eq 27, 3) := by decide +kernel
theorem dX8_isFrom_7 : decode cX8_isFrom 7 = .ok (.aload_n 0, 1) := by decide +kernel
theorem dX8_isFrom_8 : decode cX8_isFrom 8 = .ok (.getfield 77, 3) := by decide +kernel
theorem dX8_isFrom_11 : decode cX8_isFrom 11 = .ok (.iconst 1, 1) := by decide +kernel
theorem dX8_isFrom_12 : decode cX8_isFrom 12 = .ok (.if_icmp .ne 19, 3) := by decide +kernel
theorem dX8_isFrom_15 : decode cX8_isFrom 15 = .ok (.aload_n 0, 1) := by decide +kernel
theorem dX8_isFrom_16 : decode cX8_isFrom 16 = .ok (.getfield 80, 3) := by decide +kernel
theorem dX8_isFrom_19 : decode cX8_isFrom 19 = .ok (.iload_n 1, 1) := by decide +kernel
theorem dX8_isFrom_20 : decode cX8_isFrom 20 = .ok (.iload_n 2, 1) := by decide +kernel
theorem dX8_isFrom_21 : decode cX8_isFrom 21 = .ok (.invokestatic 60, 3) := by decide +kernel
theorem dX8_isFrom_24 : decode cX8_isFrom 24 = .ok (.ifCond .eq 7, 3) := by decide +kernel
theorem dX8_isFrom_27 : decode cX8_isFrom 27 = .ok (.iconst 1, 1) := by decide +kernel
theorem dX8_isFrom_28 : decode cX8_isFrom 28 = .ok (.goto 4, 3) := by decide +kernel
theorem dX8_isFrom_31 : decode cX8_isFrom 31 = .ok (.iconst 0, 1) := by decide +kernel
theorem dX8_isFrom_32 : decode cX8_isFrom 32 = .ok (.ireturn, 1) := by decide +kernel
theorem dX8_begins_0 : decode cX8_begins 0 = .ok (.iconst 0, 1) := by decide +kernel
theorem dX8_begins_1 : decode cX8_begins 1 = .ok (.istore_n 1, 1) := by decide +kernel
theorem dX8_begins_2 : decode cX8_begins 2 = .ok (.iload_n 1, 1) := by decide +kernel
theorem dX8_begins_3 : decode cX8_begins 3 = .ok (.sipush 140, 3) := by decide +kernel
theorem dX8_begins_6 : decode cX8_begins 6 = .ok (.if_icmp .ge 33, 3) := by decide +kernel
theorem dX8_begins_9 : decode cX8_begins 9 = .ok (.aload_n 0, 1) := by decide +kernel
theorem dX8_begins_10 : decode cX8_begins 10 = .ok (.getfield 16, 3) := by decide +kernel
theorem dX8_begins_13 : decode cX8_begins 13 = .ok (.iload_n 1, 1) := by decide +kernel
theorem dX8_begins_14 : decode cX8_begins 14 = .ok (.iload_n 1, 1) := by decide +kernel
theorem dX8_begins_15 : decode cX8_begins 15 = .ok (.bipush 20, 2) := by decide +kernel
theorem dX8_begins_17 : decode cX8_begins 17 = .ok (.if_icmp .lt 14, 3) := by decide +kernel
theorem dX8_begins_20 : decode cX8_begins 20 = .ok (.iload_n 1, 1) := by decide +kernel
theorem dX8_begins_21 : decode cX8_begins 21 = .ok (.bipush 44, 2) := by decide +kernel
theorem dX8_begins_23 : decode cX8_begins 23 = .ok (.if_icmp .ge 8, 3) := by decide +kernel
theorem dX8_begins_26 : decode cX8_begins 26 = .ok (.bipush (-9), 2) := by decide +kernel
theorem dX8_begins_28 : decode cX8_begins 28 = .ok (.goto 4, 3) := by decide +kernel
theorem dX8_begins_31 : decode cX8_begins 31 = .ok (.iconst 0, 1) := by decide +kernel
theorem dX8_begins_32 : decode cX8_begins 32 = .ok (.iastore, 1) := by decide +kernel
theorem dX8_begins_33 : decode cX8_begins 33 = .ok (.iinc 1 1, 3) := by decide +kernel
theorem dX8_begins_36 : decode cX8_begins 36 = .ok (.goto (-34), 3) := by decide +kernel
theorem dX8_begins_39 : decode cX8_begins 39 = .ok (.iconst 0, 1) := by decide +kernel
theorem dX8_begins_40 : decode cX8_begins 40 = .ok (.istore_n 1, 1) := by decide +kernel
theorem dX8_begins_41 : decode cX8_begins 41 = .ok (.iload_n 1, 1) := by decide +kernel
theorem dX8_begins_42 : decode cX8_begins 42 = .ok (.bipush 19, 2) := by decide +kernel
theorem dX8_begins_44 : decode cX8_begins 44 = .ok (.if_icmp .ge 16, 3) := by decide +kernel
theorem dX8_begins_47 : decode cX8_begins 47 = .ok (.aload_n 0, 1) := by decide +kernel
theorem dX8_begins_48 : decode cX8_begins 48 = .ok (.getfield 19, 3) := by decide +kernel
theorem dX8_begins_51 : decode cX8_begins 51 = .ok (.iload_n 1, 1) := by decide +kernel
theorem dX8_begins_52 : decode cX8_begins 52 = .ok (.iconst 0, 1) := by decide +kernel
theorem dX8_begins_53 : decode cX8_begins 53 = .ok (.iastore, 1) := by decide +kernel
theorem dX8_begins_54 : decode cX8_begins 54 = .ok (.iinc 1 1, 3) := by decide +kernel
theorem dX8_begins_57 : decode cX8_begins 57 = .ok (.goto (-16), 3) := by decide +kernel
theorem dX8_begins_60 : decode cX8_begins 60 = .ok (.return_, 1) := by decide +kernel
theorem dX8_readsNode_0 : decode cX8_readsNode 0 = .ok (.aload_n 0, 1) := by decide +kernel
theorem dX8_readsNode_1 : decode cX8_readsNode 1 = .ok (.getfield 16, 3) := by decide +kernel
theorem dX8_readsNode_4 : decode cX8_readsNode 4 = .ok (.iconst 0, 1) := by decide +kernel
theorem dX8_readsNode_5 : decode cX8_readsNode 5 = .ok (.iaload, 1) := by decide +kernel
theorem dX8_readsNode_6 : decode cX8_readsNode 6 = .ok (.istore_n 1, 1) := by decide +kernel
theorem dX8_readsNode_7 : decode cX8_readsNode 7 = .ok (.aload_n 0, 1) := by decide +kernel
theorem dX8_readsNode_8 : decode cX8_readsNode 8 = .ok (.getfield 16, 3) := by decide +kernel
theorem dX8_readsNode_11 : decode cX8_readsNode 11 = .ok (.iconst 3, 1) := by decide +kernel
theorem dX8_readsNode_12 : decode cX8_readsNode 12 = .ok (.iload_n 1, 1) := by decide +kernel
theorem dX8_readsNode_13 : decode cX8_readsNode 13 = .ok (.iadd, 1) := by decide +kernel
theorem dX8_readsNode_14 : decode cX8_readsNode 14 = .ok (.iload_n 1, 1) := by decide +kernel
theorem dX8_readsNode_15 : decode cX8_readsNode 15 = .ok (.ifCond .ne 8, 3) := by decide +kernel
theorem dX8_readsNode_18 : decode cX8_readsNode 18 = .ok (.bipush (-9), 2) := by decide +kernel
theorem dX8_readsNode_20 : decode cX8_readsNode 20 = .ok (.goto 28, 3) := by decide +kernel
theorem dX8_readsNode_23 : decode cX8_readsNode 23 = .ok (.aload_n 0, 1) := by decide +kernel
theorem dX8_readsNode_24 : decode cX8_readsNode 24 = .ok (.aload_n 0, 1) := by decide +kernel
theorem dX8_readsNode_25 : decode cX8_readsNode 25 = .ok (.getfield 77, 3) := by decide +kernel
theorem dX8_readsNode_28 : decode cX8_readsNode 28 = .ok (.iconst 2, 1) := by decide +kernel
theorem dX8_readsNode_29 : decode cX8_readsNode 29 = .ok (.if_icmp .ne 15, 3) := by decide +kernel
theorem dX8_readsNode_32 : decode cX8_readsNode 32 = .ok (.aload_n 0, 1) := by decide +kernel
theorem dX8_readsNode_33 : decode cX8_readsNode 33 = .ok (.getfield 80, 3) := by decide +kernel
theorem dX8_readsNode_36 : decode cX8_readsNode 36 = .ok (.iload_n 1, 1) := by decide +kernel
theorem dX8_readsNode_37 : decode cX8_readsNode 37 = .ok (.if_icmp .ge 7, 3) := by decide +kernel
theorem dX8_readsNode_40 : decode cX8_readsNode 40 = .ok (.iconst 1, 1) := by decide +kernel
