theorem dX8_lookedAt_146 : decode cX8_lookedAt 146 = .ok (.ifCond .eq 10, 3) := by decide +kernel
theorem dX8_lookedAt_149 : decode cX8_lookedAt 149 = .ok (.iconst 1, 1) := by decide +kernel
theorem dX8_lookedAt_150 : decode cX8_lookedAt 150 = .ok (.iload 8, 2) := by decide +kernel
theorem dX8_lookedAt_152 : decode cX8_lookedAt 152 = .ok (.ishl, 1) := by decide +kernel
theorem dX8_lookedAt_153 : decode cX8_lookedAt 153 = .ok (.goto 4, 3) := by decide +kernel
theorem dX8_lookedAt_156 : decode cX8_lookedAt 156 = .ok (.iconst 0, 1) := by decide +kernel
theorem dX8_lookedAt_157 : decode cX8_lookedAt 157 = .ok (.ior, 1) := by decide +kernel
theorem dX8_lookedAt_158 : decode cX8_lookedAt 158 = .ok (.istore_n 3, 1) := by decide +kernel
theorem dX8_lookedAt_159 : decode cX8_lookedAt 159 = .ok (.iinc 8 1, 3) := by decide +kernel
theorem dX8_lookedAt_162 : decode cX8_lookedAt 162 = .ok (.goto (-58), 3) := by decide +kernel
theorem dX8_lookedAt_165 : decode cX8_lookedAt 165 = .ok (.iinc 7 1, 3) := by decide +kernel
theorem dX8_lookedAt_168 : decode cX8_lookedAt 168 = .ok (.goto (-128), 3) := by decide +kernel
theorem dX8_lookedAt_171 : decode cX8_lookedAt 171 = .ok (.iinc 5 1, 3) := by decide +kernel
theorem dX8_lookedAt_174 : decode cX8_lookedAt 174 = .ok (.goto (-162), 3) := by decide +kernel
theorem dX8_lookedAt_177 : decode cX8_lookedAt 177 = .ok (.iload_n 3, 1) := by decide +kernel
theorem dX8_lookedAt_178 : decode cX8_lookedAt 178 = .ok (.ireturn, 1) := by decide +kernel
theorem dX8_different_0 : decode cX8_different 0 = .ok (.aload_n 0, 1) := by decide +kernel
theorem dX8_different_1 : decode cX8_different 1 = .ok (.invokevirtual 165, 3) := by decide +kernel
theorem dX8_different_4 : decode cX8_different 4 = .ok (.iconst 0, 1) := by decide +kernel
theorem dX8_different_5 : decode cX8_different 5 = .ok (.istore_n 3, 1) := by decide +kernel
theorem dX8_different_6 : decode cX8_different 6 = .ok (.iload_n 3, 1) := by decide +kernel
theorem dX8_different_7 : decode cX8_different 7 = .ok (.iconst 4, 1) := by decide +kernel
theorem dX8_different_8 : decode cX8_different 8 = .ok (.aload_n 0, 1) := by decide +kernel
theorem dX8_different_9 : decode cX8_different 9 = .ok (.getfield 13, 3) := by decide +kernel
theorem dX8_different_12 : decode cX8_different 12 = .ok (.iconst 0, 1) := by decide +kernel
theorem dX8_different_13 : decode cX8_different 13 = .ok (.iaload, 1) := by decide +kernel
theorem dX8_different_14 : decode cX8_different 14 = .ok (.imul, 1) := by decide +kernel
theorem dX8_different_15 : decode cX8_different 15 = .ok (.if_icmp .ge 25, 3) := by decide +kernel
theorem dX8_different_18 : decode cX8_different 18 = .ok (.aload_n 0, 1) := by decide +kernel
theorem dX8_different_19 : decode cX8_different 19 = .ok (.getfield 44, 3) := by decide +kernel
theorem dX8_different_22 : decode cX8_different 22 = .ok (.iload_n 3, 1) := by decide +kernel
theorem dX8_different_23 : decode cX8_different 23 = .ok (.aload_n 0, 1) := by decide +kernel
theorem dX8_different_24 : decode cX8_different 24 = .ok (.iload_n 3, 1) := by decide +kernel
theorem dX8_different_25 : decode cX8_different 25 = .ok (.iconst 4, 1) := by decide +kernel
theorem dX8_different_26 : decode cX8_different 26 = .ok (.idiv, 1) := by decide +kernel
theorem dX8_different_27 : decode cX8_different 27 = .ok (.iload_n 3, 1) := by decide +kernel
theorem dX8_different_28 : decode cX8_different 28 = .ok (.iconst 4, 1) := by decide +kernel
theorem dX8_different_29 : decode cX8_different 29 = .ok (.irem, 1) := by decide +kernel
theorem dX8_different_30 : decode cX8_different 30 = .ok (.invokevirtual 156, 3) := by decide +kernel
theorem dX8_different_33 : decode cX8_different 33 = .ok (.iastore, 1) := by decide +kernel
theorem dX8_different_34 : decode cX8_different 34 = .ok (.iinc 3 1, 3) := by decide +kernel
theorem dX8_different_37 : decode cX8_different 37 = .ok (.goto (-31), 3) := by decide +kernel
theorem dX8_different_40 : decode cX8_different 40 = .ok (.aload_n 0, 1) := by decide +kernel
theorem dX8_different_41 : decode cX8_different 41 = .ok (.getfield 22, 3) := by decide +kernel
theorem dX8_different_44 : decode cX8_different 44 = .ok (.bipush 9, 2) := by decide +kernel
theorem dX8_different_46 : decode cX8_different 46 = .ok (.iload_n 1, 1) := by decide +kernel
theorem dX8_different_47 : decode cX8_different 47 = .ok (.iadd, 1) := by decide +kernel
theorem dX8_different_48 : decode cX8_different 48 = .ok (.dup2, 1) := by decide +kernel
theorem dX8_different_49 : decode cX8_different 49 = .ok (.iaload, 1) := by decide +kernel
theorem dX8_different_50 : decode cX8_different 50 = .ok (.iconst 1, 1) := by decide +kernel
theorem dX8_different_51 : decode cX8_different 51 = .ok (.iload_n 2, 1) := by decide +kernel
theorem dX8_different_52 : decode cX8_different 52 = .ok (.ishl, 1) := by decide +kernel
theorem dX8_different_53 : decode cX8_different 53 = .ok (.ixor, 1) := by decide +kernel
theorem dX8_different_54 : decode cX8_different 54 = .ok (.iastore, 1) := by decide +kernel
theorem dX8_different_55 : decode cX8_different 55 = .ok (.aload_n 0, 1) := by decide +kernel
theorem dX8_different_56 : decode cX8_different 56 = .ok (.invokevirtual 165, 3) := by decide +kernel
theorem dX8_different_59 : decode cX8_different 59 = .ok (.iconst 0, 1) := by decide +kernel
theorem dX8_different_60 : decode cX8_different 60 = .ok (.istore_n 3, 1) := by decide +kernel
theorem dX8_different_61 : decode cX8_different 61 = .ok (.iconst 0, 1) := by decide +kernel
theorem dX8_different_62 : decode cX8_different 62 = .ok (.istore 4, 2) := by decide +kernel
theorem dX8_different_64 : decode cX8_different 64 = .ok (.iload 4, 2) := by decide +kernel
theorem dX8_different_66 : decode cX8_different 66 = .ok (.iconst 4, 1) := by decide +kernel
theorem dX8_different_67 : decode cX8_different 67 = .ok (.aload_n 0, 1) := by decide +kernel
theorem dX8_different_68 : decode cX8_different 68 = .ok (.getfield 13, 3) := by decide +kernel
theorem dX8_different_71 : decode cX8_different 71 = .ok (.iconst 0, 1) := by decide +kernel
theorem dX8_different_72 : decode cX8_different 72 = .ok (.iaload, 1) := by decide +kernel
theorem dX8_different_73 : decode cX8_different 73 = .ok (.imul, 1) := by decide +kernel
theorem dX8_different_74 : decode cX8_different 74 = .ok (.if_icmp .ge 44, 3) := by decide +kernel
theorem dX8_different_77 : decode cX8_different 77 = .ok (.iload_n 3, 1) := by decide +kernel
theorem dX8_different_78 : decode cX8_different 78 = .ok (.aload_n 0, 1) := by decide +kernel
theorem dX8_different_79 : decode cX8_different 79 = .ok (.iload 4, 2) := by decide +kernel
theorem dX8_different_81 : decode cX8_different 81 = .ok (.iconst 4, 1) := by decide +kernel
theorem dX8_different_82 : decode cX8_different 82 = .ok (.idiv, 1) := by decide +kernel
theorem dX8_different_83 : decode cX8_different 83 = .ok (.iload 4, 2) := by decide +kernel
theorem dX8_different_85 : decode cX8_different 85 = .ok (.iconst 4, 1) := by decide +kernel
theorem dX8_different_86 : decode cX8_different 86 = .ok (.irem, 1) := by decide +kernel
theorem dX8_different_87 : decode cX8_different 87 = .ok (.invokevirtual 156, 3) := by decide +kernel
theorem dX8_different_90 : decode cX8_different 90 = .ok (.aload_n 0, 1) := by decide +kernel
theorem dX8_different_91 : decode cX8_different 91 = .ok (.getfield 44, 3) := by decide +kernel
theorem dX8_different_94 : decode cX8_different 94 = .ok (.iload 4, 2) := by decide +kernel
theorem dX8_different_96 : decode cX8_different 96 = .ok (.iaload, 1) := by decide +kernel
theorem dX8_different_97 : decode cX8_different 97 = .ok (.if_icmp .eq 12, 3) := by decide +kernel
theorem dX8_different_100 : decode cX8_different 100 = .ok (.iconst 1, 1) := by decide +kernel
theorem dX8_different_101 : decode cX8_different 101 = .ok (.iload 4, 2) := by decide +kernel
theorem dX8_different_103 : decode cX8_different 103 = .ok (.iconst 4, 1) := by decide +kernel
theorem dX8_different_104 : decode cX8_different 104 = .ok (.idiv, 1) := by decide +kernel
theorem dX8_different_105 : decode cX8_different 105 = .ok (.ishl, 1) := by decide +kernel
theorem dX8_different_106 : decode cX8_different 106 = .ok (.goto 4, 3) := by decide +kernel
theorem dX8_different_109 : decode cX8_different 109 = .ok (.iconst 0, 1) := by decide +kernel
theorem dX8_different_110 : decode cX8_different 110 = .ok (.ior, 1) := by decide +kernel
theorem dX8_different_111 : decode cX8_different 111 = .ok (.istore_n 3, 1) := by decide +kernel
theorem dX8_different_112 : decode cX8_different 112 = .ok (.iinc 4 1, 3) := by decide +kernel
theorem dX8_different_115 : decode cX8_different 115 = .ok (.goto (-51), 3) := by decide +kernel
theorem dX8_different_118 : decode cX8_different 118 = .ok (.aload_n 0, 1) := by decide +kernel
theorem dX8_different_119 : decode cX8_different 119 = .ok (.getfield 22, 3) := by decide +kernel
theorem dX8_different_122 : decode cX8_different 122 = .ok (.bipush 9, 2) := by decide +kernel
theorem dX8_different_124 : decode cX8_different 124 = .ok (.iload_n 1, 1) := by decide +kernel
theorem dX8_different_125 : decode cX8_different 125 = .ok (.iadd, 1) := by decide +kernel
theorem dX8_different_126 : decode cX8_different 126 = .ok (.dup2, 1) := by decide +kernel
theorem dX8_different_127 : decode cX8_different 127 = .ok (.iaload, 1) := by decide +kernel
theorem dX8_different_128 : decode cX8_different 128 = .ok (.iconst 1, 1) := by decide +kernel
theorem dX8_different_129 : decode cX8_different 129 = .ok (.iload_n 2, 1) := by decide +kernel
theorem dX8_different_130 : decode cX8_different 130 = .ok (.ishl, 1) := by decide +kernel
theorem dX8_different_131 : decode cX8_different 131 = .ok (.ixor, 1) := by decide +kernel
theorem dX8_different_132 : decode cX8_different 132 = .ok (.iastore, 1) := by decide +kernel
theorem dX8_different_133 : decode cX8_different 133 = .ok (.iload_n 3, 1) := by decide +kernel
theorem dX8_different_134 : decode cX8_different 134 = .ok (.ireturn, 1) := by decide +kernel
theorem dX8_change_0 : decode cX8_change 0 = .ok (.aload_n 0, 1) := by decide +kernel
theorem dX8_change_1 : decode cX8_change 1 = .ok (.iconst 0, 1) := by decide +kernel
theorem dX8_change_2 : decode cX8_change 2 = .ok (.putfield 56, 3) := by decide +kernel
theorem dX8_change_5 : decode cX8_change 5 = .ok (.aload_n 0, 1) := by decide +kernel
theorem dX8_change_6 : decode cX8_change 6 = .ok (.iload_n 1, 1) := by decide +kernel
theorem dX8_change_7 : decode cX8_change 7 = .ok (.invokevirtual 162, 3) := by decide +kernel
theorem dX8_change_10 : decode cX8_change 10 = .ok (.ifCond .eq 19, 3) := by decide +kernel
theorem dX8_change_13 : decode cX8_change 13 = .ok (.iload_n 2, 1) := by decide +kernel
theorem dX8_change_14 : decode cX8_change 14 = .ok (.invokestatic 177, 3) := by decide +kernel
theorem dX8_change_17 : decode cX8_change 17 = .ok (.ifCond .eq 12, 3) := by decide +kernel
theorem dX8_change_20 : decode cX8_change 20 = .ok (.iload_n 3, 1) := by decide +kernel
theorem dX8_change_21 : decode cX8_change 21 = .ok (.iconst 0, 1) := by decide +kernel
theorem dX8_change_22 : decode cX8_change 22 = .ok (.iconst 1, 1) := by decide +kernel
theorem dX8_change_23 : decode cX8_change 23 = .ok (.invokestatic 60, 3) := by decide +kernel
theorem dX8_change_26 : decode cX8_change 26 = .ok (.ifCond .ne 6, 3) := by decide +kernel
theorem dX8_change_29 : decode cX8_change 29 = .ok (.bipush (-2), 2) := by decide +kernel
theorem dX8_change_31 : decode cX8_change 31 = .ok (.ireturn, 1) := by decide +kernel
theorem dX8_change_32 : decode cX8_change 32 = .ok (.iload_n 3, 1) := by decide +kernel
theorem dX8_change_33 : decode cX8_change 33 = .ok (.ifCond .ne 12, 3) := by decide +kernel
theorem dX8_change_36 : decode cX8_change 36 = .ok (.aload_n 0, 1) := by decide +kernel
theorem dX8_change_37 : decode cX8_change 37 = .ok (.iload_n 1, 1) := by decide +kernel
theorem dX8_change_38 : decode cX8_change 38 = .ok (.iload_n 2, 1) := by decide +kernel
theorem dX8_change_39 : decode cX8_change 39 = .ok (.invokevirtual 183, 3) := by decide +kernel
theorem dX8_change_42 : decode cX8_change 42 = .ok (.goto 9, 3) := by decide +kernel
theorem dX8_change_45 : decode cX8_change 45 = .ok (.aload_n 0, 1) := by decide +kernel
theorem dX8_change_46 : decode cX8_change 46 = .ok (.iload_n 1, 1) := by decide +kernel
theorem dX8_change_47 : decode cX8_change 47 = .ok (.iload_n 2, 1) := by decide +kernel
theorem dX8_change_48 : decode cX8_change 48 = .ok (.invokevirtual 186, 3) := by decide +kernel
theorem dX8_change_51 : decode cX8_change 51 = .ok (.ireturn, 1) := by decide +kernel
theorem dX8_valueBy_0 : decode cX8_valueBy 0 = .ok (.aload_n 0, 1) := by decide +kernel
theorem dX8_valueBy_1 : decode cX8_valueBy 1 = .ok (.getfield 22, 3) := by decide +kernel
theorem dX8_valueBy_4 : decode cX8_valueBy 4 = .ok (.bipush 18, 2) := by decide +kernel
theorem dX8_valueBy_6 : decode cX8_valueBy 6 = .ok (.dup2, 1) := by decide +kernel
theorem dX8_valueBy_7 : decode cX8_valueBy 7 = .ok (.iaload, 1) := by decide +kernel
theorem dX8_valueBy_8 : decode cX8_valueBy 8 = .ok (.iconst 1, 1) := by decide +kernel
theorem dX8_valueBy_9 : decode cX8_valueBy 9 = .ok (.iload_n 1, 1) := by decide +kernel
theorem dX8_valueBy_10 : decode cX8_valueBy 10 = .ok (.ishl, 1) := by decide +kernel
theorem dX8_valueBy_11 : decode cX8_valueBy 11 = .ok (.ixor, 1) := by decide +kernel
theorem dX8_valueBy_12 : decode cX8_valueBy 12 = .ok (.iastore, 1) := by decide +kernel
theorem dX8_valueBy_13 : decode cX8_valueBy 13 = .ok (.aload_n 0, 1) := by decide +kernel
theorem dX8_valueBy_14 : decode cX8_valueBy 14 = .ok (.invokevirtual 165, 3) := by decide +kernel
theorem dX8_valueBy_17 : decode cX8_valueBy 17 = .ok (.aload_n 0, 1) := by decide +kernel
theorem dX8_valueBy_18 : decode cX8_valueBy 18 = .ok (.iload_n 2, 1) := by decide +kernel
theorem dX8_valueBy_19 : decode cX8_valueBy 19 = .ok (.iload_n 3, 1) := by decide +kernel
theorem dX8_valueBy_20 : decode cX8_valueBy 20 = .ok (.invokevirtual 156, 3) := by decide +kernel
theorem dX8_valueBy_23 : decode cX8_valueBy 23 = .ok (.istore 4, 2) := by decide +kernel
theorem dX8_valueBy_25 : decode cX8_valueBy 25 = .ok (.aload_n 0, 1) := by decide +kernel
theorem dX8_valueBy_26 : decode cX8_valueBy 26 = .ok (.getfield 22, 3) := by decide +kernel
theorem dX8_valueBy_29 : decode cX8_valueBy 29 = .ok (.bipush 18, 2) := by decide +kernel
theorem dX8_valueBy_31 : decode cX8_valueBy 31 = .ok (.dup2, 1) := by decide +kernel
theorem dX8_valueBy_32 : decode cX8_valueBy 32 = .ok (.iaload, 1) := by decide +kernel
theorem dX8_valueBy_33 : decode cX8_valueBy 33 = .ok (.iconst 1, 1) := by decide +kernel
theorem dX8_valueBy_34 : decode cX8_valueBy 34 = .ok (.iload_n 1, 1) := by decide +kernel
theorem dX8_valueBy_35 : decode cX8_valueBy 35 = .ok (.ishl, 1) := by decide +kernel
theorem dX8_valueBy_36 : decode cX8_valueBy 36 = .ok (.ixor, 1) := by decide +kernel
theorem dX8_valueBy_37 : decode cX8_valueBy 37 = .ok (.iastore, 1) := by decide +kernel
theorem dX8_valueBy_38 : decode cX8_valueBy 38 = .ok (.iload 4, 2) := by decide +kernel
theorem dX8_valueBy_40 : decode cX8_valueBy 40 = .ok (.ireturn, 1) := by decide +kernel
theorem dX8_wanted_0 : decode cX8_wanted 0 = .ok (.aload_n 0, 1) := by decide +kernel
theorem dX8_wanted_1 : decode cX8_wanted 1 = .ok (.iconst 0, 1) := by decide +kernel
theorem dX8_wanted_2 : decode cX8_wanted 2 = .ok (.putfield 56, 3) := by decide +kernel
theorem dX8_wanted_5 : decode cX8_wanted 5 = .ok (.aload_n 0, 1) := by decide +kernel
theorem dX8_wanted_6 : decode cX8_wanted 6 = .ok (.iload_n 1, 1) := by decide +kernel
theorem dX8_wanted_7 : decode cX8_wanted 7 = .ok (.invokevirtual 162, 3) := by decide +kernel
theorem dX8_wanted_10 : decode cX8_wanted 10 = .ok (.ifCond .eq 20, 3) := by decide +kernel
theorem dX8_wanted_13 : decode cX8_wanted 13 = .ok (.iload_n 2, 1) := by decide +kernel
theorem dX8_wanted_14 : decode cX8_wanted 14 = .ok (.invokestatic 177, 3) := by decide +kernel
theorem dX8_wanted_17 : decode cX8_wanted 17 = .ok (.ifCond .eq 13, 3) := by decide +kernel
theorem dX8_wanted_20 : decode cX8_wanted 20 = .ok (.iload_n 3, 1) := by decide +kernel
theorem dX8_wanted_21 : decode cX8_wanted 21 = .ok (.iconst 0, 1) := by decide +kernel
theorem dX8_wanted_22 : decode cX8_wanted 22 = .ok (.bipush 9, 2) := by decide +kernel
theorem dX8_wanted_24 : decode cX8_wanted 24 = .ok (.invokestatic 60, 3) := by decide +kernel
theorem dX8_wanted_27 : decode cX8_wanted 27 = .ok (.ifCond .ne 6, 3) := by decide +kernel
theorem dX8_wanted_30 : decode cX8_wanted 30 = .ok (.bipush (-2), 2) := by decide +kernel
theorem dX8_wanted_32 : decode cX8_wanted 32 = .ok (.ireturn, 1) := by decide +kernel
theorem dX8_wanted_33 : decode cX8_wanted 33 = .ok (.aload_n 0, 1) := by decide +kernel
theorem dX8_wanted_34 : decode cX8_wanted 34 = .ok (.invokevirtual 165, 3) := by decide +kernel
theorem dX8_wanted_37 : decode cX8_wanted 37 = .ok (.aload_n 0, 1) := by decide +kernel
theorem dX8_wanted_38 : decode cX8_wanted 38 = .ok (.iload_n 1, 1) := by decide +kernel
theorem dX8_wanted_39 : decode cX8_wanted 39 = .ok (.iload_n 2, 1) := by decide +kernel
theorem dX8_wanted_40 : decode cX8_wanted 40 = .ok (.invokevirtual 156, 3) := by decide +kernel
theorem dX8_wanted_43 : decode cX8_wanted 43 = .ok (.iload_n 3, 1) := by decide +kernel
theorem dX8_wanted_44 : decode cX8_wanted 44 = .ok (.if_icmp .ne 5, 3) := by decide +kernel
theorem dX8_wanted_47 : decode cX8_wanted 47 = .ok (.iconst (-1), 1) := by decide +kernel
theorem dX8_wanted_48 : decode cX8_wanted 48 = .ok (.ireturn, 1) := by decide +kernel
theorem dX8_wanted_49 : decode cX8_wanted 49 = .ok (.bipush (-9), 2) := by decide +kernel
theorem dX8_wanted_51 : decode cX8_wanted 51 = .ok (.istore 4, 2) := by decide +kernel
theorem dX8_wanted_53 : decode cX8_wanted 53 = .ok (.iconst 4, 1) := by decide +kernel
theorem dX8_wanted_54 : decode cX8_wanted 54 = .ok (.aload_n 0, 1) := by decide +kernel
theorem dX8_wanted_55 : decode cX8_wanted 55 = .ok (.getfield 13, 3) := by decide +kernel
theorem dX8_wanted_58 : decode cX8_wanted 58 = .ok (.iconst 0, 1) := by decide +kernel
theorem dX8_wanted_59 : decode cX8_wanted 59 = .ok (.iaload, 1) := by decide +kernel
theorem dX8_wanted_60 : decode cX8_wanted 60 = .ok (.imul, 1) := by decide +kernel
theorem dX8_wanted_61 : decode cX8_wanted 61 = .ok (.iconst 1, 1) := by decide +kernel
theorem dX8_wanted_62 : decode cX8_wanted 62 = .ok (.isub, 1) := by decide +kernel
theorem dX8_wanted_63 : decode cX8_wanted 63 = .ok (.istore 5, 2) := by decide +kernel
theorem dX8_wanted_65 : decode cX8_wanted 65 = .ok (.iload 5, 2) := by decide +kernel
theorem dX8_wanted_67 : decode cX8_wanted 67 = .ok (.ifCond .lt 74, 3) := by decide +kernel
theorem dX8_wanted_70 : decode cX8_wanted 70 = .ok (.aload_n 0, 1) := by decide +kernel
theorem dX8_wanted_71 : decode cX8_wanted 71 = .ok (.getfield 22, 3) := by decide +kernel
theorem dX8_wanted_74 : decode cX8_wanted 74 = .ok (.bipush 9, 2) := by decide +kernel
theorem dX8_wanted_76 : decode cX8_wanted 76 = .ok (.iload 5, 2) := by decide +kernel
theorem dX8_wanted_78 : decode cX8_wanted 78 = .ok (.iconst 4, 1) := by decide +kernel
theorem dX8_wanted_79 : decode cX8_wanted 79 = .ok (.idiv, 1) := by decide +kernel
theorem dX8_wanted_80 : decode cX8_wanted 80 = .ok (.iadd, 1) := by decide +kernel
theorem dX8_wanted_81 : decode cX8_wanted 81 = .ok (.dup2, 1) := by decide +kernel
theorem dX8_wanted_82 : decode cX8_wanted 82 = .ok (.iaload, 1) := by decide +kernel
theorem dX8_wanted_83 : decode cX8_wanted 83 = .ok (.iconst 1, 1) := by decide +kernel
theorem dX8_wanted_84 : decode cX8_wanted 84 = .ok (.iload 5, 2) := by decide +kernel
theorem dX8_wanted_86 : decode cX8_wanted 86 = .ok (.iconst 4, 1) := by decide +kernel
theorem dX8_wanted_87 : decode cX8_wanted 87 = .ok (.irem, 1) := by decide +kernel
theorem dX8_wanted_88 : decode cX8_wanted 88 = .ok (.ishl, 1) := by decide +kernel
theorem dX8_wanted_89 : decode cX8_wanted 89 = .ok (.ixor, 1) := by decide +kernel
theorem dX8_wanted_90 : decode cX8_wanted 90 = .ok (.iastore, 1) := by decide +kernel
theorem dX8_wanted_91 : decode cX8_wanted 91 = .ok (.aload_n 0, 1) := by decide +kernel
theorem dX8_wanted_92 : decode cX8_wanted 92 = .ok (.invokevirtual 165, 3) := by decide +kernel
theorem dX8_wanted_95 : decode cX8_wanted 95 = .ok (.aload_n 0, 1) := by decide +kernel
theorem dX8_wanted_96 : decode cX8_wanted 96 = .ok (.iload_n 1, 1) := by decide +kernel
theorem dX8_wanted_97 : decode cX8_wanted 97 = .ok (.iload_n 2, 1) := by decide +kernel
theorem dX8_wanted_98 : decode cX8_wanted 98 = .ok (.invokevirtual 156, 3) := by decide +kernel
theorem dX8_wanted_101 : decode cX8_wanted 101 = .ok (.iload_n 3, 1) := by decide +kernel
theorem dX8_wanted_102 : decode cX8_wanted 102 = .ok (.if_icmp .ne 8, 3) := by decide +kernel
theorem dX8_wanted_105 : decode cX8_wanted 105 = .ok (.iload 5, 2) := by decide +kernel
theorem dX8_wanted_107 : decode cX8_wanted 107 = .ok (.goto 5, 3) := by decide +kernel
theorem dX8_wanted_110 : decode cX8_wanted 110 = .ok (.iload 4, 2) := by decide +kernel
theorem dX8_wanted_112 : decode cX8_wanted 112 = .ok (.istore 4, 2) := by decide +kernel
theorem dX8_wanted_114 : decode cX8_wanted 114 = .ok (.aload_n 0, 1) := by decide +kernel
theorem dX8_wanted_115 : decode cX8_wanted 115 = .ok (.getfield 22, 3) := by decide +kernel
theorem dX8_wanted_118 : decode cX8_wanted 118 = .ok (.bipush 9, 2) := by decide +kernel
theorem dX8_wanted_120 : decode cX8_wanted 120 = .ok (.iload 5, 2) := by decide +kernel
theorem dX8_wanted_122 : decode cX8_wanted 122 = .ok (.iconst 4, 1) := by decide +kernel
theorem dX8_wanted_123 : decode cX8_wanted 123 = .ok (.idiv, 1) := by decide +kernel
theorem dX8_wanted_124 : decode cX8_wanted 124 = .ok (.iadd, 1) := by decide +kernel
theorem dX8_wanted_125 : decode cX8_wanted 125 = .ok (.dup2, 1) := by decide +kernel
theorem dX8_wanted_126 : decode cX8_wanted 126 = .ok (.iaload, 1) := by decide +kernel
theorem dX8_wanted_127 : decode cX8_wanted 127 = .ok (.iconst 1, 1) := by decide +kernel
theorem dX8_wanted_128 : decode cX8_wanted 128 = .ok (.iload 5, 2) := by decide +kernel
theorem dX8_wanted_130 : decode cX8_wanted 130 = .ok (.iconst 4, 1) := by decide +kernel
theorem dX8_wanted_131 : decode cX8_wanted 131 = .ok (.irem, 1) := by decide +kernel
theorem dX8_wanted_132 : decode cX8_wanted 132 = .ok (.ishl, 1) := by decide +kernel
theorem dX8_wanted_133 : decode cX8_wanted 133 = .ok (.ixor, 1) := by decide +kernel
theorem dX8_wanted_134 : decode cX8_wanted 134 = .ok (.iastore, 1) := by decide +kernel
theorem dX8_wanted_135 : decode cX8_wanted 135 = .ok (.iinc 5 (-1), 3) := by decide +kernel
theorem dX8_wanted_138 : decode cX8_wanted 138 = .ok (.goto (-73), 3) := by decide +kernel
theorem dX8_wanted_141 : decode cX8_wanted 141 = .ok (.iconst 0, 1) := by decide +kernel
theorem dX8_wanted_142 : decode cX8_wanted 142 = .ok (.istore 5, 2) := by decide +kernel
theorem dX8_wanted_144 : decode cX8_wanted 144 = .ok (.iload 5, 2) := by decide +kernel
theorem dX8_wanted_146 : decode cX8_wanted 146 = .ok (.aload_n 0, 1) := by decide +kernel
theorem dX8_wanted_147 : decode cX8_wanted 147 = .ok (.getfield 13, 3) := by decide +kernel
theorem dX8_wanted_150 : decode cX8_wanted 150 = .ok (.iconst 1, 1) := by decide +kernel
theorem dX8_wanted_151 : decode cX8_wanted 151 = .ok (.iaload, 1) := by decide +kernel
theorem dX8_wanted_152 : decode cX8_wanted 152 = .ok (.if_icmp .ge 40, 3) := by decide +kernel
theorem dX8_wanted_155 : decode cX8_wanted 155 = .ok (.iload 4, 2) := by decide +kernel
theorem dX8_wanted_157 : decode cX8_wanted 157 = .ok (.bipush (-9), 2) := by decide +kernel
theorem dX8_wanted_159 : decode cX8_wanted 159 = .ok (.if_icmp .ne 33, 3) := by decide +kernel
theorem dX8_wanted_162 : decode cX8_wanted 162 = .ok (.aload_n 0, 1) := by decide +kernel
theorem dX8_wanted_163 : decode cX8_wanted 163 = .ok (.iload 5, 2) := by decide +kernel
theorem dX8_wanted_165 : decode cX8_wanted 165 = .ok (.iload_n 1, 1) := by decide +kernel
theorem dX8_wanted_166 : decode cX8_wanted 166 = .ok (.iload_n 2, 1) := by decide +kernel
theorem dX8_wanted_167 : decode cX8_wanted 167 = .ok (.invokevirtual 189, 3) := by decide +kernel
theorem dX8_wanted_170 : decode cX8_wanted 170 = .ok (.iload_n 3, 1) := by decide +kernel
theorem dX8_wanted_171 : decode cX8_wanted 171 = .ok (.if_icmp .ne 11, 3) := by decide +kernel
theorem dX8_wanted_174 : decode cX8_wanted 174 = .ok (.bipush 100, 2) := by decide +kernel
theorem dX8_wanted_176 : decode cX8_wanted 176 = .ok (.iload 5, 2) := by decide +kernel
theorem dX8_wanted_178 : decode cX8_wanted 178 = .ok (.iadd, 1) := by decide +kernel
theorem dX8_wanted_179 : decode cX8_wanted 179 = .ok (.goto 5, 3) := by decide +kernel
theorem dX8_wanted_182 : decode cX8_wanted 182 = .ok (.iload 4, 2) := by decide +kernel
theorem dX8_wanted_184 : decode cX8_wanted 184 = .ok (.istore 4, 2) := by decide +kernel
theorem dX8_wanted_186 : decode cX8_wanted 186 = .ok (.iinc 5 1, 3) := by decide +kernel
theorem dX8_wanted_189 : decode cX8_wanted 189 = .ok (.goto (-45), 3) := by decide +kernel
theorem dX8_wanted_192 : decode cX8_wanted 192 = .ok (.iload 4, 2) := by decide +kernel
theorem dX8_wanted_194 : decode cX8_wanted 194 = .ok (.ireturn, 1) := by decide +kernel
theorem dX8_sees_0 : decode cX8_sees 0 = .ok (.aload_n 0, 1) := by decide +kernel
theorem dX8_sees_1 : decode cX8_sees 1 = .ok (.iconst 0, 1) := by decide +kernel
theorem dX8_sees_2 : decode cX8_sees 2 = .ok (.putfield 56, 3) := by decide +kernel
theorem dX8_sees_5 : decode cX8_sees 5 = .ok (.aload_n 0, 1) := by decide +kernel
theorem dX8_sees_6 : decode cX8_sees 6 = .ok (.iload_n 1, 1) := by decide +kernel
theorem dX8_sees_7 : decode cX8_sees 7 = .ok (.invokevirtual 162, 3) := by decide +kernel
theorem dX8_sees_10 : decode cX8_sees 10 = .ok (.ifCond .eq 20, 3) := by decide +kernel
theorem dX8_sees_13 : decode cX8_sees 13 = .ok (.iload_n 2, 1) := by decide +kernel
theorem dX8_sees_14 : decode cX8_sees 14 = .ok (.invokestatic 177, 3) := by decide +kernel
theorem dX8_sees_17 : decode cX8_sees 17 = .ok (.ifCond .eq 13, 3) := by decide +kernel
theorem dX8_sees_20 : decode cX8_sees 20 = .ok (.iload_n 3, 1) := by decide +kernel
theorem dX8_sees_21 : decode cX8_sees 21 = .ok (.iconst 0, 1) := by decide +kernel
theorem dX8_sees_22 : decode cX8_sees 22 = .ok (.bipush 9, 2) := by decide +kernel
theorem dX8_sees_24 : decode cX8_sees 24 = .ok (.invokestatic 60, 3) := by decide +kernel
theorem dX8_sees_27 : decode cX8_sees 27 = .ok (.ifCond .ne 6, 3) := by decide +kernel
theorem dX8_sees_30 : decode cX8_sees 30 = .ok (.bipush (-2), 2) := by decide +kernel
theorem dX8_sees_32 : decode cX8_sees 32 = .ok (.ireturn, 1) := by decide +kernel
theorem dX8_sees_33 : decode cX8_sees 33 = .ok (.aload_n 0, 1) := by decide +kernel
theorem dX8_sees_34 : decode cX8_sees 34 = .ok (.getfield 124, 3) := by decide +kernel
theorem dX8_sees_37 : decode cX8_sees 37 = .ok (.bipush 6, 2) := by decide +kernel
theorem dX8_sees_39 : decode cX8_sees 39 = .ok (.if_icmp .ne 6, 3) := by decide +kernel
theorem dX8_sees_42 : decode cX8_sees 42 = .ok (.bipush (-4), 2) := by decide +kernel
theorem dX8_sees_44 : decode cX8_sees 44 = .ok (.ireturn, 1) := by decide +kernel
theorem dX8_sees_45 : decode cX8_sees 45 = .ok (.aload_n 0, 1) := by decide +kernel
theorem dX8_sees_46 : decode cX8_sees 46 = .ok (.getfield 35, 3) := by decide +kernel
theorem dX8_sees_49 : decode cX8_sees 49 = .ok (.aload_n 0, 1) := by decide +kernel
theorem dX8_sees_50 : decode cX8_sees 50 = .ok (.getfield 124, 3) := by decide +kernel
theorem dX8_sees_53 : decode cX8_sees 53 = .ok (.iload_n 1, 1) := by decide +kernel
theorem dX8_sees_54 : decode cX8_sees 54 = .ok (.iastore, 1) := by decide +kernel
theorem dX8_sees_55 : decode cX8_sees 55 = .ok (.aload_n 0, 1) := by decide +kernel
theorem dX8_sees_56 : decode cX8_sees 56 = .ok (.getfield 38, 3) := by decide +kernel
theorem dX8_sees_59 : decode cX8_sees 59 = .ok (.aload_n 0, 1) := by decide +kernel
theorem dX8_sees_60 : decode cX8_sees 60 = .ok (.getfield 124, 3) := by decide +kernel
theorem dX8_sees_63 : decode cX8_sees 63 = .ok (.iload_n 2, 1) := by decide +kernel
theorem dX8_sees_64 : decode cX8_sees 64 = .ok (.iastore, 1) := by decide +kernel
theorem dX8_sees_65 : decode cX8_sees 65 = .ok (.aload_n 0, 1) := by decide +kernel
theorem dX8_sees_66 : decode cX8_sees 66 = .ok (.getfield 41, 3) := by decide +kernel
theorem dX8_sees_69 : decode cX8_sees 69 = .ok (.aload_n 0, 1) := by decide +kernel
theorem dX8_sees_70 : decode cX8_sees 70 = .ok (.getfield 124, 3) := by decide +kernel
theorem dX8_sees_73 : decode cX8_sees 73 = .ok (.iload_n 3, 1) := by decide +kernel
theorem dX8_sees_74 : decode cX8_sees 74 = .ok (.iastore, 1) := by decide +kernel
theorem dX8_sees_75 : decode cX8_sees 75 = .ok (.aload_n 0, 1) := by decide +kernel
theorem dX8_sees_76 : decode cX8_sees 76 = .ok (.dup, 1) := by decide +kernel
theorem dX8_sees_77 : decode cX8_sees 77 = .ok (.getfield 124, 3) := by decide +kernel
theorem dX8_sees_80 : decode cX8_sees 80 = .ok (.iconst 1, 1) := by decide +kernel
theorem dX8_sees_81 : decode cX8_sees 81 = .ok (.iadd, 1) := by decide +kernel
theorem dX8_sees_82 : decode cX8_sees 82 = .ok (.putfield 124, 3) := by decide +kernel
theorem dX8_sees_85 : decode cX8_sees 85 = .ok (.aload_n 0, 1) := by decide +kernel
theorem dX8_sees_86 : decode cX8_sees 86 = .ok (.getfield 124, 3) := by decide +kernel
theorem dX8_sees_89 : decode cX8_sees 89 = .ok (.ireturn, 1) := by decide +kernel
theorem dX8_forget_0 : decode cX8_forget 0 = .ok (.aload_n 0, 1) := by decide +kernel
theorem dX8_forget_1 : decode cX8_forget 1 = .ok (.iconst 0, 1) := by decide +kernel
theorem dX8_forget_2 : decode cX8_forget 2 = .ok (.putfield 56, 3) := by decide +kernel
theorem dX8_forget_5 : decode cX8_forget 5 = .ok (.aload_n 0, 1) := by decide +kernel
theorem dX8_forget_6 : decode cX8_forget 6 = .ok (.getfield 124, 3) := by decide +kernel
theorem dX8_forget_9 : decode cX8_forget 9 = .ok (.istore_n 1, 1) := by decide +kernel
theorem dX8_forget_10 : decode cX8_forget 10 = .ok (.aload_n 0, 1) := by decide +kernel
theorem dX8_forget_11 : decode cX8_forget 11 = .ok (.iconst 0, 1) := by decide +kernel
theorem dX8_forget_12 : decode cX8_forget 12 = .ok (.putfield 124, 3) := by decide +kernel
theorem dX8_forget_15 : decode cX8_forget 15 = .ok (.iload_n 1, 1) := by decide +kernel
theorem dX8_forget_16 : decode cX8_forget 16 = .ok (.ireturn, 1) := by decide +kernel
theorem dX8_unseenSet_0 : decode cX8_unseenSet 0 = .ok (.iconst 0, 1) := by decide +kernel
theorem dX8_unseenSet_1 : decode cX8_unseenSet 1 = .ok (.istore_n 1, 1) := by decide +kernel
theorem dX8_unseenSet_2 : decode cX8_unseenSet 2 = .ok (.iconst 0, 1) := by decide +kernel
theorem dX8_unseenSet_3 : decode cX8_unseenSet 3 = .ok (.istore_n 2, 1) := by decide +kernel
theorem dX8_unseenSet_4 : decode cX8_unseenSet 4 = .ok (.iload_n 2, 1) := by decide +kernel
theorem dX8_unseenSet_5 : decode cX8_unseenSet 5 = .ok (.aload_n 0, 1) := by decide +kernel
theorem dX8_unseenSet_6 : decode cX8_unseenSet 6 = .ok (.getfield 13, 3) := by decide +kernel
theorem dX8_unseenSet_9 : decode cX8_unseenSet 9 = .ok (.iconst 1, 1) := by decide +kernel
theorem dX8_unseenSet_10 : decode cX8_unseenSet 10 = .ok (.iaload, 1) := by decide +kernel
theorem dX8_unseenSet_11 : decode cX8_unseenSet 11 = .ok (.if_icmp .ge 82, 3) := by decide +kernel
theorem dX8_unseenSet_14 : decode cX8_unseenSet 14 = .ok (.iconst 1, 1) := by decide +kernel
theorem dX8_unseenSet_15 : decode cX8_unseenSet 15 = .ok (.istore_n 3, 1) := by decide +kernel
theorem dX8_unseenSet_16 : decode cX8_unseenSet 16 = .ok (.iconst 0, 1) := by decide +kernel
theorem dX8_unseenSet_17 : decode cX8_unseenSet 17 = .ok (.istore 4, 2) := by decide +kernel
theorem dX8_unseenSet_19 : decode cX8_unseenSet 19 = .ok (.iload 4, 2) := by decide +kernel
theorem dX8_unseenSet_21 : decode cX8_unseenSet 21 = .ok (.aload_n 0, 1) := by decide +kernel
theorem dX8_unseenSet_22 : decode cX8_unseenSet 22 = .ok (.getfield 124, 3) := by decide +kernel
theorem dX8_unseenSet_25 : decode cX8_unseenSet 25 = .ok (.if_icmp .ge 48, 3) := by decide +kernel
theorem dX8_unseenSet_28 : decode cX8_unseenSet 28 = .ok (.iload_n 3, 1) := by decide +kernel
theorem dX8_unseenSet_29 : decode cX8_unseenSet 29 = .ok (.ifCond .eq 36, 3) := by decide +kernel
theorem dX8_unseenSet_32 : decode cX8_unseenSet 32 = .ok (.aload_n 0, 1) := by decide +kernel
theorem dX8_unseenSet_33 : decode cX8_unseenSet 33 = .ok (.iload_n 2, 1) := by decide +kernel
theorem dX8_unseenSet_34 : decode cX8_unseenSet 34 = .ok (.aload_n 0, 1) := by decide +kernel
theorem dX8_unseenSet_35 : decode cX8_unseenSet 35 = .ok (.getfield 35, 3) := by decide +kernel
theorem dX8_unseenSet_38 : decode cX8_unseenSet 38 = .ok (.iload 4, 2) := by decide +kernel
theorem dX8_unseenSet_40 : decode cX8_unseenSet 40 = .ok (.iaload, 1) := by decide +kernel
theorem dX8_unseenSet_41 : decode cX8_unseenSet 41 = .ok (.aload_n 0, 1) := by decide +kernel
theorem dX8_unseenSet_42 : decode cX8_unseenSet 42 = .ok (.getfield 38, 3) := by decide +kernel
theorem dX8_unseenSet_45 : decode cX8_unseenSet 45 = .ok (.iload 4, 2) := by decide +kernel
theorem dX8_unseenSet_47 : decode cX8_unseenSet 47 = .ok (.iaload, 1) := by decide +kernel
theorem dX8_unseenSet_48 : decode cX8_unseenSet 48 = .ok (.invokevirtual 189, 3) := by decide +kernel
theorem dX8_unseenSet_51 : decode cX8_unseenSet 51 = .ok (.aload_n 0, 1) := by decide +kernel
theorem dX8_unseenSet_52 : decode cX8_unseenSet 52 = .ok (.getfield 41, 3) := by decide +kernel
theorem dX8_unseenSet_55 : decode cX8_unseenSet 55 = .ok (.iload 4, 2) := by decide +kernel
theorem dX8_unseenSet_57 : decode cX8_unseenSet 57 = .ok (.iaload, 1) := by decide +kernel
theorem dX8_unseenSet_58 : decode cX8_unseenSet 58 = .ok (.if_icmp .ne 7, 3) := by decide +kernel
theorem dX8_unseenSet_61 : decode cX8_unseenSet 61 = .ok (.iconst 1, 1) := by decide +kernel
theorem dX8_unseenSet_62 : decode cX8_unseenSet 62 = .ok (.goto 4, 3) := by decide +kernel
theorem dX8_unseenSet_65 : decode cX8_unseenSet 65 = .ok (.iconst 0, 1) := by decide +kernel
theorem dX8_unseenSet_66 : decode cX8_unseenSet 66 = .ok (.istore_n 3, 1) := by decide +kernel
theorem dX8_unseenSet_67 : decode cX8_unseenSet 67 = .ok (.iinc 4 1, 3) := by decide +kernel
theorem dX8_unseenSet_70 : decode cX8_unseenSet 70 = .ok (.goto (-51), 3) := by decide +kernel
theorem dX8_unseenSet_73 : decode cX8_unseenSet 73 = .ok (.iload_n 1, 1) := by decide +kernel
theorem dX8_unseenSet_74 : decode cX8_unseenSet 74 = .ok (.iload_n 3, 1) := by decide +kernel
theorem dX8_unseenSet_75 : decode cX8_unseenSet 75 = .ok (.ifCond .eq 9, 3) := by decide +kernel
theorem dX8_unseenSet_78 : decode cX8_unseenSet 78 = .ok (.iconst 1, 1) := by decide +kernel
theorem dX8_unseenSet_79 : decode cX8_unseenSet 79 = .ok (.iload_n 2, 1) := by decide +kernel
theorem dX8_unseenSet_80 : decode cX8_unseenSet 80 = .ok (.ishl, 1) := by decide +kernel
theorem dX8_unseenSet_81 : decode cX8_unseenSet 81 = .ok (.goto 4, 3) := by decide +kernel
theorem dX8_unseenSet_84 : decode cX8_unseenSet 84 = .ok (.iconst 0, 1) := by decide +kernel
theorem dX8_unseenSet_85 : decode cX8_unseenSet 85 = .ok (.ior, 1) := by decide +kernel
theorem dX8_unseenSet_86 : decode cX8_unseenSet 86 = .ok (.istore_n 1, 1) := by decide +kernel
theorem dX8_unseenSet_87 : decode cX8_unseenSet 87 = .ok (.iinc 2 1, 3) := by decide +kernel
theorem dX8_unseenSet_90 : decode cX8_unseenSet 90 = .ok (.goto (-86), 3) := by decide +kernel
theorem dX8_unseenSet_93 : decode cX8_unseenSet 93 = .ok (.iload_n 1, 1) := by decide +kernel
theorem dX8_unseenSet_94 : decode cX8_unseenSet 94 = .ok (.ireturn, 1) := by decide +kernel
theorem dX8_unseen_0 : decode cX8_unseen 0 = .ok (.aload_n 0, 1) := by decide +kernel
theorem dX8_unseen_1 : decode cX8_unseen 1 = .ok (.iconst 0, 1) := by decide +kernel
theorem dX8_unseen_2 : decode cX8_unseen 2 = .ok (.putfield 56, 3) := by decide +kernel
theorem dX8_unseen_5 : decode cX8_unseen 5 = .ok (.aload_n 0, 1) := by decide +kernel
theorem dX8_unseen_6 : decode cX8_unseen 6 = .ok (.invokevirtual 192, 3) := by decide +kernel
theorem dX8_unseen_9 : decode cX8_unseen 9 = .ok (.ireturn, 1) := by decide +kernel
theorem dX8_ask_0 : decode cX8_ask 0 = .ok (.aload_n 0, 1) := by decide +kernel
theorem dX8_ask_1 : decode cX8_ask 1 = .ok (.iconst 0, 1) := by decide +kernel
theorem dX8_ask_2 : decode cX8_ask 2 = .ok (.putfield 56, 3) := by decide +kernel
theorem dX8_ask_5 : decode cX8_ask 5 = .ok (.aload_n 0, 1) := by decide +kernel
theorem dX8_ask_6 : decode cX8_ask 6 = .ok (.invokevirtual 192, 3) := by decide +kernel
theorem dX8_ask_9 : decode cX8_ask 9 = .ok (.istore_n 1, 1) := by decide +kernel
theorem dX8_ask_10 : decode cX8_ask 10 = .ok (.bipush (-9), 2) := by decide +kernel
theorem dX8_ask_12 : decode cX8_ask 12 = .ok (.istore_n 2, 1) := by decide +kernel
theorem dX8_ask_13 : decode cX8_ask 13 = .ok (.iconst 0, 1) := by decide +kernel
theorem dX8_ask_14 : decode cX8_ask 14 = .ok (.istore_n 3, 1) := by decide +kernel
theorem dX8_ask_15 : decode cX8_ask 15 = .ok (.iconst 0, 1) := by decide +kernel
theorem dX8_ask_16 : decode cX8_ask 16 = .ok (.istore 4, 2) := by decide +kernel
theorem dX8_ask_18 : decode cX8_ask 18 = .ok (.iload 4, 2) := by decide +kernel
theorem dX8_ask_20 : decode cX8_ask 20 = .ok (.iconst 4, 1) := by decide +kernel
theorem dX8_ask_21 : decode cX8_ask 21 = .ok (.aload_n 0, 1) := by decide +kernel
theorem dX8_ask_22 : decode cX8_ask 22 = .ok (.getfield 13, 3) := by decide +kernel
theorem dX8_ask_25 : decode cX8_ask 25 = .ok (.iconst 0, 1) := by decide +kernel
theorem dX8_ask_26 : decode cX8_ask 26 = .ok (.iaload, 1) := by decide +kernel
theorem dX8_ask_27 : decode cX8_ask 27 = .ok (.imul, 1) := by decide +kernel
theorem dX8_ask_28 : decode cX8_ask 28 = .ok (.if_icmp .ge 109, 3) := by decide +kernel
theorem dX8_ask_31 : decode cX8_ask 31 = .ok (.iload_n 1, 1) := by decide +kernel
theorem dX8_ask_32 : decode cX8_ask 32 = .ok (.invokestatic 137, 3) := by decide +kernel
theorem dX8_ask_35 : decode cX8_ask 35 = .ok (.iconst 1, 1) := by decide +kernel
theorem dX8_ask_36 : decode cX8_ask 36 = .ok (.if_icmp .le 101, 3) := by decide +kernel
theorem dX8_ask_39 : decode cX8_ask 39 = .ok (.iconst 0, 1) := by decide +kernel
theorem dX8_ask_40 : decode cX8_ask 40 = .ok (.istore 5, 2) := by decide +kernel
theorem dX8_ask_42 : decode cX8_ask 42 = .ok (.iconst 0, 1) := by decide +kernel
theorem dX8_ask_43 : decode cX8_ask 43 = .ok (.istore 6, 2) := by decide +kernel
theorem dX8_ask_45 : decode cX8_ask 45 = .ok (.iload 6, 2) := by decide +kernel
theorem dX8_ask_47 : decode cX8_ask 47 = .ok (.aload_n 0, 1) := by decide +kernel
theorem dX8_ask_48 : decode cX8_ask 48 = .ok (.getfield 13, 3) := by decide +kernel
theorem dX8_ask_51 : decode cX8_ask 51 = .ok (.iconst 1, 1) := by decide +kernel
theorem dX8_ask_52 : decode cX8_ask 52 = .ok (.iaload, 1) := by decide +kernel
theorem dX8_ask_53 : decode cX8_ask 53 = .ok (.if_icmp .ge 43, 3) := by decide +kernel
theorem dX8_ask_56 : decode cX8_ask 56 = .ok (.iload 5, 2) := by decide +kernel
theorem dX8_ask_58 : decode cX8_ask 58 = .ok (.iload_n 1, 1) := by decide +kernel
theorem dX8_ask_59 : decode cX8_ask 59 = .ok (.iload 6, 2) := by decide +kernel
theorem dX8_ask_61 : decode cX8_ask 61 = .ok (.invokestatic 105, 3) := by decide +kernel
theorem dX8_ask_64 : decode cX8_ask 64 = .ok (.ifCond .eq 22, 3) := by decide +kernel
theorem dX8_ask_67 : decode cX8_ask 67 = .ok (.iconst 1, 1) := by decide +kernel
theorem dX8_ask_68 : decode cX8_ask 68 = .ok (.aload_n 0, 1) := by decide +kernel
theorem dX8_ask_69 : decode cX8_ask 69 = .ok (.iload 6, 2) := by decide +kernel
theorem dX8_ask_71 : decode cX8_ask 71 = .ok (.iload 4, 2) := by decide +kernel
theorem dX8_ask_73 : decode cX8_ask 73 = .ok (.iconst 4, 1) := by decide +kernel
theorem dX8_ask_74 : decode cX8_ask 74 = .ok (.idiv, 1) := by decide +kernel
theorem dX8_ask_75 : decode cX8_ask 75 = .ok (.iload 4, 2) := by decide +kernel
theorem dX8_ask_77 : decode cX8_ask 77 = .ok (.iconst 4, 1) := by decide +kernel
theorem dX8_ask_78 : decode cX8_ask 78 = .ok (.irem, 1) := by decide +kernel
theorem dX8_ask_79 : decode cX8_ask 79 = .ok (.invokevirtual 189, 3) := by decide +kernel
theorem dX8_ask_82 : decode cX8_ask 82 = .ok (.ishl, 1) := by decide +kernel
theorem dX8_ask_83 : decode cX8_ask 83 = .ok (.goto 4, 3) := by decide +kernel
theorem dX8_ask_86 : decode cX8_ask 86 = .ok (.iconst 0, 1) := by decide +kernel
theorem dX8_ask_87 : decode cX8_ask 87 = .ok (.ior, 1) := by decide +kernel
theorem dX8_ask_88 : decode cX8_ask 88 = .ok (.istore 5, 2) := by decide +kernel
theorem dX8_ask_90 : decode cX8_ask 90 = .ok (.iinc 6 1, 3) := by decide +kernel
theorem dX8_ask_93 : decode cX8_ask 93 = .ok (.goto (-48), 3) := by decide +kernel
theorem dX8_ask_96 : decode cX8_ask 96 = .ok (.iload 5, 2) := by decide +kernel
theorem dX8_ask_98 : decode cX8_ask 98 = .ok (.invokestatic 137, 3) := by decide +kernel
theorem dX8_ask_101 : decode cX8_ask 101 = .ok (.iload_n 3, 1) := by decide +kernel
theorem dX8_ask_102 : decode cX8_ask 102 = .ok (.if_icmp .le 8, 3) := by decide +kernel
theorem dX8_ask_105 : decode cX8_ask 105 = .ok (.iload 4, 2) := by decide +kernel
theorem dX8_ask_107 : decode cX8_ask 107 = .ok (.goto 4, 3) := by decide +kernel
theorem dX8_ask_110 : decode cX8_ask 110 = .ok (.iload_n 2, 1) := by decide +kernel
theorem dX8_ask_111 : decode cX8_ask 111 = .ok (.istore_n 2, 1) := by decide +kernel
theorem dX8_ask_112 : decode cX8_ask 112 = .ok (.iload 5, 2) := by decide +kernel
theorem dX8_ask_114 : decode cX8_ask 114 = .ok (.invokestatic 137, 3) := by decide +kernel
theorem dX8_ask_117 : decode cX8_ask 117 = .ok (.iload_n 3, 1) := by decide +kernel
theorem dX8_ask_118 : decode cX8_ask 118 = .ok (.if_icmp .le 11, 3) := by decide +kernel
theorem dX8_ask_121 : decode cX8_ask 121 = .ok (.iload 5, 2) := by decide +kernel
theorem dX8_ask_123 : decode cX8_ask 123 = .ok (.invokestatic 137, 3) := by decide +kernel
theorem dX8_ask_126 : decode cX8_ask 126 = .ok (.goto 4, 3) := by decide +kernel
theorem dX8_ask_129 : decode cX8_ask 129 = .ok (.iload_n 3, 1) := by decide +kernel
theorem dX8_ask_130 : decode cX8_ask 130 = .ok (.istore_n 3, 1) := by decide +kernel
theorem dX8_ask_131 : decode cX8_ask 131 = .ok (.iinc 4 1, 3) := by decide +kernel
theorem dX8_ask_134 : decode cX8_ask 134 = .ok (.goto (-116), 3) := by decide +kernel
theorem dX8_ask_137 : decode cX8_ask 137 = .ok (.iload_n 2, 1) := by decide +kernel
theorem dX8_ask_138 : decode cX8_ask 138 = .ok (.ireturn, 1) := by decide +kernel
theorem dX8_keep_0 : decode cX8_keep 0 = .ok (.aload_n 0, 1) := by decide +kernel
theorem dX8_keep_1 : decode cX8_keep 1 = .ok (.iconst 0, 1) := by decide +kernel
theorem dX8_keep_2 : decode cX8_keep 2 = .ok (.putfield 56, 3) := by decide +kernel
theorem dX8_keep_5 : decode cX8_keep 5 = .ok (.iload_n 1, 1) := by decide +kernel
theorem dX8_keep_6 : decode cX8_keep 6 = .ok (.iconst 0, 1) := by decide +kernel
theorem dX8_keep_7 : decode cX8_keep 7 = .ok (.iconst 1, 1) := by decide +kernel
theorem dX8_keep_8 : decode cX8_keep 8 = .ok (.invokestatic 60, 3) := by decide +kernel
theorem dX8_keep_11 : decode cX8_keep 11 = .ok (.ifCond .ne 6, 3) := by decide +kernel
theorem dX8_keep_14 : decode cX8_keep 14 = .ok (.bipush (-2), 2) := by decide +kernel
theorem dX8_keep_16 : decode cX8_keep 16 = .ok (.ireturn, 1) := by decide +kernel
theorem dX8_keep_17 : decode cX8_keep 17 = .ok (.iconst 0, 1) := by decide +kernel
theorem dX8_keep_18 : decode cX8_keep 18 = .ok (.istore_n 2, 1) := by decide +kernel
theorem dX8_keep_19 : decode cX8_keep 19 = .ok (.iload_n 2, 1) := by decide +kernel
theorem dX8_keep_20 : decode cX8_keep 20 = .ok (.bipush 19, 2) := by decide +kernel
theorem dX8_keep_22 : decode cX8_keep 22 = .ok (.if_icmp .ge 26, 3) := by decide +kernel
theorem dX8_keep_25 : decode cX8_keep 25 = .ok (.aload_n 0, 1) := by decide +kernel
theorem dX8_keep_26 : decode cX8_keep 26 = .ok (.getfield 28, 3) := by decide +kernel
theorem dX8_keep_29 : decode cX8_keep 29 = .ok (.bipush 19, 2) := by decide +kernel
theorem dX8_keep_31 : decode cX8_keep 31 = .ok (.iload_n 1, 1) := by decide +kernel
theorem dX8_keep_32 : decode cX8_keep 32 = .ok (.imul, 1) := by decide +kernel
theorem dX8_keep_33 : decode cX8_keep 33 = .ok (.iload_n 2, 1) := by decide +kernel
theorem dX8_keep_34 : decode cX8_keep 34 = .ok (.iadd, 1) := by decide +kernel
theorem dX8_keep_35 : decode cX8_keep 35 = .ok (.aload_n 0, 1) := by decide +kernel
theorem dX8_keep_36 : decode cX8_keep 36 = .ok (.getfield 22, 3) := by decide +kernel
theorem dX8_keep_39 : decode cX8_keep 39 = .ok (.iload_n 2, 1) := by decide +kernel
theorem dX8_keep_40 : decode cX8_keep 40 = .ok (.iaload, 1) := by decide +kernel
theorem dX8_keep_41 : decode cX8_keep 41 = .ok (.iastore, 1) := by decide +kernel
theorem dX8_keep_42 : decode cX8_keep 42 = .ok (.iinc 2 1, 3) := by decide +kernel
theorem dX8_keep_45 : decode cX8_keep 45 = .ok (.goto (-26), 3) := by decide +kernel
theorem dX8_keep_48 : decode cX8_keep 48 = .ok (.aload_n 0, 1) := by decide +kernel
theorem dX8_keep_49 : decode cX8_keep 49 = .ok (.getfield 31, 3) := by decide +kernel
theorem dX8_keep_52 : decode cX8_keep 52 = .ok (.iload_n 1, 1) := by decide +kernel
theorem dX8_keep_53 : decode cX8_keep 53 = .ok (.iconst 1, 1) := by decide +kernel
theorem dX8_keep_54 : decode cX8_keep 54 = .ok (.bastore, 1) := by decide +kernel
theorem dX8_keep_55 : decode cX8_keep 55 = .ok (.aload_n 0, 1) := by decide +kernel
theorem dX8_keep_56 : decode cX8_keep 56 = .ok (.getfield 13, 3) := by decide +kernel
theorem dX8_keep_59 : decode cX8_keep 59 = .ok (.iconst 0, 1) := by decide +kernel
theorem dX8_keep_60 : decode cX8_keep 60 = .ok (.iaload, 1) := by decide +kernel
theorem dX8_keep_61 : decode cX8_keep 61 = .ok (.ireturn, 1) := by decide +kernel
theorem dX8_back_0 : decode cX8_back 0 = .ok (.aload_n 0, 1) := by decide +kernel
theorem dX8_back_1 : decode cX8_back 1 = .ok (.iconst 0, 1) := by decide +kernel
theorem dX8_back_2 : decode cX8_back 2 = .ok (.putfield 56, 3) := by decide +kernel
theorem dX8_back_5 : decode cX8_back 5 = .ok (.iload_n 1, 1) := by decide +kernel
theorem dX8_back_6 : decode cX8_back 6 = .ok (.iconst 0, 1) := by decide +kernel
theorem dX8_back_7 : decode cX8_back 7 = .ok (.iconst 1, 1) := by decide +kernel
theorem dX8_back_8 : decode cX8_back 8 = .ok (.invokestatic 60, 3) := by decide +kernel
theorem dX8_back_11 : decode cX8_back 11 = .ok (.ifCond .ne 6, 3) := by decide +kernel
theorem dX8_back_14 : decode cX8_back 14 = .ok (.bipush (-2), 2) := by decide +kernel
theorem dX8_back_16 : decode cX8_back 16 = .ok (.ireturn, 1) := by decide +kernel
theorem dX8_back_17 : decode cX8_back 17 = .ok (.aload_n 0, 1) := by decide +kernel
theorem dX8_back_18 : decode cX8_back 18 = .ok (.getfield 31, 3) := by decide +kernel
theorem dX8_back_21 : decode cX8_back 21 = .ok (.iload_n 1, 1) := by decide +kernel
theorem dX8_back_22 : decode cX8_back 22 = .ok (.baload, 1) := by decide +kernel
theorem dX8_back_23 : decode cX8_back 23 = .ok (.ifCond .ne 6, 3) := by decide +kernel
theorem dX8_back_26 : decode cX8_back 26 = .ok (.bipush (-3), 2) := by decide +kernel
theorem dX8_back_28 : decode cX8_back 28 = .ok (.ireturn, 1) := by decide +kernel
theorem dX8_back_29 : decode cX8_back 29 = .ok (.iconst 0, 1) := by decide +kernel
theorem dX8_back_30 : decode cX8_back 30 = .ok (.istore_n 2, 1) := by decide +kernel
theorem dX8_back_31 : decode cX8_back 31 = .ok (.iload_n 2, 1) := by decide +kernel
theorem dX8_back_32 : decode cX8_back 32 = .ok (.bipush 19, 2) := by decide +kernel
theorem dX8_back_34 : decode cX8_back 34 = .ok (.if_icmp .ge 26, 3) := by decide +kernel
theorem dX8_back_37 : decode cX8_back 37 = .ok (.aload_n 0, 1) := by decide +kernel
theorem dX8_back_38 : decode cX8_back 38 = .ok (.getfield 22, 3) := by decide +kernel
theorem dX8_back_41 : decode cX8_back 41 = .ok (.iload_n 2, 1) := by decide +kernel
theorem dX8_back_42 : decode cX8_back 42 = .ok (.aload_n 0, 1) := by decide +kernel
theorem dX8_back_43 : decode cX8_back 43 = .ok (.getfield 28, 3) := by decide +kernel
theorem dX8_back_46 : decode cX8_back 46 = .ok (.bipush 19, 2) := by decide +kernel
theorem dX8_back_48 : decode cX8_back 48 = .ok (.iload_n 1, 1) := by decide +kernel
theorem dX8_back_49 : decode cX8_back 49 = .ok (.imul, 1) := by decide +kernel
theorem dX8_back_50 : decode cX8_back 50 = .ok (.iload_n 2, 1) := by decide +kernel
theorem dX8_back_51 : decode cX8_back 51 = .ok (.iadd, 1) := by decide +kernel
theorem dX8_back_52 : decode cX8_back 52 = .ok (.iaload, 1) := by decide +kernel
theorem dX8_back_53 : decode cX8_back 53 = .ok (.iastore, 1) := by decide +kernel
theorem dX8_back_54 : decode cX8_back 54 = .ok (.iinc 2 1, 3) := by decide +kernel
theorem dX8_back_57 : decode cX8_back 57 = .ok (.goto (-26), 3) := by decide +kernel
theorem dX8_back_60 : decode cX8_back 60 = .ok (.aload_n 0, 1) := by decide +kernel
theorem dX8_back_61 : decode cX8_back 61 = .ok (.iconst 0, 1) := by decide +kernel
theorem dX8_back_62 : decode cX8_back 62 = .ok (.putfield 127, 3) := by decide +kernel
theorem dX8_back_65 : decode cX8_back 65 = .ok (.aload_n 0, 1) := by decide +kernel
theorem dX8_back_66 : decode cX8_back 66 = .ok (.getfield 13, 3) := by decide +kernel
theorem dX8_back_69 : decode cX8_back 69 = .ok (.iconst 0, 1) := by decide +kernel
theorem dX8_back_70 : decode cX8_back 70 = .ok (.iaload, 1) := by decide +kernel
theorem dX8_back_71 : decode cX8_back 71 = .ok (.ireturn, 1) := by decide +kernel
theorem dX8_styles_0 : decode cX8_styles 0 = .ok (.aload_n 0, 1) := by decide +kernel
theorem dX8_styles_1 : decode cX8_styles 1 = .ok (.invokevirtual 165, 3) := by decide +kernel
theorem dX8_styles_4 : decode cX8_styles 4 = .ok (.iconst 0, 1) := by decide +kernel
theorem dX8_styles_5 : decode cX8_styles 5 = .ok (.istore_n 1, 1) := by decide +kernel
theorem dX8_styles_6 : decode cX8_styles 6 = .ok (.iconst 0, 1) := by decide +kernel
theorem dX8_styles_7 : decode cX8_styles 7 = .ok (.istore_n 2, 1) := by decide +kernel
theorem dX8_styles_8 : decode cX8_styles 8 = .ok (.iload_n 2, 1) := by decide +kernel
theorem dX8_styles_9 : decode cX8_styles 9 = .ok (.aload_n 0, 1) := by decide +kernel
theorem dX8_styles_10 : decode cX8_styles 10 = .ok (.getfield 13, 3) := by decide +kernel
theorem dX8_styles_13 : decode cX8_styles 13 = .ok (.iconst 0, 1) := by decide +kernel
theorem dX8_styles_14 : decode cX8_styles 14 = .ok (.iaload, 1) := by decide +kernel
theorem dX8_styles_15 : decode cX8_styles 15 = .ok (.if_icmp .ge 26, 3) := by decide +kernel
theorem dX8_styles_18 : decode cX8_styles 18 = .ok (.iload_n 1, 1) := by decide +kernel
theorem dX8_styles_19 : decode cX8_styles 19 = .ok (.aload_n 0, 1) := by decide +kernel
theorem dX8_styles_20 : decode cX8_styles 20 = .ok (.iload_n 2, 1) := by decide +kernel
theorem dX8_styles_21 : decode cX8_styles 21 = .ok (.invokevirtual 168, 3) := by decide +kernel
theorem dX8_styles_24 : decode cX8_styles 24 = .ok (.iload_n 2, 1) := by decide +kernel
theorem dX8_styles_25 : decode cX8_styles 25 = .ok (.if_icmp .ne 7, 3) := by decide +kernel
theorem dX8_styles_28 : decode cX8_styles 28 = .ok (.iconst 1, 1) := by decide +kernel
theorem dX8_styles_29 : decode cX8_styles 29 = .ok (.goto 4, 3) := by decide +kernel
theorem dX8_styles_32 : decode cX8_styles 32 = .ok (.iconst 0, 1) := by decide +kernel
theorem dX8_styles_33 : decode cX8_styles 33 = .ok (.iadd, 1) := by decide +kernel
theorem dX8_styles_34 : decode cX8_styles 34 = .ok (.istore_n 1, 1) := by decide +kernel
theorem dX8_styles_35 : decode cX8_styles 35 = .ok (.iinc 2 1, 3) := by decide +kernel
theorem dX8_styles_38 : decode cX8_styles 38 = .ok (.goto (-30), 3) := by decide +kernel
theorem dX8_styles_41 : decode cX8_styles 41 = .ok (.iload_n 1, 1) := by decide +kernel
theorem dX8_styles_42 : decode cX8_styles 42 = .ok (.ireturn, 1) := by decide +kernel
theorem dX8_count_0 : decode cX8_count 0 = .ok (.aload_n 0, 1) := by decide +kernel
theorem dX8_count_1 : decode cX8_count 1 = .ok (.iconst 0, 1) := by decide +kernel
theorem dX8_count_2 : decode cX8_count 2 = .ok (.putfield 56, 3) := by decide +kernel
theorem dX8_count_5 : decode cX8_count 5 = .ok (.iload_n 1, 1) := by decide +kernel
theorem dX8_count_6 : decode cX8_count 6 = .ok (.iconst 0, 1) := by decide +kernel
theorem dX8_count_7 : decode cX8_count 7 = .ok (.bipush 6, 2) := by decide +kernel
theorem dX8_count_9 : decode cX8_count 9 = .ok (.invokestatic 60, 3) := by decide +kernel
theorem dX8_count_12 : decode cX8_count 12 = .ok (.ifCond .ne 6, 3) := by decide +kernel
theorem dX8_count_15 : decode cX8_count 15 = .ok (.bipush (-2), 2) := by decide +kernel
theorem dX8_count_17 : decode cX8_count 17 = .ok (.ireturn, 1) := by decide +kernel
theorem dX8_count_18 : decode cX8_count 18 = .ok (.iload_n 1, 1) := by decide +kernel
theorem dX8_count_19 : decode cX8_count 19 = .ok (.iconst 3, 1) := by decide +kernel
theorem dX8_count_20 : decode cX8_count 20 = .ok (.if_icmp .ge 25, 3) := by decide +kernel
theorem dX8_count_23 : decode cX8_count 23 = .ok (.iload_n 1, 1) := by decide +kernel
theorem dX8_count_24 : decode cX8_count 24 = .ok (.iconst 2, 1) := by decide +kernel
theorem dX8_count_25 : decode cX8_count 25 = .ok (.if_icmp .ne 13, 3) := by decide +kernel
theorem dX8_count_28 : decode cX8_count 28 = .ok (.aload_n 0, 1) := by decide +kernel
theorem dX8_count_29 : decode cX8_count 29 = .ok (.getfield 22, 3) := by decide +kernel
theorem dX8_count_32 : decode cX8_count 32 = .ok (.bipush 18, 2) := by decide +kernel
theorem dX8_count_34 : decode cX8_count 34 = .ok (.iaload, 1) := by decide +kernel
theorem dX8_count_35 : decode cX8_count 35 = .ok (.goto 9, 3) := by decide +kernel
theorem dX8_count_38 : decode cX8_count 38 = .ok (.aload_n 0, 1) := by decide +kernel
theorem dX8_count_39 : decode cX8_count 39 = .ok (.getfield 13, 3) := by decide +kernel
theorem dX8_count_42 : decode cX8_count 42 = .ok (.iload_n 1, 1) := by decide +kernel
theorem dX8_count_43 : decode cX8_count 43 = .ok (.iaload, 1) := by decide +kernel
theorem dX8_count_44 : decode cX8_count 44 = .ok (.ireturn, 1) := by decide +kernel
theorem dX8_count_45 : decode cX8_count 45 = .ok (.iload_n 1, 1) := by decide +kernel
theorem dX8_count_46 : decode cX8_count 46 = .ok (.iconst 3, 1) := by decide +kernel
theorem dX8_count_47 : decode cX8_count 47 = .ok (.if_icmp .ne 10, 3) := by decide +kernel
theorem dX8_count_50 : decode cX8_count 50 = .ok (.aload_n 0, 1) := by decide +kernel
theorem dX8_count_51 : decode cX8_count 51 = .ok (.invokevirtual 196, 3) := by decide +kernel
theorem dX8_count_54 : decode cX8_count 54 = .ok (.goto 31, 3) := by decide +kernel
theorem dX8_count_57 : decode cX8_count 57 = .ok (.iload_n 1, 1) := by decide +kernel
theorem dX8_count_58 : decode cX8_count 58 = .ok (.iconst 4, 1) := by decide +kernel
theorem dX8_count_59 : decode cX8_count 59 = .ok (.if_icmp .ne 10, 3) := by decide +kernel
theorem dX8_count_62 : decode cX8_count 62 = .ok (.aload_n 0, 1) := by decide +kernel
theorem dX8_count_63 : decode cX8_count 63 = .ok (.getfield 124, 3) := by decide +kernel
theorem dX8_count_66 : decode cX8_count 66 = .ok (.goto 19, 3) := by decide +kernel
theorem dX8_count_69 : decode cX8_count 69 = .ok (.iload_n 1, 1) := by decide +kernel
theorem dX8_count_70 : decode cX8_count 70 = .ok (.iconst 5, 1) := by decide +kernel
theorem dX8_count_71 : decode cX8_count 71 = .ok (.if_icmp .ne 10, 3) := by decide +kernel
theorem dX8_count_74 : decode cX8_count 74 = .ok (.aload_n 0, 1) := by decide +kernel
theorem dX8_count_75 : decode cX8_count 75 = .ok (.getfield 64, 3) := by decide +kernel
theorem dX8_count_78 : decode cX8_count 78 = .ok (.goto 7, 3) := by decide +kernel
theorem dX8_count_81 : decode cX8_count 81 = .ok (.aload_n 0, 1) := by decide +kernel
theorem dX8_count_82 : decode cX8_count 82 = .ok (.getfield 127, 3) := by decide +kernel
theorem dX8_count_85 : decode cX8_count 85 = .ok (.ireturn, 1) := by decide +kernel
theorem dJ6_bitCount_0f7a4_0 : decode cJ6_bitCount_0f7a4 0 = .ok (.iload_n 0, 1) := by decide +kernel
theorem dJ6_bitCount_0f7a4_1 : decode cJ6_bitCount_0f7a4 1 = .ok (.iload_n 0, 1) := by decide +kernel
theorem dJ6_bitCount_0f7a4_2 : decode cJ6_bitCount_0f7a4 2 = .ok (.iconst 1, 1) := by decide +kernel
theorem dJ6_bitCount_0f7a4_3 : decode cJ6_bitCount_0f7a4 3 = .ok (.iushr, 1) := by decide +kernel
theorem dJ6_bitCount_0f7a4_4 : decode cJ6_bitCount_0f7a4 4 = .ok (.ldc_w 265, 3) := by decide +kernel
theorem dJ6_bitCount_0f7a4_7 : decode cJ6_bitCount_0f7a4 7 = .ok (.iand, 1) := by decide +kernel
theorem dJ6_bitCount_0f7a4_8 : decode cJ6_bitCount_0f7a4 8 = .ok (.isub, 1) := by decide +kernel
theorem dJ6_bitCount_0f7a4_9 : decode cJ6_bitCount_0f7a4 9 = .ok (.istore_n 0, 1) := by decide +kernel
theorem dJ6_bitCount_0f7a4_10 : decode cJ6_bitCount_0f7a4 10 = .ok (.iload_n 0, 1) := by decide +kernel
theorem dJ6_bitCount_0f7a4_11 : decode cJ6_bitCount_0f7a4 11 = .ok (.ldc_w 266, 3) := by decide +kernel
theorem dJ6_bitCount_0f7a4_14 : decode cJ6_bitCount_0f7a4 14 = .ok (.iand, 1) := by decide +kernel
theorem dJ6_bitCount_0f7a4_15 : decode cJ6_bitCount_0f7a4 15 = .ok (.iload_n 0, 1) := by decide +kernel
theorem dJ6_bitCount_0f7a4_16 : decode cJ6_bitCount_0f7a4 16 = .ok (.iconst 2, 1) := by decide +kernel
theorem dJ6_bitCount_0f7a4_17 : decode cJ6_bitCount_0f7a4 17 = .ok (.iushr, 1) := by decide +kernel
theorem dJ6_bitCount_0f7a4_18 : decode cJ6_bitCount_0f7a4 18 = .ok (.ldc_w 266, 3) := by decide +kernel
theorem dJ6_bitCount_0f7a4_21 : decode cJ6_bitCount_0f7a4 21 = .ok (.iand, 1) := by decide +kernel
theorem dJ6_bitCount_0f7a4_22 : decode cJ6_bitCount_0f7a4 22 = .ok (.iadd, 1) := by decide +kernel
theorem dJ6_bitCount_0f7a4_23 : decode cJ6_bitCount_0f7a4 23 = .ok (.istore_n 0, 1) := by decide +kernel
theorem dJ6_bitCount_0f7a4_24 : decode cJ6_bitCount_0f7a4 24 = .ok (.iload_n 0, 1) := by decide +kernel
theorem dJ6_bitCount_0f7a4_25 : decode cJ6_bitCount_0f7a4 25 = .ok (.iload_n 0, 1) := by decide +kernel
theorem dJ6_bitCount_0f7a4_26 : decode cJ6_bitCount_0f7a4 26 = .ok (.iconst 4, 1) := by decide +kernel
theorem dJ6_bitCount_0f7a4_27 : decode cJ6_bitCount_0f7a4 27 = .ok (.iushr, 1) := by decide +kernel
theorem dJ6_bitCount_0f7a4_28 : decode cJ6_bitCount_0f7a4 28 = .ok (.iadd, 1) := by decide +kernel
theorem dJ6_bitCount_0f7a4_29 : decode cJ6_bitCount_0f7a4 29 = .ok (.ldc_w 267, 3) := by decide +kernel
theorem dJ6_bitCount_0f7a4_32 : decode cJ6_bitCount_0f7a4 32 = .ok (.iand, 1) := by decide +kernel
theorem dJ6_bitCount_0f7a4_33 : decode cJ6_bitCount_0f7a4 33 = .ok (.istore_n 0, 1) := by decide +kernel
theorem dJ6_bitCount_0f7a4_34 : decode cJ6_bitCount_0f7a4 34 = .ok (.iload_n 0, 1) := by decide +kernel
theorem dJ6_bitCount_0f7a4_35 : decode cJ6_bitCount_0f7a4 35 = .ok (.iload_n 0, 1) := by decide +kernel
theorem dJ6_bitCount_0f7a4_36 : decode cJ6_bitCount_0f7a4 36 = .ok (.bipush 8, 2) := by decide +kernel
theorem dJ6_bitCount_0f7a4_38 : decode cJ6_bitCount_0f7a4 38 = .ok (.iushr, 1) := by decide +kernel
theorem dJ6_bitCount_0f7a4_39 : decode cJ6_bitCount_0f7a4 39 = .ok (.iadd, 1) := by decide +kernel
theorem dJ6_bitCount_0f7a4_40 : decode cJ6_bitCount_0f7a4 40 = .ok (.istore_n 0, 1) := by decide +kernel
theorem dJ6_bitCount_0f7a4_41 : decode cJ6_bitCount_0f7a4 41 = .ok (.iload_n 0, 1) := by decide +kernel
theorem dJ6_bitCount_0f7a4_42 : decode cJ6_bitCount_0f7a4 42 = .ok (.iload_n 0, 1) := by decide +kernel
theorem dJ6_bitCount_0f7a4_43 : decode cJ6_bitCount_0f7a4 43 = .ok (.bipush 16, 2) := by decide +kernel
theorem dJ6_bitCount_0f7a4_45 : decode cJ6_bitCount_0f7a4 45 = .ok (.iushr, 1) := by decide +kernel
theorem dJ6_bitCount_0f7a4_46 : decode cJ6_bitCount_0f7a4 46 = .ok (.iadd, 1) := by decide +kernel
theorem dJ6_bitCount_0f7a4_47 : decode cJ6_bitCount_0f7a4 47 = .ok (.istore_n 0, 1) := by decide +kernel
theorem dJ6_bitCount_0f7a4_48 : decode cJ6_bitCount_0f7a4 48 = .ok (.iload_n 0, 1) := by decide +kernel
theorem dJ6_bitCount_0f7a4_49 : decode cJ6_bitCount_0f7a4 49 = .ok (.bipush 63, 2) := by decide +kernel
theorem dJ6_bitCount_0f7a4_51 : decode cJ6_bitCount_0f7a4 51 = .ok (.iand, 1) := by decide +kernel
theorem dJ6_bitCount_0f7a4_52 : decode cJ6_bitCount_0f7a4 52 = .ok (.ireturn, 1) := by decide +kernel
theorem dJ9_min_7cf53_0 : decode cJ9_min_7cf53 0 = .ok (.iload_n 0, 1) := by decide +kernel
theorem dJ9_min_7cf53_1 : decode cJ9_min_7cf53 1 = .ok (.iload_n 1, 1) := by decide +kernel
theorem dJ9_min_7cf53_2 : decode cJ9_min_7cf53 2 = .ok (.if_icmp .gt 7, 3) := by decide +kernel
theorem dJ9_min_7cf53_5 : decode cJ9_min_7cf53 5 = .ok (.iload_n 0, 1) := by decide +kernel
theorem dJ9_min_7cf53_6 : decode cJ9_min_7cf53 6 = .ok (.goto 4, 3) := by decide +kernel
theorem dJ9_min_7cf53_9 : decode cJ9_min_7cf53 9 = .ok (.iload_n 1, 1) := by decide +kernel
theorem dJ9_min_7cf53_10 : decode cJ9_min_7cf53 10 = .ok (.ireturn, 1) := by decide +kernel
theorem dL_law_0 : decode cL_law 0 = .ok (.new 7, 3) := by decide +kernel
theorem dL_law_3 : decode cL_law 3 = .ok (.dup, 1) := by decide +kernel
theorem dL_law_4 : decode cL_law 4 = .ok (.invokespecial 9, 3) := by decide +kernel
theorem dL_law_7 : decode cL_law 7 = .ok (.astore_n 1, 1) := by decide +kernel
theorem dL_law_8 : decode cL_law 8 = .ok (.new 10, 3) := by decide +kernel
theorem dL_law_11 : decode cL_law 11 = .ok (.dup, 1) := by decide +kernel
theorem dL_law_12 : decode cL_law 12 = .ok (.invokespecial 12, 3) := by decide +kernel
theorem dL_law_15 : decode cL_law 15 = .ok (.astore_n 2, 1) := by decide +kernel
theorem dL_law_16 : decode cL_law 16 = .ok (.iconst 0, 1) := by decide +kernel
theorem dL_law_17 : decode cL_law 17 = .ok (.istore_n 3, 1) := by decide +kernel
theorem dL_law_18 : decode cL_law 18 = .ok (.iload_n 3, 1) := by decide +kernel
theorem dL_law_19 : decode cL_law 19 = .ok (.aload_n 0, 1) := by decide +kernel
theorem dL_law_20 : decode cL_law 20 = .ok (.arraylength, 1) := by decide +kernel
theorem dL_law_21 : decode cL_law 21 = .ok (.iconst 4, 1) := by decide +kernel
theorem dL_law_22 : decode cL_law 22 = .ok (.isub, 1) := by decide +kernel
theorem dL_law_23 : decode cL_law 23 = .ok (.if_icmp .gt 678, 3) := by decide +kernel
theorem dL_law_26 : decode cL_law 26 = .ok (.aload_n 0, 1) := by decide +kernel
theorem dL_law_27 : decode cL_law 27 = .ok (.iload_n 3, 1) := by decide +kernel
theorem dL_law_28 : decode cL_law 28 = .ok (.iaload, 1) := by decide +kernel
theorem dL_law_29 : decode cL_law 29 = .ok (.bipush 31, 2) := by decide +kernel
theorem dL_law_31 : decode cL_law 31 = .ok (.iand, 1) := by decide +kernel
theorem dL_law_32 : decode cL_law 32 = .ok (.tableswitch 663 0 20 #[100, 123, 136, 149, 182, 215, 248, 281, 304, 317, 350, 393, 426, 469, 512, 555, 568, 581, 594, 617, 640], 100) := by decide +kernel
theorem dL_law_132 : decode cL_law 132 = .ok (.aload_n 1, 1) := by decide +kernel
theorem dL_law_133 : decode cL_law 133 = .ok (.aload_n 0, 1) := by decide +kernel
theorem dL_law_134 : decode cL_law 134 = .ok (.iload_n 3, 1) := by decide +kernel
theorem dL_law_135 : decode cL_law 135 = .ok (.iconst 1, 1) := by decide +kernel
theorem dL_law_136 : decode cL_law 136 = .ok (.iadd, 1) := by decide +kernel
theorem dL_law_137 : decode cL_law 137 = .ok (.iaload, 1) := by decide +kernel
theorem dL_law_138 : decode cL_law 138 = .ok (.invokevirtual 13, 3) := by decide +kernel
theorem dL_law_141 : decode cL_law 141 = .ok (.aload_n 2, 1) := by decide +kernel
theorem dL_law_142 : decode cL_law 142 = .ok (.aload_n 0, 1) := by decide +kernel
theorem dL_law_143 : decode cL_law 143 = .ok (.iload_n 3, 1) := by decide +kernel
theorem dL_law_144 : decode cL_law 144 = .ok (.iconst 1, 1) := by decide +kernel
theorem dL_law_145 : decode cL_law 145 = .ok (.iadd, 1) := by decide +kernel
theorem dL_law_146 : decode cL_law 146 = .ok (.iaload, 1) := by decide +kernel
theorem dL_law_147 : decode cL_law 147 = .ok (.invokevirtual 17, 3) := by decide +kernel
theorem dL_law_150 : decode cL_law 150 = .ok (.if_icmp .eq 545, 3) := by decide +kernel
theorem dL_law_153 : decode cL_law 153 = .ok (.iconst 0, 1) := by decide +kernel
theorem dL_law_154 : decode cL_law 154 = .ok (.ireturn, 1) := by decide +kernel
theorem dL_law_155 : decode cL_law 155 = .ok (.aload_n 1, 1) := by decide +kernel
theorem dL_law_156 : decode cL_law 156 = .ok (.invokevirtual 18, 3) := by decide +kernel
theorem dL_law_159 : decode cL_law 159 = .ok (.aload_n 2, 1) := by decide +kernel
theorem dL_law_160 : decode cL_law 160 = .ok (.invokevirtual 22, 3) := by decide +kernel
theorem dL_law_163 : decode cL_law 163 = .ok (.if_icmp .eq 532, 3) := by decide +kernel
theorem dL_law_166 : decode cL_law 166 = .ok (.iconst 0, 1) := by decide +kernel
theorem dL_law_167 : decode cL_law 167 = .ok (.ireturn, 1) := by decide +kernel
theorem dL_law_168 : decode cL_law 168 = .ok (.aload_n 1, 1) := by decide +kernel
theorem dL_law_169 : decode cL_law 169 = .ok (.invokevirtual 23, 3) := by decide +kernel
theorem dL_law_172 : decode cL_law 172 = .ok (.aload_n 2, 1) := by decide +kernel
theorem dL_law_173 : decode cL_law 173 = .ok (.invokevirtual 26, 3) := by decide +kernel
theorem dL_law_176 : decode cL_law 176 = .ok (.if_icmp .eq 519, 3) := by decide +kernel
theorem dL_law_179 : decode cL_law 179 = .ok (.iconst 0, 1) := by decide +kernel
theorem dL_law_180 : decode cL_law 180 = .ok (.ireturn, 1) := by decide +kernel
theorem dL_law_181 : decode cL_law 181 = .ok (.aload_n 1, 1) := by decide +kernel
theorem dL_law_182 : decode cL_law 182 = .ok (.aload_n 0, 1) := by decide +kernel
theorem dL_law_183 : decode cL_law 183 = .ok (.iload_n 3, 1) := by decide +kernel
theorem dL_law_184 : decode cL_law 184 = .ok (.iconst 1, 1) := by decide +kernel
theorem dL_law_185 : decode cL_law 185 = .ok (.iadd, 1) := by decide +kernel
theorem dL_law_186 : decode cL_law 186 = .ok (.iaload, 1) := by decide +kernel
theorem dL_law_187 : decode cL_law 187 = .ok (.aload_n 0, 1) := by decide +kernel
theorem dL_law_188 : decode cL_law 188 = .ok (.iload_n 3, 1) := by decide +kernel
theorem dL_law_189 : decode cL_law 189 = .ok (.iconst 2, 1) := by decide +kernel
theorem dL_law_190 : decode cL_law 190 = .ok (.iadd, 1) := by decide +kernel
theorem dL_law_191 : decode cL_law 191 = .ok (.iaload, 1) := by decide +kernel
theorem dL_law_192 : decode cL_law 192 = .ok (.invokevirtual 27, 3) := by decide +kernel
theorem dL_law_195 : decode cL_law 195 = .ok (.aload_n 2, 1) := by decide +kernel
theorem dL_law_196 : decode cL_law 196 = .ok (.aload_n 0, 1) := by decide +kernel
theorem dL_law_197 : decode cL_law 197 = .ok (.iload_n 3, 1) := by decide +kernel
theorem dL_law_198 : decode cL_law 198 = .ok (.iconst 1, 1) := by decide +kernel
theorem dL_law_199 : decode cL_law 199 = .ok (.iadd, 1) := by decide +kernel
theorem dL_law_200 : decode cL_law 200 = .ok (.iaload, 1) := by decide +kernel
theorem dL_law_201 : decode cL_law 201 = .ok (.aload_n 0, 1) := by decide +kernel
theorem dL_law_202 : decode cL_law 202 = .ok (.iload_n 3, 1) := by decide +kernel
theorem dL_law_203 : decode cL_law 203 = .ok (.iconst 2, 1) := by decide +kernel
theorem dL_law_204 : decode cL_law 204 = .ok (.iadd, 1) := by decide +kernel
theorem dL_law_205 : decode cL_law 205 = .ok (.iaload, 1) := by decide +kernel
theorem dL_law_206 : decode cL_law 206 = .ok (.invokevirtual 31, 3) := by decide +kernel
theorem dL_law_209 : decode cL_law 209 = .ok (.if_icmp .eq 486, 3) := by decide +kernel
theorem dL_law_212 : decode cL_law 212 = .ok (.iconst 0, 1) := by decide +kernel
theorem dL_law_213 : decode cL_law 213 = .ok (.ireturn, 1) := by decide +kernel
theorem dL_law_214 : decode cL_law 214 = .ok (.aload_n 1, 1) := by decide +kernel
theorem dL_law_215 : decode cL_law 215 = .ok (.aload_n 0, 1) := by decide +kernel
theorem dL_law_216 : decode cL_law 216 = .ok (.iload_n 3, 1) := by decide +kernel
theorem dL_law_217 : decode cL_law 217 = .ok (.iconst 1, 1) := by decide +kernel
theorem dL_law_218 : decode cL_law 218 = .ok (.iadd, 1) := by decide +kernel
theorem dL_law_219 : decode cL_law 219 = .ok (.iaload, 1) := by decide +kernel
theorem dL_law_220 : decode cL_law 220 = .ok (.aload_n 0, 1) := by decide +kernel
theorem dL_law_221 : decode cL_law 221 = .ok (.iload_n 3, 1) := by decide +kernel
theorem dL_law_222 : decode cL_law 222 = .ok (.iconst 2, 1) := by decide +kernel
theorem dL_law_223 : decode cL_law 223 = .ok (.iadd, 1) := by decide +kernel
theorem dL_law_224 : decode cL_law 224 = .ok (.iaload, 1) := by decide +kernel
theorem dL_law_225 : decode cL_law 225 = .ok (.invokevirtual 32, 3) := by decide +kernel
theorem dL_law_228 : decode cL_law 228 = .ok (.aload_n 2, 1) := by decide +kernel
theorem dL_law_229 : decode cL_law 229 = .ok (.aload_n 0, 1) := by decide +kernel
theorem dL_law_230 : decode cL_law 230 = .ok (.iload_n 3, 1) := by decide +kernel
theorem dL_law_231 : decode cL_law 231 = .ok (.iconst 1, 1) := by decide +kernel
theorem dL_law_232 : decode cL_law 232 = .ok (.iadd, 1) := by decide +kernel
theorem dL_law_233 : decode cL_law 233 = .ok (.iaload, 1) := by decide +kernel
theorem dL_law_234 : decode cL_law 234 = .ok (.aload_n 0, 1) := by decide +kernel
theorem dL_law_235 : decode cL_law 235 = .ok (.iload_n 3, 1) := by decide +kernel
theorem dL_law_236 : decode cL_law 236 = .ok (.iconst 2, 1) := by decide +kernel
theorem dL_law_237 : decode cL_law 237 = .ok (.iadd, 1) := by decide +kernel
theorem dL_law_238 : decode cL_law 238 = .ok (.iaload, 1) := by decide +kernel
theorem dL_law_239 : decode cL_law 239 = .ok (.invokevirtual 35, 3) := by decide +kernel
theorem dL_law_242 : decode cL_law 242 = .ok (.if_icmp .eq 453, 3) := by decide +kernel
theorem dL_law_245 : decode cL_law 245 = .ok (.iconst 0, 1) := by decide +kernel
theorem dL_law_246 : decode cL_law 246 = .ok (.ireturn, 1) := by decide +kernel
theorem dL_law_247 : decode cL_law 247 = .ok (.aload_n 1, 1) := by decide +kernel
theorem dL_law_248 : decode cL_law 248 = .ok (.aload_n 0, 1) := by decide +kernel
theorem dL_law_249 : decode cL_law 249 = .ok (.iload_n 3, 1) := by decide +kernel
theorem dL_law_250 : decode cL_law 250 = .ok (.iconst 1, 1) := by decide +kernel
theorem dL_law_251 : decode cL_law 251 = .ok (.iadd, 1) := by decide +kernel
theorem dL_law_252 : decode cL_law 252 = .ok (.iaload, 1) := by decide +kernel
theorem dL_law_253 : decode cL_law 253 = .ok (.aload_n 0, 1) := by decide +kernel
theorem dL_law_254 : decode cL_law 254 = .ok (.iload_n 3, 1) := by decide +kernel
theorem dL_law_255 : decode cL_law 255 = .ok (.iconst 2, 1) := by decide +kernel
theorem dL_law_256 : decode cL_law 256 = .ok (.iadd, 1) := by decide +kernel
theorem dL_law_257 : decode cL_law 257 = .ok (.iaload, 1) := by decide +kernel
theorem dL_law_258 : decode cL_law 258 = .ok (.invokevirtual 36, 3) := by decide +kernel
theorem dL_law_261 : decode cL_law 261 = .ok (.aload_n 2, 1) := by decide +kernel
theorem dL_law_262 : decode cL_law 262 = .ok (.aload_n 0, 1) := by decide +kernel
theorem dL_law_263 : decode cL_law 263 = .ok (.iload_n 3, 1) := by decide +kernel
theorem dL_law_264 : decode cL_law 264 = .ok (.iconst 1, 1) := by decide +kernel
theorem dL_law_265 : decode cL_law 265 = .ok (.iadd, 1) := by decide +kernel
theorem dL_law_266 : decode cL_law 266 = .ok (.iaload, 1) := by decide +kernel
theorem dL_law_267 : decode cL_law 267 = .ok (.aload_n 0, 1) := by decide +kernel
theorem dL_law_268 : decode cL_law 268 = .ok (.iload_n 3, 1) := by decide +kernel
theorem dL_law_269 : decode cL_law 269 = .ok (.iconst 2, 1) := by decide +kernel
theorem dL_law_270 : decode cL_law 270 = .ok (.iadd, 1) := by decide +kernel
theorem dL_law_271 : decode cL_law 271 = .ok (.iaload, 1) := by decide +kernel
theorem dL_law_272 : decode cL_law 272 = .ok (.invokevirtual 39, 3) := by decide +kernel
theorem dL_law_275 : decode cL_law 275 = .ok (.if_icmp .eq 420, 3) := by decide +kernel
theorem dL_law_278 : decode cL_law 278 = .ok (.iconst 0, 1) := by decide +kernel
theorem dL_law_279 : decode cL_law 279 = .ok (.ireturn, 1) := by decide +kernel
theorem dL_law_280 : decode cL_law 280 = .ok (.aload_n 1, 1) := by decide +kernel
theorem dL_law_281 : decode cL_law 281 = .ok (.aload_n 0, 1) := by decide +kernel
theorem dL_law_282 : decode cL_law 282 = .ok (.iload_n 3, 1) := by decide +kernel
theorem dL_law_283 : decode cL_law 283 = .ok (.iconst 1, 1) := by decide +kernel
theorem dL_law_284 : decode cL_law 284 = .ok (.iadd, 1) := by decide +kernel
theorem dL_law_285 : decode cL_law 285 = .ok (.iaload, 1) := by decide +kernel
theorem dL_law_286 : decode cL_law 286 = .ok (.aload_n 0, 1) := by decide +kernel
theorem dL_law_287 : decode cL_law 287 = .ok (.iload_n 3, 1) := by decide +kernel
theorem dL_law_288 : decode cL_law 288 = .ok (.iconst 2, 1) := by decide +kernel
theorem dL_law_289 : decode cL_law 289 = .ok (.iadd, 1) := by decide +kernel
theorem dL_law_290 : decode cL_law 290 = .ok (.iaload, 1) := by decide +kernel
theorem dL_law_291 : decode cL_law 291 = .ok (.invokevirtual 40, 3) := by decide +kernel
theorem dL_law_294 : decode cL_law 294 = .ok (.aload_n 2, 1) := by decide +kernel
theorem dL_law_295 : decode cL_law 295 = .ok (.aload_n 0, 1) := by decide +kernel
theorem dL_law_296 : decode cL_law 296 = .ok (.iload_n 3, 1) := by decide +kernel
theorem dL_law_297 : decode cL_law 297 = .ok (.iconst 1, 1) := by decide +kernel
theorem dL_law_298 : decode cL_law 298 = .ok (.iadd, 1) := by decide +kernel
theorem dL_law_299 : decode cL_law 299 = .ok (.iaload, 1) := by decide +kernel
theorem dL_law_300 : decode cL_law 300 = .ok (.aload_n 0, 1) := by decide +kernel
theorem dL_law_301 : decode cL_law 301 = .ok (.iload_n 3, 1) := by decide +kernel
theorem dL_law_302 : decode cL_law 302 = .ok (.iconst 2, 1) := by decide +kernel
theorem dL_law_303 : decode cL_law 303 = .ok (.iadd, 1) := by decide +kernel
theorem dL_law_304 : decode cL_law 304 = .ok (.iaload, 1) := by decide +kernel
theorem dL_law_305 : decode cL_law 305 = .ok (.invokevirtual 43, 3) := by decide +kernel
theorem dL_law_308 : decode cL_law 308 = .ok (.if_icmp .eq 387, 3) := by decide +kernel
theorem dL_law_311 : decode cL_law 311 = .ok (.iconst 0, 1) := by decide +kernel
theorem dL_law_312 : decode cL_law 312 = .ok (.ireturn, 1) := by decide +kernel
theorem dL_law_313 : decode cL_law 313 = .ok (.aload_n 1, 1) := by decide +kernel
theorem dL_law_314 : decode cL_law 314 = .ok (.aload_n 0, 1) := by decide +kernel
theorem dL_law_315 : decode cL_law 315 = .ok (.iload_n 3, 1) := by decide +kernel
theorem dL_law_316 : decode cL_law 316 = .ok (.iconst 1, 1) := by decide +kernel
theorem dL_law_317 : decode cL_law 317 = .ok (.iadd, 1) := by decide +kernel
theorem dL_law_318 : decode cL_law 318 = .ok (.iaload, 1) := by decide +kernel
theorem dL_law_319 : decode cL_law 319 = .ok (.invokevirtual 44, 3) := by decide +kernel
theorem dL_law_322 : decode cL_law 322 = .ok (.aload_n 2, 1) := by decide +kernel
theorem dL_law_323 : decode cL_law 323 = .ok (.aload_n 0, 1) := by decide +kernel
theorem dL_law_324 : decode cL_law 324 = .ok (.iload_n 3, 1) := by decide +kernel
theorem dL_law_325 : decode cL_law 325 = .ok (.iconst 1, 1) := by decide +kernel
theorem dL_law_326 : decode cL_law 326 = .ok (.iadd, 1) := by decide +kernel
theorem dL_law_327 : decode cL_law 327 = .ok (.iaload, 1) := by decide +kernel
theorem dL_law_328 : decode cL_law 328 = .ok (.invokevirtual 47, 3) := by decide +kernel
theorem dL_law_331 : decode cL_law 331 = .ok (.if_icmp .eq 364, 3) := by decide +kernel
theorem dL_law_334 : decode cL_law 334 = .ok (.iconst 0, 1) := by decide +kernel
theorem dL_law_335 : decode cL_law 335 = .ok (.ireturn, 1) := by decide +kernel
theorem dL_law_336 : decode cL_law 336 = .ok (.aload_n 1, 1) := by decide +kernel
theorem dL_law_337 : decode cL_law 337 = .ok (.invokevirtual 48, 3) := by decide +kernel
theorem dL_law_340 : decode cL_law 340 = .ok (.aload_n 2, 1) := by decide +kernel
theorem dL_law_341 : decode cL_law 341 = .ok (.invokevirtual 51, 3) := by decide +kernel
theorem dL_law_344 : decode cL_law 344 = .ok (.if_icmp .eq 351, 3) := by decide +kernel
theorem dL_law_347 : decode cL_law 347 = .ok (.iconst 0, 1) := by decide +kernel
theorem dL_law_348 : decode cL_law 348 = .ok (.ireturn, 1) := by decide +kernel
theorem dL_law_349 : decode cL_law 349 = .ok (.aload_n 1, 1) := by decide +kernel
theorem dL_law_350 : decode cL_law 350 = .ok (.aload_n 0, 1) := by decide +kernel
theorem dL_law_351 : decode cL_law 351 = .ok (.iload_n 3, 1) := by decide +kernel
theorem dL_law_352 : decode cL_law 352 = .ok (.iconst 1, 1) := by decide +kernel
theorem dL_law_353 : decode cL_law 353 = .ok (.iadd, 1) := by decide +kernel
theorem dL_law_354 : decode cL_law 354 = .ok (.iaload, 1) := by decide +kernel
theorem dL_law_355 : decode cL_law 355 = .ok (.aload_n 0, 1) := by decide +kernel
theorem dL_law_356 : decode cL_law 356 = .ok (.iload_n 3, 1) := by decide +kernel
theorem dL_law_357 : decode cL_law 357 = .ok (.iconst 2, 1) := by decide +kernel
theorem dL_law_358 : decode cL_law 358 = .ok (.iadd, 1) := by decide +kernel
theorem dL_law_359 : decode cL_law 359 = .ok (.iaload, 1) := by decide +kernel
theorem dL_law_360 : decode cL_law 360 = .ok (.invokevirtual 52, 3) := by decide +kernel
theorem dL_law_363 : decode cL_law 363 = .ok (.aload_n 2, 1) := by decide +kernel
theorem dL_law_364 : decode cL_law 364 = .ok (.aload_n 0, 1) := by decide +kernel
theorem dL_law_365 : decode cL_law 365 = .ok (.iload_n 3, 1) := by decide +kernel
theorem dL_law_366 : decode cL_law 366 = .ok (.iconst 1, 1) := by decide +kernel
theorem dL_law_367 : decode cL_law 367 = .ok (.iadd, 1) := by decide +kernel
theorem dL_law_368 : decode cL_law 368 = .ok (.iaload, 1) := by decide +kernel
theorem dL_law_369 : decode cL_law 369 = .ok (.aload_n 0, 1) := by decide +kernel
theorem dL_law_370 : decode cL_law 370 = .ok (.iload_n 3, 1) := by decide +kernel
theorem dL_law_371 : decode cL_law 371 = .ok (.iconst 2, 1) := by decide +kernel
theorem dL_law_372 : decode cL_law 372 = .ok (.iadd, 1) := by decide +kernel
theorem dL_law_373 : decode cL_law 373 = .ok (.iaload, 1) := by decide +kernel
theorem dL_law_374 : decode cL_law 374 = .ok (.invokevirtual 55, 3) := by decide +kernel
theorem dL_law_377 : decode cL_law 377 = .ok (.if_icmp .eq 318, 3) := by decide +kernel
theorem dL_law_380 : decode cL_law 380 = .ok (.iconst 0, 1) := by decide +kernel
theorem dL_law_381 : decode cL_law 381 = .ok (.ireturn, 1) := by decide +kernel
theorem dL_law_382 : decode cL_law 382 = .ok (.aload_n 1, 1) := by decide +kernel
theorem dL_law_383 : decode cL_law 383 = .ok (.aload_n 0, 1) := by decide +kernel
theorem dL_law_384 : decode cL_law 384 = .ok (.iload_n 3, 1) := by decide +kernel
theorem dL_law_385 : decode cL_law 385 = .ok (.iconst 1, 1) := by decide +kernel
theorem dL_law_386 : decode cL_law 386 = .ok (.iadd, 1) := by decide +kernel
theorem dL_law_387 : decode cL_law 387 = .ok (.iaload, 1) := by decide +kernel
theorem dL_law_388 : decode cL_law 388 = .ok (.aload_n 0, 1) := by decide +kernel
theorem dL_law_389 : decode cL_law 389 = .ok (.iload_n 3, 1) := by decide +kernel
theorem dL_law_390 : decode cL_law 390 = .ok (.iconst 2, 1) := by decide +kernel
theorem dL_law_391 : decode cL_law 391 = .ok (.iadd, 1) := by decide +kernel
theorem dL_law_392 : decode cL_law 392 = .ok (.iaload, 1) := by decide +kernel
theorem dL_law_393 : decode cL_law 393 = .ok (.aload_n 0, 1) := by decide +kernel
theorem dL_law_394 : decode cL_law 394 = .ok (.iload_n 3, 1) := by decide +kernel
theorem dL_law_395 : decode cL_law 395 = .ok (.iconst 3, 1) := by decide +kernel
theorem dL_law_396 : decode cL_law 396 = .ok (.iadd, 1) := by decide +kernel
theorem dL_law_397 : decode cL_law 397 = .ok (.iaload, 1) := by decide +kernel
theorem dL_law_398 : decode cL_law 398 = .ok (.invokevirtual 56, 3) := by decide +kernel
theorem dL_law_401 : decode cL_law 401 = .ok (.aload_n 2, 1) := by decide +kernel
theorem dL_law_402 : decode cL_law 402 = .ok (.aload_n 0, 1) := by decide +kernel
theorem dL_law_403 : decode cL_law 403 = .ok (.iload_n 3, 1) := by decide +kernel
theorem dL_law_404 : decode cL_law 404 = .ok (.iconst 1, 1) := by decide +kernel
theorem dL_law_405 : decode cL_law 405 = .ok (.iadd, 1) := by decide +kernel
theorem dL_law_406 : decode cL_law 406 = .ok (.iaload, 1) := by decide +kernel
theorem dL_law_407 : decode cL_law 407 = .ok (.aload_n 0, 1) := by decide +kernel
theorem dL_law_408 : decode cL_law 408 = .ok (.iload_n 3, 1) := by decide +kernel
theorem dL_law_409 : decode cL_law 409 = .ok (.iconst 2, 1) := by decide +kernel
theorem dL_law_410 : decode cL_law 410 = .ok (.iadd, 1) := by decide +kernel
theorem dL_law_411 : decode cL_law 411 = .ok (.iaload, 1) := by decide +kernel
theorem dL_law_412 : decode cL_law 412 = .ok (.aload_n 0, 1) := by decide +kernel
theorem dL_law_413 : decode cL_law 413 = .ok (.iload_n 3, 1) := by decide +kernel
theorem dL_law_414 : decode cL_law 414 = .ok (.iconst 3, 1) := by decide +kernel
theorem dL_law_415 : decode cL_law 415 = .ok (.iadd, 1) := by decide +kernel
theorem dL_law_416 : decode cL_law 416 = .ok (.iaload, 1) := by decide +kernel
theorem dL_law_417 : decode cL_law 417 = .ok (.invokevirtual 60, 3) := by decide +kernel
theorem dL_law_420 : decode cL_law 420 = .ok (.if_icmp .eq 275, 3) := by decide +kernel
theorem dL_law_423 : decode cL_law 423 = .ok (.iconst 0, 1) := by decide +kernel
theorem dL_law_424 : decode cL_law 424 = .ok (.ireturn, 1) := by decide +kernel
theorem dL_law_425 : decode cL_law 425 = .ok (.aload_n 1, 1) := by decide +kernel
theorem dL_law_426 : decode cL_law 426 = .ok (.aload_n 0, 1) := by decide +kernel
theorem dL_law_427 : decode cL_law 427 = .ok (.iload_n 3, 1) := by decide +kernel
theorem dL_law_428 : decode cL_law 428 = .ok (.iconst 1, 1) := by decide +kernel
theorem dL_law_429 : decode cL_law 429 = .ok (.iadd, 1) := by decide +kernel
theorem dL_law_430 : decode cL_law 430 = .ok (.iaload, 1) := by decide +kernel
theorem dL_law_431 : decode cL_law 431 = .ok (.aload_n 0, 1) := by decide +kernel
theorem dL_law_432 : decode cL_law 432 = .ok (.iload_n 3, 1) := by decide +kernel
theorem dL_law_433 : decode cL_law 433 = .ok (.iconst 2, 1) := by decide +kernel
theorem dL_law_434 : decode cL_law 434 = .ok (.iadd, 1) := by decide +kernel
theorem dL_law_435 : decode cL_law 435 = .ok (.iaload, 1) := by decide +kernel
theorem dL_law_436 : decode cL_law 436 = .ok (.invokevirtual 61, 3) := by decide +kernel
theorem dL_law_439 : decode cL_law 439 = .ok (.aload_n 2, 1) := by decide +kernel
theorem dL_law_440 : decode cL_law 440 = .ok (.aload_n 0, 1) := by decide +kernel
theorem dL_law_441 : decode cL_law 441 = .ok (.iload_n 3, 1) := by decide +kernel
theorem dL_law_442 : decode cL_law 442 = .ok (.iconst 1, 1) := by decide +kernel
theorem dL_law_443 : decode cL_law 443 = .ok (.iadd, 1) := by decide +kernel
theorem dL_law_444 : decode cL_law 444 = .ok (.iaload, 1) := by decide +kernel
theorem dL_law_445 : decode cL_law 445 = .ok (.aload_n 0, 1) := by decide +kernel
theorem dL_law_446 : decode cL_law 446 = .ok (.iload_n 3, 1) := by decide +kernel
theorem dL_law_447 : decode cL_law 447 = .ok (.iconst 2, 1) := by decide +kernel
theorem dL_law_448 : decode cL_law 448 = .ok (.iadd, 1) := by decide +kernel
theorem dL_law_449 : decode cL_law 449 = .ok (.iaload, 1) := by decide +kernel
theorem dL_law_450 : decode cL_law 450 = .ok (.invokevirtual 64, 3) := by decide +kernel
theorem dL_law_453 : decode cL_law 453 = .ok (.if_icmp .eq 242, 3) := by decide +kernel
theorem dL_law_456 : decode cL_law 456 = .ok (.iconst 0, 1) := by decide +kernel
theorem dL_law_457 : decode cL_law 457 = .ok (.ireturn, 1) := by decide +kernel
theorem dL_law_458 : decode cL_law 458 = .ok (.aload_n 1, 1) := by decide +kernel
theorem dL_law_459 : decode cL_law 459 = .ok (.aload_n 0, 1) := by decide +kernel
theorem dL_law_460 : decode cL_law 460 = .ok (.iload_n 3, 1) := by decide +kernel
theorem dL_law_461 : decode cL_law 461 = .ok (.iconst 1, 1) := by decide +kernel
theorem dL_law_462 : decode cL_law 462 = .ok (.iadd, 1) := by decide +kernel
theorem dL_law_463 : decode cL_law 463 = .ok (.iaload, 1) := by decide +kernel
theorem dL_law_464 : decode cL_law 464 = .ok (.aload_n 0, 1) := by decide +kernel
theorem dL_law_465 : decode cL_law 465 = .ok (.iload_n 3, 1) := by decide +kernel
theorem dL_law_466 : decode cL_law 466 = .ok (.iconst 2, 1) := by decide +kernel
theorem dL_law_467 : decode cL_law 467 = .ok (.iadd, 1) := by decide +kernel
theorem dL_law_468 : decode cL_law 468 = .ok (.iaload, 1) := by decide +kernel
theorem dL_law_469 : decode cL_law 469 = .ok (.aload_n 0, 1) := by decide +kernel
theorem dL_law_470 : decode cL_law 470 = .ok (.iload_n 3, 1) := by decide +kernel
theorem dL_law_471 : decode cL_law 471 = .ok (.iconst 3, 1) := by decide +kernel
theorem dL_law_472 : decode cL_law 472 = .ok (.iadd, 1) := by decide +kernel
theorem dL_law_473 : decode cL_law 473 = .ok (.iaload, 1) := by decide +kernel
theorem dL_law_474 : decode cL_law 474 = .ok (.invokevirtual 65, 3) := by decide +kernel
theorem dL_law_477 : decode cL_law 477 = .ok (.aload_n 2, 1) := by decide +kernel
theorem dL_law_478 : decode cL_law 478 = .ok (.aload_n 0, 1) := by decide +kernel
theorem dL_law_479 : decode cL_law 479 = .ok (.iload_n 3, 1) := by decide +kernel
theorem dL_law_480 : decode cL_law 480 = .ok (.iconst 1, 1) := by decide +kernel
theorem dL_law_481 : decode cL_law 481 = .ok (.iadd, 1) := by decide +kernel
theorem dL_law_482 : decode cL_law 482 = .ok (.iaload, 1) := by decide +kernel
theorem dL_law_483 : decode cL_law 483 = .ok (.aload_n 0, 1) := by decide +kernel
theorem dL_law_484 : decode cL_law 484 = .ok (.iload_n 3, 1) := by decide +kernel
theorem dL_law_485 : decode cL_law 485 = .ok (.iconst 2, 1) := by decide +kernel
theorem dL_law_486 : decode cL_law 486 = .ok (.iadd, 1) := by decide +kernel
theorem dL_law_487 : decode cL_law 487 = .ok (.iaload, 1) := by decide +kernel
theorem dL_law_488 : decode cL_law 488 = .ok (.aload_n 0, 1) := by decide +kernel
theorem dL_law_489 : decode cL_law 489 = .ok (.iload_n 3, 1) := by decide +kernel
theorem dL_law_490 : decode cL_law 490 = .ok (.iconst 3, 1) := by decide +kernel
theorem dL_law_491 : decode cL_law 491 = .ok (.iadd, 1) := by decide +kernel
theorem dL_law_492 : decode cL_law 492 = .ok (.iaload, 1) := by decide +kernel
theorem dL_law_493 : decode cL_law 493 = .ok (.invokevirtual 68, 3) := by decide +kernel
theorem dL_law_496 : decode cL_law 496 = .ok (.if_icmp .eq 199, 3) := by decide +kernel
theorem dL_law_499 : decode cL_law 499 = .ok (.iconst 0, 1) := by decide +kernel
theorem dL_law_500 : decode cL_law 500 = .ok (.ireturn, 1) := by decide +kernel
theorem dL_law_501 : decode cL_law 501 = .ok (.aload_n 1, 1) := by decide +kernel
theorem dL_law_502 : decode cL_law 502 = .ok (.aload_n 0, 1) := by decide +kernel
theorem dL_law_503 : decode cL_law 503 = .ok (.iload_n 3, 1) := by decide +kernel
theorem dL_law_504 : decode cL_law 504 = .ok (.iconst 1, 1) := by decide +kernel
theorem dL_law_505 : decode cL_law 505 = .ok (.iadd, 1) := by decide +kernel
theorem dL_law_506 : decode cL_law 506 = .ok (.iaload, 1) := by decide +kernel
theorem dL_law_507 : decode cL_law 507 = .ok (.aload_n 0, 1) := by decide +kernel
theorem dL_law_508 : decode cL_law 508 = .ok (.iload_n 3, 1) := by decide +kernel
theorem dL_law_509 : decode cL_law 509 = .ok (.iconst 2, 1) := by decide +kernel
theorem dL_law_510 : decode cL_law 510 = .ok (.iadd, 1) := by decide +kernel
theorem dL_law_511 : decode cL_law 511 = .ok (.iaload, 1) := by decide +kernel
theorem dL_law_512 : decode cL_law 512 = .ok (.aload_n 0, 1) := by decide +kernel
theorem dL_law_513 : decode cL_law 513 = .ok (.iload_n 3, 1) := by decide +kernel
theorem dL_law_514 : decode cL_law 514 = .ok (.iconst 3, 1) := by decide +kernel
theorem dL_law_515 : decode cL_law 515 = .ok (.iadd, 1) := by decide +kernel
theorem dL_law_516 : decode cL_law 516 = .ok (.iaload, 1) := by decide +kernel
theorem dL_law_517 : decode cL_law 517 = .ok (.invokevirtual 69, 3) := by decide +kernel
theorem dL_law_520 : decode cL_law 520 = .ok (.aload_n 2, 1) := by decide +kernel
theorem dL_law_521 : decode cL_law 521 = .ok (.aload_n 0, 1) := by decide +kernel
theorem dL_law_522 : decode cL_law 522 = .ok (.iload_n 3, 1) := by decide +kernel
theorem dL_law_523 : decode cL_law 523 = .ok (.iconst 1, 1) := by decide +kernel
theorem dL_law_524 : decode cL_law 524 = .ok (.iadd, 1) := by decide +kernel
theorem dL_law_525 : decode cL_law 525 = .ok (.iaload, 1) := by decide +kernel
theorem dL_law_526 : decode cL_law 526 = .ok (.aload_n 0, 1) := by decide +kernel
theorem dL_law_527 : decode cL_law 527 = .ok (.iload_n 3, 1) := by decide +kernel
theorem dL_law_528 : decode cL_law 528 = .ok (.iconst 2, 1) := by decide +kernel
theorem dL_law_529 : decode cL_law 529 = .ok (.iadd, 1) := by decide +kernel
theorem dL_law_530 : decode cL_law 530 = .ok (.iaload, 1) := by decide +kernel
theorem dL_law_531 : decode cL_law 531 = .ok (.aload_n 0, 1) := by decide +kernel
theorem dL_law_532 : decode cL_law 532 = .ok (.iload_n 3, 1) := by decide +kernel
theorem dL_law_533 : decode cL_law 533 = .ok (.iconst 3, 1) := by decide +kernel
theorem dL_law_534 : decode cL_law 534 = .ok (.iadd, 1) := by decide +kernel
theorem dL_law_535 : decode cL_law 535 = .ok (.iaload, 1) := by decide +kernel
theorem dL_law_536 : decode cL_law 536 = .ok (.invokevirtual 72, 3) := by decide +kernel
theorem dL_law_539 : decode cL_law 539 = .ok (.if_icmp .eq 156, 3) := by decide +kernel
theorem dL_law_542 : decode cL_law 542 = .ok (.iconst 0, 1) := by decide +kernel
theorem dL_law_543 : decode cL_law 543 = .ok (.ireturn, 1) := by decide +kernel
theorem dL_law_544 : decode cL_law 544 = .ok (.aload_n 1, 1) := by decide +kernel
theorem dL_law_545 : decode cL_law 545 = .ok (.aload_n 0, 1) := by decide +kernel
theorem dL_law_546 : decode cL_law 546 = .ok (.iload_n 3, 1) := by decide +kernel
theorem dL_law_547 : decode cL_law 547 = .ok (.iconst 1, 1) := by decide +kernel
theorem dL_law_548 : decode cL_law 548 = .ok (.iadd, 1) := by decide +kernel
theorem dL_law_549 : decode cL_law 549 = .ok (.iaload, 1) := by decide +kernel
theorem dL_law_550 : decode cL_law 550 = .ok (.aload_n 0, 1) := by decide +kernel
theorem dL_law_551 : decode cL_law 551 = .ok (.iload_n 3, 1) := by decide +kernel
theorem dL_law_552 : decode cL_law 552 = .ok (.iconst 2, 1) := by decide +kernel
theorem dL_law_553 : decode cL_law 553 = .ok (.iadd, 1) := by decide +kernel
theorem dL_law_554 : decode cL_law 554 = .ok (.iaload, 1) := by decide +kernel
theorem dL_law_555 : decode cL_law 555 = .ok (.aload_n 0, 1) := by decide +kernel
theorem dL_law_556 : decode cL_law 556 = .ok (.iload_n 3, 1) := by decide +kernel
theorem dL_law_557 : decode cL_law 557 = .ok (.iconst 3, 1) := by decide +kernel
theorem dL_law_558 : decode cL_law 558 = .ok (.iadd, 1) := by decide +kernel
theorem dL_law_559 : decode cL_law 559 = .ok (.iaload, 1) := by decide +kernel
theorem dL_law_560 : decode cL_law 560 = .ok (.invokevirtual 73, 3) := by decide +kernel
theorem dL_law_563 : decode cL_law 563 = .ok (.aload_n 2, 1) := by decide +kernel
theorem dL_law_564 : decode cL_law 564 = .ok (.aload_n 0, 1) := by decide +kernel
theorem dL_law_565 : decode cL_law 565 = .ok (.iload_n 3, 1) := by decide +kernel
theorem dL_law_566 : decode cL_law 566 = .ok (.iconst 1, 1) := by decide +kernel
theorem dL_law_567 : decode cL_law 567 = .ok (.iadd, 1) := by decide +kernel
theorem dL_law_568 : decode cL_law 568 = .ok (.iaload, 1) := by decide +kernel
theorem dL_law_569 : decode cL_law 569 = .ok (.aload_n 0, 1) := by decide +kernel
theorem dL_law_570 : decode cL_law 570 = .ok (.iload_n 3, 1) := by decide +kernel
theorem dL_law_571 : decode cL_law 571 = .ok (.iconst 2, 1) := by decide +kernel
theorem dL_law_572 : decode cL_law 572 = .ok (.iadd, 1) := by decide +kernel
theorem dL_law_573 : decode cL_law 573 = .ok (.iaload, 1) := by decide +kernel
theorem dL_law_574 : decode cL_law 574 = .ok (.aload_n 0, 1) := by decide +kernel
theorem dL_law_575 : decode cL_law 575 = .ok (.iload_n 3, 1) := by decide +kernel
theorem dL_law_576 : decode cL_law 576 = .ok (.iconst 3, 1) := by decide +kernel
theorem dL_law_577 : decode cL_law 577 = .ok (.iadd, 1) := by decide +kernel
theorem dL_law_578 : decode cL_law 578 = .ok (.iaload, 1) := by decide +kernel
theorem dL_law_579 : decode cL_law 579 = .ok (.invokevirtual 76, 3) := by decide +kernel
theorem dL_law_582 : decode cL_law 582 = .ok (.if_icmp .eq 113, 3) := by decide +kernel
theorem dL_law_585 : decode cL_law 585 = .ok (.iconst 0, 1) := by decide +kernel
theorem dL_law_586 : decode cL_law 586 = .ok (.ireturn, 1) := by decide +kernel
theorem dL_law_587 : decode cL_law 587 = .ok (.aload_n 1, 1) := by decide +kernel
theorem dL_law_588 : decode cL_law 588 = .ok (.invokevirtual 77, 3) := by decide +kernel
theorem dL_law_591 : decode cL_law 591 = .ok (.aload_n 2, 1) := by decide +kernel
theorem dL_law_592 : decode cL_law 592 = .ok (.invokevirtual 80, 3) := by decide +kernel
theorem dL_law_595 : decode cL_law 595 = .ok (.if_icmp .eq 100, 3) := by decide +kernel
theorem dL_law_598 : decode cL_law 598 = .ok (.iconst 0, 1) := by decide +kernel
theorem dL_law_599 : decode cL_law 599 = .ok (.ireturn, 1) := by decide +kernel
theorem dL_law_600 : decode cL_law 600 = .ok (.aload_n 1, 1) := by decide +kernel
theorem dL_law_601 : decode cL_law 601 = .ok (.invokevirtual 81, 3) := by decide +kernel
theorem dL_law_604 : decode cL_law 604 = .ok (.aload_n 2, 1) := by decide +kernel
theorem dL_law_605 : decode cL_law 605 = .ok (.invokevirtual 84, 3) := by decide +kernel
theorem dL_law_608 : decode cL_law 608 = .ok (.if_icmp .eq 87, 3) := by decide +kernel
theorem dL_law_611 : decode cL_law 611 = .ok (.iconst 0, 1) := by decide +kernel
theorem dL_law_612 : decode cL_law 612 = .ok (.ireturn, 1) := by decide +kernel
theorem dL_law_613 : decode cL_law 613 = .ok (.aload_n 1, 1) := by decide +kernel
theorem dL_law_614 : decode cL_law 614 = .ok (.invokevirtual 85, 3) := by decide +kernel
theorem dL_law_617 : decode cL_law 617 = .ok (.aload_n 2, 1) := by decide +kernel
theorem dL_law_618 : decode cL_law 618 = .ok (.invokevirtual 88, 3) := by decide +kernel
theorem dL_law_621 : decode cL_law 621 = .ok (.if_icmp .eq 74, 3) := by decide +kernel
theorem dL_law_624 : decode cL_law 624 = .ok (.iconst 0, 1) := by decide +kernel
theorem dL_law_625 : decode cL_law 625 = .ok (.ireturn, 1) := by decide +kernel
theorem dL_law_626 : decode cL_law 626 = .ok (.aload_n 1, 1) := by decide +kernel
theorem dL_law_627 : decode cL_law 627 = .ok (.aload_n 0, 1) := by decide +kernel
theorem dL_law_628 : decode cL_law 628 = .ok (.iload_n 3, 1) := by decide +kernel
theorem dL_law_629 : decode cL_law 629 = .ok (.iconst 1, 1) := by decide +kernel
theorem dL_law_630 : decode cL_law 630 = .ok (.iadd, 1) := by decide +kernel
theorem dL_law_631 : decode cL_law 631 = .ok (.iaload, 1) := by decide +kernel
theorem dL_law_632 : decode cL_law 632 = .ok (.invokevirtual 89, 3) := by decide +kernel
theorem dL_law_635 : decode cL_law 635 = .ok (.aload_n 2, 1) := by decide +kernel
theorem dL_law_636 : decode cL_law 636 = .ok (.aload_n 0, 1) := by decide +kernel
theorem dL_law_637 : decode cL_law 637 = .ok (.iload_n 3, 1) := by decide +kernel
theorem dL_law_638 : decode cL_law 638 = .ok (.iconst 1, 1) := by decide +kernel
theorem dL_law_639 : decode cL_law 639 = .ok (.iadd, 1) := by decide +kernel
theorem dL_law_640 : decode cL_law 640 = .ok (.iaload, 1) := by decide +kernel
theorem dL_law_641 : decode cL_law 641 = .ok (.invokevirtual 92, 3) := by decide +kernel
theorem dL_law_644 : decode cL_law 644 = .ok (.if_icmp .eq 51, 3) := by decide +kernel
theorem dL_law_647 : decode cL_law 647 = .ok (.iconst 0, 1) := by decide +kernel
theorem dL_law_648 : decode cL_law 648 = .ok (.ireturn, 1) := by decide +kernel
theorem dL_law_649 : decode cL_law 649 = .ok (.aload_n 1, 1) := by decide +kernel
theorem dL_law_650 : decode cL_law 650 = .ok (.aload_n 0, 1) := by decide +kernel
theorem dL_law_651 : decode cL_law 651 = .ok (.iload_n 3, 1) := by decide +kernel
theorem dL_law_652 : decode cL_law 652 = .ok (.iconst 1, 1) := by decide +kernel
theorem dL_law_653 : decode cL_law 653 = .ok (.iadd, 1) := by decide +kernel
theorem dL_law_654 : decode cL_law 654 = .ok (.iaload, 1) := by decide +kernel
theorem dL_law_655 : decode cL_law 655 = .ok (.invokevirtual 93, 3) := by decide +kernel
theorem dL_law_658 : decode cL_law 658 = .ok (.aload_n 2, 1) := by decide +kernel
theorem dL_law_659 : decode cL_law 659 = .ok (.aload_n 0, 1) := by decide +kernel
theorem dL_law_660 : decode cL_law 660 = .ok (.iload_n 3, 1) := by decide +kernel
theorem dL_law_661 : decode cL_law 661 = .ok (.iconst 1, 1) := by decide +kernel
theorem dL_law_662 : decode cL_law 662 = .ok (.iadd, 1) := by decide +kernel
theorem dL_law_663 : decode cL_law 663 = .ok (.iaload, 1) := by decide +kernel
theorem dL_law_664 : decode cL_law 664 = .ok (.invokevirtual 96, 3) := by decide +kernel
theorem dL_law_667 : decode cL_law 667 = .ok (.if_icmp .eq 28, 3) := by decide +kernel
theorem dL_law_670 : decode cL_law 670 = .ok (.iconst 0, 1) := by decide +kernel
theorem dL_law_671 : decode cL_law 671 = .ok (.ireturn, 1) := by decide +kernel
theorem dL_law_672 : decode cL_law 672 = .ok (.aload_n 1, 1) := by decide +kernel
theorem dL_law_673 : decode cL_law 673 = .ok (.aload_n 0, 1) := by decide +kernel
theorem dL_law_674 : decode cL_law 674 = .ok (.iload_n 3, 1) := by decide +kernel
theorem dL_law_675 : decode cL_law 675 = .ok (.iconst 1, 1) := by decide +kernel
theorem dL_law_676 : decode cL_law 676 = .ok (.iadd, 1) := by decide +kernel
theorem dL_law_677 : decode cL_law 677 = .ok (.iaload, 1) := by decide +kernel
theorem dL_law_678 : decode cL_law 678 = .ok (.invokevirtual 97, 3) := by decide +kernel
theorem dL_law_681 : decode cL_law 681 = .ok (.aload_n 2, 1) := by decide +kernel
theorem dL_law_682 : decode cL_law 682 = .ok (.aload_n 0, 1) := by decide +kernel
theorem dL_law_683 : decode cL_law 683 = .ok (.iload_n 3, 1) := by decide +kernel
theorem dL_law_684 : decode cL_law 684 = .ok (.iconst 1, 1) := by decide +kernel
theorem dL_law_685 : decode cL_law 685 = .ok (.iadd, 1) := by decide +kernel
theorem dL_law_686 : decode cL_law 686 = .ok (.iaload, 1) := by decide +kernel
theorem dL_law_687 : decode cL_law 687 = .ok (.invokevirtual 100, 3) := by decide +kernel
theorem dL_law_690 : decode cL_law 690 = .ok (.if_icmp .eq 5, 3) := by decide +kernel
theorem dL_law_693 : decode cL_law 693 = .ok (.iconst 0, 1) := by decide +kernel
theorem dL_law_694 : decode cL_law 694 = .ok (.ireturn, 1) := by decide +kernel
theorem dL_law_695 : decode cL_law 695 = .ok (.iinc 3 4, 3) := by decide +kernel
theorem dL_law_698 : decode cL_law 698 = .ok (.goto (-680), 3) := by decide +kernel
theorem dL_law_701 : decode cL_law 701 = .ok (.iconst 1, 1) := by decide +kernel
theorem dL_law_702 : decode cL_law 702 = .ok (.ireturn, 1) := by decide +kernel
