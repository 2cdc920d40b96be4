theorem dX8_readsNode_41 : decode cX8_readsNode 41 = .ok (.goto 4, 3) := by decide +kernel
theorem dX8_readsNode_44 : decode cX8_readsNode 44 = .ok (.iconst 0, 1) := by decide +kernel
theorem dX8_readsNode_45 : decode cX8_readsNode 45 = .ok (.invokevirtual 97, 3) := by decide +kernel
theorem dX8_readsNode_48 : decode cX8_readsNode 48 = .ok (.iastore, 1) := by decide +kernel
theorem dX8_readsNode_49 : decode cX8_readsNode 49 = .ok (.aload_n 0, 1) := by decide +kernel
theorem dX8_readsNode_50 : decode cX8_readsNode 50 = .ok (.getfield 19, 3) := by decide +kernel
theorem dX8_readsNode_53 : decode cX8_readsNode 53 = .ok (.iconst 0, 1) := by decide +kernel
theorem dX8_readsNode_54 : decode cX8_readsNode 54 = .ok (.iload_n 1, 1) := by decide +kernel
theorem dX8_readsNode_55 : decode cX8_readsNode 55 = .ok (.iadd, 1) := by decide +kernel
theorem dX8_readsNode_56 : decode cX8_readsNode 56 = .ok (.aload_n 0, 1) := by decide +kernel
theorem dX8_readsNode_57 : decode cX8_readsNode 57 = .ok (.aload_n 0, 1) := by decide +kernel
theorem dX8_readsNode_58 : decode cX8_readsNode 58 = .ok (.bipush 97, 2) := by decide +kernel
theorem dX8_readsNode_60 : decode cX8_readsNode 60 = .ok (.bipush 100, 2) := by decide +kernel
theorem dX8_readsNode_62 : decode cX8_readsNode 62 = .ok (.invokevirtual 101, 3) := by decide +kernel
theorem dX8_readsNode_65 : decode cX8_readsNode 65 = .ok (.invokevirtual 97, 3) := by decide +kernel
theorem dX8_readsNode_68 : decode cX8_readsNode 68 = .ok (.bipush 97, 2) := by decide +kernel
theorem dX8_readsNode_70 : decode cX8_readsNode 70 = .ok (.isub, 1) := by decide +kernel
theorem dX8_readsNode_71 : decode cX8_readsNode 71 = .ok (.iastore, 1) := by decide +kernel
theorem dX8_readsNode_72 : decode cX8_readsNode 72 = .ok (.aload_n 0, 1) := by decide +kernel
theorem dX8_readsNode_73 : decode cX8_readsNode 73 = .ok (.bipush 112, 2) := by decide +kernel
theorem dX8_readsNode_75 : decode cX8_readsNode 75 = .ok (.bipush 115, 2) := by decide +kernel
theorem dX8_readsNode_77 : decode cX8_readsNode 77 = .ok (.invokevirtual 101, 3) := by decide +kernel
theorem dX8_readsNode_80 : decode cX8_readsNode 80 = .ok (.ifCond .eq 67, 3) := by decide +kernel
theorem dX8_readsNode_83 : decode cX8_readsNode 83 = .ok (.aload_n 0, 1) := by decide +kernel
theorem dX8_readsNode_84 : decode cX8_readsNode 84 = .ok (.aload_n 0, 1) := by decide +kernel
theorem dX8_readsNode_85 : decode cX8_readsNode 85 = .ok (.getfield 19, 3) := by decide +kernel
theorem dX8_readsNode_88 : decode cX8_readsNode 88 = .ok (.bipush 9, 2) := by decide +kernel
theorem dX8_readsNode_90 : decode cX8_readsNode 90 = .ok (.iload_n 1, 1) := by decide +kernel
theorem dX8_readsNode_91 : decode cX8_readsNode 91 = .ok (.iadd, 1) := by decide +kernel
theorem dX8_readsNode_92 : decode cX8_readsNode 92 = .ok (.iaload, 1) := by decide +kernel
theorem dX8_readsNode_93 : decode cX8_readsNode 93 = .ok (.aload_n 0, 1) := by decide +kernel
theorem dX8_readsNode_94 : decode cX8_readsNode 94 = .ok (.getfield 80, 3) := by decide +kernel
theorem dX8_readsNode_97 : decode cX8_readsNode 97 = .ok (.bipush 112, 2) := by decide +kernel
theorem dX8_readsNode_99 : decode cX8_readsNode 99 = .ok (.isub, 1) := by decide +kernel
theorem dX8_readsNode_100 : decode cX8_readsNode 100 = .ok (.invokestatic 105, 3) := by decide +kernel
theorem dX8_readsNode_103 : decode cX8_readsNode 103 = .ok (.ifCond .ne 7, 3) := by decide +kernel
theorem dX8_readsNode_106 : decode cX8_readsNode 106 = .ok (.iconst 1, 1) := by decide +kernel
theorem dX8_readsNode_107 : decode cX8_readsNode 107 = .ok (.goto 4, 3) := by decide +kernel
theorem dX8_readsNode_110 : decode cX8_readsNode 110 = .ok (.iconst 0, 1) := by decide +kernel
theorem dX8_readsNode_111 : decode cX8_readsNode 111 = .ok (.invokevirtual 97, 3) := by decide +kernel
theorem dX8_readsNode_114 : decode cX8_readsNode 114 = .ok (.bipush 112, 2) := by decide +kernel
theorem dX8_readsNode_116 : decode cX8_readsNode 116 = .ok (.isub, 1) := by decide +kernel
theorem dX8_readsNode_117 : decode cX8_readsNode 117 = .ok (.istore_n 2, 1) := by decide +kernel
theorem dX8_readsNode_118 : decode cX8_readsNode 118 = .ok (.aload_n 0, 1) := by decide +kernel
theorem dX8_readsNode_119 : decode cX8_readsNode 119 = .ok (.getfield 19, 3) := by decide +kernel
theorem dX8_readsNode_122 : decode cX8_readsNode 122 = .ok (.bipush 9, 2) := by decide +kernel
theorem dX8_readsNode_124 : decode cX8_readsNode 124 = .ok (.iload_n 1, 1) := by decide +kernel
theorem dX8_readsNode_125 : decode cX8_readsNode 125 = .ok (.iadd, 1) := by decide +kernel
theorem dX8_readsNode_126 : decode cX8_readsNode 126 = .ok (.dup2, 1) := by decide +kernel
theorem dX8_readsNode_127 : decode cX8_readsNode 127 = .ok (.iaload, 1) := by decide +kernel
theorem dX8_readsNode_128 : decode cX8_readsNode 128 = .ok (.aload_n 0, 1) := by decide +kernel
theorem dX8_readsNode_129 : decode cX8_readsNode 129 = .ok (.invokevirtual 90, 3) := by decide +kernel
theorem dX8_readsNode_132 : decode cX8_readsNode 132 = .ok (.ifCond .eq 9, 3) := by decide +kernel
theorem dX8_readsNode_135 : decode cX8_readsNode 135 = .ok (.iconst 1, 1) := by decide +kernel
theorem dX8_readsNode_136 : decode cX8_readsNode 136 = .ok (.iload_n 2, 1) := by decide +kernel
theorem dX8_readsNode_137 : decode cX8_readsNode 137 = .ok (.ishl, 1) := by decide +kernel
theorem dX8_readsNode_138 : decode cX8_readsNode 138 = .ok (.goto 4, 3) := by decide +kernel
theorem dX8_readsNode_141 : decode cX8_readsNode 141 = .ok (.iconst 0, 1) := by decide +kernel
theorem dX8_readsNode_142 : decode cX8_readsNode 142 = .ok (.ior, 1) := by decide +kernel
theorem dX8_readsNode_143 : decode cX8_readsNode 143 = .ok (.iastore, 1) := by decide +kernel
theorem dX8_readsNode_144 : decode cX8_readsNode 144 = .ok (.goto (-72), 3) := by decide +kernel
theorem dX8_readsNode_147 : decode cX8_readsNode 147 = .ok (.aload_n 0, 1) := by decide +kernel
theorem dX8_readsNode_148 : decode cX8_readsNode 148 = .ok (.getfield 16, 3) := by decide +kernel
theorem dX8_readsNode_151 : decode cX8_readsNode 151 = .ok (.iconst 0, 1) := by decide +kernel
theorem dX8_readsNode_152 : decode cX8_readsNode 152 = .ok (.dup2, 1) := by decide +kernel
theorem dX8_readsNode_153 : decode cX8_readsNode 153 = .ok (.iaload, 1) := by decide +kernel
theorem dX8_readsNode_154 : decode cX8_readsNode 154 = .ok (.iconst 1, 1) := by decide +kernel
theorem dX8_readsNode_155 : decode cX8_readsNode 155 = .ok (.iadd, 1) := by decide +kernel
theorem dX8_readsNode_156 : decode cX8_readsNode 156 = .ok (.iastore, 1) := by decide +kernel
theorem dX8_readsNode_157 : decode cX8_readsNode 157 = .ok (.return_, 1) := by decide +kernel
theorem dX8_readsCompound_0 : decode cX8_readsCompound 0 = .ok (.aload_n 0, 1) := by decide +kernel
theorem dX8_readsCompound_1 : decode cX8_readsCompound 1 = .ok (.bipush 97, 2) := by decide +kernel
theorem dX8_readsCompound_3 : decode cX8_readsCompound 3 = .ok (.bipush 100, 2) := by decide +kernel
theorem dX8_readsCompound_5 : decode cX8_readsCompound 5 = .ok (.invokevirtual 101, 3) := by decide +kernel
theorem dX8_readsCompound_8 : decode cX8_readsCompound 8 = .ok (.istore_n 2, 1) := by decide +kernel
theorem dX8_readsCompound_9 : decode cX8_readsCompound 9 = .ok (.iload_n 2, 1) := by decide +kernel
theorem dX8_readsCompound_10 : decode cX8_readsCompound 10 = .ok (.ifCond .eq 20, 3) := by decide +kernel
theorem dX8_readsCompound_13 : decode cX8_readsCompound 13 = .ok (.aload_n 0, 1) := by decide +kernel
theorem dX8_readsCompound_14 : decode cX8_readsCompound 14 = .ok (.getfield 16, 3) := by decide +kernel
theorem dX8_readsCompound_17 : decode cX8_readsCompound 17 = .ok (.bipush 20, 2) := by decide +kernel
theorem dX8_readsCompound_19 : decode cX8_readsCompound 19 = .ok (.iload_n 1, 1) := by decide +kernel
theorem dX8_readsCompound_20 : decode cX8_readsCompound 20 = .ok (.iadd, 1) := by decide +kernel
theorem dX8_readsCompound_21 : decode cX8_readsCompound 21 = .ok (.aload_n 0, 1) := by decide +kernel
theorem dX8_readsCompound_22 : decode cX8_readsCompound 22 = .ok (.iconst 1, 1) := by decide +kernel
theorem dX8_readsCompound_23 : decode cX8_readsCompound 23 = .ok (.invokevirtual 97, 3) := by decide +kernel
theorem dX8_readsCompound_26 : decode cX8_readsCompound 26 = .ok (.bipush 97, 2) := by decide +kernel
theorem dX8_readsCompound_28 : decode cX8_readsCompound 28 = .ok (.isub, 1) := by decide +kernel
theorem dX8_readsCompound_29 : decode cX8_readsCompound 29 = .ok (.iastore, 1) := by decide +kernel
theorem dX8_readsCompound_30 : decode cX8_readsCompound 30 = .ok (.aload_n 0, 1) := by decide +kernel
theorem dX8_readsCompound_31 : decode cX8_readsCompound 31 = .ok (.bipush 46, 2) := by decide +kernel
theorem dX8_readsCompound_33 : decode cX8_readsCompound 33 = .ok (.invokevirtual 108, 3) := by decide +kernel
theorem dX8_readsCompound_36 : decode cX8_readsCompound 36 = .ok (.ifCond .eq 86, 3) := by decide +kernel
theorem dX8_readsCompound_39 : decode cX8_readsCompound 39 = .ok (.aload_n 0, 1) := by decide +kernel
theorem dX8_readsCompound_40 : decode cX8_readsCompound 40 = .ok (.iconst 1, 1) := by decide +kernel
theorem dX8_readsCompound_41 : decode cX8_readsCompound 41 = .ok (.invokevirtual 97, 3) := by decide +kernel
theorem dX8_readsCompound_44 : decode cX8_readsCompound 44 = .ok (.pop, 1) := by decide +kernel
theorem dX8_readsCompound_45 : decode cX8_readsCompound 45 = .ok (.aload_n 0, 1) := by decide +kernel
theorem dX8_readsCompound_46 : decode cX8_readsCompound 46 = .ok (.aload_n 0, 1) := by decide +kernel
theorem dX8_readsCompound_47 : decode cX8_readsCompound 47 = .ok (.bipush 112, 2) := by decide +kernel
theorem dX8_readsCompound_49 : decode cX8_readsCompound 49 = .ok (.bipush 115, 2) := by decide +kernel
theorem dX8_readsCompound_51 : decode cX8_readsCompound 51 = .ok (.invokevirtual 101, 3) := by decide +kernel
theorem dX8_readsCompound_54 : decode cX8_readsCompound 54 = .ok (.ifCond .eq 29, 3) := by decide +kernel
theorem dX8_readsCompound_57 : decode cX8_readsCompound 57 = .ok (.aload_n 0, 1) := by decide +kernel
theorem dX8_readsCompound_58 : decode cX8_readsCompound 58 = .ok (.getfield 16, 3) := by decide +kernel
theorem dX8_readsCompound_61 : decode cX8_readsCompound 61 = .ok (.bipush 44, 2) := by decide +kernel
theorem dX8_readsCompound_63 : decode cX8_readsCompound 63 = .ok (.iload_n 1, 1) := by decide +kernel
theorem dX8_readsCompound_64 : decode cX8_readsCompound 64 = .ok (.iadd, 1) := by decide +kernel
theorem dX8_readsCompound_65 : decode cX8_readsCompound 65 = .ok (.iaload, 1) := by decide +kernel
theorem dX8_readsCompound_66 : decode cX8_readsCompound 66 = .ok (.aload_n 0, 1) := by decide +kernel
theorem dX8_readsCompound_67 : decode cX8_readsCompound 67 = .ok (.getfield 80, 3) := by decide +kernel
theorem dX8_readsCompound_70 : decode cX8_readsCompound 70 = .ok (.bipush 112, 2) := by decide +kernel
theorem dX8_readsCompound_72 : decode cX8_readsCompound 72 = .ok (.isub, 1) := by decide +kernel
theorem dX8_readsCompound_73 : decode cX8_readsCompound 73 = .ok (.invokestatic 105, 3) := by decide +kernel
theorem dX8_readsCompound_76 : decode cX8_readsCompound 76 = .ok (.ifCond .ne 7, 3) := by decide +kernel
theorem dX8_readsCompound_79 : decode cX8_readsCompound 79 = .ok (.iconst 1, 1) := by decide +kernel
theorem dX8_readsCompound_80 : decode cX8_readsCompound 80 = .ok (.goto 4, 3) := by decide +kernel
theorem dX8_readsCompound_83 : decode cX8_readsCompound 83 = .ok (.iconst 0, 1) := by decide +kernel
theorem dX8_readsCompound_84 : decode cX8_readsCompound 84 = .ok (.invokevirtual 97, 3) := by decide +kernel
theorem dX8_readsCompound_87 : decode cX8_readsCompound 87 = .ok (.bipush 112, 2) := by decide +kernel
theorem dX8_readsCompound_89 : decode cX8_readsCompound 89 = .ok (.isub, 1) := by decide +kernel
theorem dX8_readsCompound_90 : decode cX8_readsCompound 90 = .ok (.istore_n 3, 1) := by decide +kernel
theorem dX8_readsCompound_91 : decode cX8_readsCompound 91 = .ok (.aload_n 0, 1) := by decide +kernel
theorem dX8_readsCompound_92 : decode cX8_readsCompound 92 = .ok (.getfield 16, 3) := by decide +kernel
theorem dX8_readsCompound_95 : decode cX8_readsCompound 95 = .ok (.bipush 44, 2) := by decide +kernel
theorem dX8_readsCompound_97 : decode cX8_readsCompound 97 = .ok (.iload_n 1, 1) := by decide +kernel
theorem dX8_readsCompound_98 : decode cX8_readsCompound 98 = .ok (.iadd, 1) := by decide +kernel
theorem dX8_readsCompound_99 : decode cX8_readsCompound 99 = .ok (.dup2, 1) := by decide +kernel
theorem dX8_readsCompound_100 : decode cX8_readsCompound 100 = .ok (.iaload, 1) := by decide +kernel
theorem dX8_readsCompound_101 : decode cX8_readsCompound 101 = .ok (.aload_n 0, 1) := by decide +kernel
theorem dX8_readsCompound_102 : decode cX8_readsCompound 102 = .ok (.invokevirtual 90, 3) := by decide +kernel
theorem dX8_readsCompound_105 : decode cX8_readsCompound 105 = .ok (.ifCond .eq 9, 3) := by decide +kernel
theorem dX8_readsCompound_108 : decode cX8_readsCompound 108 = .ok (.iconst 1, 1) := by decide +kernel
theorem dX8_readsCompound_109 : decode cX8_readsCompound 109 = .ok (.iload_n 3, 1) := by decide +kernel
theorem dX8_readsCompound_110 : decode cX8_readsCompound 110 = .ok (.ishl, 1) := by decide +kernel
theorem dX8_readsCompound_111 : decode cX8_readsCompound 111 = .ok (.goto 4, 3) := by decide +kernel
theorem dX8_readsCompound_114 : decode cX8_readsCompound 114 = .ok (.iconst 0, 1) := by decide +kernel
theorem dX8_readsCompound_115 : decode cX8_readsCompound 115 = .ok (.ior, 1) := by decide +kernel
theorem dX8_readsCompound_116 : decode cX8_readsCompound 116 = .ok (.iastore, 1) := by decide +kernel
theorem dX8_readsCompound_117 : decode cX8_readsCompound 117 = .ok (.iconst 1, 1) := by decide +kernel
theorem dX8_readsCompound_118 : decode cX8_readsCompound 118 = .ok (.istore_n 2, 1) := by decide +kernel
theorem dX8_readsCompound_119 : decode cX8_readsCompound 119 = .ok (.goto (-89), 3) := by decide +kernel
theorem dX8_readsCompound_122 : decode cX8_readsCompound 122 = .ok (.iload_n 2, 1) := by decide +kernel
theorem dX8_readsCompound_123 : decode cX8_readsCompound 123 = .ok (.ifCond .ne 9, 3) := by decide +kernel
theorem dX8_readsCompound_126 : decode cX8_readsCompound 126 = .ok (.aload_n 0, 1) := by decide +kernel
theorem dX8_readsCompound_127 : decode cX8_readsCompound 127 = .ok (.iconst 0, 1) := by decide +kernel
theorem dX8_readsCompound_128 : decode cX8_readsCompound 128 = .ok (.invokevirtual 97, 3) := by decide +kernel
theorem dX8_readsCompound_131 : decode cX8_readsCompound 131 = .ok (.pop, 1) := by decide +kernel
theorem dX8_readsCompound_132 : decode cX8_readsCompound 132 = .ok (.return_, 1) := by decide +kernel
theorem dX8_readsDeclarations_0 : decode cX8_readsDeclarations 0 = .ok (.aload_n 0, 1) := by decide +kernel
theorem dX8_readsDeclarations_1 : decode cX8_readsDeclarations 1 = .ok (.aload_n 0, 1) := by decide +kernel
theorem dX8_readsDeclarations_2 : decode cX8_readsDeclarations 2 = .ok (.bipush 119, 2) := by decide +kernel
theorem dX8_readsDeclarations_4 : decode cX8_readsDeclarations 4 = .ok (.bipush 122, 2) := by decide +kernel
theorem dX8_readsDeclarations_6 : decode cX8_readsDeclarations 6 = .ok (.invokevirtual 101, 3) := by decide +kernel
theorem dX8_readsDeclarations_9 : decode cX8_readsDeclarations 9 = .ok (.ifCond .eq 29, 3) := by decide +kernel
theorem dX8_readsDeclarations_12 : decode cX8_readsDeclarations 12 = .ok (.aload_n 0, 1) := by decide +kernel
theorem dX8_readsDeclarations_13 : decode cX8_readsDeclarations 13 = .ok (.getfield 16, 3) := by decide +kernel
theorem dX8_readsDeclarations_16 : decode cX8_readsDeclarations 16 = .ok (.bipush 92, 2) := by decide +kernel
theorem dX8_readsDeclarations_18 : decode cX8_readsDeclarations 18 = .ok (.iload_n 1, 1) := by decide +kernel
theorem dX8_readsDeclarations_19 : decode cX8_readsDeclarations 19 = .ok (.iadd, 1) := by decide +kernel
theorem dX8_readsDeclarations_20 : decode cX8_readsDeclarations 20 = .ok (.iaload, 1) := by decide +kernel
theorem dX8_readsDeclarations_21 : decode cX8_readsDeclarations 21 = .ok (.aload_n 0, 1) := by decide +kernel
theorem dX8_readsDeclarations_22 : decode cX8_readsDeclarations 22 = .ok (.getfield 80, 3) := by decide +kernel
theorem dX8_readsDeclarations_25 : decode cX8_readsDeclarations 25 = .ok (.bipush 119, 2) := by decide +kernel
theorem dX8_readsDeclarations_27 : decode cX8_readsDeclarations 27 = .ok (.isub, 1) := by decide +kernel
theorem dX8_readsDeclarations_28 : decode cX8_readsDeclarations 28 = .ok (.invokestatic 105, 3) := by decide +kernel
theorem dX8_readsDeclarations_31 : decode cX8_readsDeclarations 31 = .ok (.ifCond .ne 7, 3) := by decide +kernel
theorem dX8_readsDeclarations_34 : decode cX8_readsDeclarations 34 = .ok (.iconst 1, 1) := by decide +kernel
theorem dX8_readsDeclarations_35 : decode cX8_readsDeclarations 35 = .ok (.goto 4, 3) := by decide +kernel
theorem dX8_readsDeclarations_38 : decode cX8_readsDeclarations 38 = .ok (.iconst 0, 1) := by decide +kernel
theorem dX8_readsDeclarations_39 : decode cX8_readsDeclarations 39 = .ok (.invokevirtual 97, 3) := by decide +kernel
theorem dX8_readsDeclarations_42 : decode cX8_readsDeclarations 42 = .ok (.bipush 119, 2) := by decide +kernel
theorem dX8_readsDeclarations_44 : decode cX8_readsDeclarations 44 = .ok (.isub, 1) := by decide +kernel
theorem dX8_readsDeclarations_45 : decode cX8_readsDeclarations 45 = .ok (.istore_n 2, 1) := by decide +kernel
theorem dX8_readsDeclarations_46 : decode cX8_readsDeclarations 46 = .ok (.aload_n 0, 1) := by decide +kernel
theorem dX8_readsDeclarations_47 : decode cX8_readsDeclarations 47 = .ok (.aload_n 0, 1) := by decide +kernel
theorem dX8_readsDeclarations_48 : decode cX8_readsDeclarations 48 = .ok (.invokevirtual 90, 3) := by decide +kernel
theorem dX8_readsDeclarations_51 : decode cX8_readsDeclarations 51 = .ok (.ifCond .eq 15, 3) := by decide +kernel
theorem dX8_readsDeclarations_54 : decode cX8_readsDeclarations 54 = .ok (.aload_n 0, 1) := by decide +kernel
theorem dX8_readsDeclarations_55 : decode cX8_readsDeclarations 55 = .ok (.getfield 77, 3) := by decide +kernel
theorem dX8_readsDeclarations_58 : decode cX8_readsDeclarations 58 = .ok (.iconst 2, 1) := by decide +kernel
theorem dX8_readsDeclarations_59 : decode cX8_readsDeclarations 59 = .ok (.if_icmp .ne 7, 3) := by decide +kernel
theorem dX8_readsDeclarations_62 : decode cX8_readsDeclarations 62 = .ok (.iconst 1, 1) := by decide +kernel
theorem dX8_readsDeclarations_63 : decode cX8_readsDeclarations 63 = .ok (.goto 4, 3) := by decide +kernel
theorem dX8_readsDeclarations_66 : decode cX8_readsDeclarations 66 = .ok (.iconst 0, 1) := by decide +kernel
theorem dX8_readsDeclarations_67 : decode cX8_readsDeclarations 67 = .ok (.invokevirtual 97, 3) := by decide +kernel
theorem dX8_readsDeclarations_70 : decode cX8_readsDeclarations 70 = .ok (.istore_n 3, 1) := by decide +kernel
theorem dX8_readsDeclarations_71 : decode cX8_readsDeclarations 71 = .ok (.aload_n 0, 1) := by decide +kernel
theorem dX8_readsDeclarations_72 : decode cX8_readsDeclarations 72 = .ok (.invokevirtual 90, 3) := by decide +kernel
theorem dX8_readsDeclarations_75 : decode cX8_readsDeclarations 75 = .ok (.ifCond .eq 62, 3) := by decide +kernel
theorem dX8_readsDeclarations_78 : decode cX8_readsDeclarations 78 = .ok (.aload_n 0, 1) := by decide +kernel
theorem dX8_readsDeclarations_79 : decode cX8_readsDeclarations 79 = .ok (.getfield 16, 3) := by decide +kernel
theorem dX8_readsDeclarations_82 : decode cX8_readsDeclarations 82 = .ok (.bipush 92, 2) := by decide +kernel
theorem dX8_readsDeclarations_84 : decode cX8_readsDeclarations 84 = .ok (.iload_n 1, 1) := by decide +kernel
theorem dX8_readsDeclarations_85 : decode cX8_readsDeclarations 85 = .ok (.iadd, 1) := by decide +kernel
theorem dX8_readsDeclarations_86 : decode cX8_readsDeclarations 86 = .ok (.dup2, 1) := by decide +kernel
theorem dX8_readsDeclarations_87 : decode cX8_readsDeclarations 87 = .ok (.iaload, 1) := by decide +kernel
theorem dX8_readsDeclarations_88 : decode cX8_readsDeclarations 88 = .ok (.iconst 1, 1) := by decide +kernel
theorem dX8_readsDeclarations_89 : decode cX8_readsDeclarations 89 = .ok (.iload_n 2, 1) := by decide +kernel
theorem dX8_readsDeclarations_90 : decode cX8_readsDeclarations 90 = .ok (.ishl, 1) := by decide +kernel
theorem dX8_readsDeclarations_91 : decode cX8_readsDeclarations 91 = .ok (.ior, 1) := by decide +kernel
theorem dX8_readsDeclarations_92 : decode cX8_readsDeclarations 92 = .ok (.iastore, 1) := by decide +kernel
theorem dX8_readsDeclarations_93 : decode cX8_readsDeclarations 93 = .ok (.aload_n 0, 1) := by decide +kernel
theorem dX8_readsDeclarations_94 : decode cX8_readsDeclarations 94 = .ok (.getfield 16, 3) := by decide +kernel
theorem dX8_readsDeclarations_97 : decode cX8_readsDeclarations 97 = .ok (.bipush 108, 2) := by decide +kernel
theorem dX8_readsDeclarations_99 : decode cX8_readsDeclarations 99 = .ok (.iconst 4, 1) := by decide +kernel
theorem dX8_readsDeclarations_100 : decode cX8_readsDeclarations 100 = .ok (.iload_n 1, 1) := by decide +kernel
theorem dX8_readsDeclarations_101 : decode cX8_readsDeclarations 101 = .ok (.imul, 1) := by decide +kernel
theorem dX8_readsDeclarations_102 : decode cX8_readsDeclarations 102 = .ok (.iadd, 1) := by decide +kernel
theorem dX8_readsDeclarations_103 : decode cX8_readsDeclarations 103 = .ok (.iload_n 2, 1) := by decide +kernel
theorem dX8_readsDeclarations_104 : decode cX8_readsDeclarations 104 = .ok (.iadd, 1) := by decide +kernel
theorem dX8_readsDeclarations_105 : decode cX8_readsDeclarations 105 = .ok (.iload_n 3, 1) := by decide +kernel
theorem dX8_readsDeclarations_106 : decode cX8_readsDeclarations 106 = .ok (.iastore, 1) := by decide +kernel
theorem dX8_readsDeclarations_107 : decode cX8_readsDeclarations 107 = .ok (.aload_n 0, 1) := by decide +kernel
theorem dX8_readsDeclarations_108 : decode cX8_readsDeclarations 108 = .ok (.bipush 33, 2) := by decide +kernel
theorem dX8_readsDeclarations_110 : decode cX8_readsDeclarations 110 = .ok (.invokevirtual 108, 3) := by decide +kernel
theorem dX8_readsDeclarations_113 : decode cX8_readsDeclarations 113 = .ok (.ifCond .eq 24, 3) := by decide +kernel
theorem dX8_readsDeclarations_116 : decode cX8_readsDeclarations 116 = .ok (.aload_n 0, 1) := by decide +kernel
theorem dX8_readsDeclarations_117 : decode cX8_readsDeclarations 117 = .ok (.iconst 1, 1) := by decide +kernel
theorem dX8_readsDeclarations_118 : decode cX8_readsDeclarations 118 = .ok (.invokevirtual 97, 3) := by decide +kernel
theorem dX8_readsDeclarations_121 : decode cX8_readsDeclarations 121 = .ok (.pop, 1) := by decide +kernel
theorem dX8_readsDeclarations_122 : decode cX8_readsDeclarations 122 = .ok (.aload_n 0, 1) := by decide +kernel
theorem dX8_readsDeclarations_123 : decode cX8_readsDeclarations 123 = .ok (.getfield 16, 3) := by decide +kernel
theorem dX8_readsDeclarations_126 : decode cX8_readsDeclarations 126 = .ok (.bipush 100, 2) := by decide +kernel
theorem dX8_readsDeclarations_128 : decode cX8_readsDeclarations 128 = .ok (.iload_n 1, 1) := by decide +kernel
theorem dX8_readsDeclarations_129 : decode cX8_readsDeclarations 129 = .ok (.iadd, 1) := by decide +kernel
theorem dX8_readsDeclarations_130 : decode cX8_readsDeclarations 130 = .ok (.dup2, 1) := by decide +kernel
theorem dX8_readsDeclarations_131 : decode cX8_readsDeclarations 131 = .ok (.iaload, 1) := by decide +kernel
theorem dX8_readsDeclarations_132 : decode cX8_readsDeclarations 132 = .ok (.iconst 1, 1) := by decide +kernel
theorem dX8_readsDeclarations_133 : decode cX8_readsDeclarations 133 = .ok (.iload_n 2, 1) := by decide +kernel
theorem dX8_readsDeclarations_134 : decode cX8_readsDeclarations 134 = .ok (.ishl, 1) := by decide +kernel
theorem dX8_readsDeclarations_135 : decode cX8_readsDeclarations 135 = .ok (.ior, 1) := by decide +kernel
theorem dX8_readsDeclarations_136 : decode cX8_readsDeclarations 136 = .ok (.iastore, 1) := by decide +kernel
theorem dX8_readsDeclarations_137 : decode cX8_readsDeclarations 137 = .ok (.aload_n 0, 1) := by decide +kernel
theorem dX8_readsDeclarations_138 : decode cX8_readsDeclarations 138 = .ok (.invokevirtual 90, 3) := by decide +kernel
theorem dX8_readsDeclarations_141 : decode cX8_readsDeclarations 141 = .ok (.ifCond .eq 19, 3) := by decide +kernel
theorem dX8_readsDeclarations_144 : decode cX8_readsDeclarations 144 = .ok (.aload_n 0, 1) := by decide +kernel
theorem dX8_readsDeclarations_145 : decode cX8_readsDeclarations 145 = .ok (.bipush 59, 2) := by decide +kernel
theorem dX8_readsDeclarations_147 : decode cX8_readsDeclarations 147 = .ok (.invokevirtual 108, 3) := by decide +kernel
theorem dX8_readsDeclarations_150 : decode cX8_readsDeclarations 150 = .ok (.ifCond .ne 10, 3) := by decide +kernel
theorem dX8_readsDeclarations_153 : decode cX8_readsDeclarations 153 = .ok (.aload_n 0, 1) := by decide +kernel
theorem dX8_readsDeclarations_154 : decode cX8_readsDeclarations 154 = .ok (.getfield 77, 3) := by decide +kernel
theorem dX8_readsDeclarations_157 : decode cX8_readsDeclarations 157 = .ok (.ifCond .ne (-157), 3) := by decide +kernel
theorem dX8_readsDeclarations_160 : decode cX8_readsDeclarations 160 = .ok (.return_, 1) := by decide +kernel
theorem dX8_readsRule_0 : decode cX8_readsRule 0 = .ok (.aload_n 0, 1) := by decide +kernel
theorem dX8_readsRule_1 : decode cX8_readsRule 1 = .ok (.getfield 16, 3) := by decide +kernel
theorem dX8_readsRule_4 : decode cX8_readsRule 4 = .ok (.iconst 1, 1) := by decide +kernel
theorem dX8_readsRule_5 : decode cX8_readsRule 5 = .ok (.iaload, 1) := by decide +kernel
theorem dX8_readsRule_6 : decode cX8_readsRule 6 = .ok (.istore_n 1, 1) := by decide +kernel
theorem dX8_readsRule_7 : decode cX8_readsRule 7 = .ok (.aload_n 0, 1) := by decide +kernel
theorem dX8_readsRule_8 : decode cX8_readsRule 8 = .ok (.bipush 85, 2) := by decide +kernel
theorem dX8_readsRule_10 : decode cX8_readsRule 10 = .ok (.invokevirtual 108, 3) := by decide +kernel
theorem dX8_readsRule_13 : decode cX8_readsRule 13 = .ok (.ifCond .eq 21, 3) := by decide +kernel
theorem dX8_readsRule_16 : decode cX8_readsRule 16 = .ok (.aload_n 0, 1) := by decide +kernel
theorem dX8_readsRule_17 : decode cX8_readsRule 17 = .ok (.iconst 1, 1) := by decide +kernel
theorem dX8_readsRule_18 : decode cX8_readsRule 18 = .ok (.invokevirtual 97, 3) := by decide +kernel
theorem dX8_readsRule_21 : decode cX8_readsRule 21 = .ok (.pop, 1) := by decide +kernel
theorem dX8_readsRule_22 : decode cX8_readsRule 22 = .ok (.aload_n 0, 1) := by decide +kernel
theorem dX8_readsRule_23 : decode cX8_readsRule 23 = .ok (.getfield 16, 3) := by decide +kernel
theorem dX8_readsRule_26 : decode cX8_readsRule 26 = .ok (.iconst 2, 1) := by decide +kernel
theorem dX8_readsRule_27 : decode cX8_readsRule 27 = .ok (.dup2, 1) := by decide +kernel
theorem dX8_readsRule_28 : decode cX8_readsRule 28 = .ok (.iaload, 1) := by decide +kernel
theorem dX8_readsRule_29 : decode cX8_readsRule 29 = .ok (.iconst 1, 1) := by decide +kernel
theorem dX8_readsRule_30 : decode cX8_readsRule 30 = .ok (.iload_n 1, 1) := by decide +kernel
theorem dX8_readsRule_31 : decode cX8_readsRule 31 = .ok (.ishl, 1) := by decide +kernel
theorem dX8_readsRule_32 : decode cX8_readsRule 32 = .ok (.ior, 1) := by decide +kernel
theorem dX8_readsRule_33 : decode cX8_readsRule 33 = .ok (.iastore, 1) := by decide +kernel
theorem dX8_readsRule_34 : decode cX8_readsRule 34 = .ok (.iconst 0, 1) := by decide +kernel
theorem dX8_readsRule_35 : decode cX8_readsRule 35 = .ok (.istore_n 2, 1) := by decide +kernel
theorem dX8_readsRule_36 : decode cX8_readsRule 36 = .ok (.aload_n 0, 1) := by decide +kernel
theorem dX8_readsRule_37 : decode cX8_readsRule 37 = .ok (.iconst 3, 1) := by decide +kernel
theorem dX8_readsRule_38 : decode cX8_readsRule 38 = .ok (.iload_n 1, 1) := by decide +kernel
theorem dX8_readsRule_39 : decode cX8_readsRule 39 = .ok (.imul, 1) := by decide +kernel
theorem dX8_readsRule_40 : decode cX8_readsRule 40 = .ok (.invokevirtual 111, 3) := by decide +kernel
theorem dX8_readsRule_43 : decode cX8_readsRule 43 = .ok (.iinc 2 1, 3) := by decide +kernel
theorem dX8_readsRule_46 : decode cX8_readsRule 46 = .ok (.aload_n 0, 1) := by decide +kernel
theorem dX8_readsRule_47 : decode cX8_readsRule 47 = .ok (.bipush 62, 2) := by decide +kernel
theorem dX8_readsRule_49 : decode cX8_readsRule 49 = .ok (.invokevirtual 108, 3) := by decide +kernel
theorem dX8_readsRule_52 : decode cX8_readsRule 52 = .ok (.ifCond .ne 12, 3) := by decide +kernel
theorem dX8_readsRule_55 : decode cX8_readsRule 55 = .ok (.aload_n 0, 1) := by decide +kernel
theorem dX8_readsRule_56 : decode cX8_readsRule 56 = .ok (.bipush 47, 2) := by decide +kernel
theorem dX8_readsRule_58 : decode cX8_readsRule 58 = .ok (.invokevirtual 108, 3) := by decide +kernel
theorem dX8_readsRule_61 : decode cX8_readsRule 61 = .ok (.ifCond .eq 54, 3) := by decide +kernel
theorem dX8_readsRule_64 : decode cX8_readsRule 64 = .ok (.aload_n 0, 1) := by decide +kernel
theorem dX8_readsRule_65 : decode cX8_readsRule 65 = .ok (.iload_n 2, 1) := by decide +kernel
theorem dX8_readsRule_66 : decode cX8_readsRule 66 = .ok (.iconst 3, 1) := by decide +kernel
theorem dX8_readsRule_67 : decode cX8_readsRule 67 = .ok (.if_icmp .ge 7, 3) := by decide +kernel
theorem dX8_readsRule_70 : decode cX8_readsRule 70 = .ok (.iconst 1, 1) := by decide +kernel
theorem dX8_readsRule_71 : decode cX8_readsRule 71 = .ok (.goto 4, 3) := by decide +kernel
theorem dX8_readsRule_74 : decode cX8_readsRule 74 = .ok (.iconst 0, 1) := by decide +kernel
theorem dX8_readsRule_75 : decode cX8_readsRule 75 = .ok (.invokevirtual 97, 3) := by decide +kernel
theorem dX8_readsRule_78 : decode cX8_readsRule 78 = .ok (.istore_n 3, 1) := by decide +kernel
theorem dX8_readsRule_79 : decode cX8_readsRule 79 = .ok (.aload_n 0, 1) := by decide +kernel
theorem dX8_readsRule_80 : decode cX8_readsRule 80 = .ok (.invokevirtual 90, 3) := by decide +kernel
theorem dX8_readsRule_83 : decode cX8_readsRule 83 = .ok (.ifCond .eq 29, 3) := by decide +kernel
theorem dX8_readsRule_86 : decode cX8_readsRule 86 = .ok (.aload_n 0, 1) := by decide +kernel
theorem dX8_readsRule_87 : decode cX8_readsRule 87 = .ok (.getfield 16, 3) := by decide +kernel
theorem dX8_readsRule_90 : decode cX8_readsRule 90 = .ok (.bipush 68, 2) := by decide +kernel
theorem dX8_readsRule_92 : decode cX8_readsRule 92 = .ok (.iconst 3, 1) := by decide +kernel
theorem dX8_readsRule_93 : decode cX8_readsRule 93 = .ok (.iload_n 1, 1) := by decide +kernel
theorem dX8_readsRule_94 : decode cX8_readsRule 94 = .ok (.imul, 1) := by decide +kernel
theorem dX8_readsRule_95 : decode cX8_readsRule 95 = .ok (.iadd, 1) := by decide +kernel
theorem dX8_readsRule_96 : decode cX8_readsRule 96 = .ok (.iload_n 2, 1) := by decide +kernel
theorem dX8_readsRule_97 : decode cX8_readsRule 97 = .ok (.iadd, 1) := by decide +kernel
theorem dX8_readsRule_98 : decode cX8_readsRule 98 = .ok (.iload_n 3, 1) := by decide +kernel
theorem dX8_readsRule_99 : decode cX8_readsRule 99 = .ok (.iastore, 1) := by decide +kernel
theorem dX8_readsRule_100 : decode cX8_readsRule 100 = .ok (.aload_n 0, 1) := by decide +kernel
theorem dX8_readsRule_101 : decode cX8_readsRule 101 = .ok (.iconst 3, 1) := by decide +kernel
theorem dX8_readsRule_102 : decode cX8_readsRule 102 = .ok (.iload_n 1, 1) := by decide +kernel
theorem dX8_readsRule_103 : decode cX8_readsRule 103 = .ok (.imul, 1) := by decide +kernel
theorem dX8_readsRule_104 : decode cX8_readsRule 104 = .ok (.iload_n 2, 1) := by decide +kernel
theorem dX8_readsRule_105 : decode cX8_readsRule 105 = .ok (.iadd, 1) := by decide +kernel
theorem dX8_readsRule_106 : decode cX8_readsRule 106 = .ok (.invokevirtual 111, 3) := by decide +kernel
theorem dX8_readsRule_109 : decode cX8_readsRule 109 = .ok (.iinc 2 1, 3) := by decide +kernel
theorem dX8_readsRule_112 : decode cX8_readsRule 112 = .ok (.goto (-66), 3) := by decide +kernel
theorem dX8_readsRule_115 : decode cX8_readsRule 115 = .ok (.aload_n 0, 1) := by decide +kernel
theorem dX8_readsRule_116 : decode cX8_readsRule 116 = .ok (.getfield 16, 3) := by decide +kernel
theorem dX8_readsRule_119 : decode cX8_readsRule 119 = .ok (.bipush 12, 2) := by decide +kernel
theorem dX8_readsRule_121 : decode cX8_readsRule 121 = .ok (.iload_n 1, 1) := by decide +kernel
theorem dX8_readsRule_122 : decode cX8_readsRule 122 = .ok (.iadd, 1) := by decide +kernel
theorem dX8_readsRule_123 : decode cX8_readsRule 123 = .ok (.iload_n 2, 1) := by decide +kernel
theorem dX8_readsRule_124 : decode cX8_readsRule 124 = .ok (.iastore, 1) := by decide +kernel
theorem dX8_readsRule_125 : decode cX8_readsRule 125 = .ok (.aload_n 0, 1) := by decide +kernel
theorem dX8_readsRule_126 : decode cX8_readsRule 126 = .ok (.aload_n 0, 1) := by decide +kernel
theorem dX8_readsRule_127 : decode cX8_readsRule 127 = .ok (.bipush 58, 2) := by decide +kernel
theorem dX8_readsRule_129 : decode cX8_readsRule 129 = .ok (.invokevirtual 108, 3) := by decide +kernel
theorem dX8_readsRule_132 : decode cX8_readsRule 132 = .ok (.invokevirtual 97, 3) := by decide +kernel
theorem dX8_readsRule_135 : decode cX8_readsRule 135 = .ok (.pop, 1) := by decide +kernel
theorem dX8_readsRule_136 : decode cX8_readsRule 136 = .ok (.aload_n 0, 1) := by decide +kernel
theorem dX8_readsRule_137 : decode cX8_readsRule 137 = .ok (.invokevirtual 90, 3) := by decide +kernel
theorem dX8_readsRule_140 : decode cX8_readsRule 140 = .ok (.ifCond .eq 8, 3) := by decide +kernel
theorem dX8_readsRule_143 : decode cX8_readsRule 143 = .ok (.aload_n 0, 1) := by decide +kernel
theorem dX8_readsRule_144 : decode cX8_readsRule 144 = .ok (.iload_n 1, 1) := by decide +kernel
theorem dX8_readsRule_145 : decode cX8_readsRule 145 = .ok (.invokevirtual 115, 3) := by decide +kernel
theorem dX8_readsRule_148 : decode cX8_readsRule 148 = .ok (.aload_n 0, 1) := by decide +kernel
theorem dX8_readsRule_149 : decode cX8_readsRule 149 = .ok (.getfield 16, 3) := by decide +kernel
theorem dX8_readsRule_152 : decode cX8_readsRule 152 = .ok (.iconst 1, 1) := by decide +kernel
theorem dX8_readsRule_153 : decode cX8_readsRule 153 = .ok (.dup2, 1) := by decide +kernel
theorem dX8_readsRule_154 : decode cX8_readsRule 154 = .ok (.iaload, 1) := by decide +kernel
theorem dX8_readsRule_155 : decode cX8_readsRule 155 = .ok (.iconst 1, 1) := by decide +kernel
theorem dX8_readsRule_156 : decode cX8_readsRule 156 = .ok (.iadd, 1) := by decide +kernel
theorem dX8_readsRule_157 : decode cX8_readsRule 157 = .ok (.iastore, 1) := by decide +kernel
theorem dX8_readsRule_158 : decode cX8_readsRule 158 = .ok (.return_, 1) := by decide +kernel
theorem dX8_page_0 : decode cX8_page 0 = .ok (.aload_n 0, 1) := by decide +kernel
theorem dX8_page_1 : decode cX8_page 1 = .ok (.iconst 0, 1) := by decide +kernel
theorem dX8_page_2 : decode cX8_page 2 = .ok (.putfield 56, 3) := by decide +kernel
theorem dX8_page_5 : decode cX8_page 5 = .ok (.aload_n 0, 1) := by decide +kernel
theorem dX8_page_6 : decode cX8_page 6 = .ok (.iconst (-1), 1) := by decide +kernel
theorem dX8_page_7 : decode cX8_page 7 = .ok (.putfield 87, 3) := by decide +kernel
theorem dX8_page_10 : decode cX8_page 10 = .ok (.aload_n 0, 1) := by decide +kernel
theorem dX8_page_11 : decode cX8_page 11 = .ok (.iconst 0, 1) := by decide +kernel
theorem dX8_page_12 : decode cX8_page 12 = .ok (.putfield 67, 3) := by decide +kernel
theorem dX8_page_15 : decode cX8_page 15 = .ok (.aload_n 0, 1) := by decide +kernel
theorem dX8_page_16 : decode cX8_page 16 = .ok (.invokevirtual 50, 3) := by decide +kernel
theorem dX8_page_19 : decode cX8_page 19 = .ok (.iconst 0, 1) := by decide +kernel
theorem dX8_page_20 : decode cX8_page 20 = .ok (.istore_n 1, 1) := by decide +kernel
theorem dX8_page_21 : decode cX8_page 21 = .ok (.aload_n 0, 1) := by decide +kernel
theorem dX8_page_22 : decode cX8_page 22 = .ok (.invokevirtual 94, 3) := by decide +kernel
theorem dX8_page_25 : decode cX8_page 25 = .ok (.aload_n 0, 1) := by decide +kernel
theorem dX8_page_26 : decode cX8_page 26 = .ok (.invokevirtual 90, 3) := by decide +kernel
theorem dX8_page_29 : decode cX8_page 29 = .ok (.ifCond .eq 108, 3) := by decide +kernel
theorem dX8_page_32 : decode cX8_page 32 = .ok (.aload_n 0, 1) := by decide +kernel
theorem dX8_page_33 : decode cX8_page 33 = .ok (.getfield 77, 3) := by decide +kernel
theorem dX8_page_36 : decode cX8_page 36 = .ok (.ifCond .eq 101, 3) := by decide +kernel
theorem dX8_page_39 : decode cX8_page 39 = .ok (.aload_n 0, 1) := by decide +kernel
theorem dX8_page_40 : decode cX8_page 40 = .ok (.aload_n 0, 1) := by decide +kernel
theorem dX8_page_41 : decode cX8_page 41 = .ok (.bipush 78, 2) := by decide +kernel
theorem dX8_page_43 : decode cX8_page 43 = .ok (.invokevirtual 108, 3) := by decide +kernel
theorem dX8_page_46 : decode cX8_page 46 = .ok (.ifCond .eq 14, 3) := by decide +kernel
theorem dX8_page_49 : decode cX8_page 49 = .ok (.aload_n 0, 1) := by decide +kernel
theorem dX8_page_50 : decode cX8_page 50 = .ok (.getfield 16, 3) := by decide +kernel
theorem dX8_page_53 : decode cX8_page 53 = .ok (.iconst 0, 1) := by decide +kernel
theorem dX8_page_54 : decode cX8_page 54 = .ok (.iaload, 1) := by decide +kernel
theorem dX8_page_55 : decode cX8_page 55 = .ok (.bipush 9, 2) := by decide +kernel
theorem dX8_page_57 : decode cX8_page 57 = .ok (.if_icmp .lt 23, 3) := by decide +kernel
theorem dX8_page_60 : decode cX8_page 60 = .ok (.aload_n 0, 1) := by decide +kernel
theorem dX8_page_61 : decode cX8_page 61 = .ok (.bipush 82, 2) := by decide +kernel
theorem dX8_page_63 : decode cX8_page 63 = .ok (.invokevirtual 108, 3) := by decide +kernel
theorem dX8_page_66 : decode cX8_page 66 = .ok (.ifCond .eq 18, 3) := by decide +kernel
theorem dX8_page_69 : decode cX8_page 69 = .ok (.aload_n 0, 1) := by decide +kernel
theorem dX8_page_70 : decode cX8_page 70 = .ok (.getfield 16, 3) := by decide +kernel
theorem dX8_page_73 : decode cX8_page 73 = .ok (.iconst 1, 1) := by decide +kernel
theorem dX8_page_74 : decode cX8_page 74 = .ok (.iaload, 1) := by decide +kernel
theorem dX8_page_75 : decode cX8_page 75 = .ok (.bipush 8, 2) := by decide +kernel
theorem dX8_page_77 : decode cX8_page 77 = .ok (.if_icmp .ge 7, 3) := by decide +kernel
theorem dX8_page_80 : decode cX8_page 80 = .ok (.iconst 1, 1) := by decide +kernel
theorem dX8_page_81 : decode cX8_page 81 = .ok (.goto 4, 3) := by decide +kernel
theorem dX8_page_84 : decode cX8_page 84 = .ok (.iconst 0, 1) := by decide +kernel
theorem dX8_page_85 : decode cX8_page 85 = .ok (.invokevirtual 97, 3) := by decide +kernel
theorem dX8_page_88 : decode cX8_page 88 = .ok (.istore_n 2, 1) := by decide +kernel
theorem dX8_page_89 : decode cX8_page 89 = .ok (.aload_n 0, 1) := by decide +kernel
theorem dX8_page_90 : decode cX8_page 90 = .ok (.invokevirtual 90, 3) := by decide +kernel
theorem dX8_page_93 : decode cX8_page 93 = .ok (.ifCond .eq 16, 3) := by decide +kernel
theorem dX8_page_96 : decode cX8_page 96 = .ok (.iload_n 2, 1) := by decide +kernel
theorem dX8_page_97 : decode cX8_page 97 = .ok (.bipush 78, 2) := by decide +kernel
theorem dX8_page_99 : decode cX8_page 99 = .ok (.if_icmp .ne 10, 3) := by decide +kernel
theorem dX8_page_102 : decode cX8_page 102 = .ok (.aload_n 0, 1) := by decide +kernel
theorem dX8_page_103 : decode cX8_page 103 = .ok (.invokevirtual 118, 3) := by decide +kernel
theorem dX8_page_106 : decode cX8_page 106 = .ok (.goto 14, 3) := by decide +kernel
theorem dX8_page_109 : decode cX8_page 109 = .ok (.aload_n 0, 1) := by decide +kernel
theorem dX8_page_110 : decode cX8_page 110 = .ok (.invokevirtual 90, 3) := by decide +kernel
theorem dX8_page_113 : decode cX8_page 113 = .ok (.ifCond .eq 7, 3) := by decide +kernel
theorem dX8_page_116 : decode cX8_page 116 = .ok (.aload_n 0, 1) := by decide +kernel
theorem dX8_page_117 : decode cX8_page 117 = .ok (.invokevirtual 121, 3) := by decide +kernel
theorem dX8_page_120 : decode cX8_page 120 = .ok (.aload_n 0, 1) := by decide +kernel
theorem dX8_page_121 : decode cX8_page 121 = .ok (.aload_n 0, 1) := by decide +kernel
theorem dX8_page_122 : decode cX8_page 122 = .ok (.bipush 59, 2) := by decide +kernel
theorem dX8_page_124 : decode cX8_page 124 = .ok (.invokevirtual 108, 3) := by decide +kernel
theorem dX8_page_127 : decode cX8_page 127 = .ok (.invokevirtual 97, 3) := by decide +kernel
theorem dX8_page_130 : decode cX8_page 130 = .ok (.pop, 1) := by decide +kernel
theorem dX8_page_131 : decode cX8_page 131 = .ok (.iinc 1 1, 3) := by decide +kernel
theorem dX8_page_134 : decode cX8_page 134 = .ok (.goto (-109), 3) := by decide +kernel
theorem dX8_page_137 : decode cX8_page 137 = .ok (.aload_n 0, 1) := by decide +kernel
theorem dX8_page_138 : decode cX8_page 138 = .ok (.invokevirtual 90, 3) := by decide +kernel
theorem dX8_page_141 : decode cX8_page 141 = .ok (.ifCond .ne 11, 3) := by decide +kernel
theorem dX8_page_144 : decode cX8_page 144 = .ok (.bipush (-10), 2) := by decide +kernel
theorem dX8_page_146 : decode cX8_page 146 = .ok (.aload_n 0, 1) := by decide +kernel
theorem dX8_page_147 : decode cX8_page 147 = .ok (.getfield 87, 3) := by decide +kernel
theorem dX8_page_150 : decode cX8_page 150 = .ok (.isub, 1) := by decide +kernel
theorem dX8_page_151 : decode cX8_page 151 = .ok (.ireturn, 1) := by decide +kernel
theorem dX8_page_152 : decode cX8_page 152 = .ok (.aload_n 0, 1) := by decide +kernel
theorem dX8_page_153 : decode cX8_page 153 = .ok (.getfield 19, 3) := by decide +kernel
theorem dX8_page_156 : decode cX8_page 156 = .ok (.bipush 18, 2) := by decide +kernel
theorem dX8_page_158 : decode cX8_page 158 = .ok (.iconst 1, 1) := by decide +kernel
theorem dX8_page_159 : decode cX8_page 159 = .ok (.aload_n 0, 1) := by decide +kernel
theorem dX8_page_160 : decode cX8_page 160 = .ok (.getfield 16, 3) := by decide +kernel
theorem dX8_page_163 : decode cX8_page 163 = .ok (.iconst 1, 1) := by decide +kernel
theorem dX8_page_164 : decode cX8_page 164 = .ok (.iaload, 1) := by decide +kernel
theorem dX8_page_165 : decode cX8_page 165 = .ok (.ishl, 1) := by decide +kernel
theorem dX8_page_166 : decode cX8_page 166 = .ok (.iconst 1, 1) := by decide +kernel
theorem dX8_page_167 : decode cX8_page 167 = .ok (.isub, 1) := by decide +kernel
theorem dX8_page_168 : decode cX8_page 168 = .ok (.iastore, 1) := by decide +kernel
theorem dX8_page_169 : decode cX8_page 169 = .ok (.aload_n 0, 1) := by decide +kernel
theorem dX8_page_170 : decode cX8_page 170 = .ok (.invokevirtual 53, 3) := by decide +kernel
theorem dX8_page_173 : decode cX8_page 173 = .ok (.iload_n 1, 1) := by decide +kernel
theorem dX8_page_174 : decode cX8_page 174 = .ok (.ireturn, 1) := by decide +kernel
theorem dX8_settles_0 : decode cX8_settles 0 = .ok (.iconst 0, 1) := by decide +kernel
theorem dX8_settles_1 : decode cX8_settles 1 = .ok (.istore_n 1, 1) := by decide +kernel
theorem dX8_settles_2 : decode cX8_settles 2 = .ok (.iload_n 1, 1) := by decide +kernel
theorem dX8_settles_3 : decode cX8_settles 3 = .ok (.sipush 140, 3) := by decide +kernel
theorem dX8_settles_6 : decode cX8_settles 6 = .ok (.if_icmp .ge 21, 3) := by decide +kernel
theorem dX8_settles_9 : decode cX8_settles 9 = .ok (.aload_n 0, 1) := by decide +kernel
theorem dX8_settles_10 : decode cX8_settles 10 = .ok (.getfield 13, 3) := by decide +kernel
theorem dX8_settles_13 : decode cX8_settles 13 = .ok (.iload_n 1, 1) := by decide +kernel
theorem dX8_settles_14 : decode cX8_settles 14 = .ok (.aload_n 0, 1) := by decide +kernel
theorem dX8_settles_15 : decode cX8_settles 15 = .ok (.getfield 16, 3) := by decide +kernel
theorem dX8_settles_18 : decode cX8_settles 18 = .ok (.iload_n 1, 1) := by decide +kernel
theorem dX8_settles_19 : decode cX8_settles 19 = .ok (.iaload, 1) := by decide +kernel
theorem dX8_settles_20 : decode cX8_settles 20 = .ok (.iastore, 1) := by decide +kernel
theorem dX8_settles_21 : decode cX8_settles 21 = .ok (.iinc 1 1, 3) := by decide +kernel
theorem dX8_settles_24 : decode cX8_settles 24 = .ok (.goto (-22), 3) := by decide +kernel
theorem dX8_settles_27 : decode cX8_settles 27 = .ok (.iconst 0, 1) := by decide +kernel
theorem dX8_settles_28 : decode cX8_settles 28 = .ok (.istore_n 1, 1) := by decide +kernel
theorem dX8_settles_29 : decode cX8_settles 29 = .ok (.iload_n 1, 1) := by decide +kernel
theorem dX8_settles_30 : decode cX8_settles 30 = .ok (.bipush 19, 2) := by decide +kernel
theorem dX8_settles_32 : decode cX8_settles 32 = .ok (.if_icmp .ge 21, 3) := by decide +kernel
theorem dX8_settles_35 : decode cX8_settles 35 = .ok (.aload_n 0, 1) := by decide +kernel
theorem dX8_settles_36 : decode cX8_settles 36 = .ok (.getfield 22, 3) := by decide +kernel
theorem dX8_settles_39 : decode cX8_settles 39 = .ok (.iload_n 1, 1) := by decide +kernel
theorem dX8_settles_40 : decode cX8_settles 40 = .ok (.aload_n 0, 1) := by decide +kernel
theorem dX8_settles_41 : decode cX8_settles 41 = .ok (.getfield 19, 3) := by decide +kernel
theorem dX8_settles_44 : decode cX8_settles 44 = .ok (.iload_n 1, 1) := by decide +kernel
theorem dX8_settles_45 : decode cX8_settles 45 = .ok (.iaload, 1) := by decide +kernel
theorem dX8_settles_46 : decode cX8_settles 46 = .ok (.iastore, 1) := by decide +kernel
theorem dX8_settles_47 : decode cX8_settles 47 = .ok (.iinc 1 1, 3) := by decide +kernel
theorem dX8_settles_50 : decode cX8_settles 50 = .ok (.goto (-21), 3) := by decide +kernel
theorem dX8_settles_53 : decode cX8_settles 53 = .ok (.aload_n 0, 1) := by decide +kernel
theorem dX8_settles_54 : decode cX8_settles 54 = .ok (.iconst 0, 1) := by decide +kernel
theorem dX8_settles_55 : decode cX8_settles 55 = .ok (.putfield 64, 3) := by decide +kernel
theorem dX8_settles_58 : decode cX8_settles 58 = .ok (.aload_n 0, 1) := by decide +kernel
theorem dX8_settles_59 : decode cX8_settles 59 = .ok (.iconst 0, 1) := by decide +kernel
theorem dX8_settles_60 : decode cX8_settles 60 = .ok (.putfield 124, 3) := by decide +kernel
theorem dX8_settles_63 : decode cX8_settles 63 = .ok (.aload_n 0, 1) := by decide +kernel
theorem dX8_settles_64 : decode cX8_settles 64 = .ok (.iconst 0, 1) := by decide +kernel
theorem dX8_settles_65 : decode cX8_settles 65 = .ok (.putfield 127, 3) := by decide +kernel
theorem dX8_settles_68 : decode cX8_settles 68 = .ok (.aload_n 0, 1) := by decide +kernel
theorem dX8_settles_69 : decode cX8_settles 69 = .ok (.getfield 31, 3) := by decide +kernel
theorem dX8_settles_72 : decode cX8_settles 72 = .ok (.iconst 0, 1) := by decide +kernel
theorem dX8_settles_73 : decode cX8_settles 73 = .ok (.iconst 0, 1) := by decide +kernel
theorem dX8_settles_74 : decode cX8_settles 74 = .ok (.bastore, 1) := by decide +kernel
theorem dX8_settles_75 : decode cX8_settles 75 = .ok (.aload_n 0, 1) := by decide +kernel
theorem dX8_settles_76 : decode cX8_settles 76 = .ok (.getfield 31, 3) := by decide +kernel
theorem dX8_settles_79 : decode cX8_settles 79 = .ok (.iconst 1, 1) := by decide +kernel
theorem dX8_settles_80 : decode cX8_settles 80 = .ok (.iconst 0, 1) := by decide +kernel
theorem dX8_settles_81 : decode cX8_settles 81 = .ok (.bastore, 1) := by decide +kernel
theorem dX8_settles_82 : decode cX8_settles 82 = .ok (.return_, 1) := by decide +kernel
theorem dX8_isNode_0 : decode cX8_isNode 0 = .ok (.iload_n 1, 1) := by decide +kernel
theorem dX8_isNode_1 : decode cX8_isNode 1 = .ok (.iconst 0, 1) := by decide +kernel
theorem dX8_isNode_2 : decode cX8_isNode 2 = .ok (.aload_n 0, 1) := by decide +kernel
theorem dX8_isNode_3 : decode cX8_isNode 3 = .ok (.getfield 13, 3) := by decide +kernel
theorem dX8_isNode_6 : decode cX8_isNode 6 = .ok (.iconst 0, 1) := by decide +kernel
theorem dX8_isNode_7 : decode cX8_isNode 7 = .ok (.iaload, 1) := by decide +kernel
theorem dX8_isNode_8 : decode cX8_isNode 8 = .ok (.iconst 1, 1) := by decide +kernel
theorem dX8_isNode_9 : decode cX8_isNode 9 = .ok (.isub, 1) := by decide +kernel
theorem dX8_isNode_10 : decode cX8_isNode 10 = .ok (.invokestatic 60, 3) := by decide +kernel
theorem dX8_isNode_13 : decode cX8_isNode 13 = .ok (.ireturn, 1) := by decide +kernel
theorem dX8_isRule_0 : decode cX8_isRule 0 = .ok (.iload_n 1, 1) := by decide +kernel
theorem dX8_isRule_1 : decode cX8_isRule 1 = .ok (.iconst 0, 1) := by decide +kernel
theorem dX8_isRule_2 : decode cX8_isRule 2 = .ok (.aload_n 0, 1) := by decide +kernel
theorem dX8_isRule_3 : decode cX8_isRule 3 = .ok (.getfield 13, 3) := by decide +kernel
theorem dX8_isRule_6 : decode cX8_isRule 6 = .ok (.iconst 1, 1) := by decide +kernel
theorem dX8_isRule_7 : decode cX8_isRule 7 = .ok (.iaload, 1) := by decide +kernel
theorem dX8_isRule_8 : decode cX8_isRule 8 = .ok (.iconst 1, 1) := by decide +kernel
theorem dX8_isRule_9 : decode cX8_isRule 9 = .ok (.isub, 1) := by decide +kernel
theorem dX8_isRule_10 : decode cX8_isRule 10 = .ok (.invokestatic 60, 3) := by decide +kernel
theorem dX8_isRule_13 : decode cX8_isRule 13 = .ok (.ireturn, 1) := by decide +kernel
theorem dX8_isFour_0 : decode cX8_isFour 0 = .ok (.iload_n 0, 1) := by decide +kernel
theorem dX8_isFour_1 : decode cX8_isFour 1 = .ok (.iconst 0, 1) := by decide +kernel
theorem dX8_isFour_2 : decode cX8_isFour 2 = .ok (.iconst 3, 1) := by decide +kernel
theorem dX8_isFour_3 : decode cX8_isFour 3 = .ok (.invokestatic 60, 3) := by decide +kernel
theorem dX8_isFour_6 : decode cX8_isFour 6 = .ok (.ireturn, 1) := by decide +kernel
theorem dX8_fits_0 : decode cX8_fits 0 = .ok (.aload_n 0, 1) := by decide +kernel
theorem dX8_fits_1 : decode cX8_fits 1 = .ok (.getfield 13, 3) := by decide +kernel
theorem dX8_fits_4 : decode cX8_fits 4 = .ok (.bipush 20, 2) := by decide +kernel
theorem dX8_fits_6 : decode cX8_fits 6 = .ok (.iload_n 1, 1) := by decide +kernel
theorem dX8_fits_7 : decode cX8_fits 7 = .ok (.iadd, 1) := by decide +kernel
theorem dX8_fits_8 : decode cX8_fits 8 = .ok (.iaload, 1) := by decide +kernel
theorem dX8_fits_9 : decode cX8_fits 9 = .ok (.istore_n 3, 1) := by decide +kernel
theorem dX8_fits_10 : decode cX8_fits 10 = .ok (.iload_n 3, 1) := by decide +kernel
theorem dX8_fits_11 : decode cX8_fits 11 = .ok (.bipush (-9), 2) := by decide +kernel
theorem dX8_fits_13 : decode cX8_fits 13 = .ok (.if_icmp .eq 15, 3) := by decide +kernel
theorem dX8_fits_16 : decode cX8_fits 16 = .ok (.iload_n 3, 1) := by decide +kernel
theorem dX8_fits_17 : decode cX8_fits 17 = .ok (.aload_n 0, 1) := by decide +kernel
theorem dX8_fits_18 : decode cX8_fits 18 = .ok (.getfield 22, 3) := by decide +kernel
theorem dX8_fits_21 : decode cX8_fits 21 = .ok (.iconst 0, 1) := by decide +kernel
theorem dX8_fits_22 : decode cX8_fits 22 = .ok (.iload_n 2, 1) := by decide +kernel
theorem dX8_fits_23 : decode cX8_fits 23 = .ok (.iadd, 1) := by decide +kernel
theorem dX8_fits_24 : decode cX8_fits 24 = .ok (.iaload, 1) := by decide +kernel
theorem dX8_fits_25 : decode cX8_fits 25 = .ok (.if_icmp .ne 31, 3) := by decide +kernel
theorem dX8_fits_28 : decode cX8_fits 28 = .ok (.aload_n 0, 1) := by decide +kernel
theorem dX8_fits_29 : decode cX8_fits 29 = .ok (.getfield 13, 3) := by decide +kernel
theorem dX8_fits_32 : decode cX8_fits 32 = .ok (.bipush 44, 2) := by decide +kernel
theorem dX8_fits_34 : decode cX8_fits 34 = .ok (.iload_n 1, 1) := by decide +kernel
theorem dX8_fits_35 : decode cX8_fits 35 = .ok (.iadd, 1) := by decide +kernel
theorem dX8_fits_36 : decode cX8_fits 36 = .ok (.iaload, 1) := by decide +kernel
theorem dX8_fits_37 : decode cX8_fits 37 = .ok (.aload_n 0, 1) := by decide +kernel
theorem dX8_fits_38 : decode cX8_fits 38 = .ok (.getfield 22, 3) := by decide +kernel
theorem dX8_fits_41 : decode cX8_fits 41 = .ok (.bipush 9, 2) := by decide +kernel
theorem dX8_fits_43 : decode cX8_fits 43 = .ok (.iload_n 2, 1) := by decide +kernel
theorem dX8_fits_44 : decode cX8_fits 44 = .ok (.iadd, 1) := by decide +kernel
theorem dX8_fits_45 : decode cX8_fits 45 = .ok (.iaload, 1) := by decide +kernel
theorem dX8_fits_46 : decode cX8_fits 46 = .ok (.iconst (-1), 1) := by decide +kernel
theorem dX8_fits_47 : decode cX8_fits 47 = .ok (.ixor, 1) := by decide +kernel
theorem dX8_fits_48 : decode cX8_fits 48 = .ok (.iand, 1) := by decide +kernel
theorem dX8_fits_49 : decode cX8_fits 49 = .ok (.ifCond .ne 7, 3) := by decide +kernel
theorem dX8_fits_52 : decode cX8_fits 52 = .ok (.iconst 1, 1) := by decide +kernel
theorem dX8_fits_53 : decode cX8_fits 53 = .ok (.goto 4, 3) := by decide +kernel
theorem dX8_fits_56 : decode cX8_fits 56 = .ok (.iconst 0, 1) := by decide +kernel
theorem dX8_fits_57 : decode cX8_fits 57 = .ok (.ireturn, 1) := by decide +kernel
theorem dX8_matching_0 : decode cX8_matching 0 = .ok (.iconst 0, 1) := by decide +kernel
theorem dX8_matching_1 : decode cX8_matching 1 = .ok (.istore_n 3, 1) := by decide +kernel
theorem dX8_matching_2 : decode cX8_matching 2 = .ok (.iconst 0, 1) := by decide +kernel
theorem dX8_matching_3 : decode cX8_matching 3 = .ok (.istore 4, 2) := by decide +kernel
theorem dX8_matching_5 : decode cX8_matching 5 = .ok (.iload 4, 2) := by decide +kernel
theorem dX8_matching_7 : decode cX8_matching 7 = .ok (.iload_n 2, 1) := by decide +kernel
theorem dX8_matching_8 : decode cX8_matching 8 = .ok (.if_icmp .ge 167, 3) := by decide +kernel
theorem dX8_matching_11 : decode cX8_matching 11 = .ok (.iconst 0, 1) := by decide +kernel
theorem dX8_matching_12 : decode cX8_matching 12 = .ok (.istore 5, 2) := by decide +kernel
theorem dX8_matching_14 : decode cX8_matching 14 = .ok (.iconst 0, 1) := by decide +kernel
theorem dX8_matching_15 : decode cX8_matching 15 = .ok (.istore 6, 2) := by decide +kernel
theorem dX8_matching_17 : decode cX8_matching 17 = .ok (.iload 6, 2) := by decide +kernel
theorem dX8_matching_19 : decode cX8_matching 19 = .ok (.aload_n 0, 1) := by decide +kernel
theorem dX8_matching_20 : decode cX8_matching 20 = .ok (.getfield 13, 3) := by decide +kernel
theorem dX8_matching_23 : decode cX8_matching 23 = .ok (.iconst 0, 1) := by decide +kernel
theorem dX8_matching_24 : decode cX8_matching 24 = .ok (.iaload, 1) := by decide +kernel
theorem dX8_matching_25 : decode cX8_matching 25 = .ok (.if_icmp .ge 141, 3) := by decide +kernel
theorem dX8_matching_28 : decode cX8_matching 28 = .ok (.iload 4, 2) := by decide +kernel
theorem dX8_matching_30 : decode cX8_matching 30 = .ok (.ifCond .ne 7, 3) := by decide +kernel
theorem dX8_matching_33 : decode cX8_matching 33 = .ok (.iconst 1, 1) := by decide +kernel
theorem dX8_matching_34 : decode cX8_matching 34 = .ok (.goto 4, 3) := by decide +kernel
theorem dX8_matching_37 : decode cX8_matching 37 = .ok (.iconst 0, 1) := by decide +kernel
theorem dX8_matching_38 : decode cX8_matching 38 = .ok (.istore 7, 2) := by decide +kernel
theorem dX8_matching_40 : decode cX8_matching 40 = .ok (.iload 4, 2) := by decide +kernel
theorem dX8_matching_42 : decode cX8_matching 42 = .ok (.ifCond .ne 8, 3) := by decide +kernel
theorem dX8_matching_45 : decode cX8_matching 45 = .ok (.bipush (-9), 2) := by decide +kernel
theorem dX8_matching_47 : decode cX8_matching 47 = .ok (.goto 12, 3) := by decide +kernel
theorem dX8_matching_50 : decode cX8_matching 50 = .ok (.aload_n 0, 1) := by decide +kernel
theorem dX8_matching_51 : decode cX8_matching 51 = .ok (.getfield 13, 3) := by decide +kernel
theorem dX8_matching_54 : decode cX8_matching 54 = .ok (.iconst 3, 1) := by decide +kernel
theorem dX8_matching_55 : decode cX8_matching 55 = .ok (.iload 6, 2) := by decide +kernel
theorem dX8_matching_57 : decode cX8_matching 57 = .ok (.iadd, 1) := by decide +kernel
theorem dX8_matching_58 : decode cX8_matching 58 = .ok (.iaload, 1) := by decide +kernel
theorem dX8_matching_59 : decode cX8_matching 59 = .ok (.istore 8, 2) := by decide +kernel
theorem dX8_matching_61 : decode cX8_matching 61 = .ok (.iload 8, 2) := by decide +kernel
theorem dX8_matching_63 : decode cX8_matching 63 = .ok (.bipush (-9), 2) := by decide +kernel
theorem dX8_matching_65 : decode cX8_matching 65 = .ok (.if_icmp .eq 62, 3) := by decide +kernel
theorem dX8_matching_68 : decode cX8_matching 68 = .ok (.iload 7, 2) := by decide +kernel
theorem dX8_matching_70 : decode cX8_matching 70 = .ok (.ifCond .ne 12, 3) := by decide +kernel
theorem dX8_matching_73 : decode cX8_matching 73 = .ok (.iload_n 3, 1) := by decide +kernel
theorem dX8_matching_74 : decode cX8_matching 74 = .ok (.iload 8, 2) := by decide +kernel
theorem dX8_matching_76 : decode cX8_matching 76 = .ok (.invokestatic 105, 3) := by decide +kernel
theorem dX8_matching_79 : decode cX8_matching 79 = .ok (.ifCond .eq 7, 3) := by decide +kernel
theorem dX8_matching_82 : decode cX8_matching 82 = .ok (.iconst 1, 1) := by decide +kernel
theorem dX8_matching_83 : decode cX8_matching 83 = .ok (.goto 4, 3) := by decide +kernel
theorem dX8_matching_86 : decode cX8_matching 86 = .ok (.iconst 0, 1) := by decide +kernel
theorem dX8_matching_87 : decode cX8_matching 87 = .ok (.istore 7, 2) := by decide +kernel
theorem dX8_matching_89 : decode cX8_matching 89 = .ok (.aload_n 0, 1) := by decide +kernel
theorem dX8_matching_90 : decode cX8_matching 90 = .ok (.getfield 13, 3) := by decide +kernel
theorem dX8_matching_93 : decode cX8_matching 93 = .ok (.bipush 68, 2) := by decide +kernel
theorem dX8_matching_95 : decode cX8_matching 95 = .ok (.iconst 3, 1) := by decide +kernel
theorem dX8_matching_96 : decode cX8_matching 96 = .ok (.iload_n 1, 1) := by decide +kernel
theorem dX8_matching_97 : decode cX8_matching 97 = .ok (.imul, 1) := by decide +kernel
theorem dX8_matching_98 : decode cX8_matching 98 = .ok (.iadd, 1) := by decide +kernel
theorem dX8_matching_99 : decode cX8_matching 99 = .ok (.iload 4, 2) := by decide +kernel
theorem dX8_matching_101 : decode cX8_matching 101 = .ok (.iadd, 1) := by decide +kernel
theorem dX8_matching_102 : decode cX8_matching 102 = .ok (.iaload, 1) := by decide +kernel
theorem dX8_matching_103 : decode cX8_matching 103 = .ok (.bipush 62, 2) := by decide +kernel
theorem dX8_matching_105 : decode cX8_matching 105 = .ok (.if_icmp .ne 8, 3) := by decide +kernel
theorem dX8_matching_108 : decode cX8_matching 108 = .ok (.bipush (-9), 2) := by decide +kernel
theorem dX8_matching_110 : decode cX8_matching 110 = .ok (.goto 12, 3) := by decide +kernel
theorem dX8_matching_113 : decode cX8_matching 113 = .ok (.aload_n 0, 1) := by decide +kernel
theorem dX8_matching_114 : decode cX8_matching 114 = .ok (.getfield 13, 3) := by decide +kernel
theorem dX8_matching_117 : decode cX8_matching 117 = .ok (.iconst 3, 1) := by decide +kernel
theorem dX8_matching_118 : decode cX8_matching 118 = .ok (.iload 8, 2) := by decide +kernel
theorem dX8_matching_120 : decode cX8_matching 120 = .ok (.iadd, 1) := by decide +kernel
theorem dX8_matching_121 : decode cX8_matching 121 = .ok (.iaload, 1) := by decide +kernel
theorem dX8_matching_122 : decode cX8_matching 122 = .ok (.istore 8, 2) := by decide +kernel
theorem dX8_matching_124 : decode cX8_matching 124 = .ok (.goto (-63), 3) := by decide +kernel
theorem dX8_matching_127 : decode cX8_matching 127 = .ok (.iload 5, 2) := by decide +kernel
theorem dX8_matching_129 : decode cX8_matching 129 = .ok (.iload 7, 2) := by decide +kernel
theorem dX8_matching_131 : decode cX8_matching 131 = .ok (.ifCond .eq 25, 3) := by decide +kernel
theorem dX8_matching_134 : decode cX8_matching 134 = .ok (.aload_n 0, 1) := by decide +kernel
theorem dX8_matching_135 : decode cX8_matching 135 = .ok (.iconst 3, 1) := by decide +kernel
theorem dX8_matching_136 : decode cX8_matching 136 = .ok (.iload_n 1, 1) := by decide +kernel
theorem dX8_matching_137 : decode cX8_matching 137 = .ok (.imul, 1) := by decide +kernel
theorem dX8_matching_138 : decode cX8_matching 138 = .ok (.iload 4, 2) := by decide +kernel
theorem dX8_matching_140 : decode cX8_matching 140 = .ok (.iadd, 1) := by decide +kernel
theorem dX8_matching_141 : decode cX8_matching 141 = .ok (.iload 6, 2) := by decide +kernel
theorem dX8_matching_143 : decode cX8_matching 143 = .ok (.invokevirtual 130, 3) := by decide +kernel
theorem dX8_matching_146 : decode cX8_matching 146 = .ok (.ifCond .eq 10, 3) := by decide +kernel
theorem dX8_matching_149 : decode cX8_matching 149 = .ok (.iconst 1, 1) := by decide +kernel
theorem dX8_matching_150 : decode cX8_matching 150 = .ok (.iload 6, 2) := by decide +kernel
theorem dX8_matching_152 : decode cX8_matching 152 = .ok (.ishl, 1) := by decide +kernel
theorem dX8_matching_153 : decode cX8_matching 153 = .ok (.goto 4, 3) := by decide +kernel
theorem dX8_matching_156 : decode cX8_matching 156 = .ok (.iconst 0, 1) := by decide +kernel
theorem dX8_matching_157 : decode cX8_matching 157 = .ok (.ior, 1) := by decide +kernel
theorem dX8_matching_158 : decode cX8_matching 158 = .ok (.istore 5, 2) := by decide +kernel
theorem dX8_matching_160 : decode cX8_matching 160 = .ok (.iinc 6 1, 3) := by decide +kernel
theorem dX8_matching_163 : decode cX8_matching 163 = .ok (.goto (-146), 3) := by decide +kernel
theorem dX8_matching_166 : decode cX8_matching 166 = .ok (.iload 5, 2) := by decide +kernel
theorem dX8_matching_168 : decode cX8_matching 168 = .ok (.istore_n 3, 1) := by decide +kernel
theorem dX8_matching_169 : decode cX8_matching 169 = .ok (.iinc 4 1, 3) := by decide +kernel
theorem dX8_matching_172 : decode cX8_matching 172 = .ok (.goto (-167), 3) := by decide +kernel
theorem dX8_matching_175 : decode cX8_matching 175 = .ok (.iload_n 3, 1) := by decide +kernel
theorem dX8_matching_176 : decode cX8_matching 176 = .ok (.ireturn, 1) := by decide +kernel
theorem dX8_fills_0 : decode cX8_fills 0 = .ok (.iconst 0, 1) := by decide +kernel
theorem dX8_fills_1 : decode cX8_fills 1 = .ok (.istore_n 1, 1) := by decide +kernel
theorem dX8_fills_2 : decode cX8_fills 2 = .ok (.iload_n 1, 1) := by decide +kernel
theorem dX8_fills_3 : decode cX8_fills 3 = .ok (.aload_n 0, 1) := by decide +kernel
theorem dX8_fills_4 : decode cX8_fills 4 = .ok (.getfield 13, 3) := by decide +kernel
theorem dX8_fills_7 : decode cX8_fills 7 = .ok (.iconst 1, 1) := by decide +kernel
theorem dX8_fills_8 : decode cX8_fills 8 = .ok (.iaload, 1) := by decide +kernel
theorem dX8_fills_9 : decode cX8_fills 9 = .ok (.if_icmp .ge 47, 3) := by decide +kernel
theorem dX8_fills_12 : decode cX8_fills 12 = .ok (.aload_n 0, 1) := by decide +kernel
theorem dX8_fills_13 : decode cX8_fills 13 = .ok (.getfield 47, 3) := by decide +kernel
theorem dX8_fills_16 : decode cX8_fills 16 = .ok (.iload_n 1, 1) := by decide +kernel
theorem dX8_fills_17 : decode cX8_fills 17 = .ok (.aload_n 0, 1) := by decide +kernel
theorem dX8_fills_18 : decode cX8_fills 18 = .ok (.getfield 22, 3) := by decide +kernel
theorem dX8_fills_21 : decode cX8_fills 21 = .ok (.bipush 18, 2) := by decide +kernel
theorem dX8_fills_23 : decode cX8_fills 23 = .ok (.iaload, 1) := by decide +kernel
theorem dX8_fills_24 : decode cX8_fills 24 = .ok (.iload_n 1, 1) := by decide +kernel
theorem dX8_fills_25 : decode cX8_fills 25 = .ok (.invokestatic 105, 3) := by decide +kernel
theorem dX8_fills_28 : decode cX8_fills 28 = .ok (.ifCond .eq 20, 3) := by decide +kernel
theorem dX8_fills_31 : decode cX8_fills 31 = .ok (.aload_n 0, 1) := by decide +kernel
theorem dX8_fills_32 : decode cX8_fills 32 = .ok (.iload_n 1, 1) := by decide +kernel
theorem dX8_fills_33 : decode cX8_fills 33 = .ok (.aload_n 0, 1) := by decide +kernel
theorem dX8_fills_34 : decode cX8_fills 34 = .ok (.getfield 13, 3) := by decide +kernel
theorem dX8_fills_37 : decode cX8_fills 37 = .ok (.bipush 12, 2) := by decide +kernel
theorem dX8_fills_39 : decode cX8_fills 39 = .ok (.iload_n 1, 1) := by decide +kernel
theorem dX8_fills_40 : decode cX8_fills 40 = .ok (.iadd, 1) := by decide +kernel
theorem dX8_fills_41 : decode cX8_fills 41 = .ok (.iaload, 1) := by decide +kernel
theorem dX8_fills_42 : decode cX8_fills 42 = .ok (.invokevirtual 133, 3) := by decide +kernel
theorem dX8_fills_45 : decode cX8_fills 45 = .ok (.goto 4, 3) := by decide +kernel
theorem dX8_fills_48 : decode cX8_fills 48 = .ok (.iconst 0, 1) := by decide +kernel
theorem dX8_fills_49 : decode cX8_fills 49 = .ok (.iastore, 1) := by decide +kernel
theorem dX8_fills_50 : decode cX8_fills 50 = .ok (.iinc 1 1, 3) := by decide +kernel
theorem dX8_fills_53 : decode cX8_fills 53 = .ok (.goto (-51), 3) := by decide +kernel
theorem dX8_fills_56 : decode cX8_fills 56 = .ok (.return_, 1) := by decide +kernel
theorem dX8_rulesOf_0 : decode cX8_rulesOf 0 = .ok (.iconst 0, 1) := by decide +kernel
theorem dX8_rulesOf_1 : decode cX8_rulesOf 1 = .ok (.istore_n 2, 1) := by decide +kernel
theorem dX8_rulesOf_2 : decode cX8_rulesOf 2 = .ok (.iconst 0, 1) := by decide +kernel
theorem dX8_rulesOf_3 : decode cX8_rulesOf 3 = .ok (.istore_n 3, 1) := by decide +kernel
theorem dX8_rulesOf_4 : decode cX8_rulesOf 4 = .ok (.iload_n 3, 1) := by decide +kernel
theorem dX8_rulesOf_5 : decode cX8_rulesOf 5 = .ok (.aload_n 0, 1) := by decide +kernel
theorem dX8_rulesOf_6 : decode cX8_rulesOf 6 = .ok (.getfield 13, 3) := by decide +kernel
theorem dX8_rulesOf_9 : decode cX8_rulesOf 9 = .ok (.iconst 1, 1) := by decide +kernel
theorem dX8_rulesOf_10 : decode cX8_rulesOf 10 = .ok (.iaload, 1) := by decide +kernel
theorem dX8_rulesOf_11 : decode cX8_rulesOf 11 = .ok (.if_icmp .ge 32, 3) := by decide +kernel
theorem dX8_rulesOf_14 : decode cX8_rulesOf 14 = .ok (.iload_n 2, 1) := by decide +kernel
theorem dX8_rulesOf_15 : decode cX8_rulesOf 15 = .ok (.aload_n 0, 1) := by decide +kernel
theorem dX8_rulesOf_16 : decode cX8_rulesOf 16 = .ok (.getfield 47, 3) := by decide +kernel
theorem dX8_rulesOf_19 : decode cX8_rulesOf 19 = .ok (.iload_n 3, 1) := by decide +kernel
theorem dX8_rulesOf_20 : decode cX8_rulesOf 20 = .ok (.iaload, 1) := by decide +kernel
theorem dX8_rulesOf_21 : decode cX8_rulesOf 21 = .ok (.iload_n 1, 1) := by decide +kernel
theorem dX8_rulesOf_22 : decode cX8_rulesOf 22 = .ok (.invokestatic 105, 3) := by decide +kernel
theorem dX8_rulesOf_25 : decode cX8_rulesOf 25 = .ok (.ifCond .eq 9, 3) := by decide +kernel
theorem dX8_rulesOf_28 : decode cX8_rulesOf 28 = .ok (.iconst 1, 1) := by decide +kernel
theorem dX8_rulesOf_29 : decode cX8_rulesOf 29 = .ok (.iload_n 3, 1) := by decide +kernel
theorem dX8_rulesOf_30 : decode cX8_rulesOf 30 = .ok (.ishl, 1) := by decide +kernel
theorem dX8_rulesOf_31 : decode cX8_rulesOf 31 = .ok (.goto 4, 3) := by decide +kernel
theorem dX8_rulesOf_34 : decode cX8_rulesOf 34 = .ok (.iconst 0, 1) := by decide +kernel
theorem dX8_rulesOf_35 : decode cX8_rulesOf 35 = .ok (.ior, 1) := by decide +kernel
theorem dX8_rulesOf_36 : decode cX8_rulesOf 36 = .ok (.istore_n 2, 1) := by decide +kernel
theorem dX8_rulesOf_37 : decode cX8_rulesOf 37 = .ok (.iinc 3 1, 3) := by decide +kernel
theorem dX8_rulesOf_40 : decode cX8_rulesOf 40 = .ok (.goto (-36), 3) := by decide +kernel
theorem dX8_rulesOf_43 : decode cX8_rulesOf 43 = .ok (.iload_n 2, 1) := by decide +kernel
theorem dX8_rulesOf_44 : decode cX8_rulesOf 44 = .ok (.ireturn, 1) := by decide +kernel
theorem dX8_below_0 : decode cX8_below 0 = .ok (.iconst 0, 1) := by decide +kernel
theorem dX8_below_1 : decode cX8_below 1 = .ok (.istore_n 2, 1) := by decide +kernel
theorem dX8_below_2 : decode cX8_below 2 = .ok (.iconst 0, 1) := by decide +kernel
theorem dX8_below_3 : decode cX8_below 3 = .ok (.istore_n 3, 1) := by decide +kernel
theorem dX8_below_4 : decode cX8_below 4 = .ok (.iload_n 3, 1) := by decide +kernel
theorem dX8_below_5 : decode cX8_below 5 = .ok (.aload_n 0, 1) := by decide +kernel
theorem dX8_below_6 : decode cX8_below 6 = .ok (.getfield 13, 3) := by decide +kernel
theorem dX8_below_9 : decode cX8_below 9 = .ok (.iconst 0, 1) := by decide +kernel
theorem dX8_below_10 : decode cX8_below 10 = .ok (.iaload, 1) := by decide +kernel
theorem dX8_below_11 : decode cX8_below 11 = .ok (.if_icmp .ge 56, 3) := by decide +kernel
theorem dX8_below_14 : decode cX8_below 14 = .ok (.aload_n 0, 1) := by decide +kernel
theorem dX8_below_15 : decode cX8_below 15 = .ok (.getfield 13, 3) := by decide +kernel
theorem dX8_below_18 : decode cX8_below 18 = .ok (.iconst 3, 1) := by decide +kernel
theorem dX8_below_19 : decode cX8_below 19 = .ok (.iload_n 3, 1) := by decide +kernel
theorem dX8_below_20 : decode cX8_below 20 = .ok (.iadd, 1) := by decide +kernel
theorem dX8_below_21 : decode cX8_below 21 = .ok (.iaload, 1) := by decide +kernel
theorem dX8_below_22 : decode cX8_below 22 = .ok (.istore 4, 2) := by decide +kernel
theorem dX8_below_24 : decode cX8_below 24 = .ok (.iload 4, 2) := by decide +kernel
theorem dX8_below_26 : decode cX8_below 26 = .ok (.bipush (-9), 2) := by decide +kernel
theorem dX8_below_28 : decode cX8_below 28 = .ok (.if_icmp .eq 33, 3) := by decide +kernel
theorem dX8_below_31 : decode cX8_below 31 = .ok (.iload_n 2, 1) := by decide +kernel
theorem dX8_below_32 : decode cX8_below 32 = .ok (.iload 4, 2) := by decide +kernel
theorem dX8_below_34 : decode cX8_below 34 = .ok (.iload_n 1, 1) := by decide +kernel
theorem dX8_below_35 : decode cX8_below 35 = .ok (.if_icmp .ne 9, 3) := by decide +kernel
theorem dX8_below_38 : decode cX8_below 38 = .ok (.iconst 1, 1) := by decide +kernel
theorem dX8_below_39 : decode cX8_below 39 = .ok (.iload_n 3, 1) := by decide +kernel
theorem dX8_below_40 : decode cX8_below 40 = .ok (.ishl, 1) := by decide +kernel
theorem dX8_below_41 : decode cX8_below 41 = .ok (.goto 4, 3) := by decide +kernel
theorem dX8_below_44 : decode cX8_below 44 = .ok (.iconst 0, 1) := by decide +kernel
theorem dX8_below_45 : decode cX8_below 45 = .ok (.ior, 1) := by decide +kernel
theorem dX8_below_46 : decode cX8_below 46 = .ok (.istore_n 2, 1) := by decide +kernel
theorem dX8_below_47 : decode cX8_below 47 = .ok (.aload_n 0, 1) := by decide +kernel
theorem dX8_below_48 : decode cX8_below 48 = .ok (.getfield 13, 3) := by decide +kernel
theorem dX8_below_51 : decode cX8_below 51 = .ok (.iconst 3, 1) := by decide +kernel
theorem dX8_below_52 : decode cX8_below 52 = .ok (.iload 4, 2) := by decide +kernel
theorem dX8_below_54 : decode cX8_below 54 = .ok (.iadd, 1) := by decide +kernel
theorem dX8_below_55 : decode cX8_below 55 = .ok (.iaload, 1) := by decide +kernel
theorem dX8_below_56 : decode cX8_below 56 = .ok (.istore 4, 2) := by decide +kernel
theorem dX8_below_58 : decode cX8_below 58 = .ok (.goto (-34), 3) := by decide +kernel
theorem dX8_below_61 : decode cX8_below 61 = .ok (.iinc 3 1, 3) := by decide +kernel
theorem dX8_below_64 : decode cX8_below 64 = .ok (.goto (-60), 3) := by decide +kernel
theorem dX8_below_67 : decode cX8_below 67 = .ok (.iload_n 2, 1) := by decide +kernel
theorem dX8_below_68 : decode cX8_below 68 = .ok (.ireturn, 1) := by decide +kernel
theorem dX8_specific_0 : decode cX8_specific 0 = .ok (.iconst 0, 1) := by decide +kernel
theorem dX8_specific_1 : decode cX8_specific 1 = .ok (.istore_n 2, 1) := by decide +kernel
theorem dX8_specific_2 : decode cX8_specific 2 = .ok (.iconst 0, 1) := by decide +kernel
theorem dX8_specific_3 : decode cX8_specific 3 = .ok (.istore_n 3, 1) := by decide +kernel
theorem dX8_specific_4 : decode cX8_specific 4 = .ok (.iload_n 3, 1) := by decide +kernel
theorem dX8_specific_5 : decode cX8_specific 5 = .ok (.aload_n 0, 1) := by decide +kernel
theorem dX8_specific_6 : decode cX8_specific 6 = .ok (.getfield 13, 3) := by decide +kernel
theorem dX8_specific_9 : decode cX8_specific 9 = .ok (.bipush 12, 2) := by decide +kernel
theorem dX8_specific_11 : decode cX8_specific 11 = .ok (.iload_n 1, 1) := by decide +kernel
theorem dX8_specific_12 : decode cX8_specific 12 = .ok (.iadd, 1) := by decide +kernel
theorem dX8_specific_13 : decode cX8_specific 13 = .ok (.iaload, 1) := by decide +kernel
theorem dX8_specific_14 : decode cX8_specific 14 = .ok (.if_icmp .ge 55, 3) := by decide +kernel
theorem dX8_specific_17 : decode cX8_specific 17 = .ok (.iload_n 2, 1) := by decide +kernel
theorem dX8_specific_18 : decode cX8_specific 18 = .ok (.bipush 10, 2) := by decide +kernel
theorem dX8_specific_20 : decode cX8_specific 20 = .ok (.aload_n 0, 1) := by decide +kernel
theorem dX8_specific_21 : decode cX8_specific 21 = .ok (.getfield 13, 3) := by decide +kernel
theorem dX8_specific_24 : decode cX8_specific 24 = .ok (.bipush 44, 2) := by decide +kernel
theorem dX8_specific_26 : decode cX8_specific 26 = .ok (.iconst 3, 1) := by decide +kernel
theorem dX8_specific_27 : decode cX8_specific 27 = .ok (.iload_n 1, 1) := by decide +kernel
theorem dX8_specific_28 : decode cX8_specific 28 = .ok (.imul, 1) := by decide +kernel
theorem dX8_specific_29 : decode cX8_specific 29 = .ok (.iadd, 1) := by decide +kernel
theorem dX8_specific_30 : decode cX8_specific 30 = .ok (.iload_n 3, 1) := by decide +kernel
theorem dX8_specific_31 : decode cX8_specific 31 = .ok (.iadd, 1) := by decide +kernel
theorem dX8_specific_32 : decode cX8_specific 32 = .ok (.iaload, 1) := by decide +kernel
theorem dX8_specific_33 : decode cX8_specific 33 = .ok (.invokestatic 137, 3) := by decide +kernel
theorem dX8_specific_36 : decode cX8_specific 36 = .ok (.imul, 1) := by decide +kernel
theorem dX8_specific_37 : decode cX8_specific 37 = .ok (.aload_n 0, 1) := by decide +kernel
theorem dX8_specific_38 : decode cX8_specific 38 = .ok (.getfield 13, 3) := by decide +kernel
theorem dX8_specific_41 : decode cX8_specific 41 = .ok (.bipush 20, 2) := by decide +kernel
theorem dX8_specific_43 : decode cX8_specific 43 = .ok (.iconst 3, 1) := by decide +kernel
theorem dX8_specific_44 : decode cX8_specific 44 = .ok (.iload_n 1, 1) := by decide +kernel
theorem dX8_specific_45 : decode cX8_specific 45 = .ok (.imul, 1) := by decide +kernel
theorem dX8_specific_46 : decode cX8_specific 46 = .ok (.iadd, 1) := by decide +kernel
theorem dX8_specific_47 : decode cX8_specific 47 = .ok (.iload_n 3, 1) := by decide +kernel
theorem dX8_specific_48 : decode cX8_specific 48 = .ok (.iadd, 1) := by decide +kernel
theorem dX8_specific_49 : decode cX8_specific 49 = .ok (.iaload, 1) := by decide +kernel
theorem dX8_specific_50 : decode cX8_specific 50 = .ok (.bipush (-9), 2) := by decide +kernel
theorem dX8_specific_52 : decode cX8_specific 52 = .ok (.if_icmp .ne 7, 3) := by decide +kernel
theorem dX8_specific_55 : decode cX8_specific 55 = .ok (.iconst 0, 1) := by decide +kernel
theorem dX8_specific_56 : decode cX8_specific 56 = .ok (.goto 4, 3) := by decide +kernel
theorem dX8_specific_59 : decode cX8_specific 59 = .ok (.iconst 1, 1) := by decide +kernel
theorem dX8_specific_60 : decode cX8_specific 60 = .ok (.iadd, 1) := by decide +kernel
theorem dX8_specific_61 : decode cX8_specific 61 = .ok (.iadd, 1) := by decide +kernel
theorem dX8_specific_62 : decode cX8_specific 62 = .ok (.istore_n 2, 1) := by decide +kernel
theorem dX8_specific_63 : decode cX8_specific 63 = .ok (.iinc 3 1, 3) := by decide +kernel
theorem dX8_specific_66 : decode cX8_specific 66 = .ok (.goto (-62), 3) := by decide +kernel
theorem dX8_specific_69 : decode cX8_specific 69 = .ok (.iload_n 2, 1) := by decide +kernel
theorem dX8_specific_70 : decode cX8_specific 70 = .ok (.ireturn, 1) := by decide +kernel
theorem dX8_heightOf_0 : decode cX8_heightOf 0 = .ok (.aload_n 0, 1) := by decide +kernel
theorem dX8_heightOf_1 : decode cX8_heightOf 1 = .ok (.getfield 13, 3) := by decide +kernel
theorem dX8_heightOf_4 : decode cX8_heightOf 4 = .ok (.iconst 2, 1) := by decide +kernel
theorem dX8_heightOf_5 : decode cX8_heightOf 5 = .ok (.iaload, 1) := by decide +kernel
theorem dX8_heightOf_6 : decode cX8_heightOf 6 = .ok (.iload_n 1, 1) := by decide +kernel
theorem dX8_heightOf_7 : decode cX8_heightOf 7 = .ok (.invokestatic 105, 3) := by decide +kernel
theorem dX8_heightOf_10 : decode cX8_heightOf 10 = .ok (.istore_n 3, 1) := by decide +kernel
theorem dX8_heightOf_11 : decode cX8_heightOf 11 = .ok (.aload_n 0, 1) := by decide +kernel
theorem dX8_heightOf_12 : decode cX8_heightOf 12 = .ok (.getfield 13, 3) := by decide +kernel
theorem dX8_heightOf_15 : decode cX8_heightOf 15 = .ok (.bipush 100, 2) := by decide +kernel
theorem dX8_heightOf_17 : decode cX8_heightOf 17 = .ok (.iload_n 1, 1) := by decide +kernel
theorem dX8_heightOf_18 : decode cX8_heightOf 18 = .ok (.iadd, 1) := by decide +kernel
theorem dX8_heightOf_19 : decode cX8_heightOf 19 = .ok (.iaload, 1) := by decide +kernel
theorem dX8_heightOf_20 : decode cX8_heightOf 20 = .ok (.iload_n 2, 1) := by decide +kernel
theorem dX8_heightOf_21 : decode cX8_heightOf 21 = .ok (.invokestatic 105, 3) := by decide +kernel
theorem dX8_heightOf_24 : decode cX8_heightOf 24 = .ok (.ifCond .eq 15, 3) := by decide +kernel
theorem dX8_heightOf_27 : decode cX8_heightOf 27 = .ok (.iload_n 3, 1) := by decide +kernel
theorem dX8_heightOf_28 : decode cX8_heightOf 28 = .ok (.ifCond .eq 7, 3) := by decide +kernel
theorem dX8_heightOf_31 : decode cX8_heightOf 31 = .ok (.iconst 3, 1) := by decide +kernel
theorem dX8_heightOf_32 : decode cX8_heightOf 32 = .ok (.goto 16, 3) := by decide +kernel
theorem dX8_heightOf_35 : decode cX8_heightOf 35 = .ok (.iconst 2, 1) := by decide +kernel
theorem dX8_heightOf_36 : decode cX8_heightOf 36 = .ok (.goto 12, 3) := by decide +kernel
theorem dX8_heightOf_39 : decode cX8_heightOf 39 = .ok (.iload_n 3, 1) := by decide +kernel
theorem dX8_heightOf_40 : decode cX8_heightOf 40 = .ok (.ifCond .eq 7, 3) := by decide +kernel
theorem dX8_heightOf_43 : decode cX8_heightOf 43 = .ok (.iconst 0, 1) := by decide +kernel
theorem dX8_heightOf_44 : decode cX8_heightOf 44 = .ok (.goto 4, 3) := by decide +kernel
theorem dX8_heightOf_47 : decode cX8_heightOf 47 = .ok (.iconst 1, 1) := by decide +kernel
theorem dX8_heightOf_48 : decode cX8_heightOf 48 = .ok (.istore 4, 2) := by decide +kernel
theorem dX8_heightOf_50 : decode cX8_heightOf 50 = .ok (.sipush 10000, 3) := by decide +kernel
theorem dX8_heightOf_53 : decode cX8_heightOf 53 = .ok (.iload 4, 2) := by decide +kernel
theorem dX8_heightOf_55 : decode cX8_heightOf 55 = .ok (.imul, 1) := by decide +kernel
theorem dX8_heightOf_56 : decode cX8_heightOf 56 = .ok (.bipush 10, 2) := by decide +kernel
theorem dX8_heightOf_58 : decode cX8_heightOf 58 = .ok (.aload_n 0, 1) := by decide +kernel
theorem dX8_heightOf_59 : decode cX8_heightOf 59 = .ok (.iload_n 1, 1) := by decide +kernel
theorem dX8_heightOf_60 : decode cX8_heightOf 60 = .ok (.invokevirtual 140, 3) := by decide +kernel
theorem dX8_heightOf_63 : decode cX8_heightOf 63 = .ok (.imul, 1) := by decide +kernel
theorem dX8_heightOf_64 : decode cX8_heightOf 64 = .ok (.iadd, 1) := by decide +kernel
theorem dX8_heightOf_65 : decode cX8_heightOf 65 = .ok (.iload_n 1, 1) := by decide +kernel
theorem dX8_heightOf_66 : decode cX8_heightOf 66 = .ok (.iadd, 1) := by decide +kernel
theorem dX8_heightOf_67 : decode cX8_heightOf 67 = .ok (.ireturn, 1) := by decide +kernel
theorem dX8_winnerOf_0 : decode cX8_winnerOf 0 = .ok (.iconst 0, 1) := by decide +kernel
theorem dX8_winnerOf_1 : decode cX8_winnerOf 1 = .ok (.istore 4, 2) := by decide +kernel
theorem dX8_winnerOf_3 : decode cX8_winnerOf 3 = .ok (.aload_n 0, 1) := by decide +kernel
theorem dX8_winnerOf_4 : decode cX8_winnerOf 4 = .ok (.iload_n 1, 1) := by decide +kernel
theorem dX8_winnerOf_5 : decode cX8_winnerOf 5 = .ok (.invokevirtual 143, 3) := by decide +kernel
theorem dX8_winnerOf_8 : decode cX8_winnerOf 8 = .ok (.istore 5, 2) := by decide +kernel
theorem dX8_winnerOf_10 : decode cX8_winnerOf 10 = .ok (.iconst 0, 1) := by decide +kernel
theorem dX8_winnerOf_11 : decode cX8_winnerOf 11 = .ok (.istore 6, 2) := by decide +kernel
theorem dX8_winnerOf_13 : decode cX8_winnerOf 13 = .ok (.iload 6, 2) := by decide +kernel
theorem dX8_winnerOf_15 : decode cX8_winnerOf 15 = .ok (.aload_n 0, 1) := by decide +kernel
theorem dX8_winnerOf_16 : decode cX8_winnerOf 16 = .ok (.getfield 13, 3) := by decide +kernel
theorem dX8_winnerOf_19 : decode cX8_winnerOf 19 = .ok (.iconst 1, 1) := by decide +kernel
theorem dX8_winnerOf_20 : decode cX8_winnerOf 20 = .ok (.iaload, 1) := by decide +kernel
theorem dX8_winnerOf_21 : decode cX8_winnerOf 21 = .ok (.if_icmp .ge 49, 3) := by decide +kernel
theorem dX8_winnerOf_24 : decode cX8_winnerOf 24 = .ok (.iload 4, 2) := by decide +kernel
theorem dX8_winnerOf_26 : decode cX8_winnerOf 26 = .ok (.iload 5, 2) := by decide +kernel
theorem dX8_winnerOf_28 : decode cX8_winnerOf 28 = .ok (.iload 6, 2) := by decide +kernel
theorem dX8_winnerOf_30 : decode cX8_winnerOf 30 = .ok (.invokestatic 105, 3) := by decide +kernel
theorem dX8_winnerOf_33 : decode cX8_winnerOf 33 = .ok (.ifCond .eq 27, 3) := by decide +kernel
theorem dX8_winnerOf_36 : decode cX8_winnerOf 36 = .ok (.aload_n 0, 1) := by decide +kernel
theorem dX8_winnerOf_37 : decode cX8_winnerOf 37 = .ok (.getfield 13, 3) := by decide +kernel
theorem dX8_winnerOf_40 : decode cX8_winnerOf 40 = .ok (.bipush 92, 2) := by decide +kernel
theorem dX8_winnerOf_42 : decode cX8_winnerOf 42 = .ok (.iload 6, 2) := by decide +kernel
theorem dX8_winnerOf_44 : decode cX8_winnerOf 44 = .ok (.iadd, 1) := by decide +kernel
theorem dX8_winnerOf_45 : decode cX8_winnerOf 45 = .ok (.iaload, 1) := by decide +kernel
theorem dX8_winnerOf_46 : decode cX8_winnerOf 46 = .ok (.iload_n 2, 1) := by decide +kernel
theorem dX8_winnerOf_47 : decode cX8_winnerOf 47 = .ok (.invokestatic 105, 3) := by decide +kernel
theorem dX8_winnerOf_50 : decode cX8_winnerOf 50 = .ok (.ifCond .eq 10, 3) := by decide +kernel
theorem dX8_winnerOf_53 : decode cX8_winnerOf 53 = .ok (.iconst 1, 1) := by decide +kernel
theorem dX8_winnerOf_54 : decode cX8_winnerOf 54 = .ok (.iload 6, 2) := by decide +kernel
theorem dX8_winnerOf_56 : decode cX8_winnerOf 56 = .ok (.ishl, 1) := by decide +kernel
theorem dX8_winnerOf_57 : decode cX8_winnerOf 57 = .ok (.goto 4, 3) := by decide +kernel
theorem dX8_winnerOf_60 : decode cX8_winnerOf 60 = .ok (.iconst 0, 1) := by decide +kernel
theorem dX8_winnerOf_61 : decode cX8_winnerOf 61 = .ok (.ior, 1) := by decide +kernel
theorem dX8_winnerOf_62 : decode cX8_winnerOf 62 = .ok (.istore 4, 2) := by decide +kernel
theorem dX8_winnerOf_64 : decode cX8_winnerOf 64 = .ok (.iinc 6 1, 3) := by decide +kernel
theorem dX8_winnerOf_67 : decode cX8_winnerOf 67 = .ok (.goto (-54), 3) := by decide +kernel
theorem dX8_winnerOf_70 : decode cX8_winnerOf 70 = .ok (.bipush (-9), 2) := by decide +kernel
theorem dX8_winnerOf_72 : decode cX8_winnerOf 72 = .ok (.istore 6, 2) := by decide +kernel
theorem dX8_winnerOf_74 : decode cX8_winnerOf 74 = .ok (.iconst 0, 1) := by decide +kernel
theorem dX8_winnerOf_75 : decode cX8_winnerOf 75 = .ok (.istore 7, 2) := by decide +kernel
theorem dX8_winnerOf_77 : decode cX8_winnerOf 77 = .ok (.iload 7, 2) := by decide +kernel
theorem dX8_winnerOf_79 : decode cX8_winnerOf 79 = .ok (.iload_n 3, 1) := by decide +kernel
theorem dX8_winnerOf_80 : decode cX8_winnerOf 80 = .ok (.if_icmp .gt 106, 3) := by decide +kernel
theorem dX8_winnerOf_83 : decode cX8_winnerOf 83 = .ok (.iload 7, 2) := by decide +kernel
theorem dX8_winnerOf_85 : decode cX8_winnerOf 85 = .ok (.bipush 9, 2) := by decide +kernel
theorem dX8_winnerOf_87 : decode cX8_winnerOf 87 = .ok (.if_icmp .ge 99, 3) := by decide +kernel
theorem dX8_winnerOf_90 : decode cX8_winnerOf 90 = .ok (.bipush (-9), 2) := by decide +kernel
theorem dX8_winnerOf_92 : decode cX8_winnerOf 92 = .ok (.istore 6, 2) := by decide +kernel
theorem dX8_winnerOf_94 : decode cX8_winnerOf 94 = .ok (.iconst 0, 1) := by decide +kernel
theorem dX8_winnerOf_95 : decode cX8_winnerOf 95 = .ok (.istore 8, 2) := by decide +kernel
theorem dX8_winnerOf_97 : decode cX8_winnerOf 97 = .ok (.iload 8, 2) := by decide +kernel
theorem dX8_winnerOf_99 : decode cX8_winnerOf 99 = .ok (.aload_n 0, 1) := by decide +kernel
theorem dX8_winnerOf_100 : decode cX8_winnerOf 100 = .ok (.getfield 13, 3) := by decide +kernel
theorem dX8_winnerOf_103 : decode cX8_winnerOf 103 = .ok (.iconst 1, 1) := by decide +kernel
theorem dX8_winnerOf_104 : decode cX8_winnerOf 104 = .ok (.iaload, 1) := by decide +kernel
theorem dX8_winnerOf_105 : decode cX8_winnerOf 105 = .ok (.if_icmp .ge 52, 3) := by decide +kernel
theorem dX8_winnerOf_108 : decode cX8_winnerOf 108 = .ok (.iload 4, 2) := by decide +kernel
theorem dX8_winnerOf_110 : decode cX8_winnerOf 110 = .ok (.iload 8, 2) := by decide +kernel
theorem dX8_winnerOf_112 : decode cX8_winnerOf 112 = .ok (.invokestatic 105, 3) := by decide +kernel
theorem dX8_winnerOf_115 : decode cX8_winnerOf 115 = .ok (.ifCond .eq 32, 3) := by decide +kernel
theorem dX8_winnerOf_118 : decode cX8_winnerOf 118 = .ok (.iload 6, 2) := by decide +kernel
theorem dX8_winnerOf_120 : decode cX8_winnerOf 120 = .ok (.bipush (-9), 2) := by decide +kernel
theorem dX8_winnerOf_122 : decode cX8_winnerOf 122 = .ok (.if_icmp .eq 20, 3) := by decide +kernel
theorem dX8_winnerOf_125 : decode cX8_winnerOf 125 = .ok (.aload_n 0, 1) := by decide +kernel
theorem dX8_winnerOf_126 : decode cX8_winnerOf 126 = .ok (.iload 8, 2) := by decide +kernel
theorem dX8_winnerOf_128 : decode cX8_winnerOf 128 = .ok (.iload_n 2, 1) := by decide +kernel
theorem dX8_winnerOf_129 : decode cX8_winnerOf 129 = .ok (.invokevirtual 146, 3) := by decide +kernel
theorem dX8_winnerOf_132 : decode cX8_winnerOf 132 = .ok (.aload_n 0, 1) := by decide +kernel
theorem dX8_winnerOf_133 : decode cX8_winnerOf 133 = .ok (.iload 6, 2) := by decide +kernel
theorem dX8_winnerOf_135 : decode cX8_winnerOf 135 = .ok (.iload_n 2, 1) := by decide +kernel
theorem dX8_winnerOf_136 : decode cX8_winnerOf 136 = .ok (.invokevirtual 146, 3) := by decide +kernel
theorem dX8_winnerOf_139 : decode cX8_winnerOf 139 = .ok (.if_icmp .le 8, 3) := by decide +kernel
theorem dX8_winnerOf_142 : decode cX8_winnerOf 142 = .ok (.iload 8, 2) := by decide +kernel
theorem dX8_winnerOf_144 : decode cX8_winnerOf 144 = .ok (.goto 5, 3) := by decide +kernel
theorem dX8_winnerOf_147 : decode cX8_winnerOf 147 = .ok (.iload 6, 2) := by decide +kernel
theorem dX8_winnerOf_149 : decode cX8_winnerOf 149 = .ok (.istore 6, 2) := by decide +kernel
theorem dX8_winnerOf_151 : decode cX8_winnerOf 151 = .ok (.iinc 8 1, 3) := by decide +kernel
theorem dX8_winnerOf_154 : decode cX8_winnerOf 154 = .ok (.goto (-57), 3) := by decide +kernel
theorem dX8_winnerOf_157 : decode cX8_winnerOf 157 = .ok (.iload 4, 2) := by decide +kernel
theorem dX8_winnerOf_159 : decode cX8_winnerOf 159 = .ok (.iload 6, 2) := by decide +kernel
theorem dX8_winnerOf_161 : decode cX8_winnerOf 161 = .ok (.bipush (-9), 2) := by decide +kernel
theorem dX8_winnerOf_163 : decode cX8_winnerOf 163 = .ok (.if_icmp .ne 8, 3) := by decide +kernel
theorem dX8_winnerOf_166 : decode cX8_winnerOf 166 = .ok (.iload 4, 2) := by decide +kernel
theorem dX8_winnerOf_168 : decode cX8_winnerOf 168 = .ok (.goto 9, 3) := by decide +kernel
theorem dX8_winnerOf_171 : decode cX8_winnerOf 171 = .ok (.iconst 1, 1) := by decide +kernel
theorem dX8_winnerOf_172 : decode cX8_winnerOf 172 = .ok (.iload 6, 2) := by decide +kernel
theorem dX8_winnerOf_174 : decode cX8_winnerOf 174 = .ok (.ishl, 1) := by decide +kernel
theorem dX8_winnerOf_175 : decode cX8_winnerOf 175 = .ok (.iconst (-1), 1) := by decide +kernel
theorem dX8_winnerOf_176 : decode cX8_winnerOf 176 = .ok (.ixor, 1) := by decide +kernel
theorem dX8_winnerOf_177 : decode cX8_winnerOf 177 = .ok (.iand, 1) := by decide +kernel
theorem dX8_winnerOf_178 : decode cX8_winnerOf 178 = .ok (.istore 4, 2) := by decide +kernel
theorem dX8_winnerOf_180 : decode cX8_winnerOf 180 = .ok (.iinc 7 1, 3) := by decide +kernel
theorem dX8_winnerOf_183 : decode cX8_winnerOf 183 = .ok (.goto (-106), 3) := by decide +kernel
theorem dX8_winnerOf_186 : decode cX8_winnerOf 186 = .ok (.iload_n 3, 1) := by decide +kernel
theorem dX8_winnerOf_187 : decode cX8_winnerOf 187 = .ok (.bipush 8, 2) := by decide +kernel
theorem dX8_winnerOf_189 : decode cX8_winnerOf 189 = .ok (.if_icmp .le 8, 3) := by decide +kernel
theorem dX8_winnerOf_192 : decode cX8_winnerOf 192 = .ok (.bipush (-9), 2) := by decide +kernel
theorem dX8_winnerOf_194 : decode cX8_winnerOf 194 = .ok (.goto 5, 3) := by decide +kernel
theorem dX8_winnerOf_197 : decode cX8_winnerOf 197 = .ok (.iload 6, 2) := by decide +kernel
theorem dX8_winnerOf_199 : decode cX8_winnerOf 199 = .ok (.ireturn, 1) := by decide +kernel
theorem dX8_sourceOf_0 : decode cX8_sourceOf 0 = .ok (.iload_n 1, 1) := by decide +kernel
theorem dX8_sourceOf_1 : decode cX8_sourceOf 1 = .ok (.istore_n 3, 1) := by decide +kernel
theorem dX8_sourceOf_2 : decode cX8_sourceOf 2 = .ok (.iload_n 3, 1) := by decide +kernel
theorem dX8_sourceOf_3 : decode cX8_sourceOf 3 = .ok (.bipush (-9), 2) := by decide +kernel
theorem dX8_sourceOf_5 : decode cX8_sourceOf 5 = .ok (.if_icmp .eq 37, 3) := by decide +kernel
theorem dX8_sourceOf_8 : decode cX8_sourceOf 8 = .ok (.aload_n 0, 1) := by decide +kernel
theorem dX8_sourceOf_9 : decode cX8_sourceOf 9 = .ok (.iload_n 3, 1) := by decide +kernel
theorem dX8_sourceOf_10 : decode cX8_sourceOf 10 = .ok (.iload_n 2, 1) := by decide +kernel
theorem dX8_sourceOf_11 : decode cX8_sourceOf 11 = .ok (.iconst 0, 1) := by decide +kernel
theorem dX8_sourceOf_12 : decode cX8_sourceOf 12 = .ok (.invokevirtual 149, 3) := by decide +kernel
theorem dX8_sourceOf_15 : decode cX8_sourceOf 15 = .ok (.bipush (-9), 2) := by decide +kernel
theorem dX8_sourceOf_17 : decode cX8_sourceOf 17 = .ok (.if_icmp .ne 25, 3) := by decide +kernel
theorem dX8_sourceOf_20 : decode cX8_sourceOf 20 = .ok (.iload_n 2, 1) := by decide +kernel
theorem dX8_sourceOf_21 : decode cX8_sourceOf 21 = .ok (.iconst 2, 1) := by decide +kernel
theorem dX8_sourceOf_22 : decode cX8_sourceOf 22 = .ok (.if_icmp .ge 14, 3) := by decide +kernel
theorem dX8_sourceOf_25 : decode cX8_sourceOf 25 = .ok (.aload_n 0, 1) := by decide +kernel
theorem dX8_sourceOf_26 : decode cX8_sourceOf 26 = .ok (.getfield 13, 3) := by decide +kernel
theorem dX8_sourceOf_29 : decode cX8_sourceOf 29 = .ok (.iconst 3, 1) := by decide +kernel
theorem dX8_sourceOf_30 : decode cX8_sourceOf 30 = .ok (.iload_n 3, 1) := by decide +kernel
theorem dX8_sourceOf_31 : decode cX8_sourceOf 31 = .ok (.iadd, 1) := by decide +kernel
theorem dX8_sourceOf_32 : decode cX8_sourceOf 32 = .ok (.iaload, 1) := by decide +kernel
theorem dX8_sourceOf_33 : decode cX8_sourceOf 33 = .ok (.goto 5, 3) := by decide +kernel
theorem dX8_sourceOf_36 : decode cX8_sourceOf 36 = .ok (.bipush (-9), 2) := by decide +kernel
theorem dX8_sourceOf_38 : decode cX8_sourceOf 38 = .ok (.istore_n 3, 1) := by decide +kernel
theorem dX8_sourceOf_39 : decode cX8_sourceOf 39 = .ok (.goto (-37), 3) := by decide +kernel
theorem dX8_sourceOf_42 : decode cX8_sourceOf 42 = .ok (.iload_n 3, 1) := by decide +kernel
theorem dX8_sourceOf_43 : decode cX8_sourceOf 43 = .ok (.ireturn, 1) := by decide +kernel
theorem dX8_valueOf_0 : decode cX8_valueOf 0 = .ok (.aload_n 0, 1) := by decide +kernel
theorem dX8_valueOf_1 : decode cX8_valueOf 1 = .ok (.iload_n 1, 1) := by decide +kernel
theorem dX8_valueOf_2 : decode cX8_valueOf 2 = .ok (.iload_n 2, 1) := by decide +kernel
theorem dX8_valueOf_3 : decode cX8_valueOf 3 = .ok (.invokevirtual 153, 3) := by decide +kernel
theorem dX8_valueOf_6 : decode cX8_valueOf 6 = .ok (.istore_n 3, 1) := by decide +kernel
theorem dX8_valueOf_7 : decode cX8_valueOf 7 = .ok (.iload_n 3, 1) := by decide +kernel
theorem dX8_valueOf_8 : decode cX8_valueOf 8 = .ok (.bipush (-9), 2) := by decide +kernel
theorem dX8_valueOf_10 : decode cX8_valueOf 10 = .ok (.if_icmp .ne 7, 3) := by decide +kernel
theorem dX8_valueOf_13 : decode cX8_valueOf 13 = .ok (.iconst 0, 1) := by decide +kernel
theorem dX8_valueOf_14 : decode cX8_valueOf 14 = .ok (.goto 22, 3) := by decide +kernel
theorem dX8_valueOf_17 : decode cX8_valueOf 17 = .ok (.aload_n 0, 1) := by decide +kernel
theorem dX8_valueOf_18 : decode cX8_valueOf 18 = .ok (.getfield 13, 3) := by decide +kernel
theorem dX8_valueOf_21 : decode cX8_valueOf 21 = .ok (.bipush 108, 2) := by decide +kernel
theorem dX8_valueOf_23 : decode cX8_valueOf 23 = .ok (.iconst 4, 1) := by decide +kernel
theorem dX8_valueOf_24 : decode cX8_valueOf 24 = .ok (.aload_n 0, 1) := by decide +kernel
theorem dX8_valueOf_25 : decode cX8_valueOf 25 = .ok (.iload_n 3, 1) := by decide +kernel
theorem dX8_valueOf_26 : decode cX8_valueOf 26 = .ok (.iload_n 2, 1) := by decide +kernel
theorem dX8_valueOf_27 : decode cX8_valueOf 27 = .ok (.iconst 0, 1) := by decide +kernel
theorem dX8_valueOf_28 : decode cX8_valueOf 28 = .ok (.invokevirtual 149, 3) := by decide +kernel
theorem dX8_valueOf_31 : decode cX8_valueOf 31 = .ok (.imul, 1) := by decide +kernel
theorem dX8_valueOf_32 : decode cX8_valueOf 32 = .ok (.iadd, 1) := by decide +kernel
theorem dX8_valueOf_33 : decode cX8_valueOf 33 = .ok (.iload_n 2, 1) := by decide +kernel
theorem dX8_valueOf_34 : decode cX8_valueOf 34 = .ok (.iadd, 1) := by decide +kernel
theorem dX8_valueOf_35 : decode cX8_valueOf 35 = .ok (.iaload, 1) := by decide +kernel
theorem dX8_valueOf_36 : decode cX8_valueOf 36 = .ok (.ireturn, 1) := by decide +kernel
theorem dX8_isLike_0 : decode cX8_isLike 0 = .ok (.iconst 1, 1) := by decide +kernel
theorem dX8_isLike_1 : decode cX8_isLike 1 = .ok (.istore_n 3, 1) := by decide +kernel
theorem dX8_isLike_2 : decode cX8_isLike 2 = .ok (.iconst 0, 1) := by decide +kernel
theorem dX8_isLike_3 : decode cX8_isLike 3 = .ok (.istore 4, 2) := by decide +kernel
theorem dX8_isLike_5 : decode cX8_isLike 5 = .ok (.iload 4, 2) := by decide +kernel
theorem dX8_isLike_7 : decode cX8_isLike 7 = .ok (.iconst 4, 1) := by decide +kernel
theorem dX8_isLike_8 : decode cX8_isLike 8 = .ok (.if_icmp .ge 36, 3) := by decide +kernel
theorem dX8_isLike_11 : decode cX8_isLike 11 = .ok (.iload_n 3, 1) := by decide +kernel
theorem dX8_isLike_12 : decode cX8_isLike 12 = .ok (.ifCond .eq 24, 3) := by decide +kernel
theorem dX8_isLike_15 : decode cX8_isLike 15 = .ok (.aload_n 0, 1) := by decide +kernel
theorem dX8_isLike_16 : decode cX8_isLike 16 = .ok (.iload_n 1, 1) := by decide +kernel
theorem dX8_isLike_17 : decode cX8_isLike 17 = .ok (.iload 4, 2) := by decide +kernel
theorem dX8_isLike_19 : decode cX8_isLike 19 = .ok (.invokevirtual 156, 3) := by decide +kernel
theorem dX8_isLike_22 : decode cX8_isLike 22 = .ok (.aload_n 0, 1) := by decide +kernel
theorem dX8_isLike_23 : decode cX8_isLike 23 = .ok (.iload_n 2, 1) := by decide +kernel
theorem dX8_isLike_24 : decode cX8_isLike 24 = .ok (.iload 4, 2) := by decide +kernel
theorem dX8_isLike_26 : decode cX8_isLike 26 = .ok (.invokevirtual 156, 3) := by decide +kernel
theorem dX8_isLike_29 : decode cX8_isLike 29 = .ok (.if_icmp .ne 7, 3) := by decide +kernel
theorem dX8_isLike_32 : decode cX8_isLike 32 = .ok (.iconst 1, 1) := by decide +kernel
theorem dX8_isLike_33 : decode cX8_isLike 33 = .ok (.goto 4, 3) := by decide +kernel
theorem dX8_isLike_36 : decode cX8_isLike 36 = .ok (.iconst 0, 1) := by decide +kernel
theorem dX8_isLike_37 : decode cX8_isLike 37 = .ok (.istore_n 3, 1) := by decide +kernel
theorem dX8_isLike_38 : decode cX8_isLike 38 = .ok (.iinc 4 1, 3) := by decide +kernel
theorem dX8_isLike_41 : decode cX8_isLike 41 = .ok (.goto (-36), 3) := by decide +kernel
theorem dX8_isLike_44 : decode cX8_isLike 44 = .ok (.iload_n 3, 1) := by decide +kernel
theorem dX8_isLike_45 : decode cX8_isLike 45 = .ok (.ireturn, 1) := by decide +kernel
theorem dX8_recordOf_0 : decode cX8_recordOf 0 = .ok (.iconst 0, 1) := by decide +kernel
theorem dX8_recordOf_1 : decode cX8_recordOf 1 = .ok (.istore_n 2, 1) := by decide +kernel
theorem dX8_recordOf_2 : decode cX8_recordOf 2 = .ok (.aload_n 0, 1) := by decide +kernel
theorem dX8_recordOf_3 : decode cX8_recordOf 3 = .ok (.iload_n 2, 1) := by decide +kernel
theorem dX8_recordOf_4 : decode cX8_recordOf 4 = .ok (.iload_n 1, 1) := by decide +kernel
theorem dX8_recordOf_5 : decode cX8_recordOf 5 = .ok (.invokevirtual 159, 3) := by decide +kernel
theorem dX8_recordOf_8 : decode cX8_recordOf 8 = .ok (.ifCond .ne 9, 3) := by decide +kernel
theorem dX8_recordOf_11 : decode cX8_recordOf 11 = .ok (.iinc 2 1, 3) := by decide +kernel
theorem dX8_recordOf_14 : decode cX8_recordOf 14 = .ok (.goto (-12), 3) := by decide +kernel
theorem dX8_recordOf_17 : decode cX8_recordOf 17 = .ok (.iload_n 2, 1) := by decide +kernel
theorem dX8_recordOf_18 : decode cX8_recordOf 18 = .ok (.ireturn, 1) := by decide +kernel
theorem dX8_node_0 : decode cX8_node 0 = .ok (.aload_n 0, 1) := by decide +kernel
theorem dX8_node_1 : decode cX8_node 1 = .ok (.iconst 0, 1) := by decide +kernel
theorem dX8_node_2 : decode cX8_node 2 = .ok (.putfield 56, 3) := by decide +kernel
theorem dX8_node_5 : decode cX8_node 5 = .ok (.aload_n 0, 1) := by decide +kernel
theorem dX8_node_6 : decode cX8_node 6 = .ok (.iload_n 1, 1) := by decide +kernel
theorem dX8_node_7 : decode cX8_node 7 = .ok (.invokevirtual 162, 3) := by decide +kernel
theorem dX8_node_10 : decode cX8_node 10 = .ok (.ifCond .eq 12, 3) := by decide +kernel
theorem dX8_node_13 : decode cX8_node 13 = .ok (.iload_n 2, 1) := by decide +kernel
theorem dX8_node_14 : decode cX8_node 14 = .ok (.iconst 0, 1) := by decide +kernel
theorem dX8_node_15 : decode cX8_node 15 = .ok (.iconst 5, 1) := by decide +kernel
theorem dX8_node_16 : decode cX8_node 16 = .ok (.invokestatic 60, 3) := by decide +kernel
theorem dX8_node_19 : decode cX8_node 19 = .ok (.ifCond .ne 6, 3) := by decide +kernel
theorem dX8_node_22 : decode cX8_node 22 = .ok (.bipush (-2), 2) := by decide +kernel
theorem dX8_node_24 : decode cX8_node 24 = .ok (.ireturn, 1) := by decide +kernel
theorem dX8_node_25 : decode cX8_node 25 = .ok (.iload_n 2, 1) := by decide +kernel
theorem dX8_node_26 : decode cX8_node 26 = .ok (.iconst 3, 1) := by decide +kernel
theorem dX8_node_27 : decode cX8_node 27 = .ok (.if_icmp .ge 44, 3) := by decide +kernel
theorem dX8_node_30 : decode cX8_node 30 = .ok (.iload_n 2, 1) := by decide +kernel
theorem dX8_node_31 : decode cX8_node 31 = .ok (.ifCond .ne 14, 3) := by decide +kernel
theorem dX8_node_34 : decode cX8_node 34 = .ok (.aload_n 0, 1) := by decide +kernel
theorem dX8_node_35 : decode cX8_node 35 = .ok (.getfield 13, 3) := by decide +kernel
theorem dX8_node_38 : decode cX8_node 38 = .ok (.iconst 3, 1) := by decide +kernel
theorem dX8_node_39 : decode cX8_node 39 = .ok (.iload_n 1, 1) := by decide +kernel
theorem dX8_node_40 : decode cX8_node 40 = .ok (.iadd, 1) := by decide +kernel
theorem dX8_node_41 : decode cX8_node 41 = .ok (.iaload, 1) := by decide +kernel
theorem dX8_node_42 : decode cX8_node 42 = .ok (.goto 28, 3) := by decide +kernel
theorem dX8_node_45 : decode cX8_node 45 = .ok (.iload_n 2, 1) := by decide +kernel
theorem dX8_node_46 : decode cX8_node 46 = .ok (.iconst 1, 1) := by decide +kernel
theorem dX8_node_47 : decode cX8_node 47 = .ok (.if_icmp .ne 14, 3) := by decide +kernel
theorem dX8_node_50 : decode cX8_node 50 = .ok (.aload_n 0, 1) := by decide +kernel
theorem dX8_node_51 : decode cX8_node 51 = .ok (.getfield 22, 3) := by decide +kernel
theorem dX8_node_54 : decode cX8_node 54 = .ok (.iconst 0, 1) := by decide +kernel
theorem dX8_node_55 : decode cX8_node 55 = .ok (.iload_n 1, 1) := by decide +kernel
theorem dX8_node_56 : decode cX8_node 56 = .ok (.iadd, 1) := by decide +kernel
theorem dX8_node_57 : decode cX8_node 57 = .ok (.iaload, 1) := by decide +kernel
theorem dX8_node_58 : decode cX8_node 58 = .ok (.goto 12, 3) := by decide +kernel
theorem dX8_node_61 : decode cX8_node 61 = .ok (.aload_n 0, 1) := by decide +kernel
theorem dX8_node_62 : decode cX8_node 62 = .ok (.getfield 22, 3) := by decide +kernel
theorem dX8_node_65 : decode cX8_node 65 = .ok (.bipush 9, 2) := by decide +kernel
theorem dX8_node_67 : decode cX8_node 67 = .ok (.iload_n 1, 1) := by decide +kernel
theorem dX8_node_68 : decode cX8_node 68 = .ok (.iadd, 1) := by decide +kernel
theorem dX8_node_69 : decode cX8_node 69 = .ok (.iaload, 1) := by decide +kernel
theorem dX8_node_70 : decode cX8_node 70 = .ok (.ireturn, 1) := by decide +kernel
theorem dX8_node_71 : decode cX8_node 71 = .ok (.aload_n 0, 1) := by decide +kernel
theorem dX8_node_72 : decode cX8_node 72 = .ok (.invokevirtual 165, 3) := by decide +kernel
theorem dX8_node_75 : decode cX8_node 75 = .ok (.iload_n 2, 1) := by decide +kernel
theorem dX8_node_76 : decode cX8_node 76 = .ok (.iconst 3, 1) := by decide +kernel
theorem dX8_node_77 : decode cX8_node 77 = .ok (.if_icmp .ne 11, 3) := by decide +kernel
theorem dX8_node_80 : decode cX8_node 80 = .ok (.aload_n 0, 1) := by decide +kernel
theorem dX8_node_81 : decode cX8_node 81 = .ok (.iload_n 1, 1) := by decide +kernel
theorem dX8_node_82 : decode cX8_node 82 = .ok (.invokevirtual 143, 3) := by decide +kernel
theorem dX8_node_85 : decode cX8_node 85 = .ok (.goto 21, 3) := by decide +kernel
theorem dX8_node_88 : decode cX8_node 88 = .ok (.iload_n 2, 1) := by decide +kernel
theorem dX8_node_89 : decode cX8_node 89 = .ok (.iconst 4, 1) := by decide +kernel
theorem dX8_node_90 : decode cX8_node 90 = .ok (.if_icmp .ne 11, 3) := by decide +kernel
theorem dX8_node_93 : decode cX8_node 93 = .ok (.aload_n 0, 1) := by decide +kernel
theorem dX8_node_94 : decode cX8_node 94 = .ok (.iload_n 1, 1) := by decide +kernel
theorem dX8_node_95 : decode cX8_node 95 = .ok (.invokevirtual 168, 3) := by decide +kernel
theorem dX8_node_98 : decode cX8_node 98 = .ok (.goto 8, 3) := by decide +kernel
theorem dX8_node_101 : decode cX8_node 101 = .ok (.aload_n 0, 1) := by decide +kernel
theorem dX8_node_102 : decode cX8_node 102 = .ok (.iload_n 1, 1) := by decide +kernel
theorem dX8_node_103 : decode cX8_node 103 = .ok (.invokevirtual 171, 3) := by decide +kernel
theorem dX8_node_106 : decode cX8_node 106 = .ok (.ireturn, 1) := by decide +kernel
theorem dX8_rule_0 : decode cX8_rule 0 = .ok (.aload_n 0, 1) := by decide +kernel
theorem dX8_rule_1 : decode cX8_rule 1 = .ok (.iconst 0, 1) := by decide +kernel
theorem dX8_rule_2 : decode cX8_rule 2 = .ok (.putfield 56, 3) := by decide +kernel
theorem dX8_rule_5 : decode cX8_rule 5 = .ok (.aload_n 0, 1) := by decide +kernel
theorem dX8_rule_6 : decode cX8_rule 6 = .ok (.iload_n 1, 1) := by decide +kernel
theorem dX8_rule_7 : decode cX8_rule 7 = .ok (.invokevirtual 174, 3) := by decide +kernel
theorem dX8_rule_10 : decode cX8_rule 10 = .ok (.ifCond .eq 13, 3) := by decide +kernel
theorem dX8_rule_13 : decode cX8_rule 13 = .ok (.iload_n 2, 1) := by decide +kernel
theorem dX8_rule_14 : decode cX8_rule 14 = .ok (.iconst 0, 1) := by decide +kernel
theorem dX8_rule_15 : decode cX8_rule 15 = .ok (.bipush 6, 2) := by decide +kernel
theorem dX8_rule_17 : decode cX8_rule 17 = .ok (.invokestatic 60, 3) := by decide +kernel
theorem dX8_rule_20 : decode cX8_rule 20 = .ok (.ifCond .ne 6, 3) := by decide +kernel
theorem dX8_rule_23 : decode cX8_rule 23 = .ok (.bipush (-2), 2) := by decide +kernel
theorem dX8_rule_25 : decode cX8_rule 25 = .ok (.ireturn, 1) := by decide +kernel
theorem dX8_rule_26 : decode cX8_rule 26 = .ok (.iload_n 2, 1) := by decide +kernel
theorem dX8_rule_27 : decode cX8_rule 27 = .ok (.iconst 3, 1) := by decide +kernel
theorem dX8_rule_28 : decode cX8_rule 28 = .ok (.if_icmp .ge 43, 3) := by decide +kernel
theorem dX8_rule_31 : decode cX8_rule 31 = .ok (.iload_n 2, 1) := by decide +kernel
theorem dX8_rule_32 : decode cX8_rule 32 = .ok (.ifCond .ne 16, 3) := by decide +kernel
theorem dX8_rule_35 : decode cX8_rule 35 = .ok (.aload_n 0, 1) := by decide +kernel
theorem dX8_rule_36 : decode cX8_rule 36 = .ok (.getfield 13, 3) := by decide +kernel
theorem dX8_rule_39 : decode cX8_rule 39 = .ok (.iconst 2, 1) := by decide +kernel
theorem dX8_rule_40 : decode cX8_rule 40 = .ok (.iaload, 1) := by decide +kernel
theorem dX8_rule_41 : decode cX8_rule 41 = .ok (.iload_n 1, 1) := by decide +kernel
theorem dX8_rule_42 : decode cX8_rule 42 = .ok (.ishr, 1) := by decide +kernel
theorem dX8_rule_43 : decode cX8_rule 43 = .ok (.iconst 1, 1) := by decide +kernel
theorem dX8_rule_44 : decode cX8_rule 44 = .ok (.iand, 1) := by decide +kernel
theorem dX8_rule_45 : decode cX8_rule 45 = .ok (.goto 25, 3) := by decide +kernel
theorem dX8_rule_48 : decode cX8_rule 48 = .ok (.iload_n 2, 1) := by decide +kernel
theorem dX8_rule_49 : decode cX8_rule 49 = .ok (.iconst 1, 1) := by decide +kernel
theorem dX8_rule_50 : decode cX8_rule 50 = .ok (.if_icmp .ne 15, 3) := by decide +kernel
theorem dX8_rule_53 : decode cX8_rule 53 = .ok (.aload_n 0, 1) := by decide +kernel
theorem dX8_rule_54 : decode cX8_rule 54 = .ok (.getfield 13, 3) := by decide +kernel
theorem dX8_rule_57 : decode cX8_rule 57 = .ok (.bipush 12, 2) := by decide +kernel
theorem dX8_rule_59 : decode cX8_rule 59 = .ok (.iload_n 1, 1) := by decide +kernel
theorem dX8_rule_60 : decode cX8_rule 60 = .ok (.iadd, 1) := by decide +kernel
theorem dX8_rule_61 : decode cX8_rule 61 = .ok (.iaload, 1) := by decide +kernel
theorem dX8_rule_62 : decode cX8_rule 62 = .ok (.goto 8, 3) := by decide +kernel
theorem dX8_rule_65 : decode cX8_rule 65 = .ok (.aload_n 0, 1) := by decide +kernel
theorem dX8_rule_66 : decode cX8_rule 66 = .ok (.iload_n 1, 1) := by decide +kernel
theorem dX8_rule_67 : decode cX8_rule 67 = .ok (.invokevirtual 140, 3) := by decide +kernel
theorem dX8_rule_70 : decode cX8_rule 70 = .ok (.ireturn, 1) := by decide +kernel
theorem dX8_rule_71 : decode cX8_rule 71 = .ok (.iload_n 2, 1) := by decide +kernel
theorem dX8_rule_72 : decode cX8_rule 72 = .ok (.iconst 5, 1) := by decide +kernel
theorem dX8_rule_73 : decode cX8_rule 73 = .ok (.if_icmp .ge 30, 3) := by decide +kernel
theorem dX8_rule_76 : decode cX8_rule 76 = .ok (.iload_n 2, 1) := by decide +kernel
theorem dX8_rule_77 : decode cX8_rule 77 = .ok (.iconst 3, 1) := by decide +kernel
theorem dX8_rule_78 : decode cX8_rule 78 = .ok (.if_icmp .ne 15, 3) := by decide +kernel
theorem dX8_rule_81 : decode cX8_rule 81 = .ok (.aload_n 0, 1) := by decide +kernel
theorem dX8_rule_82 : decode cX8_rule 82 = .ok (.getfield 13, 3) := by decide +kernel
theorem dX8_rule_85 : decode cX8_rule 85 = .ok (.bipush 92, 2) := by decide +kernel
theorem dX8_rule_87 : decode cX8_rule 87 = .ok (.iload_n 1, 1) := by decide +kernel
theorem dX8_rule_88 : decode cX8_rule 88 = .ok (.iadd, 1) := by decide +kernel
theorem dX8_rule_89 : decode cX8_rule 89 = .ok (.iaload, 1) := by decide +kernel
theorem dX8_rule_90 : decode cX8_rule 90 = .ok (.goto 12, 3) := by decide +kernel
theorem dX8_rule_93 : decode cX8_rule 93 = .ok (.aload_n 0, 1) := by decide +kernel
theorem dX8_rule_94 : decode cX8_rule 94 = .ok (.getfield 13, 3) := by decide +kernel
theorem dX8_rule_97 : decode cX8_rule 97 = .ok (.bipush 100, 2) := by decide +kernel
theorem dX8_rule_99 : decode cX8_rule 99 = .ok (.iload_n 1, 1) := by decide +kernel
theorem dX8_rule_100 : decode cX8_rule 100 = .ok (.iadd, 1) := by decide +kernel
theorem dX8_rule_101 : decode cX8_rule 101 = .ok (.iaload, 1) := by decide +kernel
theorem dX8_rule_102 : decode cX8_rule 102 = .ok (.ireturn, 1) := by decide +kernel
theorem dX8_rule_103 : decode cX8_rule 103 = .ok (.aload_n 0, 1) := by decide +kernel
theorem dX8_rule_104 : decode cX8_rule 104 = .ok (.invokevirtual 165, 3) := by decide +kernel
theorem dX8_rule_107 : decode cX8_rule 107 = .ok (.iload_n 2, 1) := by decide +kernel
theorem dX8_rule_108 : decode cX8_rule 108 = .ok (.iconst 5, 1) := by decide +kernel
theorem dX8_rule_109 : decode cX8_rule 109 = .ok (.if_icmp .ne 17, 3) := by decide +kernel
theorem dX8_rule_112 : decode cX8_rule 112 = .ok (.aload_n 0, 1) := by decide +kernel
theorem dX8_rule_113 : decode cX8_rule 113 = .ok (.getfield 22, 3) := by decide +kernel
theorem dX8_rule_116 : decode cX8_rule 116 = .ok (.bipush 18, 2) := by decide +kernel
theorem dX8_rule_118 : decode cX8_rule 118 = .ok (.iaload, 1) := by decide +kernel
theorem dX8_rule_119 : decode cX8_rule 119 = .ok (.iload_n 1, 1) := by decide +kernel
theorem dX8_rule_120 : decode cX8_rule 120 = .ok (.ishr, 1) := by decide +kernel
theorem dX8_rule_121 : decode cX8_rule 121 = .ok (.iconst 1, 1) := by decide +kernel
theorem dX8_rule_122 : decode cX8_rule 122 = .ok (.iand, 1) := by decide +kernel
theorem dX8_rule_123 : decode cX8_rule 123 = .ok (.goto 9, 3) := by decide +kernel
theorem dX8_rule_126 : decode cX8_rule 126 = .ok (.aload_n 0, 1) := by decide +kernel
theorem dX8_rule_127 : decode cX8_rule 127 = .ok (.getfield 47, 3) := by decide +kernel
theorem dX8_rule_130 : decode cX8_rule 130 = .ok (.iload_n 1, 1) := by decide +kernel
theorem dX8_rule_131 : decode cX8_rule 131 = .ok (.iaload, 1) := by decide +kernel
theorem dX8_rule_132 : decode cX8_rule 132 = .ok (.ireturn, 1) := by decide +kernel
theorem dX8_notes_0 : decode cX8_notes 0 = .ok (.aload_n 0, 1) := by decide +kernel
theorem dX8_notes_1 : decode cX8_notes 1 = .ok (.getfield 127, 3) := by decide +kernel
theorem dX8_notes_4 : decode cX8_notes 4 = .ok (.bipush 10, 2) := by decide +kernel
theorem dX8_notes_6 : decode cX8_notes 6 = .ok (.if_icmp .ne 39, 3) := by decide +kernel
theorem dX8_notes_9 : decode cX8_notes 9 = .ok (.iconst 0, 1) := by decide +kernel
theorem dX8_notes_10 : decode cX8_notes 10 = .ok (.istore_n 1, 1) := by decide +kernel
theorem dX8_notes_11 : decode cX8_notes 11 = .ok (.iload_n 1, 1) := by decide +kernel
theorem dX8_notes_12 : decode cX8_notes 12 = .ok (.sipush 171, 3) := by decide +kernel
theorem dX8_notes_15 : decode cX8_notes 15 = .ok (.if_icmp .ge 24, 3) := by decide +kernel
theorem dX8_notes_18 : decode cX8_notes 18 = .ok (.aload_n 0, 1) := by decide +kernel
theorem dX8_notes_19 : decode cX8_notes 19 = .ok (.getfield 25, 3) := by decide +kernel
theorem dX8_notes_22 : decode cX8_notes 22 = .ok (.iload_n 1, 1) := by decide +kernel
theorem dX8_notes_23 : decode cX8_notes 23 = .ok (.aload_n 0, 1) := by decide +kernel
theorem dX8_notes_24 : decode cX8_notes 24 = .ok (.getfield 25, 3) := by decide +kernel
theorem dX8_notes_27 : decode cX8_notes 27 = .ok (.iload_n 1, 1) := by decide +kernel
theorem dX8_notes_28 : decode cX8_notes 28 = .ok (.bipush 19, 2) := by decide +kernel
theorem dX8_notes_30 : decode cX8_notes 30 = .ok (.iadd, 1) := by decide +kernel
theorem dX8_notes_31 : decode cX8_notes 31 = .ok (.iaload, 1) := by decide +kernel
theorem dX8_notes_32 : decode cX8_notes 32 = .ok (.iastore, 1) := by decide +kernel
theorem dX8_notes_33 : decode cX8_notes 33 = .ok (.iinc 1 1, 3) := by decide +kernel
theorem dX8_notes_36 : decode cX8_notes 36 = .ok (.goto (-25), 3) := by decide +kernel
theorem dX8_notes_39 : decode cX8_notes 39 = .ok (.aload_n 0, 1) := by decide +kernel
theorem dX8_notes_40 : decode cX8_notes 40 = .ok (.bipush 9, 2) := by decide +kernel
theorem dX8_notes_42 : decode cX8_notes 42 = .ok (.putfield 127, 3) := by decide +kernel
theorem dX8_notes_45 : decode cX8_notes 45 = .ok (.iconst 0, 1) := by decide +kernel
theorem dX8_notes_46 : decode cX8_notes 46 = .ok (.istore_n 1, 1) := by decide +kernel
theorem dX8_notes_47 : decode cX8_notes 47 = .ok (.iload_n 1, 1) := by decide +kernel
theorem dX8_notes_48 : decode cX8_notes 48 = .ok (.bipush 19, 2) := by decide +kernel
theorem dX8_notes_50 : decode cX8_notes 50 = .ok (.if_icmp .ge 29, 3) := by decide +kernel
theorem dX8_notes_53 : decode cX8_notes 53 = .ok (.aload_n 0, 1) := by decide +kernel
theorem dX8_notes_54 : decode cX8_notes 54 = .ok (.getfield 25, 3) := by decide +kernel
theorem dX8_notes_57 : decode cX8_notes 57 = .ok (.bipush 19, 2) := by decide +kernel
theorem dX8_notes_59 : decode cX8_notes 59 = .ok (.aload_n 0, 1) := by decide +kernel
theorem dX8_notes_60 : decode cX8_notes 60 = .ok (.getfield 127, 3) := by decide +kernel
theorem dX8_notes_63 : decode cX8_notes 63 = .ok (.imul, 1) := by decide +kernel
theorem dX8_notes_64 : decode cX8_notes 64 = .ok (.iload_n 1, 1) := by decide +kernel
theorem dX8_notes_65 : decode cX8_notes 65 = .ok (.iadd, 1) := by decide +kernel
theorem dX8_notes_66 : decode cX8_notes 66 = .ok (.aload_n 0, 1) := by decide +kernel
theorem dX8_notes_67 : decode cX8_notes 67 = .ok (.getfield 22, 3) := by decide +kernel
theorem dX8_notes_70 : decode cX8_notes 70 = .ok (.iload_n 1, 1) := by decide +kernel
theorem dX8_notes_71 : decode cX8_notes 71 = .ok (.iaload, 1) := by decide +kernel
theorem dX8_notes_72 : decode cX8_notes 72 = .ok (.iastore, 1) := by decide +kernel
theorem dX8_notes_73 : decode cX8_notes 73 = .ok (.iinc 1 1, 3) := by decide +kernel
theorem dX8_notes_76 : decode cX8_notes 76 = .ok (.goto (-29), 3) := by decide +kernel
theorem dX8_notes_79 : decode cX8_notes 79 = .ok (.aload_n 0, 1) := by decide +kernel
theorem dX8_notes_80 : decode cX8_notes 80 = .ok (.dup, 1) := by decide +kernel
theorem dX8_notes_81 : decode cX8_notes 81 = .ok (.getfield 127, 3) := by decide +kernel
theorem dX8_notes_84 : decode cX8_notes 84 = .ok (.iconst 1, 1) := by decide +kernel
theorem dX8_notes_85 : decode cX8_notes 85 = .ok (.iadd, 1) := by decide +kernel
theorem dX8_notes_86 : decode cX8_notes 86 = .ok (.putfield 127, 3) := by decide +kernel
theorem dX8_notes_89 : decode cX8_notes 89 = .ok (.return_, 1) := by decide +kernel
theorem dX8_toggles_0 : decode cX8_toggles 0 = .ok (.aload_n 0, 1) := by decide +kernel
theorem dX8_toggles_1 : decode cX8_toggles 1 = .ok (.iconst 0, 1) := by decide +kernel
theorem dX8_toggles_2 : decode cX8_toggles 2 = .ok (.putfield 56, 3) := by decide +kernel
theorem dX8_toggles_5 : decode cX8_toggles 5 = .ok (.aload_n 0, 1) := by decide +kernel
theorem dX8_toggles_6 : decode cX8_toggles 6 = .ok (.iload_n 1, 1) := by decide +kernel
theorem dX8_toggles_7 : decode cX8_toggles 7 = .ok (.invokevirtual 162, 3) := by decide +kernel
theorem dX8_toggles_10 : decode cX8_toggles 10 = .ok (.ifCond .eq 10, 3) := by decide +kernel
theorem dX8_toggles_13 : decode cX8_toggles 13 = .ok (.iload_n 2, 1) := by decide +kernel
theorem dX8_toggles_14 : decode cX8_toggles 14 = .ok (.invokestatic 177, 3) := by decide +kernel
theorem dX8_toggles_17 : decode cX8_toggles 17 = .ok (.ifCond .ne 6, 3) := by decide +kernel
theorem dX8_toggles_20 : decode cX8_toggles 20 = .ok (.bipush (-2), 2) := by decide +kernel
theorem dX8_toggles_22 : decode cX8_toggles 22 = .ok (.ireturn, 1) := by decide +kernel
theorem dX8_toggles_23 : decode cX8_toggles 23 = .ok (.aload_n 0, 1) := by decide +kernel
theorem dX8_toggles_24 : decode cX8_toggles 24 = .ok (.invokevirtual 180, 3) := by decide +kernel
theorem dX8_toggles_27 : decode cX8_toggles 27 = .ok (.aload_n 0, 1) := by decide +kernel
theorem dX8_toggles_28 : decode cX8_toggles 28 = .ok (.getfield 22, 3) := by decide +kernel
theorem dX8_toggles_31 : decode cX8_toggles 31 = .ok (.bipush 9, 2) := by decide +kernel
theorem dX8_toggles_33 : decode cX8_toggles 33 = .ok (.iload_n 1, 1) := by decide +kernel
theorem dX8_toggles_34 : decode cX8_toggles 34 = .ok (.iadd, 1) := by decide +kernel
theorem dX8_toggles_35 : decode cX8_toggles 35 = .ok (.dup2, 1) := by decide +kernel
theorem dX8_toggles_36 : decode cX8_toggles 36 = .ok (.iaload, 1) := by decide +kernel
theorem dX8_toggles_37 : decode cX8_toggles 37 = .ok (.iconst 1, 1) := by decide +kernel
theorem dX8_toggles_38 : decode cX8_toggles 38 = .ok (.iload_n 2, 1) := by decide +kernel
theorem dX8_toggles_39 : decode cX8_toggles 39 = .ok (.ishl, 1) := by decide +kernel
theorem dX8_toggles_40 : decode cX8_toggles 40 = .ok (.ixor, 1) := by decide +kernel
theorem dX8_toggles_41 : decode cX8_toggles 41 = .ok (.iastore, 1) := by decide +kernel
theorem dX8_toggles_42 : decode cX8_toggles 42 = .ok (.aload_n 0, 1) := by decide +kernel
theorem dX8_toggles_43 : decode cX8_toggles 43 = .ok (.getfield 22, 3) := by decide +kernel
theorem dX8_toggles_46 : decode cX8_toggles 46 = .ok (.bipush 9, 2) := by decide +kernel
theorem dX8_toggles_48 : decode cX8_toggles 48 = .ok (.iload_n 1, 1) := by decide +kernel
theorem dX8_toggles_49 : decode cX8_toggles 49 = .ok (.iadd, 1) := by decide +kernel
theorem dX8_toggles_50 : decode cX8_toggles 50 = .ok (.iaload, 1) := by decide +kernel
theorem dX8_toggles_51 : decode cX8_toggles 51 = .ok (.ireturn, 1) := by decide +kernel
theorem dX8_tags_0 : decode cX8_tags 0 = .ok (.aload_n 0, 1) := by decide +kernel
theorem dX8_tags_1 : decode cX8_tags 1 = .ok (.iconst 0, 1) := by decide +kernel
theorem dX8_tags_2 : decode cX8_tags 2 = .ok (.putfield 56, 3) := by decide +kernel
theorem dX8_tags_5 : decode cX8_tags 5 = .ok (.aload_n 0, 1) := by decide +kernel
theorem dX8_tags_6 : decode cX8_tags 6 = .ok (.iload_n 1, 1) := by decide +kernel
theorem dX8_tags_7 : decode cX8_tags 7 = .ok (.invokevirtual 162, 3) := by decide +kernel
theorem dX8_tags_10 : decode cX8_tags 10 = .ok (.ifCond .eq 10, 3) := by decide +kernel
theorem dX8_tags_13 : decode cX8_tags 13 = .ok (.iload_n 2, 1) := by decide +kernel
theorem dX8_tags_14 : decode cX8_tags 14 = .ok (.invokestatic 177, 3) := by decide +kernel
theorem dX8_tags_17 : decode cX8_tags 17 = .ok (.ifCond .ne 6, 3) := by decide +kernel
theorem dX8_tags_20 : decode cX8_tags 20 = .ok (.bipush (-2), 2) := by decide +kernel
theorem dX8_tags_22 : decode cX8_tags 22 = .ok (.ireturn, 1) := by decide +kernel
theorem dX8_tags_23 : decode cX8_tags 23 = .ok (.aload_n 0, 1) := by decide +kernel
theorem dX8_tags_24 : decode cX8_tags 24 = .ok (.getfield 22, 3) := by decide +kernel
theorem dX8_tags_27 : decode cX8_tags 27 = .ok (.iconst 0, 1) := by decide +kernel
theorem dX8_tags_28 : decode cX8_tags 28 = .ok (.iload_n 1, 1) := by decide +kernel
theorem dX8_tags_29 : decode cX8_tags 29 = .ok (.iadd, 1) := by decide +kernel
theorem dX8_tags_30 : decode cX8_tags 30 = .ok (.iaload, 1) := by decide +kernel
theorem dX8_tags_31 : decode cX8_tags 31 = .ok (.istore_n 3, 1) := by decide +kernel
theorem dX8_tags_32 : decode cX8_tags 32 = .ok (.iload_n 3, 1) := by decide +kernel
theorem dX8_tags_33 : decode cX8_tags 33 = .ok (.iload_n 2, 1) := by decide +kernel
theorem dX8_tags_34 : decode cX8_tags 34 = .ok (.if_icmp .ne 6, 3) := by decide +kernel
theorem dX8_tags_37 : decode cX8_tags 37 = .ok (.bipush (-3), 2) := by decide +kernel
theorem dX8_tags_39 : decode cX8_tags 39 = .ok (.ireturn, 1) := by decide +kernel
theorem dX8_tags_40 : decode cX8_tags 40 = .ok (.aload_n 0, 1) := by decide +kernel
theorem dX8_tags_41 : decode cX8_tags 41 = .ok (.invokevirtual 180, 3) := by decide +kernel
theorem dX8_tags_44 : decode cX8_tags 44 = .ok (.aload_n 0, 1) := by decide +kernel
theorem dX8_tags_45 : decode cX8_tags 45 = .ok (.getfield 22, 3) := by decide +kernel
theorem dX8_tags_48 : decode cX8_tags 48 = .ok (.iconst 0, 1) := by decide +kernel
theorem dX8_tags_49 : decode cX8_tags 49 = .ok (.iload_n 1, 1) := by decide +kernel
theorem dX8_tags_50 : decode cX8_tags 50 = .ok (.iadd, 1) := by decide +kernel
theorem dX8_tags_51 : decode cX8_tags 51 = .ok (.iload_n 2, 1) := by decide +kernel
theorem dX8_tags_52 : decode cX8_tags 52 = .ok (.iastore, 1) := by decide +kernel
theorem dX8_tags_53 : decode cX8_tags 53 = .ok (.iload_n 3, 1) := by decide +kernel
theorem dX8_tags_54 : decode cX8_tags 54 = .ok (.ireturn, 1) := by decide +kernel
theorem dX8_switches_0 : decode cX8_switches 0 = .ok (.aload_n 0, 1) := by decide +kernel
theorem dX8_switches_1 : decode cX8_switches 1 = .ok (.iconst 0, 1) := by decide +kernel
theorem dX8_switches_2 : decode cX8_switches 2 = .ok (.putfield 56, 3) := by decide +kernel
theorem dX8_switches_5 : decode cX8_switches 5 = .ok (.aload_n 0, 1) := by decide +kernel
theorem dX8_switches_6 : decode cX8_switches 6 = .ok (.iload_n 1, 1) := by decide +kernel
theorem dX8_switches_7 : decode cX8_switches 7 = .ok (.invokevirtual 174, 3) := by decide +kernel
theorem dX8_switches_10 : decode cX8_switches 10 = .ok (.ifCond .ne 6, 3) := by decide +kernel
theorem dX8_switches_13 : decode cX8_switches 13 = .ok (.bipush (-2), 2) := by decide +kernel
theorem dX8_switches_15 : decode cX8_switches 15 = .ok (.ireturn, 1) := by decide +kernel
theorem dX8_switches_16 : decode cX8_switches 16 = .ok (.aload_n 0, 1) := by decide +kernel
theorem dX8_switches_17 : decode cX8_switches 17 = .ok (.invokevirtual 180, 3) := by decide +kernel
theorem dX8_switches_20 : decode cX8_switches 20 = .ok (.aload_n 0, 1) := by decide +kernel
theorem dX8_switches_21 : decode cX8_switches 21 = .ok (.getfield 22, 3) := by decide +kernel
theorem dX8_switches_24 : decode cX8_switches 24 = .ok (.bipush 18, 2) := by decide +kernel
theorem dX8_switches_26 : decode cX8_switches 26 = .ok (.dup2, 1) := by decide +kernel
theorem dX8_switches_27 : decode cX8_switches 27 = .ok (.iaload, 1) := by decide +kernel
theorem dX8_switches_28 : decode cX8_switches 28 = .ok (.iconst 1, 1) := by decide +kernel
theorem dX8_switches_29 : decode cX8_switches 29 = .ok (.iload_n 1, 1) := by decide +kernel
theorem dX8_switches_30 : decode cX8_switches 30 = .ok (.ishl, 1) := by decide +kernel
theorem dX8_switches_31 : decode cX8_switches 31 = .ok (.ixor, 1) := by decide +kernel
theorem dX8_switches_32 : decode cX8_switches 32 = .ok (.iastore, 1) := by decide +kernel
theorem dX8_switches_33 : decode cX8_switches 33 = .ok (.aload_n 0, 1) := by decide +kernel
theorem dX8_switches_34 : decode cX8_switches 34 = .ok (.getfield 22, 3) := by decide +kernel
theorem dX8_switches_37 : decode cX8_switches 37 = .ok (.bipush 18, 2) := by decide +kernel
theorem dX8_switches_39 : decode cX8_switches 39 = .ok (.iaload, 1) := by decide +kernel
theorem dX8_switches_40 : decode cX8_switches 40 = .ok (.iload_n 1, 1) := by decide +kernel
theorem dX8_switches_41 : decode cX8_switches 41 = .ok (.ishr, 1) := by decide +kernel
theorem dX8_switches_42 : decode cX8_switches 42 = .ok (.iconst 1, 1) := by decide +kernel
theorem dX8_switches_43 : decode cX8_switches 43 = .ok (.iand, 1) := by decide +kernel
theorem dX8_switches_44 : decode cX8_switches 44 = .ok (.ireturn, 1) := by decide +kernel
theorem dX8_undo_0 : decode cX8_undo 0 = .ok (.aload_n 0, 1) := by decide +kernel
theorem dX8_undo_1 : decode cX8_undo 1 = .ok (.iconst 0, 1) := by decide +kernel
theorem dX8_undo_2 : decode cX8_undo 2 = .ok (.putfield 56, 3) := by decide +kernel
theorem dX8_undo_5 : decode cX8_undo 5 = .ok (.aload_n 0, 1) := by decide +kernel
theorem dX8_undo_6 : decode cX8_undo 6 = .ok (.getfield 127, 3) := by decide +kernel
theorem dX8_undo_9 : decode cX8_undo 9 = .ok (.ifCond .ne 6, 3) := by decide +kernel
theorem dX8_undo_12 : decode cX8_undo 12 = .ok (.bipush (-3), 2) := by decide +kernel
theorem dX8_undo_14 : decode cX8_undo 14 = .ok (.ireturn, 1) := by decide +kernel
theorem dX8_undo_15 : decode cX8_undo 15 = .ok (.aload_n 0, 1) := by decide +kernel
theorem dX8_undo_16 : decode cX8_undo 16 = .ok (.dup, 1) := by decide +kernel
theorem dX8_undo_17 : decode cX8_undo 17 = .ok (.getfield 127, 3) := by decide +kernel
theorem dX8_undo_20 : decode cX8_undo 20 = .ok (.iconst 1, 1) := by decide +kernel
theorem dX8_undo_21 : decode cX8_undo 21 = .ok (.isub, 1) := by decide +kernel
theorem dX8_undo_22 : decode cX8_undo 22 = .ok (.putfield 127, 3) := by decide +kernel
theorem dX8_undo_25 : decode cX8_undo 25 = .ok (.iconst 0, 1) := by decide +kernel
theorem dX8_undo_26 : decode cX8_undo 26 = .ok (.istore_n 1, 1) := by decide +kernel
theorem dX8_undo_27 : decode cX8_undo 27 = .ok (.iload_n 1, 1) := by decide +kernel
theorem dX8_undo_28 : decode cX8_undo 28 = .ok (.bipush 19, 2) := by decide +kernel
theorem dX8_undo_30 : decode cX8_undo 30 = .ok (.if_icmp .ge 29, 3) := by decide +kernel
theorem dX8_undo_33 : decode cX8_undo 33 = .ok (.aload_n 0, 1) := by decide +kernel
theorem dX8_undo_34 : decode cX8_undo 34 = .ok (.getfield 22, 3) := by decide +kernel
theorem dX8_undo_37 : decode cX8_undo 37 = .ok (.iload_n 1, 1) := by decide +kernel
theorem dX8_undo_38 : decode cX8_undo 38 = .ok (.aload_n 0, 1) := by decide +kernel
theorem dX8_undo_39 : decode cX8_undo 39 = .ok (.getfield 25, 3) := by decide +kernel
theorem dX8_undo_42 : decode cX8_undo 42 = .ok (.bipush 19, 2) := by decide +kernel
theorem dX8_undo_44 : decode cX8_undo 44 = .ok (.aload_n 0, 1) := by decide +kernel
theorem dX8_undo_45 : decode cX8_undo 45 = .ok (.getfield 127, 3) := by decide +kernel
theorem dX8_undo_48 : decode cX8_undo 48 = .ok (.imul, 1) := by decide +kernel
theorem dX8_undo_49 : decode cX8_undo 49 = .ok (.iload_n 1, 1) := by decide +kernel
theorem dX8_undo_50 : decode cX8_undo 50 = .ok (.iadd, 1) := by decide +kernel
theorem dX8_undo_51 : decode cX8_undo 51 = .ok (.iaload, 1) := by decide +kernel
theorem dX8_undo_52 : decode cX8_undo 52 = .ok (.iastore, 1) := by decide +kernel
theorem dX8_undo_53 : decode cX8_undo 53 = .ok (.iinc 1 1, 3) := by decide +kernel
theorem dX8_undo_56 : decode cX8_undo 56 = .ok (.goto (-29), 3) := by decide +kernel
theorem dX8_undo_59 : decode cX8_undo 59 = .ok (.aload_n 0, 1) := by decide +kernel
theorem dX8_undo_60 : decode cX8_undo 60 = .ok (.getfield 127, 3) := by decide +kernel
theorem dX8_undo_63 : decode cX8_undo 63 = .ok (.ireturn, 1) := by decide +kernel
theorem dX8_value_0 : decode cX8_value 0 = .ok (.aload_n 0, 1) := by decide +kernel
theorem dX8_value_1 : decode cX8_value 1 = .ok (.iconst 0, 1) := by decide +kernel
theorem dX8_value_2 : decode cX8_value 2 = .ok (.putfield 56, 3) := by decide +kernel
theorem dX8_value_5 : decode cX8_value 5 = .ok (.aload_n 0, 1) := by decide +kernel
theorem dX8_value_6 : decode cX8_value 6 = .ok (.invokevirtual 165, 3) := by decide +kernel
theorem dX8_value_9 : decode cX8_value 9 = .ok (.aload_n 0, 1) := by decide +kernel
theorem dX8_value_10 : decode cX8_value 10 = .ok (.iload_n 1, 1) := by decide +kernel
theorem dX8_value_11 : decode cX8_value 11 = .ok (.invokevirtual 162, 3) := by decide +kernel
theorem dX8_value_14 : decode cX8_value 14 = .ok (.ifCond .eq 19, 3) := by decide +kernel
theorem dX8_value_17 : decode cX8_value 17 = .ok (.iload_n 2, 1) := by decide +kernel
theorem dX8_value_18 : decode cX8_value 18 = .ok (.invokestatic 177, 3) := by decide +kernel
theorem dX8_value_21 : decode cX8_value 21 = .ok (.ifCond .eq 12, 3) := by decide +kernel
theorem dX8_value_24 : decode cX8_value 24 = .ok (.aload_n 0, 1) := by decide +kernel
theorem dX8_value_25 : decode cX8_value 25 = .ok (.iload_n 1, 1) := by decide +kernel
theorem dX8_value_26 : decode cX8_value 26 = .ok (.iload_n 2, 1) := by decide +kernel
theorem dX8_value_27 : decode cX8_value 27 = .ok (.invokevirtual 156, 3) := by decide +kernel
theorem dX8_value_30 : decode cX8_value 30 = .ok (.goto 5, 3) := by decide +kernel
theorem dX8_value_33 : decode cX8_value 33 = .ok (.bipush (-2), 2) := by decide +kernel
theorem dX8_value_35 : decode cX8_value 35 = .ok (.ireturn, 1) := by decide +kernel
theorem dX8_winner_0 : decode cX8_winner 0 = .ok (.aload_n 0, 1) := by decide +kernel
theorem dX8_winner_1 : decode cX8_winner 1 = .ok (.iconst 0, 1) := by decide +kernel
theorem dX8_winner_2 : decode cX8_winner 2 = .ok (.putfield 56, 3) := by decide +kernel
theorem dX8_winner_5 : decode cX8_winner 5 = .ok (.aload_n 0, 1) := by decide +kernel
theorem dX8_winner_6 : decode cX8_winner 6 = .ok (.invokevirtual 165, 3) := by decide +kernel
theorem dX8_winner_9 : decode cX8_winner 9 = .ok (.aload_n 0, 1) := by decide +kernel
theorem dX8_winner_10 : decode cX8_winner 10 = .ok (.iload_n 1, 1) := by decide +kernel
theorem dX8_winner_11 : decode cX8_winner 11 = .ok (.invokevirtual 162, 3) := by decide +kernel
theorem dX8_winner_14 : decode cX8_winner 14 = .ok (.ifCond .eq 24, 3) := by decide +kernel
theorem dX8_winner_17 : decode cX8_winner 17 = .ok (.iload_n 2, 1) := by decide +kernel
theorem dX8_winner_18 : decode cX8_winner 18 = .ok (.invokestatic 177, 3) := by decide +kernel
theorem dX8_winner_21 : decode cX8_winner 21 = .ok (.ifCond .eq 17, 3) := by decide +kernel
theorem dX8_winner_24 : decode cX8_winner 24 = .ok (.iload_n 3, 1) := by decide +kernel
theorem dX8_winner_25 : decode cX8_winner 25 = .ok (.ifCond .lt 13, 3) := by decide +kernel
theorem dX8_winner_28 : decode cX8_winner 28 = .ok (.aload_n 0, 1) := by decide +kernel
theorem dX8_winner_29 : decode cX8_winner 29 = .ok (.iload_n 1, 1) := by decide +kernel
theorem dX8_winner_30 : decode cX8_winner 30 = .ok (.iload_n 2, 1) := by decide +kernel
theorem dX8_winner_31 : decode cX8_winner 31 = .ok (.iload_n 3, 1) := by decide +kernel
theorem dX8_winner_32 : decode cX8_winner 32 = .ok (.invokevirtual 149, 3) := by decide +kernel
theorem dX8_winner_35 : decode cX8_winner 35 = .ok (.goto 5, 3) := by decide +kernel
theorem dX8_winner_38 : decode cX8_winner 38 = .ok (.bipush (-2), 2) := by decide +kernel
theorem dX8_winner_40 : decode cX8_winner 40 = .ok (.ireturn, 1) := by decide +kernel
theorem dX8_source_0 : decode cX8_source 0 = .ok (.aload_n 0, 1) := by decide +kernel
theorem dX8_source_1 : decode cX8_source 1 = .ok (.iconst 0, 1) := by decide +kernel
theorem dX8_source_2 : decode cX8_source 2 = .ok (.putfield 56, 3) := by decide +kernel
theorem dX8_source_5 : decode cX8_source 5 = .ok (.aload_n 0, 1) := by decide +kernel
theorem dX8_source_6 : decode cX8_source 6 = .ok (.invokevirtual 165, 3) := by decide +kernel
theorem dX8_source_9 : decode cX8_source 9 = .ok (.aload_n 0, 1) := by decide +kernel
theorem dX8_source_10 : decode cX8_source 10 = .ok (.iload_n 1, 1) := by decide +kernel
theorem dX8_source_11 : decode cX8_source 11 = .ok (.invokevirtual 162, 3) := by decide +kernel
theorem dX8_source_14 : decode cX8_source 14 = .ok (.ifCond .eq 19, 3) := by decide +kernel
theorem dX8_source_17 : decode cX8_source 17 = .ok (.iload_n 2, 1) := by decide +kernel
theorem dX8_source_18 : decode cX8_source 18 = .ok (.invokestatic 177, 3) := by decide +kernel
theorem dX8_source_21 : decode cX8_source 21 = .ok (.ifCond .eq 12, 3) := by decide +kernel
theorem dX8_source_24 : decode cX8_source 24 = .ok (.aload_n 0, 1) := by decide +kernel
theorem dX8_source_25 : decode cX8_source 25 = .ok (.iload_n 1, 1) := by decide +kernel
theorem dX8_source_26 : decode cX8_source 26 = .ok (.iload_n 2, 1) := by decide +kernel
theorem dX8_source_27 : decode cX8_source 27 = .ok (.invokevirtual 153, 3) := by decide +kernel
theorem dX8_source_30 : decode cX8_source 30 = .ok (.goto 5, 3) := by decide +kernel
theorem dX8_source_33 : decode cX8_source 33 = .ok (.bipush (-2), 2) := by decide +kernel
theorem dX8_source_35 : decode cX8_source 35 = .ok (.ireturn, 1) := by decide +kernel
theorem dX8_lookedAt_0 : decode cX8_lookedAt 0 = .ok (.iconst 0, 1) := by decide +kernel
theorem dX8_lookedAt_1 : decode cX8_lookedAt 1 = .ok (.istore_n 3, 1) := by decide +kernel
theorem dX8_lookedAt_2 : decode cX8_lookedAt 2 = .ok (.aload_n 0, 1) := by decide +kernel
theorem dX8_lookedAt_3 : decode cX8_lookedAt 3 = .ok (.iload_n 1, 1) := by decide +kernel
theorem dX8_lookedAt_4 : decode cX8_lookedAt 4 = .ok (.invokevirtual 171, 3) := by decide +kernel
theorem dX8_lookedAt_7 : decode cX8_lookedAt 7 = .ok (.istore 4, 2) := by decide +kernel
theorem dX8_lookedAt_9 : decode cX8_lookedAt 9 = .ok (.iconst 0, 1) := by decide +kernel
theorem dX8_lookedAt_10 : decode cX8_lookedAt 10 = .ok (.istore 5, 2) := by decide +kernel
theorem dX8_lookedAt_12 : decode cX8_lookedAt 12 = .ok (.iload 5, 2) := by decide +kernel
theorem dX8_lookedAt_14 : decode cX8_lookedAt 14 = .ok (.aload_n 0, 1) := by decide +kernel
theorem dX8_lookedAt_15 : decode cX8_lookedAt 15 = .ok (.getfield 13, 3) := by decide +kernel
theorem dX8_lookedAt_18 : decode cX8_lookedAt 18 = .ok (.iconst 1, 1) := by decide +kernel
theorem dX8_lookedAt_19 : decode cX8_lookedAt 19 = .ok (.iaload, 1) := by decide +kernel
theorem dX8_lookedAt_20 : decode cX8_lookedAt 20 = .ok (.if_icmp .ge 157, 3) := by decide +kernel
theorem dX8_lookedAt_23 : decode cX8_lookedAt 23 = .ok (.aload_n 0, 1) := by decide +kernel
theorem dX8_lookedAt_24 : decode cX8_lookedAt 24 = .ok (.getfield 13, 3) := by decide +kernel
theorem dX8_lookedAt_27 : decode cX8_lookedAt 27 = .ok (.bipush 12, 2) := by decide +kernel
theorem dX8_lookedAt_29 : decode cX8_lookedAt 29 = .ok (.iload 5, 2) := by decide +kernel
theorem dX8_lookedAt_31 : decode cX8_lookedAt 31 = .ok (.iadd, 1) := by decide +kernel
theorem dX8_lookedAt_32 : decode cX8_lookedAt 32 = .ok (.iaload, 1) := by decide +kernel
theorem dX8_lookedAt_33 : decode cX8_lookedAt 33 = .ok (.iconst 1, 1) := by decide +kernel
theorem dX8_lookedAt_34 : decode cX8_lookedAt 34 = .ok (.isub, 1) := by decide +kernel
theorem dX8_lookedAt_35 : decode cX8_lookedAt 35 = .ok (.istore 6, 2) := by decide +kernel
theorem dX8_lookedAt_37 : decode cX8_lookedAt 37 = .ok (.iconst 0, 1) := by decide +kernel
theorem dX8_lookedAt_38 : decode cX8_lookedAt 38 = .ok (.istore 7, 2) := by decide +kernel
theorem dX8_lookedAt_40 : decode cX8_lookedAt 40 = .ok (.iload 7, 2) := by decide +kernel
theorem dX8_lookedAt_42 : decode cX8_lookedAt 42 = .ok (.iload 6, 2) := by decide +kernel
theorem dX8_lookedAt_44 : decode cX8_lookedAt 44 = .ok (.if_icmp .gt 127, 3) := by decide +kernel
theorem dX8_lookedAt_47 : decode cX8_lookedAt 47 = .ok (.aload_n 0, 1) := by decide +kernel
theorem dX8_lookedAt_48 : decode cX8_lookedAt 48 = .ok (.getfield 22, 3) := by decide +kernel
theorem dX8_lookedAt_51 : decode cX8_lookedAt 51 = .ok (.bipush 18, 2) := by decide +kernel
theorem dX8_lookedAt_53 : decode cX8_lookedAt 53 = .ok (.iaload, 1) := by decide +kernel
theorem dX8_lookedAt_54 : decode cX8_lookedAt 54 = .ok (.iload 5, 2) := by decide +kernel
theorem dX8_lookedAt_56 : decode cX8_lookedAt 56 = .ok (.invokestatic 105, 3) := by decide +kernel
theorem dX8_lookedAt_59 : decode cX8_lookedAt 59 = .ok (.ifCond .eq 112, 3) := by decide +kernel
theorem dX8_lookedAt_62 : decode cX8_lookedAt 62 = .ok (.aload_n 0, 1) := by decide +kernel
theorem dX8_lookedAt_63 : decode cX8_lookedAt 63 = .ok (.getfield 13, 3) := by decide +kernel
theorem dX8_lookedAt_66 : decode cX8_lookedAt 66 = .ok (.bipush 44, 2) := by decide +kernel
theorem dX8_lookedAt_68 : decode cX8_lookedAt 68 = .ok (.iconst 3, 1) := by decide +kernel
theorem dX8_lookedAt_69 : decode cX8_lookedAt 69 = .ok (.iload 5, 2) := by decide +kernel
theorem dX8_lookedAt_71 : decode cX8_lookedAt 71 = .ok (.imul, 1) := by decide +kernel
theorem dX8_lookedAt_72 : decode cX8_lookedAt 72 = .ok (.iadd, 1) := by decide +kernel
theorem dX8_lookedAt_73 : decode cX8_lookedAt 73 = .ok (.iload 7, 2) := by decide +kernel
theorem dX8_lookedAt_75 : decode cX8_lookedAt 75 = .ok (.iadd, 1) := by decide +kernel
theorem dX8_lookedAt_76 : decode cX8_lookedAt 76 = .ok (.iaload, 1) := by decide +kernel
theorem dX8_lookedAt_77 : decode cX8_lookedAt 77 = .ok (.iload_n 2, 1) := by decide +kernel
theorem dX8_lookedAt_78 : decode cX8_lookedAt 78 = .ok (.invokestatic 105, 3) := by decide +kernel
theorem dX8_lookedAt_81 : decode cX8_lookedAt 81 = .ok (.ifCond .eq 84, 3) := by decide +kernel
theorem dX8_lookedAt_84 : decode cX8_lookedAt 84 = .ok (.iload_n 3, 1) := by decide +kernel
theorem dX8_lookedAt_85 : decode cX8_lookedAt 85 = .ok (.iload 7, 2) := by decide +kernel
theorem dX8_lookedAt_87 : decode cX8_lookedAt 87 = .ok (.iload 6, 2) := by decide +kernel
theorem dX8_lookedAt_89 : decode cX8_lookedAt 89 = .ok (.if_icmp .ne 9, 3) := by decide +kernel
theorem dX8_lookedAt_92 : decode cX8_lookedAt 92 = .ok (.iconst 1, 1) := by decide +kernel
theorem dX8_lookedAt_93 : decode cX8_lookedAt 93 = .ok (.iload_n 1, 1) := by decide +kernel
theorem dX8_lookedAt_94 : decode cX8_lookedAt 94 = .ok (.ishl, 1) := by decide +kernel
theorem dX8_lookedAt_95 : decode cX8_lookedAt 95 = .ok (.goto 4, 3) := by decide +kernel
theorem dX8_lookedAt_98 : decode cX8_lookedAt 98 = .ok (.iconst 0, 1) := by decide +kernel
theorem dX8_lookedAt_99 : decode cX8_lookedAt 99 = .ok (.ior, 1) := by decide +kernel
theorem dX8_lookedAt_100 : decode cX8_lookedAt 100 = .ok (.istore_n 3, 1) := by decide +kernel
theorem dX8_lookedAt_101 : decode cX8_lookedAt 101 = .ok (.iconst 0, 1) := by decide +kernel
theorem dX8_lookedAt_102 : decode cX8_lookedAt 102 = .ok (.istore 8, 2) := by decide +kernel
theorem dX8_lookedAt_104 : decode cX8_lookedAt 104 = .ok (.iload 8, 2) := by decide +kernel
theorem dX8_lookedAt_106 : decode cX8_lookedAt 106 = .ok (.aload_n 0, 1) := by decide +kernel
theorem dX8_lookedAt_107 : decode cX8_lookedAt 107 = .ok (.getfield 13, 3) := by decide +kernel
theorem dX8_lookedAt_110 : decode cX8_lookedAt 110 = .ok (.iconst 0, 1) := by decide +kernel
theorem dX8_lookedAt_111 : decode cX8_lookedAt 111 = .ok (.iaload, 1) := by decide +kernel
theorem dX8_lookedAt_112 : decode cX8_lookedAt 112 = .ok (.if_icmp .ge 53, 3) := by decide +kernel
theorem dX8_lookedAt_115 : decode cX8_lookedAt 115 = .ok (.iload_n 3, 1) := by decide +kernel
theorem dX8_lookedAt_116 : decode cX8_lookedAt 116 = .ok (.iload 7, 2) := by decide +kernel
theorem dX8_lookedAt_118 : decode cX8_lookedAt 118 = .ok (.iload 6, 2) := by decide +kernel
theorem dX8_lookedAt_120 : decode cX8_lookedAt 120 = .ok (.if_icmp .ge 36, 3) := by decide +kernel
theorem dX8_lookedAt_123 : decode cX8_lookedAt 123 = .ok (.iload 4, 2) := by decide +kernel
theorem dX8_lookedAt_125 : decode cX8_lookedAt 125 = .ok (.iload 8, 2) := by decide +kernel
theorem dX8_lookedAt_127 : decode cX8_lookedAt 127 = .ok (.invokestatic 105, 3) := by decide +kernel
theorem dX8_lookedAt_130 : decode cX8_lookedAt 130 = .ok (.ifCond .eq 26, 3) := by decide +kernel
theorem dX8_lookedAt_133 : decode cX8_lookedAt 133 = .ok (.aload_n 0, 1) := by decide +kernel
theorem dX8_lookedAt_134 : decode cX8_lookedAt 134 = .ok (.iconst 3, 1) := by decide +kernel
theorem dX8_lookedAt_135 : decode cX8_lookedAt 135 = .ok (.iload 5, 2) := by decide +kernel
theorem dX8_lookedAt_137 : decode cX8_lookedAt 137 = .ok (.imul, 1) := by decide +kernel
theorem dX8_lookedAt_138 : decode cX8_lookedAt 138 = .ok (.iload 6, 2) := by decide +kernel
theorem dX8_lookedAt_140 : decode cX8_lookedAt 140 = .ok (.iadd, 1) := by decide +kernel
theorem dX8_lookedAt_141 : decode cX8_lookedAt 141 = .ok (.iload 8, 2) := by decide +kernel
theorem dX8_lookedAt_143 : decode cX8_lookedAt 143 = .ok (.invokevirtual 130, 3) := by decide +kernel
