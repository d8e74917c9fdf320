theorem dX4_walk_0 : decode cX4_walk 0 = .ok (.aload_n 0, 1) := by decide +kernel
theorem dX4_walk_1 : decode cX4_walk 1 = .ok (.iload_n 1, 1) := by decide +kernel
theorem dX4_walk_2 : decode cX4_walk 2 = .ok (.invokevirtual 80, 3) := by decide +kernel
theorem dX4_walk_5 : decode cX4_walk 5 = .ok (.ifCond .ne 5, 3) := by decide +kernel
theorem dX4_walk_8 : decode cX4_walk 8 = .ok (.iconst (-1), 1) := by decide +kernel
theorem dX4_walk_9 : decode cX4_walk 9 = .ok (.ireturn, 1) := by decide +kernel
theorem dX4_walk_10 : decode cX4_walk 10 = .ok (.iload_n 2, 1) := by decide +kernel
theorem dX4_walk_11 : decode cX4_walk 11 = .ok (.i2l, 1) := by decide +kernel
theorem dX4_walk_12 : decode cX4_walk 12 = .ok (.lconst 1, 1) := by decide +kernel
theorem dX4_walk_13 : decode cX4_walk 13 = .ok (.ldc2_w 147, 3) := by decide +kernel
theorem dX4_walk_16 : decode cX4_walk 16 = .ok (.invokestatic 59, 3) := by decide +kernel
theorem dX4_walk_19 : decode cX4_walk 19 = .ok (.ifCond .eq 13, 3) := by decide +kernel
theorem dX4_walk_22 : decode cX4_walk 22 = .ok (.iload_n 3, 1) := by decide +kernel
theorem dX4_walk_23 : decode cX4_walk 23 = .ok (.i2l, 1) := by decide +kernel
theorem dX4_walk_24 : decode cX4_walk 24 = .ok (.lconst 0, 1) := by decide +kernel
theorem dX4_walk_25 : decode cX4_walk 25 = .ok (.lconst 1, 1) := by decide +kernel
theorem dX4_walk_26 : decode cX4_walk 26 = .ok (.invokestatic 59, 3) := by decide +kernel
theorem dX4_walk_29 : decode cX4_walk 29 = .ok (.ifCond .ne 6, 3) := by decide +kernel
theorem dX4_walk_32 : decode cX4_walk 32 = .ok (.bipush (-2), 2) := by decide +kernel
theorem dX4_walk_34 : decode cX4_walk 34 = .ok (.ireturn, 1) := by decide +kernel
theorem dX4_walk_35 : decode cX4_walk 35 = .ok (.aload_n 0, 1) := by decide +kernel
theorem dX4_walk_36 : decode cX4_walk 36 = .ok (.invokevirtual 124, 3) := by decide +kernel
theorem dX4_walk_39 : decode cX4_walk 39 = .ok (.bipush (-6), 2) := by decide +kernel
theorem dX4_walk_41 : decode cX4_walk 41 = .ok (.istore 4, 2) := by decide +kernel
theorem dX4_walk_43 : decode cX4_walk 43 = .ok (.ldc 114, 2) := by decide +kernel
theorem dX4_walk_45 : decode cX4_walk 45 = .ok (.istore 5, 2) := by decide +kernel
theorem dX4_walk_47 : decode cX4_walk 47 = .ok (.iconst 0, 1) := by decide +kernel
theorem dX4_walk_48 : decode cX4_walk 48 = .ok (.istore 6, 2) := by decide +kernel
theorem dX4_walk_50 : decode cX4_walk 50 = .ok (.iload 6, 2) := by decide +kernel
theorem dX4_walk_52 : decode cX4_walk 52 = .ok (.bipush 10, 2) := by decide +kernel
theorem dX4_walk_54 : decode cX4_walk 54 = .ok (.if_icmp .ge 114, 3) := by decide +kernel
theorem dX4_walk_57 : decode cX4_walk 57 = .ok (.aload_n 0, 1) := by decide +kernel
theorem dX4_walk_58 : decode cX4_walk 58 = .ok (.getfield 25, 3) := by decide +kernel
theorem dX4_walk_61 : decode cX4_walk 61 = .ok (.iload_n 1, 1) := by decide +kernel
theorem dX4_walk_62 : decode cX4_walk 62 = .ok (.aload_n 0, 1) := by decide +kernel
theorem dX4_walk_63 : decode cX4_walk 63 = .ok (.getfield 7, 3) := by decide +kernel
theorem dX4_walk_66 : decode cX4_walk 66 = .ok (.iload_n 1, 1) := by decide +kernel
theorem dX4_walk_67 : decode cX4_walk 67 = .ok (.iaload, 1) := by decide +kernel
theorem dX4_walk_68 : decode cX4_walk 68 = .ok (.iload 6, 2) := by decide +kernel
theorem dX4_walk_70 : decode cX4_walk 70 = .ok (.iadd, 1) := by decide +kernel
theorem dX4_walk_71 : decode cX4_walk 71 = .ok (.bipush 99, 2) := by decide +kernel
theorem dX4_walk_73 : decode cX4_walk 73 = .ok (.if_icmp .le 8, 3) := by decide +kernel
theorem dX4_walk_76 : decode cX4_walk 76 = .ok (.bipush 99, 2) := by decide +kernel
theorem dX4_walk_78 : decode cX4_walk 78 = .ok (.goto 12, 3) := by decide +kernel
theorem dX4_walk_81 : decode cX4_walk 81 = .ok (.aload_n 0, 1) := by decide +kernel
theorem dX4_walk_82 : decode cX4_walk 82 = .ok (.getfield 7, 3) := by decide +kernel
theorem dX4_walk_85 : decode cX4_walk 85 = .ok (.iload_n 1, 1) := by decide +kernel
theorem dX4_walk_86 : decode cX4_walk 86 = .ok (.iaload, 1) := by decide +kernel
theorem dX4_walk_87 : decode cX4_walk 87 = .ok (.iload 6, 2) := by decide +kernel
theorem dX4_walk_89 : decode cX4_walk 89 = .ok (.iadd, 1) := by decide +kernel
theorem dX4_walk_90 : decode cX4_walk 90 = .ok (.iastore, 1) := by decide +kernel
theorem dX4_walk_91 : decode cX4_walk 91 = .ok (.aload_n 0, 1) := by decide +kernel
theorem dX4_walk_92 : decode cX4_walk 92 = .ok (.getfield 28, 3) := by decide +kernel
theorem dX4_walk_95 : decode cX4_walk 95 = .ok (.iload_n 1, 1) := by decide +kernel
theorem dX4_walk_96 : decode cX4_walk 96 = .ok (.aload_n 0, 1) := by decide +kernel
theorem dX4_walk_97 : decode cX4_walk 97 = .ok (.getfield 13, 3) := by decide +kernel
theorem dX4_walk_100 : decode cX4_walk 100 = .ok (.iload_n 1, 1) := by decide +kernel
theorem dX4_walk_101 : decode cX4_walk 101 = .ok (.iaload, 1) := by decide +kernel
theorem dX4_walk_102 : decode cX4_walk 102 = .ok (.iload_n 2, 1) := by decide +kernel
theorem dX4_walk_103 : decode cX4_walk 103 = .ok (.iload 6, 2) := by decide +kernel
theorem dX4_walk_105 : decode cX4_walk 105 = .ok (.imul, 1) := by decide +kernel
theorem dX4_walk_106 : decode cX4_walk 106 = .ok (.iadd, 1) := by decide +kernel
theorem dX4_walk_107 : decode cX4_walk 107 = .ok (.iastore, 1) := by decide +kernel
theorem dX4_walk_108 : decode cX4_walk 108 = .ok (.aload_n 0, 1) := by decide +kernel
theorem dX4_walk_109 : decode cX4_walk 109 = .ok (.aload_n 0, 1) := by decide +kernel
theorem dX4_walk_110 : decode cX4_walk 110 = .ok (.getfield 67, 3) := by decide +kernel
theorem dX4_walk_113 : decode cX4_walk 113 = .ok (.bipush 99, 2) := by decide +kernel
theorem dX4_walk_115 : decode cX4_walk 115 = .ok (.invokevirtual 127, 3) := by decide +kernel
theorem dX4_walk_118 : decode cX4_walk 118 = .ok (.aload_n 0, 1) := by decide +kernel
theorem dX4_walk_119 : decode cX4_walk 119 = .ok (.getfield 34, 3) := by decide +kernel
theorem dX4_walk_122 : decode cX4_walk 122 = .ok (.iload_n 1, 1) := by decide +kernel
theorem dX4_walk_123 : decode cX4_walk 123 = .ok (.iaload, 1) := by decide +kernel
theorem dX4_walk_124 : decode cX4_walk 124 = .ok (.iload 5, 2) := by decide +kernel
theorem dX4_walk_126 : decode cX4_walk 126 = .ok (.if_icmp .ge 8, 3) := by decide +kernel
theorem dX4_walk_129 : decode cX4_walk 129 = .ok (.iload 6, 2) := by decide +kernel
theorem dX4_walk_131 : decode cX4_walk 131 = .ok (.goto 5, 3) := by decide +kernel
theorem dX4_walk_134 : decode cX4_walk 134 = .ok (.iload 4, 2) := by decide +kernel
theorem dX4_walk_136 : decode cX4_walk 136 = .ok (.istore 4, 2) := by decide +kernel
theorem dX4_walk_138 : decode cX4_walk 138 = .ok (.aload_n 0, 1) := by decide +kernel
theorem dX4_walk_139 : decode cX4_walk 139 = .ok (.getfield 34, 3) := by decide +kernel
theorem dX4_walk_142 : decode cX4_walk 142 = .ok (.iload_n 1, 1) := by decide +kernel
theorem dX4_walk_143 : decode cX4_walk 143 = .ok (.iaload, 1) := by decide +kernel
theorem dX4_walk_144 : decode cX4_walk 144 = .ok (.iload 5, 2) := by decide +kernel
theorem dX4_walk_146 : decode cX4_walk 146 = .ok (.if_icmp .ge 12, 3) := by decide +kernel
theorem dX4_walk_149 : decode cX4_walk 149 = .ok (.aload_n 0, 1) := by decide +kernel
theorem dX4_walk_150 : decode cX4_walk 150 = .ok (.getfield 34, 3) := by decide +kernel
theorem dX4_walk_153 : decode cX4_walk 153 = .ok (.iload_n 1, 1) := by decide +kernel
theorem dX4_walk_154 : decode cX4_walk 154 = .ok (.iaload, 1) := by decide +kernel
theorem dX4_walk_155 : decode cX4_walk 155 = .ok (.goto 5, 3) := by decide +kernel
theorem dX4_walk_158 : decode cX4_walk 158 = .ok (.iload 5, 2) := by decide +kernel
theorem dX4_walk_160 : decode cX4_walk 160 = .ok (.istore 5, 2) := by decide +kernel
theorem dX4_walk_162 : decode cX4_walk 162 = .ok (.iinc 6 1, 3) := by decide +kernel
theorem dX4_walk_165 : decode cX4_walk 165 = .ok (.goto (-115), 3) := by decide +kernel
theorem dX4_walk_168 : decode cX4_walk 168 = .ok (.iload_n 3, 1) := by decide +kernel
theorem dX4_walk_169 : decode cX4_walk 169 = .ok (.ifCond .ne 8, 3) := by decide +kernel
theorem dX4_walk_172 : decode cX4_walk 172 = .ok (.iload 4, 2) := by decide +kernel
theorem dX4_walk_174 : decode cX4_walk 174 = .ok (.goto 5, 3) := by decide +kernel
theorem dX4_walk_177 : decode cX4_walk 177 = .ok (.iload 5, 2) := by decide +kernel
theorem dX4_walk_179 : decode cX4_walk 179 = .ok (.ireturn, 1) := by decide +kernel
theorem dX4_claim_0 : decode cX4_claim 0 = .ok (.aload_n 0, 1) := by decide +kernel
theorem dX4_claim_1 : decode cX4_claim 1 = .ok (.iload_n 1, 1) := by decide +kernel
theorem dX4_claim_2 : decode cX4_claim 2 = .ok (.invokevirtual 80, 3) := by decide +kernel
theorem dX4_claim_5 : decode cX4_claim 5 = .ok (.ifCond .ne 5, 3) := by decide +kernel
theorem dX4_claim_8 : decode cX4_claim 8 = .ok (.iconst (-1), 1) := by decide +kernel
theorem dX4_claim_9 : decode cX4_claim 9 = .ok (.ireturn, 1) := by decide +kernel
theorem dX4_claim_10 : decode cX4_claim 10 = .ok (.iload_n 2, 1) := by decide +kernel
theorem dX4_claim_11 : decode cX4_claim 11 = .ok (.i2l, 1) := by decide +kernel
theorem dX4_claim_12 : decode cX4_claim 12 = .ok (.lconst 0, 1) := by decide +kernel
theorem dX4_claim_13 : decode cX4_claim 13 = .ok (.ldc2_w 149, 3) := by decide +kernel
theorem dX4_claim_16 : decode cX4_claim 16 = .ok (.invokestatic 59, 3) := by decide +kernel
theorem dX4_claim_19 : decode cX4_claim 19 = .ok (.ifCond .ne 6, 3) := by decide +kernel
theorem dX4_claim_22 : decode cX4_claim 22 = .ok (.bipush (-2), 2) := by decide +kernel
theorem dX4_claim_24 : decode cX4_claim 24 = .ok (.ireturn, 1) := by decide +kernel
theorem dX4_claim_25 : decode cX4_claim 25 = .ok (.aload_n 0, 1) := by decide +kernel
theorem dX4_claim_26 : decode cX4_claim 26 = .ok (.invokevirtual 124, 3) := by decide +kernel
theorem dX4_claim_29 : decode cX4_claim 29 = .ok (.iconst 0, 1) := by decide +kernel
theorem dX4_claim_30 : decode cX4_claim 30 = .ok (.istore_n 3, 1) := by decide +kernel
theorem dX4_claim_31 : decode cX4_claim 31 = .ok (.iload_n 3, 1) := by decide +kernel
theorem dX4_claim_32 : decode cX4_claim 32 = .ok (.bipush 100, 2) := by decide +kernel
theorem dX4_claim_34 : decode cX4_claim 34 = .ok (.if_icmp .ge 38, 3) := by decide +kernel
theorem dX4_claim_37 : decode cX4_claim 37 = .ok (.aload_n 0, 1) := by decide +kernel
theorem dX4_claim_38 : decode cX4_claim 38 = .ok (.getfield 25, 3) := by decide +kernel
theorem dX4_claim_41 : decode cX4_claim 41 = .ok (.iload_n 1, 1) := by decide +kernel
theorem dX4_claim_42 : decode cX4_claim 42 = .ok (.iload_n 3, 1) := by decide +kernel
theorem dX4_claim_43 : decode cX4_claim 43 = .ok (.iastore, 1) := by decide +kernel
theorem dX4_claim_44 : decode cX4_claim 44 = .ok (.aload_n 0, 1) := by decide +kernel
theorem dX4_claim_45 : decode cX4_claim 45 = .ok (.aload_n 0, 1) := by decide +kernel
theorem dX4_claim_46 : decode cX4_claim 46 = .ok (.getfield 67, 3) := by decide +kernel
theorem dX4_claim_49 : decode cX4_claim 49 = .ok (.bipush 99, 2) := by decide +kernel
theorem dX4_claim_51 : decode cX4_claim 51 = .ok (.invokevirtual 127, 3) := by decide +kernel
theorem dX4_claim_54 : decode cX4_claim 54 = .ok (.aload_n 0, 1) := by decide +kernel
theorem dX4_claim_55 : decode cX4_claim 55 = .ok (.getfield 31, 3) := by decide +kernel
theorem dX4_claim_58 : decode cX4_claim 58 = .ok (.iload_n 1, 1) := by decide +kernel
theorem dX4_claim_59 : decode cX4_claim 59 = .ok (.iaload, 1) := by decide +kernel
theorem dX4_claim_60 : decode cX4_claim 60 = .ok (.iload_n 2, 1) := by decide +kernel
theorem dX4_claim_61 : decode cX4_claim 61 = .ok (.if_icmp .gt 5, 3) := by decide +kernel
theorem dX4_claim_64 : decode cX4_claim 64 = .ok (.iload_n 3, 1) := by decide +kernel
theorem dX4_claim_65 : decode cX4_claim 65 = .ok (.ireturn, 1) := by decide +kernel
theorem dX4_claim_66 : decode cX4_claim 66 = .ok (.iinc 3 1, 3) := by decide +kernel
theorem dX4_claim_69 : decode cX4_claim 69 = .ok (.goto (-38), 3) := by decide +kernel
theorem dX4_claim_72 : decode cX4_claim 72 = .ok (.bipush (-6), 2) := by decide +kernel
theorem dX4_claim_74 : decode cX4_claim 74 = .ok (.ireturn, 1) := by decide +kernel
theorem dX4_isRow_0 : decode cX4_isRow 0 = .ok (.iconst 1, 1) := by decide +kernel
theorem dX4_isRow_1 : decode cX4_isRow 1 = .ok (.istore_n 1, 1) := by decide +kernel
theorem dX4_isRow_2 : decode cX4_isRow 2 = .ok (.iconst 0, 1) := by decide +kernel
theorem dX4_isRow_3 : decode cX4_isRow 3 = .ok (.istore_n 2, 1) := by decide +kernel
theorem dX4_isRow_4 : decode cX4_isRow 4 = .ok (.iload_n 2, 1) := by decide +kernel
theorem dX4_isRow_5 : decode cX4_isRow 5 = .ok (.aload_n 0, 1) := by decide +kernel
theorem dX4_isRow_6 : decode cX4_isRow 6 = .ok (.getfield 115, 3) := by decide +kernel
theorem dX4_isRow_9 : decode cX4_isRow 9 = .ok (.if_icmp .ge 37, 3) := by decide +kernel
theorem dX4_isRow_12 : decode cX4_isRow 12 = .ok (.iload_n 1, 1) := by decide +kernel
theorem dX4_isRow_13 : decode cX4_isRow 13 = .ok (.ifCond .eq 25, 3) := by decide +kernel
theorem dX4_isRow_16 : decode cX4_isRow 16 = .ok (.aload_n 0, 1) := by decide +kernel
theorem dX4_isRow_17 : decode cX4_isRow 17 = .ok (.getfield 40, 3) := by decide +kernel
theorem dX4_isRow_20 : decode cX4_isRow 20 = .ok (.iload_n 2, 1) := by decide +kernel
theorem dX4_isRow_21 : decode cX4_isRow 21 = .ok (.iaload, 1) := by decide +kernel
theorem dX4_isRow_22 : decode cX4_isRow 22 = .ok (.aload_n 0, 1) := by decide +kernel
theorem dX4_isRow_23 : decode cX4_isRow 23 = .ok (.getfield 22, 3) := by decide +kernel
theorem dX4_isRow_26 : decode cX4_isRow 26 = .ok (.iload_n 2, 1) := by decide +kernel
theorem dX4_isRow_27 : decode cX4_isRow 27 = .ok (.iaload, 1) := by decide +kernel
theorem dX4_isRow_28 : decode cX4_isRow 28 = .ok (.bipush 65, 2) := by decide +kernel
theorem dX4_isRow_30 : decode cX4_isRow 30 = .ok (.isub, 1) := by decide +kernel
theorem dX4_isRow_31 : decode cX4_isRow 31 = .ok (.if_icmp .ne 7, 3) := by decide +kernel
theorem dX4_isRow_34 : decode cX4_isRow 34 = .ok (.iconst 1, 1) := by decide +kernel
theorem dX4_isRow_35 : decode cX4_isRow 35 = .ok (.goto 4, 3) := by decide +kernel
theorem dX4_isRow_38 : decode cX4_isRow 38 = .ok (.iconst 0, 1) := by decide +kernel
theorem dX4_isRow_39 : decode cX4_isRow 39 = .ok (.istore_n 1, 1) := by decide +kernel
theorem dX4_isRow_40 : decode cX4_isRow 40 = .ok (.iinc 2 1, 3) := by decide +kernel
theorem dX4_isRow_43 : decode cX4_isRow 43 = .ok (.goto (-39), 3) := by decide +kernel
theorem dX4_isRow_46 : decode cX4_isRow 46 = .ok (.iload_n 1, 1) := by decide +kernel
theorem dX4_isRow_47 : decode cX4_isRow 47 = .ok (.ireturn, 1) := by decide +kernel
theorem dX4_areAllTold_0 : decode cX4_areAllTold 0 = .ok (.aload_n 0, 1) := by decide +kernel
theorem dX4_areAllTold_1 : decode cX4_areAllTold 1 = .ok (.invokevirtual 144, 3) := by decide +kernel
theorem dX4_areAllTold_4 : decode cX4_areAllTold 4 = .ok (.ifCond .ge 21, 3) := by decide +kernel
theorem dX4_areAllTold_7 : decode cX4_areAllTold 7 = .ok (.aload_n 0, 1) := by decide +kernel
theorem dX4_areAllTold_8 : decode cX4_areAllTold 8 = .ok (.getfield 97, 3) := by decide +kernel
theorem dX4_areAllTold_11 : decode cX4_areAllTold 11 = .ok (.aload_n 0, 1) := by decide +kernel
theorem dX4_areAllTold_12 : decode cX4_areAllTold 12 = .ok (.getfield 67, 3) := by decide +kernel
theorem dX4_areAllTold_15 : decode cX4_areAllTold 15 = .ok (.invokestatic 76, 3) := by decide +kernel
theorem dX4_areAllTold_18 : decode cX4_areAllTold 18 = .ok (.if_icmp .ne 7, 3) := by decide +kernel
theorem dX4_areAllTold_21 : decode cX4_areAllTold 21 = .ok (.iconst 1, 1) := by decide +kernel
theorem dX4_areAllTold_22 : decode cX4_areAllTold 22 = .ok (.goto 4, 3) := by decide +kernel
theorem dX4_areAllTold_25 : decode cX4_areAllTold 25 = .ok (.iconst 0, 1) := by decide +kernel
theorem dX4_areAllTold_26 : decode cX4_areAllTold 26 = .ok (.ireturn, 1) := by decide +kernel
theorem dX4_isRowBy_0 : decode cX4_isRowBy 0 = .ok (.aload_n 0, 1) := by decide +kernel
theorem dX4_isRowBy_1 : decode cX4_isRowBy 1 = .ok (.invokevirtual 124, 3) := by decide +kernel
theorem dX4_isRowBy_4 : decode cX4_isRowBy 4 = .ok (.aload_n 0, 1) := by decide +kernel
theorem dX4_isRowBy_5 : decode cX4_isRowBy 5 = .ok (.getfield 25, 3) := by decide +kernel
theorem dX4_isRowBy_8 : decode cX4_isRowBy 8 = .ok (.iload_n 1, 1) := by decide +kernel
theorem dX4_isRowBy_9 : decode cX4_isRowBy 9 = .ok (.iload_n 2, 1) := by decide +kernel
theorem dX4_isRowBy_10 : decode cX4_isRowBy 10 = .ok (.iastore, 1) := by decide +kernel
theorem dX4_isRowBy_11 : decode cX4_isRowBy 11 = .ok (.aload_n 0, 1) := by decide +kernel
theorem dX4_isRowBy_12 : decode cX4_isRowBy 12 = .ok (.aload_n 0, 1) := by decide +kernel
theorem dX4_isRowBy_13 : decode cX4_isRowBy 13 = .ok (.getfield 67, 3) := by decide +kernel
theorem dX4_isRowBy_16 : decode cX4_isRowBy 16 = .ok (.bipush 99, 2) := by decide +kernel
theorem dX4_isRowBy_18 : decode cX4_isRowBy 18 = .ok (.invokevirtual 127, 3) := by decide +kernel
theorem dX4_isRowBy_21 : decode cX4_isRowBy 21 = .ok (.aload_n 0, 1) := by decide +kernel
theorem dX4_isRowBy_22 : decode cX4_isRowBy 22 = .ok (.invokevirtual 151, 3) := by decide +kernel
theorem dX4_isRowBy_25 : decode cX4_isRowBy 25 = .ok (.ireturn, 1) := by decide +kernel
theorem dX4_lied_0 : decode cX4_lied 0 = .ok (.aload_n 0, 1) := by decide +kernel
theorem dX4_lied_1 : decode cX4_lied 1 = .ok (.invokevirtual 155, 3) := by decide +kernel
theorem dX4_lied_4 : decode cX4_lied 4 = .ok (.ifCond .ne 6, 3) := by decide +kernel
theorem dX4_lied_7 : decode cX4_lied 7 = .ok (.bipush (-5), 2) := by decide +kernel
theorem dX4_lied_9 : decode cX4_lied 9 = .ok (.ireturn, 1) := by decide +kernel
theorem dX4_lied_10 : decode cX4_lied 10 = .ok (.iconst 0, 1) := by decide +kernel
theorem dX4_lied_11 : decode cX4_lied 11 = .ok (.istore_n 1, 1) := by decide +kernel
theorem dX4_lied_12 : decode cX4_lied 12 = .ok (.iconst 0, 1) := by decide +kernel
theorem dX4_lied_13 : decode cX4_lied 13 = .ok (.istore_n 2, 1) := by decide +kernel
theorem dX4_lied_14 : decode cX4_lied 14 = .ok (.iload_n 2, 1) := by decide +kernel
theorem dX4_lied_15 : decode cX4_lied 15 = .ok (.bipush 8, 2) := by decide +kernel
theorem dX4_lied_17 : decode cX4_lied 17 = .ok (.if_icmp .ge 50, 3) := by decide +kernel
theorem dX4_lied_20 : decode cX4_lied 20 = .ok (.iconst 0, 1) := by decide +kernel
theorem dX4_lied_21 : decode cX4_lied 21 = .ok (.istore_n 3, 1) := by decide +kernel
theorem dX4_lied_22 : decode cX4_lied 22 = .ok (.iload_n 3, 1) := by decide +kernel
theorem dX4_lied_23 : decode cX4_lied 23 = .ok (.bipush 100, 2) := by decide +kernel
theorem dX4_lied_25 : decode cX4_lied 25 = .ok (.if_icmp .ge 36, 3) := by decide +kernel
theorem dX4_lied_28 : decode cX4_lied 28 = .ok (.aload_n 0, 1) := by decide +kernel
theorem dX4_lied_29 : decode cX4_lied 29 = .ok (.iload_n 2, 1) := by decide +kernel
theorem dX4_lied_30 : decode cX4_lied 30 = .ok (.invokevirtual 80, 3) := by decide +kernel
theorem dX4_lied_33 : decode cX4_lied 33 = .ok (.ifCond .eq 28, 3) := by decide +kernel
theorem dX4_lied_36 : decode cX4_lied 36 = .ok (.iload_n 1, 1) := by decide +kernel
theorem dX4_lied_37 : decode cX4_lied 37 = .ok (.aload_n 0, 1) := by decide +kernel
theorem dX4_lied_38 : decode cX4_lied 38 = .ok (.iload_n 2, 1) := by decide +kernel
theorem dX4_lied_39 : decode cX4_lied 39 = .ok (.iload_n 3, 1) := by decide +kernel
theorem dX4_lied_40 : decode cX4_lied 40 = .ok (.invokevirtual 158, 3) := by decide +kernel
theorem dX4_lied_43 : decode cX4_lied 43 = .ok (.ifCond .eq 9, 3) := by decide +kernel
theorem dX4_lied_46 : decode cX4_lied 46 = .ok (.iconst 1, 1) := by decide +kernel
theorem dX4_lied_47 : decode cX4_lied 47 = .ok (.iload_n 2, 1) := by decide +kernel
theorem dX4_lied_48 : decode cX4_lied 48 = .ok (.ishl, 1) := by decide +kernel
theorem dX4_lied_49 : decode cX4_lied 49 = .ok (.goto 4, 3) := by decide +kernel
theorem dX4_lied_52 : decode cX4_lied 52 = .ok (.iconst 0, 1) := by decide +kernel
theorem dX4_lied_53 : decode cX4_lied 53 = .ok (.ior, 1) := by decide +kernel
theorem dX4_lied_54 : decode cX4_lied 54 = .ok (.istore_n 1, 1) := by decide +kernel
theorem dX4_lied_55 : decode cX4_lied 55 = .ok (.iinc 3 1, 3) := by decide +kernel
theorem dX4_lied_58 : decode cX4_lied 58 = .ok (.goto (-36), 3) := by decide +kernel
theorem dX4_lied_61 : decode cX4_lied 61 = .ok (.iinc 2 1, 3) := by decide +kernel
theorem dX4_lied_64 : decode cX4_lied 64 = .ok (.goto (-50), 3) := by decide +kernel
theorem dX4_lied_67 : decode cX4_lied 67 = .ok (.iload_n 1, 1) := by decide +kernel
theorem dX4_lied_68 : decode cX4_lied 68 = .ok (.ireturn, 1) := by decide +kernel
theorem dX4_could_0 : decode cX4_could 0 = .ok (.aload_n 0, 1) := by decide +kernel
theorem dX4_could_1 : decode cX4_could 1 = .ok (.iload_n 1, 1) := by decide +kernel
theorem dX4_could_2 : decode cX4_could 2 = .ok (.invokevirtual 80, 3) := by decide +kernel
theorem dX4_could_5 : decode cX4_could 5 = .ok (.ifCond .ne 5, 3) := by decide +kernel
theorem dX4_could_8 : decode cX4_could 8 = .ok (.iconst (-1), 1) := by decide +kernel
theorem dX4_could_9 : decode cX4_could 9 = .ok (.ireturn, 1) := by decide +kernel
theorem dX4_could_10 : decode cX4_could 10 = .ok (.iload_n 2, 1) := by decide +kernel
theorem dX4_could_11 : decode cX4_could 11 = .ok (.i2l, 1) := by decide +kernel
theorem dX4_could_12 : decode cX4_could 12 = .ok (.lconst 0, 1) := by decide +kernel
theorem dX4_could_13 : decode cX4_could 13 = .ok (.lconst 1, 1) := by decide +kernel
theorem dX4_could_14 : decode cX4_could 14 = .ok (.invokestatic 59, 3) := by decide +kernel
theorem dX4_could_17 : decode cX4_could 17 = .ok (.ifCond .ne 6, 3) := by decide +kernel
theorem dX4_could_20 : decode cX4_could 20 = .ok (.bipush (-2), 2) := by decide +kernel
theorem dX4_could_22 : decode cX4_could 22 = .ok (.ireturn, 1) := by decide +kernel
theorem dX4_could_23 : decode cX4_could 23 = .ok (.aload_n 0, 1) := by decide +kernel
theorem dX4_could_24 : decode cX4_could 24 = .ok (.invokevirtual 155, 3) := by decide +kernel
theorem dX4_could_27 : decode cX4_could 27 = .ok (.ifCond .ne 6, 3) := by decide +kernel
theorem dX4_could_30 : decode cX4_could 30 = .ok (.bipush (-5), 2) := by decide +kernel
theorem dX4_could_32 : decode cX4_could 32 = .ok (.ireturn, 1) := by decide +kernel
theorem dX4_could_33 : decode cX4_could 33 = .ok (.bipush (-6), 2) := by decide +kernel
theorem dX4_could_35 : decode cX4_could 35 = .ok (.istore_n 3, 1) := by decide +kernel
theorem dX4_could_36 : decode cX4_could 36 = .ok (.iconst 0, 1) := by decide +kernel
theorem dX4_could_37 : decode cX4_could 37 = .ok (.istore 4, 2) := by decide +kernel
theorem dX4_could_39 : decode cX4_could 39 = .ok (.iload 4, 2) := by decide +kernel
theorem dX4_could_41 : decode cX4_could 41 = .ok (.bipush 100, 2) := by decide +kernel
theorem dX4_could_43 : decode cX4_could 43 = .ok (.if_icmp .ge 47, 3) := by decide +kernel
theorem dX4_could_46 : decode cX4_could 46 = .ok (.iload_n 2, 1) := by decide +kernel
theorem dX4_could_47 : decode cX4_could 47 = .ok (.iconst 1, 1) := by decide +kernel
theorem dX4_could_48 : decode cX4_could 48 = .ok (.if_icmp .eq 7, 3) := by decide +kernel
theorem dX4_could_51 : decode cX4_could 51 = .ok (.iload_n 3, 1) := by decide +kernel
theorem dX4_could_52 : decode cX4_could 52 = .ok (.ifCond .ge 7, 3) := by decide +kernel
theorem dX4_could_55 : decode cX4_could 55 = .ok (.iconst 1, 1) := by decide +kernel
theorem dX4_could_56 : decode cX4_could 56 = .ok (.goto 4, 3) := by decide +kernel
theorem dX4_could_59 : decode cX4_could 59 = .ok (.iconst 0, 1) := by decide +kernel
theorem dX4_could_60 : decode cX4_could 60 = .ok (.istore 5, 2) := by decide +kernel
theorem dX4_could_62 : decode cX4_could 62 = .ok (.iload 5, 2) := by decide +kernel
theorem dX4_could_64 : decode cX4_could 64 = .ok (.ifCond .eq 18, 3) := by decide +kernel
theorem dX4_could_67 : decode cX4_could 67 = .ok (.aload_n 0, 1) := by decide +kernel
theorem dX4_could_68 : decode cX4_could 68 = .ok (.iload_n 1, 1) := by decide +kernel
theorem dX4_could_69 : decode cX4_could 69 = .ok (.iload 4, 2) := by decide +kernel
theorem dX4_could_71 : decode cX4_could 71 = .ok (.invokevirtual 158, 3) := by decide +kernel
theorem dX4_could_74 : decode cX4_could 74 = .ok (.ifCond .eq 8, 3) := by decide +kernel
theorem dX4_could_77 : decode cX4_could 77 = .ok (.iload 4, 2) := by decide +kernel
theorem dX4_could_79 : decode cX4_could 79 = .ok (.goto 4, 3) := by decide +kernel
theorem dX4_could_82 : decode cX4_could 82 = .ok (.iload_n 3, 1) := by decide +kernel
theorem dX4_could_83 : decode cX4_could 83 = .ok (.istore_n 3, 1) := by decide +kernel
theorem dX4_could_84 : decode cX4_could 84 = .ok (.iinc 4 1, 3) := by decide +kernel
theorem dX4_could_87 : decode cX4_could 87 = .ok (.goto (-48), 3) := by decide +kernel
theorem dX4_could_90 : decode cX4_could 90 = .ok (.iload_n 3, 1) := by decide +kernel
theorem dX4_could_91 : decode cX4_could 91 = .ok (.ireturn, 1) := by decide +kernel
theorem dX4_law_0 : decode cX4_law 0 = .ok (.iload_n 1, 1) := by decide +kernel
theorem dX4_law_1 : decode cX4_law 1 = .ok (.i2l, 1) := by decide +kernel
theorem dX4_law_2 : decode cX4_law 2 = .ok (.lconst 0, 1) := by decide +kernel
theorem dX4_law_3 : decode cX4_law 3 = .ok (.ldc2_w 162, 3) := by decide +kernel
theorem dX4_law_6 : decode cX4_law 6 = .ok (.invokestatic 59, 3) := by decide +kernel
theorem dX4_law_9 : decode cX4_law 9 = .ok (.ifCond .ne 6, 3) := by decide +kernel
theorem dX4_law_12 : decode cX4_law 12 = .ok (.bipush (-2), 2) := by decide +kernel
theorem dX4_law_14 : decode cX4_law 14 = .ok (.ireturn, 1) := by decide +kernel
theorem dX4_law_15 : decode cX4_law 15 = .ok (.bipush (-6), 2) := by decide +kernel
theorem dX4_law_17 : decode cX4_law 17 = .ok (.istore_n 2, 1) := by decide +kernel
theorem dX4_law_18 : decode cX4_law 18 = .ok (.iconst 0, 1) := by decide +kernel
theorem dX4_law_19 : decode cX4_law 19 = .ok (.istore_n 3, 1) := by decide +kernel
theorem dX4_law_20 : decode cX4_law 20 = .ok (.iconst 0, 1) := by decide +kernel
theorem dX4_law_21 : decode cX4_law 21 = .ok (.istore 4, 2) := by decide +kernel
theorem dX4_law_23 : decode cX4_law 23 = .ok (.iconst 1, 1) := by decide +kernel
theorem dX4_law_24 : decode cX4_law 24 = .ok (.istore 5, 2) := by decide +kernel
theorem dX4_law_26 : decode cX4_law 26 = .ok (.iload 5, 2) := by decide +kernel
theorem dX4_law_28 : decode cX4_law 28 = .ok (.bipush 16, 2) := by decide +kernel
theorem dX4_law_30 : decode cX4_law 30 = .ok (.if_icmp .ge 92, 3) := by decide +kernel
theorem dX4_law_33 : decode cX4_law 33 = .ok (.aload_n 0, 1) := by decide +kernel
theorem dX4_law_34 : decode cX4_law 34 = .ok (.invokevirtual 124, 3) := by decide +kernel
theorem dX4_law_37 : decode cX4_law 37 = .ok (.aload_n 0, 1) := by decide +kernel
theorem dX4_law_38 : decode cX4_law 38 = .ok (.iload 5, 2) := by decide +kernel
theorem dX4_law_40 : decode cX4_law 40 = .ok (.iconst 4, 1) := by decide +kernel
theorem dX4_law_41 : decode cX4_law 41 = .ok (.idiv, 1) := by decide +kernel
theorem dX4_law_42 : decode cX4_law 42 = .ok (.putfield 100, 3) := by decide +kernel
theorem dX4_law_45 : decode cX4_law 45 = .ok (.aload_n 0, 1) := by decide +kernel
theorem dX4_law_46 : decode cX4_law 46 = .ok (.iload 5, 2) := by decide +kernel
theorem dX4_law_48 : decode cX4_law 48 = .ok (.iconst 4, 1) := by decide +kernel
theorem dX4_law_49 : decode cX4_law 49 = .ok (.irem, 1) := by decide +kernel
theorem dX4_law_50 : decode cX4_law 50 = .ok (.putfield 103, 3) := by decide +kernel
theorem dX4_law_53 : decode cX4_law 53 = .ok (.aload_n 0, 1) := by decide +kernel
theorem dX4_law_54 : decode cX4_law 54 = .ok (.aload_n 0, 1) := by decide +kernel
theorem dX4_law_55 : decode cX4_law 55 = .ok (.getfield 67, 3) := by decide +kernel
theorem dX4_law_58 : decode cX4_law 58 = .ok (.bipush 99, 2) := by decide +kernel
theorem dX4_law_60 : decode cX4_law 60 = .ok (.invokevirtual 127, 3) := by decide +kernel
theorem dX4_law_63 : decode cX4_law 63 = .ok (.aload_n 0, 1) := by decide +kernel
theorem dX4_law_64 : decode cX4_law 64 = .ok (.aload_n 0, 1) := by decide +kernel
theorem dX4_law_65 : decode cX4_law 65 = .ok (.getfield 67, 3) := by decide +kernel
theorem dX4_law_68 : decode cX4_law 68 = .ok (.invokevirtual 134, 3) := by decide +kernel
theorem dX4_law_71 : decode cX4_law 71 = .ok (.istore 6, 2) := by decide +kernel
theorem dX4_law_73 : decode cX4_law 73 = .ok (.aload_n 0, 1) := by decide +kernel
theorem dX4_law_74 : decode cX4_law 74 = .ok (.aload_n 0, 1) := by decide +kernel
theorem dX4_law_75 : decode cX4_law 75 = .ok (.getfield 67, 3) := by decide +kernel
theorem dX4_law_78 : decode cX4_law 78 = .ok (.invokevirtual 141, 3) := by decide +kernel
theorem dX4_law_81 : decode cX4_law 81 = .ok (.istore 7, 2) := by decide +kernel
theorem dX4_law_83 : decode cX4_law 83 = .ok (.iload_n 2, 1) := by decide +kernel
theorem dX4_law_84 : decode cX4_law 84 = .ok (.ifCond .lt 22, 3) := by decide +kernel
theorem dX4_law_87 : decode cX4_law 87 = .ok (.iload 6, 2) := by decide +kernel
theorem dX4_law_89 : decode cX4_law 89 = .ok (.iload_n 3, 1) := by decide +kernel
theorem dX4_law_90 : decode cX4_law 90 = .ok (.if_icmp .lt 16, 3) := by decide +kernel
theorem dX4_law_93 : decode cX4_law 93 = .ok (.iload 6, 2) := by decide +kernel
theorem dX4_law_95 : decode cX4_law 95 = .ok (.iload_n 3, 1) := by decide +kernel
theorem dX4_law_96 : decode cX4_law 96 = .ok (.if_icmp .ne 20, 3) := by decide +kernel
theorem dX4_law_99 : decode cX4_law 99 = .ok (.iload 7, 2) := by decide +kernel
theorem dX4_law_101 : decode cX4_law 101 = .ok (.iload 4, 2) := by decide +kernel
theorem dX4_law_103 : decode cX4_law 103 = .ok (.if_icmp .ge 13, 3) := by decide +kernel
theorem dX4_law_106 : decode cX4_law 106 = .ok (.iload 5, 2) := by decide +kernel
theorem dX4_law_108 : decode cX4_law 108 = .ok (.istore_n 2, 1) := by decide +kernel
theorem dX4_law_109 : decode cX4_law 109 = .ok (.iload 6, 2) := by decide +kernel
theorem dX4_law_111 : decode cX4_law 111 = .ok (.istore_n 3, 1) := by decide +kernel
theorem dX4_law_112 : decode cX4_law 112 = .ok (.iload 7, 2) := by decide +kernel
theorem dX4_law_114 : decode cX4_law 114 = .ok (.istore 4, 2) := by decide +kernel
theorem dX4_law_116 : decode cX4_law 116 = .ok (.iinc 5 1, 3) := by decide +kernel
theorem dX4_law_119 : decode cX4_law 119 = .ok (.goto (-93), 3) := by decide +kernel
theorem dX4_law_122 : decode cX4_law 122 = .ok (.iload_n 1, 1) := by decide +kernel
theorem dX4_law_123 : decode cX4_law 123 = .ok (.ifCond .ne 9, 3) := by decide +kernel
theorem dX4_law_126 : decode cX4_law 126 = .ok (.iload_n 2, 1) := by decide +kernel
theorem dX4_law_127 : decode cX4_law 127 = .ok (.iconst 4, 1) := by decide +kernel
theorem dX4_law_128 : decode cX4_law 128 = .ok (.idiv, 1) := by decide +kernel
theorem dX4_law_129 : decode cX4_law 129 = .ok (.goto 15, 3) := by decide +kernel
theorem dX4_law_132 : decode cX4_law 132 = .ok (.iload_n 1, 1) := by decide +kernel
theorem dX4_law_133 : decode cX4_law 133 = .ok (.iconst 1, 1) := by decide +kernel
theorem dX4_law_134 : decode cX4_law 134 = .ok (.if_icmp .ne 9, 3) := by decide +kernel
theorem dX4_law_137 : decode cX4_law 137 = .ok (.iload_n 2, 1) := by decide +kernel
theorem dX4_law_138 : decode cX4_law 138 = .ok (.iconst 4, 1) := by decide +kernel
theorem dX4_law_139 : decode cX4_law 139 = .ok (.irem, 1) := by decide +kernel
theorem dX4_law_140 : decode cX4_law 140 = .ok (.goto 4, 3) := by decide +kernel
theorem dX4_law_143 : decode cX4_law 143 = .ok (.iload_n 3, 1) := by decide +kernel
theorem dX4_law_144 : decode cX4_law 144 = .ok (.ireturn, 1) := by decide +kernel
theorem dX4_home_0 : decode cX4_home 0 = .ok (.aload_n 0, 1) := by decide +kernel
theorem dX4_home_1 : decode cX4_home 1 = .ok (.iload_n 1, 1) := by decide +kernel
theorem dX4_home_2 : decode cX4_home 2 = .ok (.invokevirtual 80, 3) := by decide +kernel
theorem dX4_home_5 : decode cX4_home 5 = .ok (.ifCond .ne 5, 3) := by decide +kernel
theorem dX4_home_8 : decode cX4_home 8 = .ok (.iconst (-1), 1) := by decide +kernel
theorem dX4_home_9 : decode cX4_home 9 = .ok (.ireturn, 1) := by decide +kernel
theorem dX4_home_10 : decode cX4_home 10 = .ok (.iload_n 2, 1) := by decide +kernel
theorem dX4_home_11 : decode cX4_home 11 = .ok (.i2l, 1) := by decide +kernel
theorem dX4_home_12 : decode cX4_home 12 = .ok (.lconst 0, 1) := by decide +kernel
theorem dX4_home_13 : decode cX4_home 13 = .ok (.ldc2_w 70, 3) := by decide +kernel
theorem dX4_home_16 : decode cX4_home 16 = .ok (.invokestatic 59, 3) := by decide +kernel
theorem dX4_home_19 : decode cX4_home 19 = .ok (.ifCond .eq 13, 3) := by decide +kernel
theorem dX4_home_22 : decode cX4_home 22 = .ok (.iload_n 3, 1) := by decide +kernel
theorem dX4_home_23 : decode cX4_home 23 = .ok (.i2l, 1) := by decide +kernel
theorem dX4_home_24 : decode cX4_home 24 = .ok (.lconst 0, 1) := by decide +kernel
theorem dX4_home_25 : decode cX4_home 25 = .ok (.lconst 1, 1) := by decide +kernel
theorem dX4_home_26 : decode cX4_home 26 = .ok (.invokestatic 59, 3) := by decide +kernel
theorem dX4_home_29 : decode cX4_home 29 = .ok (.ifCond .ne 6, 3) := by decide +kernel
theorem dX4_home_32 : decode cX4_home 32 = .ok (.bipush (-2), 2) := by decide +kernel
theorem dX4_home_34 : decode cX4_home 34 = .ok (.ireturn, 1) := by decide +kernel
theorem dX4_home_35 : decode cX4_home 35 = .ok (.aload_n 0, 1) := by decide +kernel
theorem dX4_home_36 : decode cX4_home 36 = .ok (.invokevirtual 124, 3) := by decide +kernel
theorem dX4_home_39 : decode cX4_home 39 = .ok (.bipush (-6), 2) := by decide +kernel
theorem dX4_home_41 : decode cX4_home 41 = .ok (.istore 4, 2) := by decide +kernel
theorem dX4_home_43 : decode cX4_home 43 = .ok (.ldc 114, 2) := by decide +kernel
theorem dX4_home_45 : decode cX4_home 45 = .ok (.istore 5, 2) := by decide +kernel
theorem dX4_home_47 : decode cX4_home 47 = .ok (.iconst 0, 1) := by decide +kernel
theorem dX4_home_48 : decode cX4_home 48 = .ok (.istore 6, 2) := by decide +kernel
theorem dX4_home_50 : decode cX4_home 50 = .ok (.iload 6, 2) := by decide +kernel
theorem dX4_home_52 : decode cX4_home 52 = .ok (.bipush 100, 2) := by decide +kernel
theorem dX4_home_54 : decode cX4_home 54 = .ok (.if_icmp .ge 75, 3) := by decide +kernel
theorem dX4_home_57 : decode cX4_home 57 = .ok (.aload_n 0, 1) := by decide +kernel
theorem dX4_home_58 : decode cX4_home 58 = .ok (.getfield 25, 3) := by decide +kernel
theorem dX4_home_61 : decode cX4_home 61 = .ok (.iload_n 1, 1) := by decide +kernel
theorem dX4_home_62 : decode cX4_home 62 = .ok (.iload 6, 2) := by decide +kernel
theorem dX4_home_64 : decode cX4_home 64 = .ok (.iastore, 1) := by decide +kernel
theorem dX4_home_65 : decode cX4_home 65 = .ok (.aload_n 0, 1) := by decide +kernel
theorem dX4_home_66 : decode cX4_home 66 = .ok (.aload_n 0, 1) := by decide +kernel
theorem dX4_home_67 : decode cX4_home 67 = .ok (.getfield 67, 3) := by decide +kernel
theorem dX4_home_70 : decode cX4_home 70 = .ok (.bipush 99, 2) := by decide +kernel
theorem dX4_home_72 : decode cX4_home 72 = .ok (.invokevirtual 127, 3) := by decide +kernel
theorem dX4_home_75 : decode cX4_home 75 = .ok (.aload_n 0, 1) := by decide +kernel
theorem dX4_home_76 : decode cX4_home 76 = .ok (.getfield 31, 3) := by decide +kernel
theorem dX4_home_79 : decode cX4_home 79 = .ok (.iload_n 1, 1) := by decide +kernel
theorem dX4_home_80 : decode cX4_home 80 = .ok (.iaload, 1) := by decide +kernel
theorem dX4_home_81 : decode cX4_home 81 = .ok (.iload_n 2, 1) := by decide +kernel
theorem dX4_home_82 : decode cX4_home 82 = .ok (.bipush 99, 2) := by decide +kernel
theorem dX4_home_84 : decode cX4_home 84 = .ok (.iload 6, 2) := by decide +kernel
theorem dX4_home_86 : decode cX4_home 86 = .ok (.isub, 1) := by decide +kernel
theorem dX4_home_87 : decode cX4_home 87 = .ok (.imul, 1) := by decide +kernel
theorem dX4_home_88 : decode cX4_home 88 = .ok (.iadd, 1) := by decide +kernel
theorem dX4_home_89 : decode cX4_home 89 = .ok (.istore 7, 2) := by decide +kernel
theorem dX4_home_91 : decode cX4_home 91 = .ok (.iload 7, 2) := by decide +kernel
theorem dX4_home_93 : decode cX4_home 93 = .ok (.iload 5, 2) := by decide +kernel
theorem dX4_home_95 : decode cX4_home 95 = .ok (.if_icmp .ge 8, 3) := by decide +kernel
theorem dX4_home_98 : decode cX4_home 98 = .ok (.iload 6, 2) := by decide +kernel
theorem dX4_home_100 : decode cX4_home 100 = .ok (.goto 5, 3) := by decide +kernel
theorem dX4_home_103 : decode cX4_home 103 = .ok (.iload 4, 2) := by decide +kernel
theorem dX4_home_105 : decode cX4_home 105 = .ok (.istore 4, 2) := by decide +kernel
theorem dX4_home_107 : decode cX4_home 107 = .ok (.iload 7, 2) := by decide +kernel
theorem dX4_home_109 : decode cX4_home 109 = .ok (.iload 5, 2) := by decide +kernel
theorem dX4_home_111 : decode cX4_home 111 = .ok (.if_icmp .ge 8, 3) := by decide +kernel
theorem dX4_home_114 : decode cX4_home 114 = .ok (.iload 7, 2) := by decide +kernel
theorem dX4_home_116 : decode cX4_home 116 = .ok (.goto 5, 3) := by decide +kernel
theorem dX4_home_119 : decode cX4_home 119 = .ok (.iload 5, 2) := by decide +kernel
theorem dX4_home_121 : decode cX4_home 121 = .ok (.istore 5, 2) := by decide +kernel
theorem dX4_home_123 : decode cX4_home 123 = .ok (.iinc 6 1, 3) := by decide +kernel
theorem dX4_home_126 : decode cX4_home 126 = .ok (.goto (-76), 3) := by decide +kernel
theorem dX4_home_129 : decode cX4_home 129 = .ok (.iload_n 3, 1) := by decide +kernel
theorem dX4_home_130 : decode cX4_home 130 = .ok (.ifCond .ne 8, 3) := by decide +kernel
theorem dX4_home_133 : decode cX4_home 133 = .ok (.iload 4, 2) := by decide +kernel
theorem dX4_home_135 : decode cX4_home 135 = .ok (.goto 5, 3) := by decide +kernel
theorem dX4_home_138 : decode cX4_home 138 = .ok (.iload 5, 2) := by decide +kernel
theorem dX4_home_140 : decode cX4_home 140 = .ok (.ireturn, 1) := by decide +kernel
theorem dX4_two_0 : decode cX4_two 0 = .ok (.iload_n 1, 1) := by decide +kernel
theorem dX4_two_1 : decode cX4_two 1 = .ok (.i2l, 1) := by decide +kernel
theorem dX4_two_2 : decode cX4_two 2 = .ok (.lconst 0, 1) := by decide +kernel
theorem dX4_two_3 : decode cX4_two 3 = .ok (.ldc2_w 162, 3) := by decide +kernel
theorem dX4_two_6 : decode cX4_two 6 = .ok (.invokestatic 59, 3) := by decide +kernel
theorem dX4_two_9 : decode cX4_two 9 = .ok (.ifCond .ne 6, 3) := by decide +kernel
theorem dX4_two_12 : decode cX4_two 12 = .ok (.bipush (-2), 2) := by decide +kernel
theorem dX4_two_14 : decode cX4_two 14 = .ok (.ireturn, 1) := by decide +kernel
theorem dX4_two_15 : decode cX4_two 15 = .ok (.aload_n 0, 1) := by decide +kernel
theorem dX4_two_16 : decode cX4_two 16 = .ok (.invokevirtual 124, 3) := by decide +kernel
theorem dX4_two_19 : decode cX4_two 19 = .ok (.bipush (-6), 2) := by decide +kernel
theorem dX4_two_21 : decode cX4_two 21 = .ok (.istore_n 2, 1) := by decide +kernel
theorem dX4_two_22 : decode cX4_two 22 = .ok (.iconst 0, 1) := by decide +kernel
theorem dX4_two_23 : decode cX4_two 23 = .ok (.istore_n 3, 1) := by decide +kernel
theorem dX4_two_24 : decode cX4_two 24 = .ok (.iconst 0, 1) := by decide +kernel
theorem dX4_two_25 : decode cX4_two 25 = .ok (.istore 4, 2) := by decide +kernel
theorem dX4_two_27 : decode cX4_two 27 = .ok (.iconst 0, 1) := by decide +kernel
theorem dX4_two_28 : decode cX4_two 28 = .ok (.istore 5, 2) := by decide +kernel
theorem dX4_two_30 : decode cX4_two 30 = .ok (.iload 5, 2) := by decide +kernel
theorem dX4_two_32 : decode cX4_two 32 = .ok (.sipush 256, 3) := by decide +kernel
theorem dX4_two_35 : decode cX4_two 35 = .ok (.if_icmp .ge 97, 3) := by decide +kernel
theorem dX4_two_38 : decode cX4_two 38 = .ok (.iload 5, 2) := by decide +kernel
theorem dX4_two_40 : decode cX4_two 40 = .ok (.aload_n 0, 1) := by decide +kernel
theorem dX4_two_41 : decode cX4_two 41 = .ok (.getfield 67, 3) := by decide +kernel
theorem dX4_two_44 : decode cX4_two 44 = .ok (.iconst (-1), 1) := by decide +kernel
theorem dX4_two_45 : decode cX4_two 45 = .ok (.ixor, 1) := by decide +kernel
theorem dX4_two_46 : decode cX4_two 46 = .ok (.iand, 1) := by decide +kernel
theorem dX4_two_47 : decode cX4_two 47 = .ok (.ifCond .ne 79, 3) := by decide +kernel
theorem dX4_two_50 : decode cX4_two 50 = .ok (.aload_n 0, 1) := by decide +kernel
theorem dX4_two_51 : decode cX4_two 51 = .ok (.iload 5, 2) := by decide +kernel
theorem dX4_two_53 : decode cX4_two 53 = .ok (.bipush 99, 2) := by decide +kernel
theorem dX4_two_55 : decode cX4_two 55 = .ok (.invokevirtual 127, 3) := by decide +kernel
theorem dX4_two_58 : decode cX4_two 58 = .ok (.aload_n 0, 1) := by decide +kernel
theorem dX4_two_59 : decode cX4_two 59 = .ok (.aload_n 0, 1) := by decide +kernel
theorem dX4_two_60 : decode cX4_two 60 = .ok (.getfield 67, 3) := by decide +kernel
theorem dX4_two_63 : decode cX4_two 63 = .ok (.iload 5, 2) := by decide +kernel
theorem dX4_two_65 : decode cX4_two 65 = .ok (.iconst (-1), 1) := by decide +kernel
theorem dX4_two_66 : decode cX4_two 66 = .ok (.ixor, 1) := by decide +kernel
theorem dX4_two_67 : decode cX4_two 67 = .ok (.iand, 1) := by decide +kernel
theorem dX4_two_68 : decode cX4_two 68 = .ok (.bipush 99, 2) := by decide +kernel
theorem dX4_two_70 : decode cX4_two 70 = .ok (.invokevirtual 127, 3) := by decide +kernel
theorem dX4_two_73 : decode cX4_two 73 = .ok (.aload_n 0, 1) := by decide +kernel
theorem dX4_two_74 : decode cX4_two 74 = .ok (.aload_n 0, 1) := by decide +kernel
theorem dX4_two_75 : decode cX4_two 75 = .ok (.getfield 67, 3) := by decide +kernel
theorem dX4_two_78 : decode cX4_two 78 = .ok (.invokevirtual 134, 3) := by decide +kernel
theorem dX4_two_81 : decode cX4_two 81 = .ok (.istore 6, 2) := by decide +kernel
theorem dX4_two_83 : decode cX4_two 83 = .ok (.aload_n 0, 1) := by decide +kernel
theorem dX4_two_84 : decode cX4_two 84 = .ok (.aload_n 0, 1) := by decide +kernel
theorem dX4_two_85 : decode cX4_two 85 = .ok (.getfield 67, 3) := by decide +kernel
theorem dX4_two_88 : decode cX4_two 88 = .ok (.invokevirtual 141, 3) := by decide +kernel
theorem dX4_two_91 : decode cX4_two 91 = .ok (.istore 7, 2) := by decide +kernel
theorem dX4_two_93 : decode cX4_two 93 = .ok (.iload_n 2, 1) := by decide +kernel
theorem dX4_two_94 : decode cX4_two 94 = .ok (.ifCond .lt 22, 3) := by decide +kernel
theorem dX4_two_97 : decode cX4_two 97 = .ok (.iload 6, 2) := by decide +kernel
theorem dX4_two_99 : decode cX4_two 99 = .ok (.iload_n 3, 1) := by decide +kernel
theorem dX4_two_100 : decode cX4_two 100 = .ok (.if_icmp .lt 16, 3) := by decide +kernel
theorem dX4_two_103 : decode cX4_two 103 = .ok (.iload 6, 2) := by decide +kernel
theorem dX4_two_105 : decode cX4_two 105 = .ok (.iload_n 3, 1) := by decide +kernel
theorem dX4_two_106 : decode cX4_two 106 = .ok (.if_icmp .ne 20, 3) := by decide +kernel
theorem dX4_two_109 : decode cX4_two 109 = .ok (.iload 7, 2) := by decide +kernel
theorem dX4_two_111 : decode cX4_two 111 = .ok (.iload 4, 2) := by decide +kernel
theorem dX4_two_113 : decode cX4_two 113 = .ok (.if_icmp .ge 13, 3) := by decide +kernel
theorem dX4_two_116 : decode cX4_two 116 = .ok (.iload 5, 2) := by decide +kernel
theorem dX4_two_118 : decode cX4_two 118 = .ok (.istore_n 2, 1) := by decide +kernel
theorem dX4_two_119 : decode cX4_two 119 = .ok (.iload 6, 2) := by decide +kernel
theorem dX4_two_121 : decode cX4_two 121 = .ok (.istore_n 3, 1) := by decide +kernel
theorem dX4_two_122 : decode cX4_two 122 = .ok (.iload 7, 2) := by decide +kernel
theorem dX4_two_124 : decode cX4_two 124 = .ok (.istore 4, 2) := by decide +kernel
theorem dX4_two_126 : decode cX4_two 126 = .ok (.iinc 5 1, 3) := by decide +kernel
theorem dX4_two_129 : decode cX4_two 129 = .ok (.goto (-99), 3) := by decide +kernel
theorem dX4_two_132 : decode cX4_two 132 = .ok (.iload_n 1, 1) := by decide +kernel
theorem dX4_two_133 : decode cX4_two 133 = .ok (.ifCond .ne 7, 3) := by decide +kernel
theorem dX4_two_136 : decode cX4_two 136 = .ok (.iload_n 2, 1) := by decide +kernel
theorem dX4_two_137 : decode cX4_two 137 = .ok (.goto 14, 3) := by decide +kernel
theorem dX4_two_140 : decode cX4_two 140 = .ok (.iload_n 1, 1) := by decide +kernel
theorem dX4_two_141 : decode cX4_two 141 = .ok (.iconst 1, 1) := by decide +kernel
theorem dX4_two_142 : decode cX4_two 142 = .ok (.if_icmp .ne 7, 3) := by decide +kernel
theorem dX4_two_145 : decode cX4_two 145 = .ok (.iload_n 3, 1) := by decide +kernel
theorem dX4_two_146 : decode cX4_two 146 = .ok (.goto 5, 3) := by decide +kernel
theorem dX4_two_149 : decode cX4_two 149 = .ok (.iload 4, 2) := by decide +kernel
theorem dX4_two_151 : decode cX4_two 151 = .ok (.ireturn, 1) := by decide +kernel
theorem dX4_stay_0 : decode cX4_stay 0 = .ok (.iload_n 1, 1) := by decide +kernel
theorem dX4_stay_1 : decode cX4_stay 1 = .ok (.i2l, 1) := by decide +kernel
theorem dX4_stay_2 : decode cX4_stay 2 = .ok (.lconst 0, 1) := by decide +kernel
theorem dX4_stay_3 : decode cX4_stay 3 = .ok (.ldc2_w 149, 3) := by decide +kernel
theorem dX4_stay_6 : decode cX4_stay 6 = .ok (.invokestatic 59, 3) := by decide +kernel
theorem dX4_stay_9 : decode cX4_stay 9 = .ok (.ifCond .ne 6, 3) := by decide +kernel
theorem dX4_stay_12 : decode cX4_stay 12 = .ok (.bipush (-2), 2) := by decide +kernel
theorem dX4_stay_14 : decode cX4_stay 14 = .ok (.ireturn, 1) := by decide +kernel
theorem dX4_stay_15 : decode cX4_stay 15 = .ok (.aload_n 0, 1) := by decide +kernel
theorem dX4_stay_16 : decode cX4_stay 16 = .ok (.invokevirtual 124, 3) := by decide +kernel
theorem dX4_stay_19 : decode cX4_stay 19 = .ok (.bipush (-6), 2) := by decide +kernel
theorem dX4_stay_21 : decode cX4_stay 21 = .ok (.istore_n 2, 1) := by decide +kernel
theorem dX4_stay_22 : decode cX4_stay 22 = .ok (.iconst 0, 1) := by decide +kernel
theorem dX4_stay_23 : decode cX4_stay 23 = .ok (.istore_n 3, 1) := by decide +kernel
theorem dX4_stay_24 : decode cX4_stay 24 = .ok (.iload_n 3, 1) := by decide +kernel
theorem dX4_stay_25 : decode cX4_stay 25 = .ok (.sipush 256, 3) := by decide +kernel
theorem dX4_stay_28 : decode cX4_stay 28 = .ok (.if_icmp .ge 71, 3) := by decide +kernel
theorem dX4_stay_31 : decode cX4_stay 31 = .ok (.iload_n 3, 1) := by decide +kernel
theorem dX4_stay_32 : decode cX4_stay 32 = .ok (.aload_n 0, 1) := by decide +kernel
theorem dX4_stay_33 : decode cX4_stay 33 = .ok (.getfield 67, 3) := by decide +kernel
theorem dX4_stay_36 : decode cX4_stay 36 = .ok (.iconst (-1), 1) := by decide +kernel
theorem dX4_stay_37 : decode cX4_stay 37 = .ok (.ixor, 1) := by decide +kernel
theorem dX4_stay_38 : decode cX4_stay 38 = .ok (.iand, 1) := by decide +kernel
theorem dX4_stay_39 : decode cX4_stay 39 = .ok (.ifCond .ne 54, 3) := by decide +kernel
theorem dX4_stay_42 : decode cX4_stay 42 = .ok (.iload_n 2, 1) := by decide +kernel
theorem dX4_stay_43 : decode cX4_stay 43 = .ok (.ifCond .lt 14, 3) := by decide +kernel
theorem dX4_stay_46 : decode cX4_stay 46 = .ok (.iload_n 3, 1) := by decide +kernel
theorem dX4_stay_47 : decode cX4_stay 47 = .ok (.invokestatic 76, 3) := by decide +kernel
theorem dX4_stay_50 : decode cX4_stay 50 = .ok (.iload_n 2, 1) := by decide +kernel
theorem dX4_stay_51 : decode cX4_stay 51 = .ok (.invokestatic 76, 3) := by decide +kernel
theorem dX4_stay_54 : decode cX4_stay 54 = .ok (.if_icmp .ge 39, 3) := by decide +kernel
theorem dX4_stay_57 : decode cX4_stay 57 = .ok (.aload_n 0, 1) := by decide +kernel
theorem dX4_stay_58 : decode cX4_stay 58 = .ok (.aload_n 0, 1) := by decide +kernel
theorem dX4_stay_59 : decode cX4_stay 59 = .ok (.getfield 67, 3) := by decide +kernel
theorem dX4_stay_62 : decode cX4_stay 62 = .ok (.iload_n 3, 1) := by decide +kernel
theorem dX4_stay_63 : decode cX4_stay 63 = .ok (.iconst (-1), 1) := by decide +kernel
theorem dX4_stay_64 : decode cX4_stay 64 = .ok (.ixor, 1) := by decide +kernel
theorem dX4_stay_65 : decode cX4_stay 65 = .ok (.iand, 1) := by decide +kernel
theorem dX4_stay_66 : decode cX4_stay 66 = .ok (.bipush 99, 2) := by decide +kernel
theorem dX4_stay_68 : decode cX4_stay 68 = .ok (.invokevirtual 127, 3) := by decide +kernel
theorem dX4_stay_71 : decode cX4_stay 71 = .ok (.aload_n 0, 1) := by decide +kernel
theorem dX4_stay_72 : decode cX4_stay 72 = .ok (.aload_n 0, 1) := by decide +kernel
theorem dX4_stay_73 : decode cX4_stay 73 = .ok (.getfield 67, 3) := by decide +kernel
theorem dX4_stay_76 : decode cX4_stay 76 = .ok (.iload_n 3, 1) := by decide +kernel
theorem dX4_stay_77 : decode cX4_stay 77 = .ok (.iconst (-1), 1) := by decide +kernel
theorem dX4_stay_78 : decode cX4_stay 78 = .ok (.ixor, 1) := by decide +kernel
theorem dX4_stay_79 : decode cX4_stay 79 = .ok (.iand, 1) := by decide +kernel
theorem dX4_stay_80 : decode cX4_stay 80 = .ok (.invokevirtual 134, 3) := by decide +kernel
theorem dX4_stay_83 : decode cX4_stay 83 = .ok (.iload_n 1, 1) := by decide +kernel
theorem dX4_stay_84 : decode cX4_stay 84 = .ok (.if_icmp .gt 7, 3) := by decide +kernel
theorem dX4_stay_87 : decode cX4_stay 87 = .ok (.iload_n 3, 1) := by decide +kernel
theorem dX4_stay_88 : decode cX4_stay 88 = .ok (.goto 4, 3) := by decide +kernel
theorem dX4_stay_91 : decode cX4_stay 91 = .ok (.iload_n 2, 1) := by decide +kernel
theorem dX4_stay_92 : decode cX4_stay 92 = .ok (.istore_n 2, 1) := by decide +kernel
theorem dX4_stay_93 : decode cX4_stay 93 = .ok (.iinc 3 1, 3) := by decide +kernel
theorem dX4_stay_96 : decode cX4_stay 96 = .ok (.goto (-72), 3) := by decide +kernel
theorem dX4_stay_99 : decode cX4_stay 99 = .ok (.iload_n 2, 1) := by decide +kernel
theorem dX4_stay_100 : decode cX4_stay 100 = .ok (.ireturn, 1) := by decide +kernel
theorem dX4_day_0 : decode cX4_day 0 = .ok (.iload_n 1, 1) := by decide +kernel
theorem dX4_day_1 : decode cX4_day 1 = .ok (.i2l, 1) := by decide +kernel
theorem dX4_day_2 : decode cX4_day 2 = .ok (.lconst 0, 1) := by decide +kernel
theorem dX4_day_3 : decode cX4_day 3 = .ok (.ldc2_w 149, 3) := by decide +kernel
theorem dX4_day_6 : decode cX4_day 6 = .ok (.invokestatic 59, 3) := by decide +kernel
theorem dX4_day_9 : decode cX4_day 9 = .ok (.ifCond .eq 13, 3) := by decide +kernel
theorem dX4_day_12 : decode cX4_day 12 = .ok (.iload_n 2, 1) := by decide +kernel
theorem dX4_day_13 : decode cX4_day 13 = .ok (.i2l, 1) := by decide +kernel
theorem dX4_day_14 : decode cX4_day 14 = .ok (.lconst 0, 1) := by decide +kernel
theorem dX4_day_15 : decode cX4_day 15 = .ok (.lconst 1, 1) := by decide +kernel
theorem dX4_day_16 : decode cX4_day 16 = .ok (.invokestatic 59, 3) := by decide +kernel
theorem dX4_day_19 : decode cX4_day 19 = .ok (.ifCond .ne 6, 3) := by decide +kernel
theorem dX4_day_22 : decode cX4_day 22 = .ok (.bipush (-2), 2) := by decide +kernel
theorem dX4_day_24 : decode cX4_day 24 = .ok (.ireturn, 1) := by decide +kernel
theorem dX4_day_25 : decode cX4_day 25 = .ok (.aload_n 0, 1) := by decide +kernel
theorem dX4_day_26 : decode cX4_day 26 = .ok (.invokevirtual 124, 3) := by decide +kernel
theorem dX4_day_29 : decode cX4_day 29 = .ok (.iload_n 1, 1) := by decide +kernel
theorem dX4_day_30 : decode cX4_day 30 = .ok (.istore_n 3, 1) := by decide +kernel
theorem dX4_day_31 : decode cX4_day 31 = .ok (.iconst 0, 1) := by decide +kernel
theorem dX4_day_32 : decode cX4_day 32 = .ok (.istore 4, 2) := by decide +kernel
theorem dX4_day_34 : decode cX4_day 34 = .ok (.iload 4, 2) := by decide +kernel
theorem dX4_day_36 : decode cX4_day 36 = .ok (.bipush 8, 2) := by decide +kernel
theorem dX4_day_38 : decode cX4_day 38 = .ok (.if_icmp .ge 46, 3) := by decide +kernel
theorem dX4_day_41 : decode cX4_day 41 = .ok (.aload_n 0, 1) := by decide +kernel
theorem dX4_day_42 : decode cX4_day 42 = .ok (.iload 4, 2) := by decide +kernel
theorem dX4_day_44 : decode cX4_day 44 = .ok (.invokevirtual 80, 3) := by decide +kernel
theorem dX4_day_47 : decode cX4_day 47 = .ok (.ifCond .eq 31, 3) := by decide +kernel
theorem dX4_day_50 : decode cX4_day 50 = .ok (.ldc2_w 164, 3) := by decide +kernel
theorem dX4_day_53 : decode cX4_day 53 = .ok (.iload_n 3, 1) := by decide +kernel
theorem dX4_day_54 : decode cX4_day 54 = .ok (.i2l, 1) := by decide +kernel
theorem dX4_day_55 : decode cX4_day 55 = .ok (.lmul, 1) := by decide +kernel
theorem dX4_day_56 : decode cX4_day 56 = .ok (.ldc2_w 166, 3) := by decide +kernel
theorem dX4_day_59 : decode cX4_day 59 = .ok (.ladd, 1) := by decide +kernel
theorem dX4_day_60 : decode cX4_day 60 = .ok (.ldc2_w 168, 3) := by decide +kernel
theorem dX4_day_63 : decode cX4_day 63 = .ok (.lrem, 1) := by decide +kernel
theorem dX4_day_64 : decode cX4_day 64 = .ok (.l2i, 1) := by decide +kernel
theorem dX4_day_65 : decode cX4_day 65 = .ok (.istore_n 3, 1) := by decide +kernel
theorem dX4_day_66 : decode cX4_day 66 = .ok (.aload_n 0, 1) := by decide +kernel
theorem dX4_day_67 : decode cX4_day 67 = .ok (.getfield 28, 3) := by decide +kernel
theorem dX4_day_70 : decode cX4_day 70 = .ok (.iload 4, 2) := by decide +kernel
theorem dX4_day_72 : decode cX4_day 72 = .ok (.iload_n 3, 1) := by decide +kernel
theorem dX4_day_73 : decode cX4_day 73 = .ok (.sipush 600, 3) := by decide +kernel
theorem dX4_day_76 : decode cX4_day 76 = .ok (.irem, 1) := by decide +kernel
theorem dX4_day_77 : decode cX4_day 77 = .ok (.iastore, 1) := by decide +kernel
theorem dX4_day_78 : decode cX4_day 78 = .ok (.iinc 4 1, 3) := by decide +kernel
theorem dX4_day_81 : decode cX4_day 81 = .ok (.goto (-47), 3) := by decide +kernel
theorem dX4_day_84 : decode cX4_day 84 = .ok (.aload_n 0, 1) := by decide +kernel
theorem dX4_day_85 : decode cX4_day 85 = .ok (.aload_n 0, 1) := by decide +kernel
theorem dX4_day_86 : decode cX4_day 86 = .ok (.getfield 67, 3) := by decide +kernel
theorem dX4_day_89 : decode cX4_day 89 = .ok (.bipush 99, 2) := by decide +kernel
theorem dX4_day_91 : decode cX4_day 91 = .ok (.invokevirtual 127, 3) := by decide +kernel
theorem dX4_day_94 : decode cX4_day 94 = .ok (.iload_n 2, 1) := by decide +kernel
theorem dX4_day_95 : decode cX4_day 95 = .ok (.ifCond .ne 14, 3) := by decide +kernel
theorem dX4_day_98 : decode cX4_day 98 = .ok (.aload_n 0, 1) := by decide +kernel
theorem dX4_day_99 : decode cX4_day 99 = .ok (.aload_n 0, 1) := by decide +kernel
theorem dX4_day_100 : decode cX4_day 100 = .ok (.getfield 67, 3) := by decide +kernel
theorem dX4_day_103 : decode cX4_day 103 = .ok (.invokevirtual 134, 3) := by decide +kernel
theorem dX4_day_106 : decode cX4_day 106 = .ok (.goto 11, 3) := by decide +kernel
theorem dX4_day_109 : decode cX4_day 109 = .ok (.aload_n 0, 1) := by decide +kernel
theorem dX4_day_110 : decode cX4_day 110 = .ok (.aload_n 0, 1) := by decide +kernel
theorem dX4_day_111 : decode cX4_day 111 = .ok (.getfield 67, 3) := by decide +kernel
theorem dX4_day_114 : decode cX4_day 114 = .ok (.invokevirtual 141, 3) := by decide +kernel
theorem dX4_day_117 : decode cX4_day 117 = .ok (.ireturn, 1) := by decide +kernel
theorem dX4_pass_0 : decode cX4_pass 0 = .ok (.aload_n 0, 1) := by decide +kernel
theorem dX4_pass_1 : decode cX4_pass 1 = .ok (.getfield 170, 3) := by decide +kernel
theorem dX4_pass_4 : decode cX4_pass 4 = .ok (.ifCond .eq 7, 3) := by decide +kernel
theorem dX4_pass_7 : decode cX4_pass 7 = .ok (.iload_n 1, 1) := by decide +kernel
theorem dX4_pass_8 : decode cX4_pass 8 = .ok (.goto 12, 3) := by decide +kernel
theorem dX4_pass_11 : decode cX4_pass 11 = .ok (.aload_n 0, 1) := by decide +kernel
theorem dX4_pass_12 : decode cX4_pass 12 = .ok (.getfield 43, 3) := by decide +kernel
theorem dX4_pass_15 : decode cX4_pass 15 = .ok (.aload_n 0, 1) := by decide +kernel
theorem dX4_pass_16 : decode cX4_pass 16 = .ok (.getfield 174, 3) := by decide +kernel
theorem dX4_pass_19 : decode cX4_pass 19 = .ok (.iaload, 1) := by decide +kernel
theorem dX4_pass_20 : decode cX4_pass 20 = .ok (.istore_n 2, 1) := by decide +kernel
theorem dX4_pass_21 : decode cX4_pass 21 = .ok (.aload_n 0, 1) := by decide +kernel
theorem dX4_pass_22 : decode cX4_pass 22 = .ok (.getfield 43, 3) := by decide +kernel
theorem dX4_pass_25 : decode cX4_pass 25 = .ok (.aload_n 0, 1) := by decide +kernel
theorem dX4_pass_26 : decode cX4_pass 26 = .ok (.getfield 174, 3) := by decide +kernel
theorem dX4_pass_29 : decode cX4_pass 29 = .ok (.iload_n 2, 1) := by decide +kernel
theorem dX4_pass_30 : decode cX4_pass 30 = .ok (.iastore, 1) := by decide +kernel
theorem dX4_pass_31 : decode cX4_pass 31 = .ok (.aload_n 0, 1) := by decide +kernel
theorem dX4_pass_32 : decode cX4_pass 32 = .ok (.dup, 1) := by decide +kernel
theorem dX4_pass_33 : decode cX4_pass 33 = .ok (.getfield 174, 3) := by decide +kernel
theorem dX4_pass_36 : decode cX4_pass 36 = .ok (.iconst 1, 1) := by decide +kernel
theorem dX4_pass_37 : decode cX4_pass 37 = .ok (.iadd, 1) := by decide +kernel
theorem dX4_pass_38 : decode cX4_pass 38 = .ok (.putfield 174, 3) := by decide +kernel
theorem dX4_pass_41 : decode cX4_pass 41 = .ok (.iload_n 2, 1) := by decide +kernel
theorem dX4_pass_42 : decode cX4_pass 42 = .ok (.ireturn, 1) := by decide +kernel
theorem dX4_passAll_0 : decode cX4_passAll 0 = .ok (.aload_n 0, 1) := by decide +kernel
theorem dX4_passAll_1 : decode cX4_passAll 1 = .ok (.aload_n 0, 1) := by decide +kernel
theorem dX4_passAll_2 : decode cX4_passAll 2 = .ok (.aload_n 0, 1) := by decide +kernel
theorem dX4_passAll_3 : decode cX4_passAll 3 = .ok (.getfield 67, 3) := by decide +kernel
theorem dX4_passAll_6 : decode cX4_passAll 6 = .ok (.invokevirtual 177, 3) := by decide +kernel
theorem dX4_passAll_9 : decode cX4_passAll 9 = .ok (.putfield 67, 3) := by decide +kernel
theorem dX4_passAll_12 : decode cX4_passAll 12 = .ok (.aload_n 0, 1) := by decide +kernel
theorem dX4_passAll_13 : decode cX4_passAll 13 = .ok (.aload_n 0, 1) := by decide +kernel
theorem dX4_passAll_14 : decode cX4_passAll 14 = .ok (.aload_n 0, 1) := by decide +kernel
theorem dX4_passAll_15 : decode cX4_passAll 15 = .ok (.getfield 50, 3) := by decide +kernel
theorem dX4_passAll_18 : decode cX4_passAll 18 = .ok (.invokevirtual 177, 3) := by decide +kernel
theorem dX4_passAll_21 : decode cX4_passAll 21 = .ok (.putfield 50, 3) := by decide +kernel
theorem dX4_passAll_24 : decode cX4_passAll 24 = .ok (.aload_n 0, 1) := by decide +kernel
theorem dX4_passAll_25 : decode cX4_passAll 25 = .ok (.aload_n 0, 1) := by decide +kernel
theorem dX4_passAll_26 : decode cX4_passAll 26 = .ok (.aload_n 0, 1) := by decide +kernel
theorem dX4_passAll_27 : decode cX4_passAll 27 = .ok (.getfield 54, 3) := by decide +kernel
theorem dX4_passAll_30 : decode cX4_passAll 30 = .ok (.invokevirtual 177, 3) := by decide +kernel
theorem dX4_passAll_33 : decode cX4_passAll 33 = .ok (.putfield 54, 3) := by decide +kernel
theorem dX4_passAll_36 : decode cX4_passAll 36 = .ok (.aload_n 0, 1) := by decide +kernel
theorem dX4_passAll_37 : decode cX4_passAll 37 = .ok (.aload_n 0, 1) := by decide +kernel
theorem dX4_passAll_38 : decode cX4_passAll 38 = .ok (.aload_n 0, 1) := by decide +kernel
theorem dX4_passAll_39 : decode cX4_passAll 39 = .ok (.getfield 87, 3) := by decide +kernel
theorem dX4_passAll_42 : decode cX4_passAll 42 = .ok (.invokevirtual 177, 3) := by decide +kernel
theorem dX4_passAll_45 : decode cX4_passAll 45 = .ok (.putfield 87, 3) := by decide +kernel
theorem dX4_passAll_48 : decode cX4_passAll 48 = .ok (.aload_n 0, 1) := by decide +kernel
theorem dX4_passAll_49 : decode cX4_passAll 49 = .ok (.aload_n 0, 1) := by decide +kernel
theorem dX4_passAll_50 : decode cX4_passAll 50 = .ok (.aload_n 0, 1) := by decide +kernel
theorem dX4_passAll_51 : decode cX4_passAll 51 = .ok (.getfield 90, 3) := by decide +kernel
theorem dX4_passAll_54 : decode cX4_passAll 54 = .ok (.invokevirtual 177, 3) := by decide +kernel
theorem dX4_passAll_57 : decode cX4_passAll 57 = .ok (.putfield 90, 3) := by decide +kernel
theorem dX4_passAll_60 : decode cX4_passAll 60 = .ok (.iconst 0, 1) := by decide +kernel
theorem dX4_passAll_61 : decode cX4_passAll 61 = .ok (.istore_n 1, 1) := by decide +kernel
theorem dX4_passAll_62 : decode cX4_passAll 62 = .ok (.iload_n 1, 1) := by decide +kernel
theorem dX4_passAll_63 : decode cX4_passAll 63 = .ok (.bipush 8, 2) := by decide +kernel
theorem dX4_passAll_65 : decode cX4_passAll 65 = .ok (.if_icmp .ge 73, 3) := by decide +kernel
theorem dX4_passAll_68 : decode cX4_passAll 68 = .ok (.aload_n 0, 1) := by decide +kernel
theorem dX4_passAll_69 : decode cX4_passAll 69 = .ok (.getfield 7, 3) := by decide +kernel
theorem dX4_passAll_72 : decode cX4_passAll 72 = .ok (.iload_n 1, 1) := by decide +kernel
theorem dX4_passAll_73 : decode cX4_passAll 73 = .ok (.aload_n 0, 1) := by decide +kernel
theorem dX4_passAll_74 : decode cX4_passAll 74 = .ok (.aload_n 0, 1) := by decide +kernel
theorem dX4_passAll_75 : decode cX4_passAll 75 = .ok (.getfield 7, 3) := by decide +kernel
theorem dX4_passAll_78 : decode cX4_passAll 78 = .ok (.iload_n 1, 1) := by decide +kernel
theorem dX4_passAll_79 : decode cX4_passAll 79 = .ok (.iaload, 1) := by decide +kernel
theorem dX4_passAll_80 : decode cX4_passAll 80 = .ok (.invokevirtual 177, 3) := by decide +kernel
theorem dX4_passAll_83 : decode cX4_passAll 83 = .ok (.iastore, 1) := by decide +kernel
theorem dX4_passAll_84 : decode cX4_passAll 84 = .ok (.aload_n 0, 1) := by decide +kernel
theorem dX4_passAll_85 : decode cX4_passAll 85 = .ok (.getfield 13, 3) := by decide +kernel
theorem dX4_passAll_88 : decode cX4_passAll 88 = .ok (.iload_n 1, 1) := by decide +kernel
theorem dX4_passAll_89 : decode cX4_passAll 89 = .ok (.aload_n 0, 1) := by decide +kernel
theorem dX4_passAll_90 : decode cX4_passAll 90 = .ok (.aload_n 0, 1) := by decide +kernel
theorem dX4_passAll_91 : decode cX4_passAll 91 = .ok (.getfield 13, 3) := by decide +kernel
theorem dX4_passAll_94 : decode cX4_passAll 94 = .ok (.iload_n 1, 1) := by decide +kernel
theorem dX4_passAll_95 : decode cX4_passAll 95 = .ok (.iaload, 1) := by decide +kernel
theorem dX4_passAll_96 : decode cX4_passAll 96 = .ok (.invokevirtual 177, 3) := by decide +kernel
theorem dX4_passAll_99 : decode cX4_passAll 99 = .ok (.iastore, 1) := by decide +kernel
theorem dX4_passAll_100 : decode cX4_passAll 100 = .ok (.aload_n 0, 1) := by decide +kernel
theorem dX4_passAll_101 : decode cX4_passAll 101 = .ok (.getfield 16, 3) := by decide +kernel
theorem dX4_passAll_104 : decode cX4_passAll 104 = .ok (.iload_n 1, 1) := by decide +kernel
theorem dX4_passAll_105 : decode cX4_passAll 105 = .ok (.aload_n 0, 1) := by decide +kernel
theorem dX4_passAll_106 : decode cX4_passAll 106 = .ok (.aload_n 0, 1) := by decide +kernel
theorem dX4_passAll_107 : decode cX4_passAll 107 = .ok (.getfield 16, 3) := by decide +kernel
theorem dX4_passAll_110 : decode cX4_passAll 110 = .ok (.iload_n 1, 1) := by decide +kernel
theorem dX4_passAll_111 : decode cX4_passAll 111 = .ok (.iaload, 1) := by decide +kernel
theorem dX4_passAll_112 : decode cX4_passAll 112 = .ok (.invokevirtual 177, 3) := by decide +kernel
theorem dX4_passAll_115 : decode cX4_passAll 115 = .ok (.iastore, 1) := by decide +kernel
theorem dX4_passAll_116 : decode cX4_passAll 116 = .ok (.aload_n 0, 1) := by decide +kernel
theorem dX4_passAll_117 : decode cX4_passAll 117 = .ok (.getfield 19, 3) := by decide +kernel
theorem dX4_passAll_120 : decode cX4_passAll 120 = .ok (.iload_n 1, 1) := by decide +kernel
theorem dX4_passAll_121 : decode cX4_passAll 121 = .ok (.aload_n 0, 1) := by decide +kernel
theorem dX4_passAll_122 : decode cX4_passAll 122 = .ok (.aload_n 0, 1) := by decide +kernel
theorem dX4_passAll_123 : decode cX4_passAll 123 = .ok (.getfield 19, 3) := by decide +kernel
theorem dX4_passAll_126 : decode cX4_passAll 126 = .ok (.iload_n 1, 1) := by decide +kernel
theorem dX4_passAll_127 : decode cX4_passAll 127 = .ok (.iaload, 1) := by decide +kernel
theorem dX4_passAll_128 : decode cX4_passAll 128 = .ok (.invokevirtual 177, 3) := by decide +kernel
theorem dX4_passAll_131 : decode cX4_passAll 131 = .ok (.iastore, 1) := by decide +kernel
theorem dX4_passAll_132 : decode cX4_passAll 132 = .ok (.iinc 1 1, 3) := by decide +kernel
theorem dX4_passAll_135 : decode cX4_passAll 135 = .ok (.goto (-73), 3) := by decide +kernel
theorem dX4_passAll_138 : decode cX4_passAll 138 = .ok (.return_, 1) := by decide +kernel
theorem dX4_image_0 : decode cX4_image 0 = .ok (.iload_n 1, 1) := by decide +kernel
theorem dX4_image_1 : decode cX4_image 1 = .ok (.i2l, 1) := by decide +kernel
