theorem dX3_two_40 : decode cX3_two 40 = .ok (.aload_n 0, 1) := by decide +kernel
theorem dX3_two_41 : decode cX3_two 41 = .ok (.getfield 30, 3) := by decide +kernel
theorem dX3_two_44 : decode cX3_two 44 = .ok (.getfield 117, 3) := by decide +kernel
theorem dX3_two_47 : decode cX3_two 47 = .ok (.istore 4, 2) := by decide +kernel
theorem dX3_two_49 : decode cX3_two 49 = .ok (.iconst 1, 1) := by decide +kernel
theorem dX3_two_50 : decode cX3_two 50 = .ok (.istore 5, 2) := by decide +kernel
theorem dX3_two_52 : decode cX3_two 52 = .ok (.iload 5, 2) := by decide +kernel
theorem dX3_two_54 : decode cX3_two 54 = .ok (.aload_n 0, 1) := by decide +kernel
theorem dX3_two_55 : decode cX3_two 55 = .ok (.getfield 10, 3) := by decide +kernel
theorem dX3_two_58 : decode cX3_two 58 = .ok (.getfield 58, 3) := by decide +kernel
theorem dX3_two_61 : decode cX3_two 61 = .ok (.if_icmp .gt 141, 3) := by decide +kernel
theorem dX3_two_64 : decode cX3_two 64 = .ok (.aload_n 0, 1) := by decide +kernel
theorem dX3_two_65 : decode cX3_two 65 = .ok (.getfield 10, 3) := by decide +kernel
theorem dX3_two_68 : decode cX3_two 68 = .ok (.getfield 58, 3) := by decide +kernel
theorem dX3_two_71 : decode cX3_two 71 = .ok (.iload 5, 2) := by decide +kernel
theorem dX3_two_73 : decode cX3_two 73 = .ok (.iconst (-1), 1) := by decide +kernel
theorem dX3_two_74 : decode cX3_two 74 = .ok (.ixor, 1) := by decide +kernel
theorem dX3_two_75 : decode cX3_two 75 = .ok (.iand, 1) := by decide +kernel
theorem dX3_two_76 : decode cX3_two 76 = .ok (.istore 6, 2) := by decide +kernel
theorem dX3_two_78 : decode cX3_two 78 = .ok (.iload 5, 2) := by decide +kernel
theorem dX3_two_80 : decode cX3_two 80 = .ok (.aload_n 0, 1) := by decide +kernel
theorem dX3_two_81 : decode cX3_two 81 = .ok (.getfield 10, 3) := by decide +kernel
theorem dX3_two_84 : decode cX3_two 84 = .ok (.getfield 58, 3) := by decide +kernel
theorem dX3_two_87 : decode cX3_two 87 = .ok (.iconst (-1), 1) := by decide +kernel
theorem dX3_two_88 : decode cX3_two 88 = .ok (.ixor, 1) := by decide +kernel
theorem dX3_two_89 : decode cX3_two 89 = .ok (.iand, 1) := by decide +kernel
theorem dX3_two_90 : decode cX3_two 90 = .ok (.ifCond .ne 106, 3) := by decide +kernel
theorem dX3_two_93 : decode cX3_two 93 = .ok (.iload 5, 2) := by decide +kernel
theorem dX3_two_95 : decode cX3_two 95 = .ok (.iload 6, 2) := by decide +kernel
theorem dX3_two_97 : decode cX3_two 97 = .ok (.if_icmp .le 6, 3) := by decide +kernel
theorem dX3_two_100 : decode cX3_two 100 = .ok (.goto 96, 3) := by decide +kernel
theorem dX3_two_103 : decode cX3_two 103 = .ok (.aload_n 0, 1) := by decide +kernel
theorem dX3_two_104 : decode cX3_two 104 = .ok (.getfield 30, 3) := by decide +kernel
theorem dX3_two_107 : decode cX3_two 107 = .ok (.aload_n 0, 1) := by decide +kernel
theorem dX3_two_108 : decode cX3_two 108 = .ok (.getfield 10, 3) := by decide +kernel
theorem dX3_two_111 : decode cX3_two 111 = .ok (.iload 5, 2) := by decide +kernel
theorem dX3_two_113 : decode cX3_two 113 = .ok (.invokevirtual 94, 3) := by decide +kernel
theorem dX3_two_116 : decode cX3_two 116 = .ok (.aload_n 0, 1) := by decide +kernel
theorem dX3_two_117 : decode cX3_two 117 = .ok (.getfield 30, 3) := by decide +kernel
theorem dX3_two_120 : decode cX3_two 120 = .ok (.getfield 110, 3) := by decide +kernel
theorem dX3_two_123 : decode cX3_two 123 = .ok (.istore 7, 2) := by decide +kernel
theorem dX3_two_125 : decode cX3_two 125 = .ok (.aload_n 0, 1) := by decide +kernel
theorem dX3_two_126 : decode cX3_two 126 = .ok (.getfield 30, 3) := by decide +kernel
theorem dX3_two_129 : decode cX3_two 129 = .ok (.getfield 117, 3) := by decide +kernel
theorem dX3_two_132 : decode cX3_two 132 = .ok (.istore 8, 2) := by decide +kernel
theorem dX3_two_134 : decode cX3_two 134 = .ok (.aload_n 0, 1) := by decide +kernel
theorem dX3_two_135 : decode cX3_two 135 = .ok (.getfield 30, 3) := by decide +kernel
theorem dX3_two_138 : decode cX3_two 138 = .ok (.aload_n 0, 1) := by decide +kernel
theorem dX3_two_139 : decode cX3_two 139 = .ok (.getfield 10, 3) := by decide +kernel
theorem dX3_two_142 : decode cX3_two 142 = .ok (.iload 6, 2) := by decide +kernel
theorem dX3_two_144 : decode cX3_two 144 = .ok (.invokevirtual 94, 3) := by decide +kernel
theorem dX3_two_147 : decode cX3_two 147 = .ok (.iload 7, 2) := by decide +kernel
theorem dX3_two_149 : decode cX3_two 149 = .ok (.aload_n 0, 1) := by decide +kernel
theorem dX3_two_150 : decode cX3_two 150 = .ok (.getfield 30, 3) := by decide +kernel
theorem dX3_two_153 : decode cX3_two 153 = .ok (.getfield 110, 3) := by decide +kernel
theorem dX3_two_156 : decode cX3_two 156 = .ok (.invokestatic 165, 3) := by decide +kernel
theorem dX3_two_159 : decode cX3_two 159 = .ok (.istore 9, 2) := by decide +kernel
theorem dX3_two_161 : decode cX3_two 161 = .ok (.iload 8, 2) := by decide +kernel
theorem dX3_two_163 : decode cX3_two 163 = .ok (.aload_n 0, 1) := by decide +kernel
theorem dX3_two_164 : decode cX3_two 164 = .ok (.getfield 30, 3) := by decide +kernel
theorem dX3_two_167 : decode cX3_two 167 = .ok (.getfield 117, 3) := by decide +kernel
theorem dX3_two_170 : decode cX3_two 170 = .ok (.iadd, 1) := by decide +kernel
theorem dX3_two_171 : decode cX3_two 171 = .ok (.istore 10, 2) := by decide +kernel
theorem dX3_two_173 : decode cX3_two 173 = .ok (.iload 9, 2) := by decide +kernel
theorem dX3_two_175 : decode cX3_two 175 = .ok (.iload 10, 2) := by decide +kernel
theorem dX3_two_177 : decode cX3_two 177 = .ok (.iload_n 3, 1) := by decide +kernel
theorem dX3_two_178 : decode cX3_two 178 = .ok (.iload 4, 2) := by decide +kernel
theorem dX3_two_180 : decode cX3_two 180 = .ok (.invokestatic 158, 3) := by decide +kernel
theorem dX3_two_183 : decode cX3_two 183 = .ok (.ifCond .eq 13, 3) := by decide +kernel
theorem dX3_two_186 : decode cX3_two 186 = .ok (.iload 5, 2) := by decide +kernel
theorem dX3_two_188 : decode cX3_two 188 = .ok (.istore_n 2, 1) := by decide +kernel
theorem dX3_two_189 : decode cX3_two 189 = .ok (.iload 9, 2) := by decide +kernel
theorem dX3_two_191 : decode cX3_two 191 = .ok (.istore_n 3, 1) := by decide +kernel
theorem dX3_two_192 : decode cX3_two 192 = .ok (.iload 10, 2) := by decide +kernel
theorem dX3_two_194 : decode cX3_two 194 = .ok (.istore 4, 2) := by decide +kernel
theorem dX3_two_196 : decode cX3_two 196 = .ok (.iinc 5 1, 3) := by decide +kernel
theorem dX3_two_199 : decode cX3_two 199 = .ok (.goto (-147), 3) := by decide +kernel
theorem dX3_two_202 : decode cX3_two 202 = .ok (.iload_n 1, 1) := by decide +kernel
theorem dX3_two_203 : decode cX3_two 203 = .ok (.lookupswitch 29 #[(0, 25), (1, 27)], 25) := by decide +kernel
theorem dX3_two_228 : decode cX3_two 228 = .ok (.iload_n 2, 1) := by decide +kernel
theorem dX3_two_229 : decode cX3_two 229 = .ok (.ireturn, 1) := by decide +kernel
theorem dX3_two_230 : decode cX3_two 230 = .ok (.iload_n 3, 1) := by decide +kernel
theorem dX3_two_231 : decode cX3_two 231 = .ok (.ireturn, 1) := by decide +kernel
theorem dX3_two_232 : decode cX3_two 232 = .ok (.iload 4, 2) := by decide +kernel
theorem dX3_two_234 : decode cX3_two 234 = .ok (.ireturn, 1) := by decide +kernel
theorem dX3_stay_0 : decode cX3_stay 0 = .ok (.iload_n 1, 1) := by decide +kernel
theorem dX3_stay_1 : decode cX3_stay 1 = .ok (.iconst 0, 1) := by decide +kernel
theorem dX3_stay_2 : decode cX3_stay 2 = .ok (.sipush 9999, 3) := by decide +kernel
theorem dX3_stay_5 : decode cX3_stay 5 = .ok (.invokestatic 41, 3) := by decide +kernel
theorem dX3_stay_8 : decode cX3_stay 8 = .ok (.ifCond .ne 6, 3) := by decide +kernel
theorem dX3_stay_11 : decode cX3_stay 11 = .ok (.bipush (-2), 2) := by decide +kernel
theorem dX3_stay_13 : decode cX3_stay 13 = .ok (.ireturn, 1) := by decide +kernel
theorem dX3_stay_14 : decode cX3_stay 14 = .ok (.aload_n 0, 1) := by decide +kernel
theorem dX3_stay_15 : decode cX3_stay 15 = .ok (.getfield 10, 3) := by decide +kernel
theorem dX3_stay_18 : decode cX3_stay 18 = .ok (.getfield 58, 3) := by decide +kernel
theorem dX3_stay_21 : decode cX3_stay 21 = .ok (.istore_n 2, 1) := by decide +kernel
theorem dX3_stay_22 : decode cX3_stay 22 = .ok (.iconst 0, 1) := by decide +kernel
theorem dX3_stay_23 : decode cX3_stay 23 = .ok (.istore_n 3, 1) := by decide +kernel
theorem dX3_stay_24 : decode cX3_stay 24 = .ok (.iload_n 3, 1) := by decide +kernel
theorem dX3_stay_25 : decode cX3_stay 25 = .ok (.aload_n 0, 1) := by decide +kernel
theorem dX3_stay_26 : decode cX3_stay 26 = .ok (.getfield 10, 3) := by decide +kernel
theorem dX3_stay_29 : decode cX3_stay 29 = .ok (.getfield 58, 3) := by decide +kernel
theorem dX3_stay_32 : decode cX3_stay 32 = .ok (.if_icmp .ge 69, 3) := by decide +kernel
theorem dX3_stay_35 : decode cX3_stay 35 = .ok (.iload_n 3, 1) := by decide +kernel
theorem dX3_stay_36 : decode cX3_stay 36 = .ok (.aload_n 0, 1) := by decide +kernel
theorem dX3_stay_37 : decode cX3_stay 37 = .ok (.getfield 10, 3) := by decide +kernel
theorem dX3_stay_40 : decode cX3_stay 40 = .ok (.getfield 58, 3) := by decide +kernel
theorem dX3_stay_43 : decode cX3_stay 43 = .ok (.iconst (-1), 1) := by decide +kernel
theorem dX3_stay_44 : decode cX3_stay 44 = .ok (.ixor, 1) := by decide +kernel
theorem dX3_stay_45 : decode cX3_stay 45 = .ok (.iand, 1) := by decide +kernel
theorem dX3_stay_46 : decode cX3_stay 46 = .ok (.ifCond .ne 49, 3) := by decide +kernel
theorem dX3_stay_49 : decode cX3_stay 49 = .ok (.iload_n 3, 1) := by decide +kernel
theorem dX3_stay_50 : decode cX3_stay 50 = .ok (.invokestatic 62, 3) := by decide +kernel
theorem dX3_stay_53 : decode cX3_stay 53 = .ok (.iload_n 2, 1) := by decide +kernel
theorem dX3_stay_54 : decode cX3_stay 54 = .ok (.invokestatic 62, 3) := by decide +kernel
theorem dX3_stay_57 : decode cX3_stay 57 = .ok (.if_icmp .ge 38, 3) := by decide +kernel
theorem dX3_stay_60 : decode cX3_stay 60 = .ok (.aload_n 0, 1) := by decide +kernel
theorem dX3_stay_61 : decode cX3_stay 61 = .ok (.getfield 30, 3) := by decide +kernel
theorem dX3_stay_64 : decode cX3_stay 64 = .ok (.aload_n 0, 1) := by decide +kernel
theorem dX3_stay_65 : decode cX3_stay 65 = .ok (.getfield 10, 3) := by decide +kernel
theorem dX3_stay_68 : decode cX3_stay 68 = .ok (.aload_n 0, 1) := by decide +kernel
theorem dX3_stay_69 : decode cX3_stay 69 = .ok (.getfield 10, 3) := by decide +kernel
theorem dX3_stay_72 : decode cX3_stay 72 = .ok (.getfield 58, 3) := by decide +kernel
theorem dX3_stay_75 : decode cX3_stay 75 = .ok (.iload_n 3, 1) := by decide +kernel
theorem dX3_stay_76 : decode cX3_stay 76 = .ok (.iconst (-1), 1) := by decide +kernel
theorem dX3_stay_77 : decode cX3_stay 77 = .ok (.ixor, 1) := by decide +kernel
theorem dX3_stay_78 : decode cX3_stay 78 = .ok (.iand, 1) := by decide +kernel
theorem dX3_stay_79 : decode cX3_stay 79 = .ok (.invokevirtual 94, 3) := by decide +kernel
theorem dX3_stay_82 : decode cX3_stay 82 = .ok (.aload_n 0, 1) := by decide +kernel
theorem dX3_stay_83 : decode cX3_stay 83 = .ok (.getfield 30, 3) := by decide +kernel
theorem dX3_stay_86 : decode cX3_stay 86 = .ok (.getfield 110, 3) := by decide +kernel
theorem dX3_stay_89 : decode cX3_stay 89 = .ok (.iload_n 1, 1) := by decide +kernel
theorem dX3_stay_90 : decode cX3_stay 90 = .ok (.if_icmp .gt 5, 3) := by decide +kernel
theorem dX3_stay_93 : decode cX3_stay 93 = .ok (.iload_n 3, 1) := by decide +kernel
theorem dX3_stay_94 : decode cX3_stay 94 = .ok (.istore_n 2, 1) := by decide +kernel
theorem dX3_stay_95 : decode cX3_stay 95 = .ok (.iinc 3 1, 3) := by decide +kernel
theorem dX3_stay_98 : decode cX3_stay 98 = .ok (.goto (-74), 3) := by decide +kernel
theorem dX3_stay_101 : decode cX3_stay 101 = .ok (.iload_n 2, 1) := by decide +kernel
theorem dX3_stay_102 : decode cX3_stay 102 = .ok (.ireturn, 1) := by decide +kernel
theorem dX3_day_0 : decode cX3_day 0 = .ok (.iload_n 1, 1) := by decide +kernel
theorem dX3_day_1 : decode cX3_day 1 = .ok (.iconst 0, 1) := by decide +kernel
theorem dX3_day_2 : decode cX3_day 2 = .ok (.sipush 9999, 3) := by decide +kernel
theorem dX3_day_5 : decode cX3_day 5 = .ok (.invokestatic 41, 3) := by decide +kernel
theorem dX3_day_8 : decode cX3_day 8 = .ok (.ifCond .eq 12, 3) := by decide +kernel
theorem dX3_day_11 : decode cX3_day 11 = .ok (.iload_n 2, 1) := by decide +kernel
theorem dX3_day_12 : decode cX3_day 12 = .ok (.iconst 0, 1) := by decide +kernel
theorem dX3_day_13 : decode cX3_day 13 = .ok (.iconst 1, 1) := by decide +kernel
theorem dX3_day_14 : decode cX3_day 14 = .ok (.invokestatic 41, 3) := by decide +kernel
theorem dX3_day_17 : decode cX3_day 17 = .ok (.ifCond .ne 6, 3) := by decide +kernel
theorem dX3_day_20 : decode cX3_day 20 = .ok (.bipush (-2), 2) := by decide +kernel
theorem dX3_day_22 : decode cX3_day 22 = .ok (.ireturn, 1) := by decide +kernel
theorem dX3_day_23 : decode cX3_day 23 = .ok (.aload_n 0, 1) := by decide +kernel
theorem dX3_day_24 : decode cX3_day 24 = .ok (.getfield 16, 3) := by decide +kernel
theorem dX3_day_27 : decode cX3_day 27 = .ok (.aload_n 0, 1) := by decide +kernel
theorem dX3_day_28 : decode cX3_day 28 = .ok (.getfield 10, 3) := by decide +kernel
theorem dX3_day_31 : decode cX3_day 31 = .ok (.invokevirtual 151, 3) := by decide +kernel
theorem dX3_day_34 : decode cX3_day 34 = .ok (.iload_n 1, 1) := by decide +kernel
theorem dX3_day_35 : decode cX3_day 35 = .ok (.istore_n 3, 1) := by decide +kernel
theorem dX3_day_36 : decode cX3_day 36 = .ok (.iconst 0, 1) := by decide +kernel
theorem dX3_day_37 : decode cX3_day 37 = .ok (.istore 4, 2) := by decide +kernel
theorem dX3_day_39 : decode cX3_day 39 = .ok (.iload 4, 2) := by decide +kernel
theorem dX3_day_41 : decode cX3_day 41 = .ok (.bipush 8, 2) := by decide +kernel
theorem dX3_day_43 : decode cX3_day 43 = .ok (.if_icmp .ge 47, 3) := by decide +kernel
theorem dX3_day_46 : decode cX3_day 46 = .ok (.aload_n 0, 1) := by decide +kernel
theorem dX3_day_47 : decode cX3_day 47 = .ok (.getfield 10, 3) := by decide +kernel
theorem dX3_day_50 : decode cX3_day 50 = .ok (.iload 4, 2) := by decide +kernel
theorem dX3_day_52 : decode cX3_day 52 = .ok (.invokevirtual 68, 3) := by decide +kernel
theorem dX3_day_55 : decode cX3_day 55 = .ok (.ifCond .eq 29, 3) := by decide +kernel
theorem dX3_day_58 : decode cX3_day 58 = .ok (.bipush 75, 2) := by decide +kernel
theorem dX3_day_60 : decode cX3_day 60 = .ok (.iload_n 3, 1) := by decide +kernel
theorem dX3_day_61 : decode cX3_day 61 = .ok (.imul, 1) := by decide +kernel
theorem dX3_day_62 : decode cX3_day 62 = .ok (.bipush 74, 2) := by decide +kernel
theorem dX3_day_64 : decode cX3_day 64 = .ok (.iadd, 1) := by decide +kernel
theorem dX3_day_65 : decode cX3_day 65 = .ok (.ldc 168, 2) := by decide +kernel
theorem dX3_day_67 : decode cX3_day 67 = .ok (.irem, 1) := by decide +kernel
theorem dX3_day_68 : decode cX3_day 68 = .ok (.istore_n 3, 1) := by decide +kernel
theorem dX3_day_69 : decode cX3_day 69 = .ok (.aload_n 0, 1) := by decide +kernel
theorem dX3_day_70 : decode cX3_day 70 = .ok (.getfield 16, 3) := by decide +kernel
theorem dX3_day_73 : decode cX3_day 73 = .ok (.getfield 49, 3) := by decide +kernel
theorem dX3_day_76 : decode cX3_day 76 = .ok (.iload 4, 2) := by decide +kernel
theorem dX3_day_78 : decode cX3_day 78 = .ok (.iload_n 3, 1) := by decide +kernel
theorem dX3_day_79 : decode cX3_day 79 = .ok (.sipush 600, 3) := by decide +kernel
theorem dX3_day_82 : decode cX3_day 82 = .ok (.irem, 1) := by decide +kernel
theorem dX3_day_83 : decode cX3_day 83 = .ok (.iastore, 1) := by decide +kernel
theorem dX3_day_84 : decode cX3_day 84 = .ok (.iinc 4 1, 3) := by decide +kernel
theorem dX3_day_87 : decode cX3_day 87 = .ok (.goto (-48), 3) := by decide +kernel
theorem dX3_day_90 : decode cX3_day 90 = .ok (.aload_n 0, 1) := by decide +kernel
theorem dX3_day_91 : decode cX3_day 91 = .ok (.getfield 30, 3) := by decide +kernel
theorem dX3_day_94 : decode cX3_day 94 = .ok (.aload_n 0, 1) := by decide +kernel
theorem dX3_day_95 : decode cX3_day 95 = .ok (.getfield 16, 3) := by decide +kernel
theorem dX3_day_98 : decode cX3_day 98 = .ok (.aload_n 0, 1) := by decide +kernel
theorem dX3_day_99 : decode cX3_day 99 = .ok (.getfield 16, 3) := by decide +kernel
theorem dX3_day_102 : decode cX3_day 102 = .ok (.getfield 58, 3) := by decide +kernel
theorem dX3_day_105 : decode cX3_day 105 = .ok (.invokevirtual 94, 3) := by decide +kernel
theorem dX3_day_108 : decode cX3_day 108 = .ok (.iload_n 2, 1) := by decide +kernel
theorem dX3_day_109 : decode cX3_day 109 = .ok (.ifCond .ne 13, 3) := by decide +kernel
theorem dX3_day_112 : decode cX3_day 112 = .ok (.aload_n 0, 1) := by decide +kernel
theorem dX3_day_113 : decode cX3_day 113 = .ok (.getfield 30, 3) := by decide +kernel
theorem dX3_day_116 : decode cX3_day 116 = .ok (.getfield 110, 3) := by decide +kernel
theorem dX3_day_119 : decode cX3_day 119 = .ok (.goto 10, 3) := by decide +kernel
theorem dX3_day_122 : decode cX3_day 122 = .ok (.aload_n 0, 1) := by decide +kernel
theorem dX3_day_123 : decode cX3_day 123 = .ok (.getfield 30, 3) := by decide +kernel
theorem dX3_day_126 : decode cX3_day 126 = .ok (.getfield 117, 3) := by decide +kernel
theorem dX3_day_129 : decode cX3_day 129 = .ok (.ireturn, 1) := by decide +kernel
theorem dX3_image_0 : decode cX3_image 0 = .ok (.iload_n 1, 1) := by decide +kernel
theorem dX3_image_1 : decode cX3_image 1 = .ok (.iconst 0, 1) := by decide +kernel
theorem dX3_image_2 : decode cX3_image 2 = .ok (.iconst 1, 1) := by decide +kernel
theorem dX3_image_3 : decode cX3_image 3 = .ok (.invokestatic 41, 3) := by decide +kernel
theorem dX3_image_6 : decode cX3_image 6 = .ok (.ifCond .ne 6, 3) := by decide +kernel
theorem dX3_image_9 : decode cX3_image 9 = .ok (.bipush (-2), 2) := by decide +kernel
theorem dX3_image_11 : decode cX3_image 11 = .ok (.ireturn, 1) := by decide +kernel
theorem dX3_image_12 : decode cX3_image 12 = .ok (.aload_n 0, 1) := by decide +kernel
theorem dX3_image_13 : decode cX3_image 13 = .ok (.getfield 19, 3) := by decide +kernel
theorem dX3_image_16 : decode cX3_image 16 = .ok (.iload_n 1, 1) := by decide +kernel
theorem dX3_image_17 : decode cX3_image 17 = .ok (.aaload, 1) := by decide +kernel
theorem dX3_image_18 : decode cX3_image 18 = .ok (.aload_n 0, 1) := by decide +kernel
theorem dX3_image_19 : decode cX3_image 19 = .ok (.getfield 10, 3) := by decide +kernel
theorem dX3_image_22 : decode cX3_image 22 = .ok (.invokevirtual 151, 3) := by decide +kernel
theorem dX3_image_25 : decode cX3_image 25 = .ok (.aload_n 0, 1) := by decide +kernel
theorem dX3_image_26 : decode cX3_image 26 = .ok (.getfield 23, 3) := by decide +kernel
theorem dX3_image_29 : decode cX3_image 29 = .ok (.iload_n 1, 1) := by decide +kernel
theorem dX3_image_30 : decode cX3_image 30 = .ok (.iconst 1, 1) := by decide +kernel
theorem dX3_image_31 : decode cX3_image 31 = .ok (.bastore, 1) := by decide +kernel
theorem dX3_image_32 : decode cX3_image 32 = .ok (.iconst 1, 1) := by decide +kernel
theorem dX3_image_33 : decode cX3_image 33 = .ok (.ireturn, 1) := by decide +kernel
theorem dX3_restore_0 : decode cX3_restore 0 = .ok (.iload_n 1, 1) := by decide +kernel
theorem dX3_restore_1 : decode cX3_restore 1 = .ok (.iconst 0, 1) := by decide +kernel
theorem dX3_restore_2 : decode cX3_restore 2 = .ok (.iconst 1, 1) := by decide +kernel
theorem dX3_restore_3 : decode cX3_restore 3 = .ok (.invokestatic 41, 3) := by decide +kernel
theorem dX3_restore_6 : decode cX3_restore 6 = .ok (.ifCond .ne 6, 3) := by decide +kernel
theorem dX3_restore_9 : decode cX3_restore 9 = .ok (.bipush (-2), 2) := by decide +kernel
theorem dX3_restore_11 : decode cX3_restore 11 = .ok (.ireturn, 1) := by decide +kernel
theorem dX3_restore_12 : decode cX3_restore 12 = .ok (.aload_n 0, 1) := by decide +kernel
theorem dX3_restore_13 : decode cX3_restore 13 = .ok (.getfield 23, 3) := by decide +kernel
theorem dX3_restore_16 : decode cX3_restore 16 = .ok (.iload_n 1, 1) := by decide +kernel
theorem dX3_restore_17 : decode cX3_restore 17 = .ok (.baload, 1) := by decide +kernel
theorem dX3_restore_18 : decode cX3_restore 18 = .ok (.ifCond .ne 6, 3) := by decide +kernel
theorem dX3_restore_21 : decode cX3_restore 21 = .ok (.bipush (-3), 2) := by decide +kernel
theorem dX3_restore_23 : decode cX3_restore 23 = .ok (.ireturn, 1) := by decide +kernel
theorem dX3_restore_24 : decode cX3_restore 24 = .ok (.aload_n 0, 1) := by decide +kernel
theorem dX3_restore_25 : decode cX3_restore 25 = .ok (.getfield 10, 3) := by decide +kernel
theorem dX3_restore_28 : decode cX3_restore 28 = .ok (.aload_n 0, 1) := by decide +kernel
theorem dX3_restore_29 : decode cX3_restore 29 = .ok (.getfield 19, 3) := by decide +kernel
theorem dX3_restore_32 : decode cX3_restore 32 = .ok (.iload_n 1, 1) := by decide +kernel
theorem dX3_restore_33 : decode cX3_restore 33 = .ok (.aaload, 1) := by decide +kernel
theorem dX3_restore_34 : decode cX3_restore 34 = .ok (.invokevirtual 151, 3) := by decide +kernel
theorem dX3_restore_37 : decode cX3_restore 37 = .ok (.iconst 1, 1) := by decide +kernel
theorem dX3_restore_38 : decode cX3_restore 38 = .ok (.ireturn, 1) := by decide +kernel
theorem dX3_told_0 : decode cX3_told 0 = .ok (.iload_n 1, 1) := by decide +kernel
theorem dX3_told_1 : decode cX3_told 1 = .ok (.iconst 0, 1) := by decide +kernel
theorem dX3_told_2 : decode cX3_told 2 = .ok (.iconst 5, 1) := by decide +kernel
theorem dX3_told_3 : decode cX3_told 3 = .ok (.invokestatic 41, 3) := by decide +kernel
theorem dX3_told_6 : decode cX3_told 6 = .ok (.ifCond .ne 6, 3) := by decide +kernel
theorem dX3_told_9 : decode cX3_told 9 = .ok (.bipush (-2), 2) := by decide +kernel
theorem dX3_told_11 : decode cX3_told 11 = .ok (.ireturn, 1) := by decide +kernel
theorem dX3_told_12 : decode cX3_told 12 = .ok (.iload_n 1, 1) := by decide +kernel
theorem dX3_told_13 : decode cX3_told 13 = .ok (.ifCond .ne 11, 3) := by decide +kernel
theorem dX3_told_16 : decode cX3_told 16 = .ok (.aload_n 0, 1) := by decide +kernel
theorem dX3_told_17 : decode cX3_told 17 = .ok (.getfield 37, 3) := by decide +kernel
theorem dX3_told_20 : decode cX3_told 20 = .ok (.getfield 88, 3) := by decide +kernel
theorem dX3_told_23 : decode cX3_told 23 = .ok (.ireturn, 1) := by decide +kernel
theorem dX3_told_24 : decode cX3_told 24 = .ok (.iload_n 1, 1) := by decide +kernel
theorem dX3_told_25 : decode cX3_told 25 = .ok (.iconst 5, 1) := by decide +kernel
theorem dX3_told_26 : decode cX3_told 26 = .ok (.if_icmp .ne 13, 3) := by decide +kernel
theorem dX3_told_29 : decode cX3_told 29 = .ok (.aload_n 0, 1) := by decide +kernel
theorem dX3_told_30 : decode cX3_told 30 = .ok (.getfield 10, 3) := by decide +kernel
theorem dX3_told_33 : decode cX3_told 33 = .ok (.getfield 58, 3) := by decide +kernel
theorem dX3_told_36 : decode cX3_told 36 = .ok (.goto 13, 3) := by decide +kernel
theorem dX3_told_39 : decode cX3_told 39 = .ok (.aload_n 0, 1) := by decide +kernel
theorem dX3_told_40 : decode cX3_told 40 = .ok (.getfield 10, 3) := by decide +kernel
theorem dX3_told_43 : decode cX3_told 43 = .ok (.iload_n 1, 1) := by decide +kernel
theorem dX3_told_44 : decode cX3_told 44 = .ok (.iconst 1, 1) := by decide +kernel
theorem dX3_told_45 : decode cX3_told 45 = .ok (.isub, 1) := by decide +kernel
theorem dX3_told_46 : decode cX3_told 46 = .ok (.invokevirtual 78, 3) := by decide +kernel
theorem dX3_told_49 : decode cX3_told 49 = .ok (.ireturn, 1) := by decide +kernel
theorem dX3_within_0 : decode cX3_within 0 = .ok (.iload_n 0, 1) := by decide +kernel
theorem dX3_within_1 : decode cX3_within 1 = .ok (.iload_n 1, 1) := by decide +kernel
theorem dX3_within_2 : decode cX3_within 2 = .ok (.if_icmp .lt 12, 3) := by decide +kernel
theorem dX3_within_5 : decode cX3_within 5 = .ok (.iload_n 0, 1) := by decide +kernel
theorem dX3_within_6 : decode cX3_within 6 = .ok (.iload_n 2, 1) := by decide +kernel
theorem dX3_within_7 : decode cX3_within 7 = .ok (.if_icmp .gt 7, 3) := by decide +kernel
theorem dX3_within_10 : decode cX3_within 10 = .ok (.iconst 1, 1) := by decide +kernel
theorem dX3_within_11 : decode cX3_within 11 = .ok (.goto 4, 3) := by decide +kernel
theorem dX3_within_14 : decode cX3_within 14 = .ok (.iconst 0, 1) := by decide +kernel
theorem dX3_within_15 : decode cX3_within 15 = .ok (.ireturn, 1) := by decide +kernel
theorem dX3_leastOf_0 : decode cX3_leastOf 0 = .ok (.iload_n 0, 1) := by decide +kernel
theorem dX3_leastOf_1 : decode cX3_leastOf 1 = .ok (.ifCond .ne 7, 3) := by decide +kernel
theorem dX3_leastOf_4 : decode cX3_leastOf 4 = .ok (.iconst 1, 1) := by decide +kernel
theorem dX3_leastOf_5 : decode cX3_leastOf 5 = .ok (.goto 4, 3) := by decide +kernel
theorem dX3_leastOf_8 : decode cX3_leastOf 8 = .ok (.iconst 0, 1) := by decide +kernel
theorem dX3_leastOf_9 : decode cX3_leastOf 9 = .ok (.ireturn, 1) := by decide +kernel
theorem dX3_mostOf_0 : decode cX3_mostOf 0 = .ok (.iload_n 0, 1) := by decide +kernel
theorem dX3_mostOf_1 : decode cX3_mostOf 1 = .ok (.lookupswitch 32 #[(0, 27), (3, 30)], 27) := by decide +kernel
theorem dX3_mostOf_28 : decode cX3_mostOf 28 = .ok (.bipush 20, 2) := by decide +kernel
theorem dX3_mostOf_30 : decode cX3_mostOf 30 = .ok (.ireturn, 1) := by decide +kernel
theorem dX3_mostOf_31 : decode cX3_mostOf 31 = .ok (.iconst 1, 1) := by decide +kernel
theorem dX3_mostOf_32 : decode cX3_mostOf 32 = .ok (.ireturn, 1) := by decide +kernel
theorem dX3_mostOf_33 : decode cX3_mostOf 33 = .ok (.bipush 9, 2) := by decide +kernel
theorem dX3_mostOf_35 : decode cX3_mostOf 35 = .ok (.ireturn, 1) := by decide +kernel
theorem dX3_leaveOut_0 : decode cX3_leaveOut 0 = .ok (.aload_n 0, 1) := by decide +kernel
theorem dX3_leaveOut_1 : decode cX3_leaveOut 1 = .ok (.getfield 16, 3) := by decide +kernel
theorem dX3_leaveOut_4 : decode cX3_leaveOut 4 = .ok (.aload_n 0, 1) := by decide +kernel
theorem dX3_leaveOut_5 : decode cX3_leaveOut 5 = .ok (.getfield 10, 3) := by decide +kernel
theorem dX3_leaveOut_8 : decode cX3_leaveOut 8 = .ok (.invokevirtual 151, 3) := by decide +kernel
theorem dX3_leaveOut_11 : decode cX3_leaveOut 11 = .ok (.aload_n 0, 1) := by decide +kernel
theorem dX3_leaveOut_12 : decode cX3_leaveOut 12 = .ok (.getfield 30, 3) := by decide +kernel
theorem dX3_leaveOut_15 : decode cX3_leaveOut 15 = .ok (.aload_n 0, 1) := by decide +kernel
theorem dX3_leaveOut_16 : decode cX3_leaveOut 16 = .ok (.getfield 10, 3) := by decide +kernel
theorem dX3_leaveOut_19 : decode cX3_leaveOut 19 = .ok (.aload_n 0, 1) := by decide +kernel
theorem dX3_leaveOut_20 : decode cX3_leaveOut 20 = .ok (.getfield 10, 3) := by decide +kernel
theorem dX3_leaveOut_23 : decode cX3_leaveOut 23 = .ok (.getfield 58, 3) := by decide +kernel
theorem dX3_leaveOut_26 : decode cX3_leaveOut 26 = .ok (.iconst 1, 1) := by decide +kernel
theorem dX3_leaveOut_27 : decode cX3_leaveOut 27 = .ok (.iload_n 1, 1) := by decide +kernel
theorem dX3_leaveOut_28 : decode cX3_leaveOut 28 = .ok (.ishl, 1) := by decide +kernel
theorem dX3_leaveOut_29 : decode cX3_leaveOut 29 = .ok (.iconst (-1), 1) := by decide +kernel
theorem dX3_leaveOut_30 : decode cX3_leaveOut 30 = .ok (.ixor, 1) := by decide +kernel
theorem dX3_leaveOut_31 : decode cX3_leaveOut 31 = .ok (.iand, 1) := by decide +kernel
theorem dX3_leaveOut_32 : decode cX3_leaveOut 32 = .ok (.invokevirtual 94, 3) := by decide +kernel
theorem dX3_leaveOut_35 : decode cX3_leaveOut 35 = .ok (.return_, 1) := by decide +kernel
theorem dX3_beginIf_0 : decode cX3_beginIf 0 = .ok (.aload_n 0, 1) := by decide +kernel
theorem dX3_beginIf_1 : decode cX3_beginIf 1 = .ok (.getfield 16, 3) := by decide +kernel
theorem dX3_beginIf_4 : decode cX3_beginIf 4 = .ok (.getfield 45, 3) := by decide +kernel
theorem dX3_beginIf_7 : decode cX3_beginIf 7 = .ok (.iload_n 1, 1) := by decide +kernel
theorem dX3_beginIf_8 : decode cX3_beginIf 8 = .ok (.iload_n 2, 1) := by decide +kernel
theorem dX3_beginIf_9 : decode cX3_beginIf 9 = .ok (.iastore, 1) := by decide +kernel
theorem dX3_beginIf_10 : decode cX3_beginIf 10 = .ok (.aload_n 0, 1) := by decide +kernel
theorem dX3_beginIf_11 : decode cX3_beginIf 11 = .ok (.getfield 16, 3) := by decide +kernel
theorem dX3_beginIf_14 : decode cX3_beginIf 14 = .ok (.getfield 49, 3) := by decide +kernel
theorem dX3_beginIf_17 : decode cX3_beginIf 17 = .ok (.iload_n 1, 1) := by decide +kernel
theorem dX3_beginIf_18 : decode cX3_beginIf 18 = .ok (.iload_n 3, 1) := by decide +kernel
theorem dX3_beginIf_19 : decode cX3_beginIf 19 = .ok (.iastore, 1) := by decide +kernel
theorem dX3_beginIf_20 : decode cX3_beginIf 20 = .ok (.aload_n 0, 1) := by decide +kernel
theorem dX3_beginIf_21 : decode cX3_beginIf 21 = .ok (.getfield 30, 3) := by decide +kernel
theorem dX3_beginIf_24 : decode cX3_beginIf 24 = .ok (.aload_n 0, 1) := by decide +kernel
theorem dX3_beginIf_25 : decode cX3_beginIf 25 = .ok (.getfield 16, 3) := by decide +kernel
theorem dX3_beginIf_28 : decode cX3_beginIf 28 = .ok (.iload_n 1, 1) := by decide +kernel
theorem dX3_beginIf_29 : decode cX3_beginIf 29 = .ok (.invokevirtual 169, 3) := by decide +kernel
theorem dX3_beginIf_32 : decode cX3_beginIf 32 = .ok (.ireturn, 1) := by decide +kernel
theorem dX3_waitIf_0 : decode cX3_waitIf 0 = .ok (.aload_n 0, 1) := by decide +kernel
theorem dX3_waitIf_1 : decode cX3_waitIf 1 = .ok (.iload_n 1, 1) := by decide +kernel
theorem dX3_waitIf_2 : decode cX3_waitIf 2 = .ok (.iload_n 2, 1) := by decide +kernel
theorem dX3_waitIf_3 : decode cX3_waitIf 3 = .ok (.iload_n 3, 1) := by decide +kernel
theorem dX3_waitIf_4 : decode cX3_waitIf 4 = .ok (.invokevirtual 173, 3) := by decide +kernel
theorem dX3_waitIf_7 : decode cX3_waitIf 7 = .ok (.iload_n 3, 1) := by decide +kernel
theorem dX3_waitIf_8 : decode cX3_waitIf 8 = .ok (.isub, 1) := by decide +kernel
theorem dX3_waitIf_9 : decode cX3_waitIf 9 = .ok (.ireturn, 1) := by decide +kernel
theorem dX3_endIfWalked_0 : decode cX3_endIfWalked 0 = .ok (.bipush 99, 2) := by decide +kernel
theorem dX3_endIfWalked_2 : decode cX3_endIfWalked 2 = .ok (.aload_n 0, 1) := by decide +kernel
theorem dX3_endIfWalked_3 : decode cX3_endIfWalked 3 = .ok (.getfield 10, 3) := by decide +kernel
theorem dX3_endIfWalked_6 : decode cX3_endIfWalked 6 = .ok (.getfield 45, 3) := by decide +kernel
theorem dX3_endIfWalked_9 : decode cX3_endIfWalked 9 = .ok (.iload_n 1, 1) := by decide +kernel
theorem dX3_endIfWalked_10 : decode cX3_endIfWalked 10 = .ok (.iaload, 1) := by decide +kernel
theorem dX3_endIfWalked_11 : decode cX3_endIfWalked 11 = .ok (.iload_n 2, 1) := by decide +kernel
theorem dX3_endIfWalked_12 : decode cX3_endIfWalked 12 = .ok (.iadd, 1) := by decide +kernel
theorem dX3_endIfWalked_13 : decode cX3_endIfWalked 13 = .ok (.invokestatic 126, 3) := by decide +kernel
theorem dX3_endIfWalked_16 : decode cX3_endIfWalked 16 = .ok (.istore 4, 2) := by decide +kernel
theorem dX3_endIfWalked_18 : decode cX3_endIfWalked 18 = .ok (.aload_n 0, 1) := by decide +kernel
theorem dX3_endIfWalked_19 : decode cX3_endIfWalked 19 = .ok (.iload_n 1, 1) := by decide +kernel
theorem dX3_endIfWalked_20 : decode cX3_endIfWalked 20 = .ok (.iload 4, 2) := by decide +kernel
theorem dX3_endIfWalked_22 : decode cX3_endIfWalked 22 = .ok (.aload_n 0, 1) := by decide +kernel
theorem dX3_endIfWalked_23 : decode cX3_endIfWalked 23 = .ok (.getfield 10, 3) := by decide +kernel
theorem dX3_endIfWalked_26 : decode cX3_endIfWalked 26 = .ok (.getfield 49, 3) := by decide +kernel
theorem dX3_endIfWalked_29 : decode cX3_endIfWalked 29 = .ok (.iload_n 1, 1) := by decide +kernel
theorem dX3_endIfWalked_30 : decode cX3_endIfWalked 30 = .ok (.iaload, 1) := by decide +kernel
theorem dX3_endIfWalked_31 : decode cX3_endIfWalked 31 = .ok (.iload_n 2, 1) := by decide +kernel
theorem dX3_endIfWalked_32 : decode cX3_endIfWalked 32 = .ok (.iload_n 3, 1) := by decide +kernel
theorem dX3_endIfWalked_33 : decode cX3_endIfWalked 33 = .ok (.imul, 1) := by decide +kernel
theorem dX3_endIfWalked_34 : decode cX3_endIfWalked 34 = .ok (.iadd, 1) := by decide +kernel
theorem dX3_endIfWalked_35 : decode cX3_endIfWalked 35 = .ok (.invokevirtual 173, 3) := by decide +kernel
theorem dX3_endIfWalked_38 : decode cX3_endIfWalked 38 = .ok (.aload_n 0, 1) := by decide +kernel
theorem dX3_endIfWalked_39 : decode cX3_endIfWalked 39 = .ok (.getfield 10, 3) := by decide +kernel
theorem dX3_endIfWalked_42 : decode cX3_endIfWalked 42 = .ok (.iload_n 1, 1) := by decide +kernel
theorem dX3_endIfWalked_43 : decode cX3_endIfWalked 43 = .ok (.invokevirtual 176, 3) := by decide +kernel
theorem dX3_endIfWalked_46 : decode cX3_endIfWalked 46 = .ok (.iadd, 1) := by decide +kernel
theorem dX3_endIfWalked_47 : decode cX3_endIfWalked 47 = .ok (.ireturn, 1) := by decide +kernel
theorem dX3_costOfLiving_0 : decode cX3_costOfLiving 0 = .ok (.aload_n 0, 1) := by decide +kernel
theorem dX3_costOfLiving_1 : decode cX3_costOfLiving 1 = .ok (.iload_n 1, 1) := by decide +kernel
theorem dX3_costOfLiving_2 : decode cX3_costOfLiving 2 = .ok (.iload_n 2, 1) := by decide +kernel
theorem dX3_costOfLiving_3 : decode cX3_costOfLiving 3 = .ok (.aload_n 0, 1) := by decide +kernel
theorem dX3_costOfLiving_4 : decode cX3_costOfLiving 4 = .ok (.getfield 10, 3) := by decide +kernel
theorem dX3_costOfLiving_7 : decode cX3_costOfLiving 7 = .ok (.getfield 49, 3) := by decide +kernel
theorem dX3_costOfLiving_10 : decode cX3_costOfLiving 10 = .ok (.iload_n 1, 1) := by decide +kernel
theorem dX3_costOfLiving_11 : decode cX3_costOfLiving 11 = .ok (.iaload, 1) := by decide +kernel
theorem dX3_costOfLiving_12 : decode cX3_costOfLiving 12 = .ok (.invokevirtual 136, 3) := by decide +kernel
theorem dX3_costOfLiving_15 : decode cX3_costOfLiving 15 = .ok (.iload_n 3, 1) := by decide +kernel
theorem dX3_costOfLiving_16 : decode cX3_costOfLiving 16 = .ok (.bipush 99, 2) := by decide +kernel
theorem dX3_costOfLiving_18 : decode cX3_costOfLiving 18 = .ok (.iload_n 2, 1) := by decide +kernel
theorem dX3_costOfLiving_19 : decode cX3_costOfLiving 19 = .ok (.isub, 1) := by decide +kernel
theorem dX3_costOfLiving_20 : decode cX3_costOfLiving 20 = .ok (.imul, 1) := by decide +kernel
theorem dX3_costOfLiving_21 : decode cX3_costOfLiving 21 = .ok (.iadd, 1) := by decide +kernel
theorem dX3_costOfLiving_22 : decode cX3_costOfLiving 22 = .ok (.ireturn, 1) := by decide +kernel
theorem dX3_allTold_0 : decode cX3_allTold 0 = .ok (.aload_n 0, 1) := by decide +kernel
theorem dX3_allTold_1 : decode cX3_allTold 1 = .ok (.getfield 37, 3) := by decide +kernel
theorem dX3_allTold_4 : decode cX3_allTold 4 = .ok (.aload_n 0, 1) := by decide +kernel
theorem dX3_allTold_5 : decode cX3_allTold 5 = .ok (.getfield 10, 3) := by decide +kernel
theorem dX3_allTold_8 : decode cX3_allTold 8 = .ok (.getfield 58, 3) := by decide +kernel
theorem dX3_allTold_11 : decode cX3_allTold 11 = .ok (.invokevirtual 91, 3) := by decide +kernel
theorem dX3_allTold_14 : decode cX3_allTold 14 = .ok (.bipush (-6), 2) := by decide +kernel
theorem dX3_allTold_16 : decode cX3_allTold 16 = .ok (.if_icmp .ne 27, 3) := by decide +kernel
theorem dX3_allTold_19 : decode cX3_allTold 19 = .ok (.aload_n 0, 1) := by decide +kernel
theorem dX3_allTold_20 : decode cX3_allTold 20 = .ok (.getfield 37, 3) := by decide +kernel
theorem dX3_allTold_23 : decode cX3_allTold 23 = .ok (.getfield 88, 3) := by decide +kernel
theorem dX3_allTold_26 : decode cX3_allTold 26 = .ok (.aload_n 0, 1) := by decide +kernel
theorem dX3_allTold_27 : decode cX3_allTold 27 = .ok (.getfield 10, 3) := by decide +kernel
theorem dX3_allTold_30 : decode cX3_allTold 30 = .ok (.getfield 58, 3) := by decide +kernel
theorem dX3_allTold_33 : decode cX3_allTold 33 = .ok (.invokestatic 62, 3) := by decide +kernel
theorem dX3_allTold_36 : decode cX3_allTold 36 = .ok (.if_icmp .ne 7, 3) := by decide +kernel
theorem dX3_allTold_39 : decode cX3_allTold 39 = .ok (.iconst 1, 1) := by decide +kernel
theorem dX3_allTold_40 : decode cX3_allTold 40 = .ok (.goto 4, 3) := by decide +kernel
theorem dX3_allTold_43 : decode cX3_allTold 43 = .ok (.iconst 0, 1) := by decide +kernel
theorem dX3_allTold_44 : decode cX3_allTold 44 = .ok (.ireturn, 1) := by decide +kernel
theorem dX3_milesThatBring_0 : decode cX3_milesThatBring 0 = .ok (.aload_n 0, 1) := by decide +kernel
theorem dX3_milesThatBring_1 : decode cX3_milesThatBring 1 = .ok (.getfield 16, 3) := by decide +kernel
theorem dX3_milesThatBring_4 : decode cX3_milesThatBring 4 = .ok (.aload_n 0, 1) := by decide +kernel
theorem dX3_milesThatBring_5 : decode cX3_milesThatBring 5 = .ok (.getfield 10, 3) := by decide +kernel
theorem dX3_milesThatBring_8 : decode cX3_milesThatBring 8 = .ok (.invokevirtual 151, 3) := by decide +kernel
theorem dX3_milesThatBring_11 : decode cX3_milesThatBring 11 = .ok (.iconst 0, 1) := by decide +kernel
theorem dX3_milesThatBring_12 : decode cX3_milesThatBring 12 = .ok (.istore_n 3, 1) := by decide +kernel
theorem dX3_milesThatBring_13 : decode cX3_milesThatBring 13 = .ok (.iload_n 3, 1) := by decide +kernel
theorem dX3_milesThatBring_14 : decode cX3_milesThatBring 14 = .ok (.bipush 99, 2) := by decide +kernel
theorem dX3_milesThatBring_16 : decode cX3_milesThatBring 16 = .ok (.if_icmp .gt 55, 3) := by decide +kernel
theorem dX3_milesThatBring_19 : decode cX3_milesThatBring 19 = .ok (.iload_n 2, 1) := by decide +kernel
theorem dX3_milesThatBring_20 : decode cX3_milesThatBring 20 = .ok (.ifCond .eq 7, 3) := by decide +kernel
theorem dX3_milesThatBring_23 : decode cX3_milesThatBring 23 = .ok (.iload_n 3, 1) := by decide +kernel
theorem dX3_milesThatBring_24 : decode cX3_milesThatBring 24 = .ok (.goto 7, 3) := by decide +kernel
theorem dX3_milesThatBring_27 : decode cX3_milesThatBring 27 = .ok (.bipush 99, 2) := by decide +kernel
theorem dX3_milesThatBring_29 : decode cX3_milesThatBring 29 = .ok (.iload_n 3, 1) := by decide +kernel
theorem dX3_milesThatBring_30 : decode cX3_milesThatBring 30 = .ok (.isub, 1) := by decide +kernel
theorem dX3_milesThatBring_31 : decode cX3_milesThatBring 31 = .ok (.istore 4, 2) := by decide +kernel
theorem dX3_milesThatBring_33 : decode cX3_milesThatBring 33 = .ok (.aload_n 0, 1) := by decide +kernel
theorem dX3_milesThatBring_34 : decode cX3_milesThatBring 34 = .ok (.getfield 16, 3) := by decide +kernel
theorem dX3_milesThatBring_37 : decode cX3_milesThatBring 37 = .ok (.getfield 45, 3) := by decide +kernel
theorem dX3_milesThatBring_40 : decode cX3_milesThatBring 40 = .ok (.iload_n 1, 1) := by decide +kernel
theorem dX3_milesThatBring_41 : decode cX3_milesThatBring 41 = .ok (.iload 4, 2) := by decide +kernel
theorem dX3_milesThatBring_43 : decode cX3_milesThatBring 43 = .ok (.iastore, 1) := by decide +kernel
theorem dX3_milesThatBring_44 : decode cX3_milesThatBring 44 = .ok (.aload_n 0, 1) := by decide +kernel
theorem dX3_milesThatBring_45 : decode cX3_milesThatBring 45 = .ok (.getfield 30, 3) := by decide +kernel
theorem dX3_milesThatBring_48 : decode cX3_milesThatBring 48 = .ok (.aload_n 0, 1) := by decide +kernel
theorem dX3_milesThatBring_49 : decode cX3_milesThatBring 49 = .ok (.getfield 16, 3) := by decide +kernel
theorem dX3_milesThatBring_52 : decode cX3_milesThatBring 52 = .ok (.aload_n 0, 1) := by decide +kernel
theorem dX3_milesThatBring_53 : decode cX3_milesThatBring 53 = .ok (.getfield 37, 3) := by decide +kernel
theorem dX3_milesThatBring_56 : decode cX3_milesThatBring 56 = .ok (.invokevirtual 179, 3) := by decide +kernel
theorem dX3_milesThatBring_59 : decode cX3_milesThatBring 59 = .ok (.ifCond .eq 6, 3) := by decide +kernel
theorem dX3_milesThatBring_62 : decode cX3_milesThatBring 62 = .ok (.iload 4, 2) := by decide +kernel
theorem dX3_milesThatBring_64 : decode cX3_milesThatBring 64 = .ok (.ireturn, 1) := by decide +kernel
theorem dX3_milesThatBring_65 : decode cX3_milesThatBring 65 = .ok (.iinc 3 1, 3) := by decide +kernel
theorem dX3_milesThatBring_68 : decode cX3_milesThatBring 68 = .ok (.goto (-55), 3) := by decide +kernel
theorem dX3_milesThatBring_71 : decode cX3_milesThatBring 71 = .ok (.bipush (-6), 2) := by decide +kernel
theorem dX3_milesThatBring_73 : decode cX3_milesThatBring 73 = .ok (.ireturn, 1) := by decide +kernel
theorem dX3_better_0 : decode cX3_better 0 = .ok (.iload_n 0, 1) := by decide +kernel
theorem dX3_better_1 : decode cX3_better 1 = .ok (.iload_n 2, 1) := by decide +kernel
theorem dX3_better_2 : decode cX3_better 2 = .ok (.if_icmp .lt 13, 3) := by decide +kernel
theorem dX3_better_5 : decode cX3_better 5 = .ok (.iload_n 0, 1) := by decide +kernel
theorem dX3_better_6 : decode cX3_better 6 = .ok (.iload_n 2, 1) := by decide +kernel
theorem dX3_better_7 : decode cX3_better 7 = .ok (.if_icmp .ne 12, 3) := by decide +kernel
theorem dX3_better_10 : decode cX3_better 10 = .ok (.iload_n 1, 1) := by decide +kernel
theorem dX3_better_11 : decode cX3_better 11 = .ok (.iload_n 3, 1) := by decide +kernel
theorem dX3_better_12 : decode cX3_better 12 = .ok (.if_icmp .ge 7, 3) := by decide +kernel
theorem dX3_better_15 : decode cX3_better 15 = .ok (.iconst 1, 1) := by decide +kernel
theorem dX3_better_16 : decode cX3_better 16 = .ok (.goto 4, 3) := by decide +kernel
theorem dX3_better_19 : decode cX3_better 19 = .ok (.iconst 0, 1) := by decide +kernel
theorem dX3_better_20 : decode cX3_better 20 = .ok (.ireturn, 1) := by decide +kernel
theorem dX3_runUnder_0 : decode cX3_runUnder 0 = .ok (.aload_n 0, 1) := by decide +kernel
theorem dX3_runUnder_1 : decode cX3_runUnder 1 = .ok (.getfield 16, 3) := by decide +kernel
theorem dX3_runUnder_4 : decode cX3_runUnder 4 = .ok (.iconst 1, 1) := by decide +kernel
theorem dX3_runUnder_5 : decode cX3_runUnder 5 = .ok (.iload_n 1, 1) := by decide +kernel
theorem dX3_runUnder_6 : decode cX3_runUnder 6 = .ok (.iconst 4, 1) := by decide +kernel
theorem dX3_runUnder_7 : decode cX3_runUnder 7 = .ok (.idiv, 1) := by decide +kernel
theorem dX3_runUnder_8 : decode cX3_runUnder 8 = .ok (.invokevirtual 81, 3) := by decide +kernel
theorem dX3_runUnder_11 : decode cX3_runUnder 11 = .ok (.aload_n 0, 1) := by decide +kernel
theorem dX3_runUnder_12 : decode cX3_runUnder 12 = .ok (.getfield 16, 3) := by decide +kernel
theorem dX3_runUnder_15 : decode cX3_runUnder 15 = .ok (.iconst 2, 1) := by decide +kernel
theorem dX3_runUnder_16 : decode cX3_runUnder 16 = .ok (.iload_n 1, 1) := by decide +kernel
theorem dX3_runUnder_17 : decode cX3_runUnder 17 = .ok (.iconst 4, 1) := by decide +kernel
theorem dX3_runUnder_18 : decode cX3_runUnder 18 = .ok (.irem, 1) := by decide +kernel
theorem dX3_runUnder_19 : decode cX3_runUnder 19 = .ok (.invokevirtual 81, 3) := by decide +kernel
theorem dX3_runUnder_22 : decode cX3_runUnder 22 = .ok (.aload_n 0, 1) := by decide +kernel
theorem dX3_runUnder_23 : decode cX3_runUnder 23 = .ok (.getfield 30, 3) := by decide +kernel
theorem dX3_runUnder_26 : decode cX3_runUnder 26 = .ok (.aload_n 0, 1) := by decide +kernel
theorem dX3_runUnder_27 : decode cX3_runUnder 27 = .ok (.getfield 16, 3) := by decide +kernel
theorem dX3_runUnder_30 : decode cX3_runUnder 30 = .ok (.aload_n 0, 1) := by decide +kernel
theorem dX3_runUnder_31 : decode cX3_runUnder 31 = .ok (.getfield 16, 3) := by decide +kernel
theorem dX3_runUnder_34 : decode cX3_runUnder 34 = .ok (.getfield 58, 3) := by decide +kernel
theorem dX3_runUnder_37 : decode cX3_runUnder 37 = .ok (.invokevirtual 94, 3) := by decide +kernel
theorem dX3_runUnder_40 : decode cX3_runUnder 40 = .ok (.return_, 1) := by decide +kernel
theorem dX4_init_0 : decode cX4_init 0 = .ok (.aload_n 0, 1) := by decide +kernel
theorem dX4_init_1 : decode cX4_init 1 = .ok (.invokespecial 1, 3) := by decide +kernel
theorem dX4_init_4 : decode cX4_init 4 = .ok (.aload_n 0, 1) := by decide +kernel
theorem dX4_init_5 : decode cX4_init 5 = .ok (.bipush 8, 2) := by decide +kernel
theorem dX4_init_7 : decode cX4_init 7 = .ok (.newarray .int, 2) := by decide +kernel
theorem dX4_init_9 : decode cX4_init 9 = .ok (.putfield 7, 3) := by decide +kernel
theorem dX4_init_12 : decode cX4_init 12 = .ok (.aload_n 0, 1) := by decide +kernel
theorem dX4_init_13 : decode cX4_init 13 = .ok (.bipush 8, 2) := by decide +kernel
theorem dX4_init_15 : decode cX4_init 15 = .ok (.newarray .int, 2) := by decide +kernel
theorem dX4_init_17 : decode cX4_init 17 = .ok (.putfield 13, 3) := by decide +kernel
theorem dX4_init_20 : decode cX4_init 20 = .ok (.aload_n 0, 1) := by decide +kernel
theorem dX4_init_21 : decode cX4_init 21 = .ok (.bipush 8, 2) := by decide +kernel
theorem dX4_init_23 : decode cX4_init 23 = .ok (.newarray .int, 2) := by decide +kernel
theorem dX4_init_25 : decode cX4_init 25 = .ok (.putfield 16, 3) := by decide +kernel
theorem dX4_init_28 : decode cX4_init 28 = .ok (.aload_n 0, 1) := by decide +kernel
theorem dX4_init_29 : decode cX4_init 29 = .ok (.bipush 8, 2) := by decide +kernel
theorem dX4_init_31 : decode cX4_init 31 = .ok (.newarray .int, 2) := by decide +kernel
theorem dX4_init_33 : decode cX4_init 33 = .ok (.putfield 19, 3) := by decide +kernel
theorem dX4_init_36 : decode cX4_init 36 = .ok (.aload_n 0, 1) := by decide +kernel
theorem dX4_init_37 : decode cX4_init 37 = .ok (.bipush 40, 2) := by decide +kernel
theorem dX4_init_39 : decode cX4_init 39 = .ok (.newarray .int, 2) := by decide +kernel
theorem dX4_init_41 : decode cX4_init 41 = .ok (.putfield 22, 3) := by decide +kernel
theorem dX4_init_44 : decode cX4_init 44 = .ok (.aload_n 0, 1) := by decide +kernel
theorem dX4_init_45 : decode cX4_init 45 = .ok (.bipush 8, 2) := by decide +kernel
theorem dX4_init_47 : decode cX4_init 47 = .ok (.newarray .int, 2) := by decide +kernel
theorem dX4_init_49 : decode cX4_init 49 = .ok (.putfield 25, 3) := by decide +kernel
theorem dX4_init_52 : decode cX4_init 52 = .ok (.aload_n 0, 1) := by decide +kernel
theorem dX4_init_53 : decode cX4_init 53 = .ok (.bipush 8, 2) := by decide +kernel
theorem dX4_init_55 : decode cX4_init 55 = .ok (.newarray .int, 2) := by decide +kernel
theorem dX4_init_57 : decode cX4_init 57 = .ok (.putfield 28, 3) := by decide +kernel
theorem dX4_init_60 : decode cX4_init 60 = .ok (.aload_n 0, 1) := by decide +kernel
theorem dX4_init_61 : decode cX4_init 61 = .ok (.bipush 8, 2) := by decide +kernel
theorem dX4_init_63 : decode cX4_init 63 = .ok (.newarray .int, 2) := by decide +kernel
theorem dX4_init_65 : decode cX4_init 65 = .ok (.putfield 31, 3) := by decide +kernel
theorem dX4_init_68 : decode cX4_init 68 = .ok (.aload_n 0, 1) := by decide +kernel
theorem dX4_init_69 : decode cX4_init 69 = .ok (.bipush 8, 2) := by decide +kernel
theorem dX4_init_71 : decode cX4_init 71 = .ok (.newarray .int, 2) := by decide +kernel
theorem dX4_init_73 : decode cX4_init 73 = .ok (.putfield 34, 3) := by decide +kernel
theorem dX4_init_76 : decode cX4_init 76 = .ok (.aload_n 0, 1) := by decide +kernel
theorem dX4_init_77 : decode cX4_init 77 = .ok (.bipush 8, 2) := by decide +kernel
theorem dX4_init_79 : decode cX4_init 79 = .ok (.newarray .int, 2) := by decide +kernel
theorem dX4_init_81 : decode cX4_init 81 = .ok (.putfield 37, 3) := by decide +kernel
theorem dX4_init_84 : decode cX4_init 84 = .ok (.aload_n 0, 1) := by decide +kernel
theorem dX4_init_85 : decode cX4_init 85 = .ok (.bipush 8, 2) := by decide +kernel
theorem dX4_init_87 : decode cX4_init 87 = .ok (.newarray .int, 2) := by decide +kernel
theorem dX4_init_89 : decode cX4_init 89 = .ok (.putfield 40, 3) := by decide +kernel
theorem dX4_init_92 : decode cX4_init 92 = .ok (.aload_n 0, 1) := by decide +kernel
theorem dX4_init_93 : decode cX4_init 93 = .ok (.bipush 100, 2) := by decide +kernel
theorem dX4_init_95 : decode cX4_init 95 = .ok (.newarray .int, 2) := by decide +kernel
theorem dX4_init_97 : decode cX4_init 97 = .ok (.putfield 43, 3) := by decide +kernel
theorem dX4_init_100 : decode cX4_init 100 = .ok (.aload_n 0, 1) := by decide +kernel
theorem dX4_init_101 : decode cX4_init 101 = .ok (.iconst 2, 1) := by decide +kernel
theorem dX4_init_102 : decode cX4_init 102 = .ok (.newarray .boolean, 2) := by decide +kernel
theorem dX4_init_104 : decode cX4_init 104 = .ok (.putfield 46, 3) := by decide +kernel
theorem dX4_init_107 : decode cX4_init 107 = .ok (.aload_n 0, 1) := by decide +kernel
theorem dX4_init_108 : decode cX4_init 108 = .ok (.iconst 2, 1) := by decide +kernel
theorem dX4_init_109 : decode cX4_init 109 = .ok (.putfield 50, 3) := by decide +kernel
theorem dX4_init_112 : decode cX4_init 112 = .ok (.aload_n 0, 1) := by decide +kernel
theorem dX4_init_113 : decode cX4_init 113 = .ok (.iconst 1, 1) := by decide +kernel
theorem dX4_init_114 : decode cX4_init 114 = .ok (.putfield 54, 3) := by decide +kernel
theorem dX4_init_117 : decode cX4_init 117 = .ok (.return_, 1) := by decide +kernel
theorem dX4_in_0 : decode cX4_in 0 = .ok (.lload_n 0, 1) := by decide +kernel
theorem dX4_in_1 : decode cX4_in 1 = .ok (.lload_n 2, 1) := by decide +kernel
theorem dX4_in_2 : decode cX4_in 2 = .ok (.lcmp, 1) := by decide +kernel
theorem dX4_in_3 : decode cX4_in 3 = .ok (.ifCond .lt 14, 3) := by decide +kernel
theorem dX4_in_6 : decode cX4_in 6 = .ok (.lload_n 0, 1) := by decide +kernel
theorem dX4_in_7 : decode cX4_in 7 = .ok (.lload 4, 2) := by decide +kernel
theorem dX4_in_9 : decode cX4_in 9 = .ok (.lcmp, 1) := by decide +kernel
theorem dX4_in_10 : decode cX4_in 10 = .ok (.ifCond .gt 7, 3) := by decide +kernel
theorem dX4_in_13 : decode cX4_in 13 = .ok (.iconst 1, 1) := by decide +kernel
theorem dX4_in_14 : decode cX4_in 14 = .ok (.goto 4, 3) := by decide +kernel
theorem dX4_in_17 : decode cX4_in 17 = .ok (.iconst 0, 1) := by decide +kernel
theorem dX4_in_18 : decode cX4_in 18 = .ok (.ireturn, 1) := by decide +kernel
theorem dX4_ones_0 : decode cX4_ones 0 = .ok (.iconst 0, 1) := by decide +kernel
theorem dX4_ones_1 : decode cX4_ones 1 = .ok (.istore_n 1, 1) := by decide +kernel
theorem dX4_ones_2 : decode cX4_ones 2 = .ok (.iload_n 0, 1) := by decide +kernel
theorem dX4_ones_3 : decode cX4_ones 3 = .ok (.istore_n 2, 1) := by decide +kernel
theorem dX4_ones_4 : decode cX4_ones 4 = .ok (.iload_n 2, 1) := by decide +kernel
theorem dX4_ones_5 : decode cX4_ones 5 = .ok (.ifCond .eq 15, 3) := by decide +kernel
theorem dX4_ones_8 : decode cX4_ones 8 = .ok (.iinc 1 1, 3) := by decide +kernel
theorem dX4_ones_11 : decode cX4_ones 11 = .ok (.iload_n 2, 1) := by decide +kernel
theorem dX4_ones_12 : decode cX4_ones 12 = .ok (.iload_n 2, 1) := by decide +kernel
theorem dX4_ones_13 : decode cX4_ones 13 = .ok (.iconst 1, 1) := by decide +kernel
theorem dX4_ones_14 : decode cX4_ones 14 = .ok (.isub, 1) := by decide +kernel
theorem dX4_ones_15 : decode cX4_ones 15 = .ok (.iand, 1) := by decide +kernel
theorem dX4_ones_16 : decode cX4_ones 16 = .ok (.istore_n 2, 1) := by decide +kernel
theorem dX4_ones_17 : decode cX4_ones 17 = .ok (.goto (-13), 3) := by decide +kernel
theorem dX4_ones_20 : decode cX4_ones 20 = .ok (.iload_n 1, 1) := by decide +kernel
theorem dX4_ones_21 : decode cX4_ones 21 = .ok (.ireturn, 1) := by decide +kernel
theorem dX4_isPerson_0 : decode cX4_isPerson 0 = .ok (.iload_n 0, 1) := by decide +kernel
theorem dX4_isPerson_1 : decode cX4_isPerson 1 = .ok (.i2l, 1) := by decide +kernel
theorem dX4_isPerson_2 : decode cX4_isPerson 2 = .ok (.lconst 0, 1) := by decide +kernel
theorem dX4_isPerson_3 : decode cX4_isPerson 3 = .ok (.ldc2_w 57, 3) := by decide +kernel
theorem dX4_isPerson_6 : decode cX4_isPerson 6 = .ok (.invokestatic 59, 3) := by decide +kernel
theorem dX4_isPerson_9 : decode cX4_isPerson 9 = .ok (.ireturn, 1) := by decide +kernel
theorem dX4_comes_0 : decode cX4_comes 0 = .ok (.iload_n 1, 1) := by decide +kernel
theorem dX4_comes_1 : decode cX4_comes 1 = .ok (.invokestatic 63, 3) := by decide +kernel
theorem dX4_comes_4 : decode cX4_comes 4 = .ok (.ifCond .eq 19, 3) := by decide +kernel
theorem dX4_comes_7 : decode cX4_comes 7 = .ok (.aload_n 0, 1) := by decide +kernel
theorem dX4_comes_8 : decode cX4_comes 8 = .ok (.getfield 67, 3) := by decide +kernel
theorem dX4_comes_11 : decode cX4_comes 11 = .ok (.iload_n 1, 1) := by decide +kernel
theorem dX4_comes_12 : decode cX4_comes 12 = .ok (.ishr, 1) := by decide +kernel
theorem dX4_comes_13 : decode cX4_comes 13 = .ok (.iconst 1, 1) := by decide +kernel
theorem dX4_comes_14 : decode cX4_comes 14 = .ok (.iand, 1) := by decide +kernel
theorem dX4_comes_15 : decode cX4_comes 15 = .ok (.iconst 1, 1) := by decide +kernel
theorem dX4_comes_16 : decode cX4_comes 16 = .ok (.if_icmp .ne 7, 3) := by decide +kernel
theorem dX4_comes_19 : decode cX4_comes 19 = .ok (.iconst 1, 1) := by decide +kernel
theorem dX4_comes_20 : decode cX4_comes 20 = .ok (.goto 4, 3) := by decide +kernel
theorem dX4_comes_23 : decode cX4_comes 23 = .ok (.iconst 0, 1) := by decide +kernel
theorem dX4_comes_24 : decode cX4_comes 24 = .ok (.ireturn, 1) := by decide +kernel
theorem dX4_come_0 : decode cX4_come 0 = .ok (.iload_n 1, 1) := by decide +kernel
theorem dX4_come_1 : decode cX4_come 1 = .ok (.invokestatic 63, 3) := by decide +kernel
theorem dX4_come_4 : decode cX4_come 4 = .ok (.ifCond .ne 5, 3) := by decide +kernel
theorem dX4_come_7 : decode cX4_come 7 = .ok (.iconst (-1), 1) := by decide +kernel
theorem dX4_come_8 : decode cX4_come 8 = .ok (.ireturn, 1) := by decide +kernel
theorem dX4_come_9 : decode cX4_come 9 = .ok (.iload_n 2, 1) := by decide +kernel
theorem dX4_come_10 : decode cX4_come 10 = .ok (.i2l, 1) := by decide +kernel
theorem dX4_come_11 : decode cX4_come 11 = .ok (.lconst 0, 1) := by decide +kernel
theorem dX4_come_12 : decode cX4_come 12 = .ok (.ldc2_w 70, 3) := by decide +kernel
theorem dX4_come_15 : decode cX4_come 15 = .ok (.invokestatic 59, 3) := by decide +kernel
theorem dX4_come_18 : decode cX4_come 18 = .ok (.ifCond .eq 28, 3) := by decide +kernel
theorem dX4_come_21 : decode cX4_come 21 = .ok (.iload_n 3, 1) := by decide +kernel
theorem dX4_come_22 : decode cX4_come 22 = .ok (.i2l, 1) := by decide +kernel
theorem dX4_come_23 : decode cX4_come 23 = .ok (.lconst 0, 1) := by decide +kernel
theorem dX4_come_24 : decode cX4_come 24 = .ok (.ldc2_w 72, 3) := by decide +kernel
theorem dX4_come_27 : decode cX4_come 27 = .ok (.invokestatic 59, 3) := by decide +kernel
theorem dX4_come_30 : decode cX4_come 30 = .ok (.ifCond .eq 16, 3) := by decide +kernel
theorem dX4_come_33 : decode cX4_come 33 = .ok (.iload 4, 2) := by decide +kernel
theorem dX4_come_35 : decode cX4_come 35 = .ok (.i2l, 1) := by decide +kernel
theorem dX4_come_36 : decode cX4_come 36 = .ok (.lconst 1, 1) := by decide +kernel
theorem dX4_come_37 : decode cX4_come 37 = .ok (.ldc2_w 74, 3) := by decide +kernel
theorem dX4_come_40 : decode cX4_come 40 = .ok (.invokestatic 59, 3) := by decide +kernel
theorem dX4_come_43 : decode cX4_come 43 = .ok (.ifCond .ne 6, 3) := by decide +kernel
theorem dX4_come_46 : decode cX4_come 46 = .ok (.bipush (-2), 2) := by decide +kernel
theorem dX4_come_48 : decode cX4_come 48 = .ok (.ireturn, 1) := by decide +kernel
theorem dX4_come_49 : decode cX4_come 49 = .ok (.aload_n 0, 1) := by decide +kernel
theorem dX4_come_50 : decode cX4_come 50 = .ok (.getfield 7, 3) := by decide +kernel
theorem dX4_come_53 : decode cX4_come 53 = .ok (.iload_n 1, 1) := by decide +kernel
theorem dX4_come_54 : decode cX4_come 54 = .ok (.iload_n 2, 1) := by decide +kernel
theorem dX4_come_55 : decode cX4_come 55 = .ok (.iastore, 1) := by decide +kernel
theorem dX4_come_56 : decode cX4_come 56 = .ok (.aload_n 0, 1) := by decide +kernel
theorem dX4_come_57 : decode cX4_come 57 = .ok (.getfield 13, 3) := by decide +kernel
theorem dX4_come_60 : decode cX4_come 60 = .ok (.iload_n 1, 1) := by decide +kernel
theorem dX4_come_61 : decode cX4_come 61 = .ok (.iload_n 3, 1) := by decide +kernel
theorem dX4_come_62 : decode cX4_come 62 = .ok (.iastore, 1) := by decide +kernel
theorem dX4_come_63 : decode cX4_come 63 = .ok (.aload_n 0, 1) := by decide +kernel
theorem dX4_come_64 : decode cX4_come 64 = .ok (.getfield 16, 3) := by decide +kernel
theorem dX4_come_67 : decode cX4_come 67 = .ok (.iload_n 1, 1) := by decide +kernel
theorem dX4_come_68 : decode cX4_come 68 = .ok (.iload 4, 2) := by decide +kernel
theorem dX4_come_70 : decode cX4_come 70 = .ok (.iastore, 1) := by decide +kernel
theorem dX4_come_71 : decode cX4_come 71 = .ok (.aload_n 0, 1) := by decide +kernel
theorem dX4_come_72 : decode cX4_come 72 = .ok (.getfield 19, 3) := by decide +kernel
theorem dX4_come_75 : decode cX4_come 75 = .ok (.iload_n 1, 1) := by decide +kernel
theorem dX4_come_76 : decode cX4_come 76 = .ok (.iload 5, 2) := by decide +kernel
theorem dX4_come_78 : decode cX4_come 78 = .ok (.ifCond .eq 7, 3) := by decide +kernel
theorem dX4_come_81 : decode cX4_come 81 = .ok (.iconst 1, 1) := by decide +kernel
theorem dX4_come_82 : decode cX4_come 82 = .ok (.goto 4, 3) := by decide +kernel
theorem dX4_come_85 : decode cX4_come 85 = .ok (.iconst 0, 1) := by decide +kernel
theorem dX4_come_86 : decode cX4_come 86 = .ok (.iastore, 1) := by decide +kernel
theorem dX4_come_87 : decode cX4_come 87 = .ok (.aload_n 0, 1) := by decide +kernel
theorem dX4_come_88 : decode cX4_come 88 = .ok (.dup, 1) := by decide +kernel
theorem dX4_come_89 : decode cX4_come 89 = .ok (.getfield 67, 3) := by decide +kernel
theorem dX4_come_92 : decode cX4_come 92 = .ok (.iconst 1, 1) := by decide +kernel
theorem dX4_come_93 : decode cX4_come 93 = .ok (.iload_n 1, 1) := by decide +kernel
theorem dX4_come_94 : decode cX4_come 94 = .ok (.ishl, 1) := by decide +kernel
theorem dX4_come_95 : decode cX4_come 95 = .ok (.ior, 1) := by decide +kernel
theorem dX4_come_96 : decode cX4_come 96 = .ok (.putfield 67, 3) := by decide +kernel
theorem dX4_come_99 : decode cX4_come 99 = .ok (.aload_n 0, 1) := by decide +kernel
theorem dX4_come_100 : decode cX4_come 100 = .ok (.getfield 67, 3) := by decide +kernel
theorem dX4_come_103 : decode cX4_come 103 = .ok (.invokestatic 76, 3) := by decide +kernel
theorem dX4_come_106 : decode cX4_come 106 = .ok (.ireturn, 1) := by decide +kernel
theorem dX4_stays_0 : decode cX4_stays 0 = .ok (.aload_n 0, 1) := by decide +kernel
theorem dX4_stays_1 : decode cX4_stays 1 = .ok (.iload_n 1, 1) := by decide +kernel
theorem dX4_stays_2 : decode cX4_stays 2 = .ok (.invokevirtual 80, 3) := by decide +kernel
theorem dX4_stays_5 : decode cX4_stays 5 = .ok (.ifCond .ne 5, 3) := by decide +kernel
theorem dX4_stays_8 : decode cX4_stays 8 = .ok (.iconst (-1), 1) := by decide +kernel
theorem dX4_stays_9 : decode cX4_stays 9 = .ok (.ireturn, 1) := by decide +kernel
theorem dX4_stays_10 : decode cX4_stays 10 = .ok (.aload_n 0, 1) := by decide +kernel
theorem dX4_stays_11 : decode cX4_stays 11 = .ok (.dup, 1) := by decide +kernel
theorem dX4_stays_12 : decode cX4_stays 12 = .ok (.getfield 67, 3) := by decide +kernel
theorem dX4_stays_15 : decode cX4_stays 15 = .ok (.iconst 1, 1) := by decide +kernel
theorem dX4_stays_16 : decode cX4_stays 16 = .ok (.iload_n 1, 1) := by decide +kernel
theorem dX4_stays_17 : decode cX4_stays 17 = .ok (.ishl, 1) := by decide +kernel
theorem dX4_stays_18 : decode cX4_stays 18 = .ok (.iconst (-1), 1) := by decide +kernel
theorem dX4_stays_19 : decode cX4_stays 19 = .ok (.ixor, 1) := by decide +kernel
theorem dX4_stays_20 : decode cX4_stays 20 = .ok (.iand, 1) := by decide +kernel
theorem dX4_stays_21 : decode cX4_stays 21 = .ok (.putfield 67, 3) := by decide +kernel
theorem dX4_stays_24 : decode cX4_stays 24 = .ok (.aload_n 0, 1) := by decide +kernel
theorem dX4_stays_25 : decode cX4_stays 25 = .ok (.getfield 67, 3) := by decide +kernel
theorem dX4_stays_28 : decode cX4_stays 28 = .ok (.invokestatic 76, 3) := by decide +kernel
theorem dX4_stays_31 : decode cX4_stays 31 = .ok (.ireturn, 1) := by decide +kernel
theorem dX4_person_0 : decode cX4_person 0 = .ok (.aload_n 0, 1) := by decide +kernel
theorem dX4_person_1 : decode cX4_person 1 = .ok (.iload_n 1, 1) := by decide +kernel
theorem dX4_person_2 : decode cX4_person 2 = .ok (.invokevirtual 80, 3) := by decide +kernel
theorem dX4_person_5 : decode cX4_person 5 = .ok (.ifCond .ne 5, 3) := by decide +kernel
theorem dX4_person_8 : decode cX4_person 8 = .ok (.iconst (-1), 1) := by decide +kernel
theorem dX4_person_9 : decode cX4_person 9 = .ok (.ireturn, 1) := by decide +kernel
theorem dX4_person_10 : decode cX4_person 10 = .ok (.iload_n 2, 1) := by decide +kernel
theorem dX4_person_11 : decode cX4_person 11 = .ok (.ifCond .ne 12, 3) := by decide +kernel
theorem dX4_person_14 : decode cX4_person 14 = .ok (.aload_n 0, 1) := by decide +kernel
theorem dX4_person_15 : decode cX4_person 15 = .ok (.getfield 7, 3) := by decide +kernel
theorem dX4_person_18 : decode cX4_person 18 = .ok (.iload_n 1, 1) := by decide +kernel
theorem dX4_person_19 : decode cX4_person 19 = .ok (.iaload, 1) := by decide +kernel
theorem dX4_person_20 : decode cX4_person 20 = .ok (.goto 47, 3) := by decide +kernel
theorem dX4_person_23 : decode cX4_person 23 = .ok (.iload_n 2, 1) := by decide +kernel
theorem dX4_person_24 : decode cX4_person 24 = .ok (.iconst 1, 1) := by decide +kernel
theorem dX4_person_25 : decode cX4_person 25 = .ok (.if_icmp .ne 12, 3) := by decide +kernel
theorem dX4_person_28 : decode cX4_person 28 = .ok (.aload_n 0, 1) := by decide +kernel
theorem dX4_person_29 : decode cX4_person 29 = .ok (.getfield 13, 3) := by decide +kernel
theorem dX4_person_32 : decode cX4_person 32 = .ok (.iload_n 1, 1) := by decide +kernel
theorem dX4_person_33 : decode cX4_person 33 = .ok (.iaload, 1) := by decide +kernel
theorem dX4_person_34 : decode cX4_person 34 = .ok (.goto 33, 3) := by decide +kernel
theorem dX4_person_37 : decode cX4_person 37 = .ok (.iload_n 2, 1) := by decide +kernel
theorem dX4_person_38 : decode cX4_person 38 = .ok (.iconst 2, 1) := by decide +kernel
theorem dX4_person_39 : decode cX4_person 39 = .ok (.if_icmp .ne 12, 3) := by decide +kernel
theorem dX4_person_42 : decode cX4_person 42 = .ok (.aload_n 0, 1) := by decide +kernel
theorem dX4_person_43 : decode cX4_person 43 = .ok (.getfield 16, 3) := by decide +kernel
theorem dX4_person_46 : decode cX4_person 46 = .ok (.iload_n 1, 1) := by decide +kernel
theorem dX4_person_47 : decode cX4_person 47 = .ok (.iaload, 1) := by decide +kernel
theorem dX4_person_48 : decode cX4_person 48 = .ok (.goto 19, 3) := by decide +kernel
theorem dX4_person_51 : decode cX4_person 51 = .ok (.iload_n 2, 1) := by decide +kernel
theorem dX4_person_52 : decode cX4_person 52 = .ok (.iconst 3, 1) := by decide +kernel
theorem dX4_person_53 : decode cX4_person 53 = .ok (.if_icmp .ne 12, 3) := by decide +kernel
theorem dX4_person_56 : decode cX4_person 56 = .ok (.aload_n 0, 1) := by decide +kernel
theorem dX4_person_57 : decode cX4_person 57 = .ok (.getfield 19, 3) := by decide +kernel
theorem dX4_person_60 : decode cX4_person 60 = .ok (.iload_n 1, 1) := by decide +kernel
theorem dX4_person_61 : decode cX4_person 61 = .ok (.iaload, 1) := by decide +kernel
theorem dX4_person_62 : decode cX4_person 62 = .ok (.goto 5, 3) := by decide +kernel
theorem dX4_person_65 : decode cX4_person 65 = .ok (.bipush (-2), 2) := by decide +kernel
theorem dX4_person_67 : decode cX4_person 67 = .ok (.ireturn, 1) := by decide +kernel
theorem dX4_set_0 : decode cX4_set 0 = .ok (.iload_n 1, 1) := by decide +kernel
theorem dX4_set_1 : decode cX4_set 1 = .ok (.i2l, 1) := by decide +kernel
theorem dX4_set_2 : decode cX4_set 2 = .ok (.lconst 0, 1) := by decide +kernel
theorem dX4_set_3 : decode cX4_set 3 = .ok (.ldc2_w 83, 3) := by decide +kernel
theorem dX4_set_6 : decode cX4_set 6 = .ok (.invokestatic 59, 3) := by decide +kernel
theorem dX4_set_9 : decode cX4_set 9 = .ok (.ifCond .eq 42, 3) := by decide +kernel
theorem dX4_set_12 : decode cX4_set 12 = .ok (.iload_n 2, 1) := by decide +kernel
theorem dX4_set_13 : decode cX4_set 13 = .ok (.i2l, 1) := by decide +kernel
theorem dX4_set_14 : decode cX4_set 14 = .ok (.iload_n 1, 1) := by decide +kernel
theorem dX4_set_15 : decode cX4_set 15 = .ok (.ifCond .ne 7, 3) := by decide +kernel
theorem dX4_set_18 : decode cX4_set 18 = .ok (.lconst 1, 1) := by decide +kernel
theorem dX4_set_19 : decode cX4_set 19 = .ok (.goto 4, 3) := by decide +kernel
theorem dX4_set_22 : decode cX4_set 22 = .ok (.lconst 0, 1) := by decide +kernel
theorem dX4_set_23 : decode cX4_set 23 = .ok (.iload_n 1, 1) := by decide +kernel
theorem dX4_set_24 : decode cX4_set 24 = .ok (.ifCond .ne 9, 3) := by decide +kernel
theorem dX4_set_27 : decode cX4_set 27 = .ok (.ldc2_w 85, 3) := by decide +kernel
theorem dX4_set_30 : decode cX4_set 30 = .ok (.goto 15, 3) := by decide +kernel
theorem dX4_set_33 : decode cX4_set 33 = .ok (.iload_n 1, 1) := by decide +kernel
theorem dX4_set_34 : decode cX4_set 34 = .ok (.iconst 3, 1) := by decide +kernel
theorem dX4_set_35 : decode cX4_set 35 = .ok (.if_icmp .ne 7, 3) := by decide +kernel
theorem dX4_set_38 : decode cX4_set 38 = .ok (.lconst 1, 1) := by decide +kernel
theorem dX4_set_39 : decode cX4_set 39 = .ok (.goto 6, 3) := by decide +kernel
theorem dX4_set_42 : decode cX4_set 42 = .ok (.ldc2_w 74, 3) := by decide +kernel
theorem dX4_set_45 : decode cX4_set 45 = .ok (.invokestatic 59, 3) := by decide +kernel
theorem dX4_set_48 : decode cX4_set 48 = .ok (.ifCond .ne 6, 3) := by decide +kernel
theorem dX4_set_51 : decode cX4_set 51 = .ok (.bipush (-2), 2) := by decide +kernel
theorem dX4_set_53 : decode cX4_set 53 = .ok (.ireturn, 1) := by decide +kernel
theorem dX4_set_54 : decode cX4_set 54 = .ok (.iload_n 1, 1) := by decide +kernel
theorem dX4_set_55 : decode cX4_set 55 = .ok (.ifCond .ne 10, 3) := by decide +kernel
theorem dX4_set_58 : decode cX4_set 58 = .ok (.aload_n 0, 1) := by decide +kernel
theorem dX4_set_59 : decode cX4_set 59 = .ok (.getfield 50, 3) := by decide +kernel
theorem dX4_set_62 : decode cX4_set 62 = .ok (.goto 31, 3) := by decide +kernel
theorem dX4_set_65 : decode cX4_set 65 = .ok (.iload_n 1, 1) := by decide +kernel
theorem dX4_set_66 : decode cX4_set 66 = .ok (.iconst 1, 1) := by decide +kernel
theorem dX4_set_67 : decode cX4_set 67 = .ok (.if_icmp .ne 10, 3) := by decide +kernel
