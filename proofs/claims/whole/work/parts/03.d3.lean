theorem dX4_set_70 : decode cX4_set 70 = .ok (.aload_n 0, 1) := by decide +kernel
theorem dX4_set_71 : decode cX4_set 71 = .ok (.getfield 54, 3) := by decide +kernel
theorem dX4_set_74 : decode cX4_set 74 = .ok (.goto 19, 3) := by decide +kernel
theorem dX4_set_77 : decode cX4_set 77 = .ok (.iload_n 1, 1) := by decide +kernel
theorem dX4_set_78 : decode cX4_set 78 = .ok (.iconst 2, 1) := by decide +kernel
theorem dX4_set_79 : decode cX4_set 79 = .ok (.if_icmp .ne 10, 3) := by decide +kernel
theorem dX4_set_82 : decode cX4_set 82 = .ok (.aload_n 0, 1) := by decide +kernel
theorem dX4_set_83 : decode cX4_set 83 = .ok (.getfield 87, 3) := by decide +kernel
theorem dX4_set_86 : decode cX4_set 86 = .ok (.goto 7, 3) := by decide +kernel
theorem dX4_set_89 : decode cX4_set 89 = .ok (.aload_n 0, 1) := by decide +kernel
theorem dX4_set_90 : decode cX4_set 90 = .ok (.getfield 90, 3) := by decide +kernel
theorem dX4_set_93 : decode cX4_set 93 = .ok (.istore_n 3, 1) := by decide +kernel
theorem dX4_set_94 : decode cX4_set 94 = .ok (.aload_n 0, 1) := by decide +kernel
theorem dX4_set_95 : decode cX4_set 95 = .ok (.iload_n 1, 1) := by decide +kernel
theorem dX4_set_96 : decode cX4_set 96 = .ok (.ifCond .ne 7, 3) := by decide +kernel
theorem dX4_set_99 : decode cX4_set 99 = .ok (.iload_n 2, 1) := by decide +kernel
theorem dX4_set_100 : decode cX4_set 100 = .ok (.goto 7, 3) := by decide +kernel
theorem dX4_set_103 : decode cX4_set 103 = .ok (.aload_n 0, 1) := by decide +kernel
theorem dX4_set_104 : decode cX4_set 104 = .ok (.getfield 50, 3) := by decide +kernel
theorem dX4_set_107 : decode cX4_set 107 = .ok (.putfield 50, 3) := by decide +kernel
theorem dX4_set_110 : decode cX4_set 110 = .ok (.aload_n 0, 1) := by decide +kernel
theorem dX4_set_111 : decode cX4_set 111 = .ok (.iload_n 1, 1) := by decide +kernel
theorem dX4_set_112 : decode cX4_set 112 = .ok (.iconst 1, 1) := by decide +kernel
theorem dX4_set_113 : decode cX4_set 113 = .ok (.if_icmp .ne 7, 3) := by decide +kernel
theorem dX4_set_116 : decode cX4_set 116 = .ok (.iload_n 2, 1) := by decide +kernel
theorem dX4_set_117 : decode cX4_set 117 = .ok (.goto 7, 3) := by decide +kernel
theorem dX4_set_120 : decode cX4_set 120 = .ok (.aload_n 0, 1) := by decide +kernel
theorem dX4_set_121 : decode cX4_set 121 = .ok (.getfield 54, 3) := by decide +kernel
theorem dX4_set_124 : decode cX4_set 124 = .ok (.putfield 54, 3) := by decide +kernel
theorem dX4_set_127 : decode cX4_set 127 = .ok (.aload_n 0, 1) := by decide +kernel
theorem dX4_set_128 : decode cX4_set 128 = .ok (.iload_n 1, 1) := by decide +kernel
theorem dX4_set_129 : decode cX4_set 129 = .ok (.iconst 2, 1) := by decide +kernel
theorem dX4_set_130 : decode cX4_set 130 = .ok (.if_icmp .ne 7, 3) := by decide +kernel
theorem dX4_set_133 : decode cX4_set 133 = .ok (.iload_n 2, 1) := by decide +kernel
theorem dX4_set_134 : decode cX4_set 134 = .ok (.goto 7, 3) := by decide +kernel
theorem dX4_set_137 : decode cX4_set 137 = .ok (.aload_n 0, 1) := by decide +kernel
theorem dX4_set_138 : decode cX4_set 138 = .ok (.getfield 87, 3) := by decide +kernel
theorem dX4_set_141 : decode cX4_set 141 = .ok (.putfield 87, 3) := by decide +kernel
theorem dX4_set_144 : decode cX4_set 144 = .ok (.aload_n 0, 1) := by decide +kernel
theorem dX4_set_145 : decode cX4_set 145 = .ok (.iload_n 1, 1) := by decide +kernel
theorem dX4_set_146 : decode cX4_set 146 = .ok (.iconst 3, 1) := by decide +kernel
theorem dX4_set_147 : decode cX4_set 147 = .ok (.if_icmp .ne 7, 3) := by decide +kernel
theorem dX4_set_150 : decode cX4_set 150 = .ok (.iload_n 2, 1) := by decide +kernel
theorem dX4_set_151 : decode cX4_set 151 = .ok (.goto 7, 3) := by decide +kernel
theorem dX4_set_154 : decode cX4_set 154 = .ok (.aload_n 0, 1) := by decide +kernel
theorem dX4_set_155 : decode cX4_set 155 = .ok (.getfield 90, 3) := by decide +kernel
theorem dX4_set_158 : decode cX4_set 158 = .ok (.putfield 90, 3) := by decide +kernel
theorem dX4_set_161 : decode cX4_set 161 = .ok (.iload_n 3, 1) := by decide +kernel
theorem dX4_set_162 : decode cX4_set 162 = .ok (.ireturn, 1) := by decide +kernel
theorem dX4_say_0 : decode cX4_say 0 = .ok (.iload_n 1, 1) := by decide +kernel
theorem dX4_say_1 : decode cX4_say 1 = .ok (.i2l, 1) := by decide +kernel
theorem dX4_say_2 : decode cX4_say 2 = .ok (.ldc2_w 93, 3) := by decide +kernel
theorem dX4_say_5 : decode cX4_say 5 = .ok (.ldc2_w 95, 3) := by decide +kernel
theorem dX4_say_8 : decode cX4_say 8 = .ok (.invokestatic 59, 3) := by decide +kernel
theorem dX4_say_11 : decode cX4_say 11 = .ok (.ifCond .ne 6, 3) := by decide +kernel
theorem dX4_say_14 : decode cX4_say 14 = .ok (.bipush (-2), 2) := by decide +kernel
theorem dX4_say_16 : decode cX4_say 16 = .ok (.ireturn, 1) := by decide +kernel
theorem dX4_say_17 : decode cX4_say 17 = .ok (.aload_n 0, 1) := by decide +kernel
theorem dX4_say_18 : decode cX4_say 18 = .ok (.getfield 97, 3) := by decide +kernel
theorem dX4_say_21 : decode cX4_say 21 = .ok (.bipush 40, 2) := by decide +kernel
theorem dX4_say_23 : decode cX4_say 23 = .ok (.if_icmp .ne 6, 3) := by decide +kernel
theorem dX4_say_26 : decode cX4_say 26 = .ok (.bipush (-4), 2) := by decide +kernel
theorem dX4_say_28 : decode cX4_say 28 = .ok (.ireturn, 1) := by decide +kernel
theorem dX4_say_29 : decode cX4_say 29 = .ok (.aload_n 0, 1) := by decide +kernel
theorem dX4_say_30 : decode cX4_say 30 = .ok (.getfield 22, 3) := by decide +kernel
theorem dX4_say_33 : decode cX4_say 33 = .ok (.aload_n 0, 1) := by decide +kernel
theorem dX4_say_34 : decode cX4_say 34 = .ok (.getfield 97, 3) := by decide +kernel
theorem dX4_say_37 : decode cX4_say 37 = .ok (.iload_n 1, 1) := by decide +kernel
theorem dX4_say_38 : decode cX4_say 38 = .ok (.iastore, 1) := by decide +kernel
theorem dX4_say_39 : decode cX4_say 39 = .ok (.aload_n 0, 1) := by decide +kernel
theorem dX4_say_40 : decode cX4_say 40 = .ok (.dup, 1) := by decide +kernel
theorem dX4_say_41 : decode cX4_say 41 = .ok (.getfield 97, 3) := by decide +kernel
theorem dX4_say_44 : decode cX4_say 44 = .ok (.iconst 1, 1) := by decide +kernel
theorem dX4_say_45 : decode cX4_say 45 = .ok (.iadd, 1) := by decide +kernel
theorem dX4_say_46 : decode cX4_say 46 = .ok (.putfield 97, 3) := by decide +kernel
theorem dX4_say_49 : decode cX4_say 49 = .ok (.aload_n 0, 1) := by decide +kernel
theorem dX4_say_50 : decode cX4_say 50 = .ok (.getfield 97, 3) := by decide +kernel
theorem dX4_say_53 : decode cX4_say 53 = .ok (.ireturn, 1) := by decide +kernel
theorem dX4_wipe_0 : decode cX4_wipe 0 = .ok (.aload_n 0, 1) := by decide +kernel
theorem dX4_wipe_1 : decode cX4_wipe 1 = .ok (.getfield 97, 3) := by decide +kernel
theorem dX4_wipe_4 : decode cX4_wipe 4 = .ok (.istore_n 1, 1) := by decide +kernel
theorem dX4_wipe_5 : decode cX4_wipe 5 = .ok (.aload_n 0, 1) := by decide +kernel
theorem dX4_wipe_6 : decode cX4_wipe 6 = .ok (.iconst 0, 1) := by decide +kernel
theorem dX4_wipe_7 : decode cX4_wipe 7 = .ok (.putfield 97, 3) := by decide +kernel
theorem dX4_wipe_10 : decode cX4_wipe 10 = .ok (.iload_n 1, 1) := by decide +kernel
theorem dX4_wipe_11 : decode cX4_wipe 11 = .ok (.ireturn, 1) := by decide +kernel
theorem dX4_fault_0 : decode cX4_fault 0 = .ok (.iconst 0, 1) := by decide +kernel
theorem dX4_fault_1 : decode cX4_fault 1 = .ok (.istore_n 1, 1) := by decide +kernel
theorem dX4_fault_2 : decode cX4_fault 2 = .ok (.iconst 0, 1) := by decide +kernel
theorem dX4_fault_3 : decode cX4_fault 3 = .ok (.istore_n 2, 1) := by decide +kernel
theorem dX4_fault_4 : decode cX4_fault 4 = .ok (.iload_n 2, 1) := by decide +kernel
theorem dX4_fault_5 : decode cX4_fault 5 = .ok (.aload_n 0, 1) := by decide +kernel
theorem dX4_fault_6 : decode cX4_fault 6 = .ok (.getfield 97, 3) := by decide +kernel
theorem dX4_fault_9 : decode cX4_fault 9 = .ok (.if_icmp .ge 44, 3) := by decide +kernel
theorem dX4_fault_12 : decode cX4_fault 12 = .ok (.aload_n 0, 1) := by decide +kernel
theorem dX4_fault_13 : decode cX4_fault 13 = .ok (.getfield 22, 3) := by decide +kernel
theorem dX4_fault_16 : decode cX4_fault 16 = .ok (.iload_n 2, 1) := by decide +kernel
theorem dX4_fault_17 : decode cX4_fault 17 = .ok (.iaload, 1) := by decide +kernel
theorem dX4_fault_18 : decode cX4_fault 18 = .ok (.bipush 65, 2) := by decide +kernel
theorem dX4_fault_20 : decode cX4_fault 20 = .ok (.isub, 1) := by decide +kernel
theorem dX4_fault_21 : decode cX4_fault 21 = .ok (.istore_n 3, 1) := by decide +kernel
theorem dX4_fault_22 : decode cX4_fault 22 = .ok (.aload_n 0, 1) := by decide +kernel
theorem dX4_fault_23 : decode cX4_fault 23 = .ok (.iload_n 3, 1) := by decide +kernel
theorem dX4_fault_24 : decode cX4_fault 24 = .ok (.invokevirtual 80, 3) := by decide +kernel
theorem dX4_fault_27 : decode cX4_fault 27 = .ok (.ifCond .eq 12, 3) := by decide +kernel
theorem dX4_fault_30 : decode cX4_fault 30 = .ok (.iload_n 1, 1) := by decide +kernel
theorem dX4_fault_31 : decode cX4_fault 31 = .ok (.iload_n 3, 1) := by decide +kernel
theorem dX4_fault_32 : decode cX4_fault 32 = .ok (.ishr, 1) := by decide +kernel
theorem dX4_fault_33 : decode cX4_fault 33 = .ok (.iconst 1, 1) := by decide +kernel
theorem dX4_fault_34 : decode cX4_fault 34 = .ok (.iand, 1) := by decide +kernel
theorem dX4_fault_35 : decode cX4_fault 35 = .ok (.iconst 1, 1) := by decide +kernel
theorem dX4_fault_36 : decode cX4_fault 36 = .ok (.if_icmp .ne 5, 3) := by decide +kernel
theorem dX4_fault_39 : decode cX4_fault 39 = .ok (.iload_n 2, 1) := by decide +kernel
theorem dX4_fault_40 : decode cX4_fault 40 = .ok (.ireturn, 1) := by decide +kernel
theorem dX4_fault_41 : decode cX4_fault 41 = .ok (.iload_n 1, 1) := by decide +kernel
theorem dX4_fault_42 : decode cX4_fault 42 = .ok (.iconst 1, 1) := by decide +kernel
theorem dX4_fault_43 : decode cX4_fault 43 = .ok (.iload_n 3, 1) := by decide +kernel
theorem dX4_fault_44 : decode cX4_fault 44 = .ok (.ishl, 1) := by decide +kernel
theorem dX4_fault_45 : decode cX4_fault 45 = .ok (.ior, 1) := by decide +kernel
theorem dX4_fault_46 : decode cX4_fault 46 = .ok (.istore_n 1, 1) := by decide +kernel
theorem dX4_fault_47 : decode cX4_fault 47 = .ok (.iinc 2 1, 3) := by decide +kernel
theorem dX4_fault_50 : decode cX4_fault 50 = .ok (.goto (-46), 3) := by decide +kernel
theorem dX4_fault_53 : decode cX4_fault 53 = .ok (.bipush (-6), 2) := by decide +kernel
theorem dX4_fault_55 : decode cX4_fault 55 = .ok (.ireturn, 1) := by decide +kernel
theorem dX4_layNow_0 : decode cX4_layNow 0 = .ok (.iconst 0, 1) := by decide +kernel
theorem dX4_layNow_1 : decode cX4_layNow 1 = .ok (.istore_n 1, 1) := by decide +kernel
theorem dX4_layNow_2 : decode cX4_layNow 2 = .ok (.iload_n 1, 1) := by decide +kernel
theorem dX4_layNow_3 : decode cX4_layNow 3 = .ok (.bipush 8, 2) := by decide +kernel
theorem dX4_layNow_5 : decode cX4_layNow 5 = .ok (.if_icmp .ge 33, 3) := by decide +kernel
theorem dX4_layNow_8 : decode cX4_layNow 8 = .ok (.aload_n 0, 1) := by decide +kernel
theorem dX4_layNow_9 : decode cX4_layNow 9 = .ok (.getfield 25, 3) := by decide +kernel
theorem dX4_layNow_12 : decode cX4_layNow 12 = .ok (.iload_n 1, 1) := by decide +kernel
theorem dX4_layNow_13 : decode cX4_layNow 13 = .ok (.aload_n 0, 1) := by decide +kernel
theorem dX4_layNow_14 : decode cX4_layNow 14 = .ok (.getfield 7, 3) := by decide +kernel
theorem dX4_layNow_17 : decode cX4_layNow 17 = .ok (.iload_n 1, 1) := by decide +kernel
theorem dX4_layNow_18 : decode cX4_layNow 18 = .ok (.iaload, 1) := by decide +kernel
theorem dX4_layNow_19 : decode cX4_layNow 19 = .ok (.iastore, 1) := by decide +kernel
theorem dX4_layNow_20 : decode cX4_layNow 20 = .ok (.aload_n 0, 1) := by decide +kernel
theorem dX4_layNow_21 : decode cX4_layNow 21 = .ok (.getfield 28, 3) := by decide +kernel
theorem dX4_layNow_24 : decode cX4_layNow 24 = .ok (.iload_n 1, 1) := by decide +kernel
theorem dX4_layNow_25 : decode cX4_layNow 25 = .ok (.aload_n 0, 1) := by decide +kernel
theorem dX4_layNow_26 : decode cX4_layNow 26 = .ok (.getfield 13, 3) := by decide +kernel
theorem dX4_layNow_29 : decode cX4_layNow 29 = .ok (.iload_n 1, 1) := by decide +kernel
theorem dX4_layNow_30 : decode cX4_layNow 30 = .ok (.iaload, 1) := by decide +kernel
theorem dX4_layNow_31 : decode cX4_layNow 31 = .ok (.iastore, 1) := by decide +kernel
theorem dX4_layNow_32 : decode cX4_layNow 32 = .ok (.iinc 1 1, 3) := by decide +kernel
theorem dX4_layNow_35 : decode cX4_layNow 35 = .ok (.goto (-33), 3) := by decide +kernel
theorem dX4_layNow_38 : decode cX4_layNow 38 = .ok (.aload_n 0, 1) := by decide +kernel
theorem dX4_layNow_39 : decode cX4_layNow 39 = .ok (.aload_n 0, 1) := by decide +kernel
theorem dX4_layNow_40 : decode cX4_layNow 40 = .ok (.getfield 54, 3) := by decide +kernel
theorem dX4_layNow_43 : decode cX4_layNow 43 = .ok (.putfield 100, 3) := by decide +kernel
theorem dX4_layNow_46 : decode cX4_layNow 46 = .ok (.aload_n 0, 1) := by decide +kernel
theorem dX4_layNow_47 : decode cX4_layNow 47 = .ok (.aload_n 0, 1) := by decide +kernel
theorem dX4_layNow_48 : decode cX4_layNow 48 = .ok (.getfield 87, 3) := by decide +kernel
theorem dX4_layNow_51 : decode cX4_layNow 51 = .ok (.putfield 103, 3) := by decide +kernel
theorem dX4_layNow_54 : decode cX4_layNow 54 = .ok (.return_, 1) := by decide +kernel
theorem dX4_claimOf_0 : decode cX4_claimOf 0 = .ok (.aload_n 0, 1) := by decide +kernel
theorem dX4_claimOf_1 : decode cX4_claimOf 1 = .ok (.getfield 90, 3) := by decide +kernel
theorem dX4_claimOf_4 : decode cX4_claimOf 4 = .ok (.iconst 1, 1) := by decide +kernel
theorem dX4_claimOf_5 : decode cX4_claimOf 5 = .ok (.if_icmp .ne 24, 3) := by decide +kernel
theorem dX4_claimOf_8 : decode cX4_claimOf 8 = .ok (.aload_n 0, 1) := by decide +kernel
theorem dX4_claimOf_9 : decode cX4_claimOf 9 = .ok (.getfield 19, 3) := by decide +kernel
theorem dX4_claimOf_12 : decode cX4_claimOf 12 = .ok (.iload_n 1, 1) := by decide +kernel
theorem dX4_claimOf_13 : decode cX4_claimOf 13 = .ok (.iaload, 1) := by decide +kernel
theorem dX4_claimOf_14 : decode cX4_claimOf 14 = .ok (.iconst 1, 1) := by decide +kernel
theorem dX4_claimOf_15 : decode cX4_claimOf 15 = .ok (.if_icmp .ne 14, 3) := by decide +kernel
theorem dX4_claimOf_18 : decode cX4_claimOf 18 = .ok (.aload_n 0, 1) := by decide +kernel
theorem dX4_claimOf_19 : decode cX4_claimOf 19 = .ok (.getfield 25, 3) := by decide +kernel
theorem dX4_claimOf_22 : decode cX4_claimOf 22 = .ok (.iload_n 1, 1) := by decide +kernel
theorem dX4_claimOf_23 : decode cX4_claimOf 23 = .ok (.iaload, 1) := by decide +kernel
theorem dX4_claimOf_24 : decode cX4_claimOf 24 = .ok (.iconst 2, 1) := by decide +kernel
theorem dX4_claimOf_25 : decode cX4_claimOf 25 = .ok (.idiv, 1) := by decide +kernel
theorem dX4_claimOf_26 : decode cX4_claimOf 26 = .ok (.goto 9, 3) := by decide +kernel
theorem dX4_claimOf_29 : decode cX4_claimOf 29 = .ok (.aload_n 0, 1) := by decide +kernel
theorem dX4_claimOf_30 : decode cX4_claimOf 30 = .ok (.getfield 25, 3) := by decide +kernel
theorem dX4_claimOf_33 : decode cX4_claimOf 33 = .ok (.iload_n 1, 1) := by decide +kernel
theorem dX4_claimOf_34 : decode cX4_claimOf 34 = .ok (.iaload, 1) := by decide +kernel
theorem dX4_claimOf_35 : decode cX4_claimOf 35 = .ok (.istore_n 3, 1) := by decide +kernel
theorem dX4_claimOf_36 : decode cX4_claimOf 36 = .ok (.aload_n 0, 1) := by decide +kernel
theorem dX4_claimOf_37 : decode cX4_claimOf 37 = .ok (.getfield 100, 3) := by decide +kernel
theorem dX4_claimOf_40 : decode cX4_claimOf 40 = .ok (.iload_n 3, 1) := by decide +kernel
theorem dX4_claimOf_41 : decode cX4_claimOf 41 = .ok (.imul, 1) := by decide +kernel
theorem dX4_claimOf_42 : decode cX4_claimOf 42 = .ok (.aload_n 0, 1) := by decide +kernel
theorem dX4_claimOf_43 : decode cX4_claimOf 43 = .ok (.getfield 103, 3) := by decide +kernel
theorem dX4_claimOf_46 : decode cX4_claimOf 46 = .ok (.iload_n 2, 1) := by decide +kernel
theorem dX4_claimOf_47 : decode cX4_claimOf 47 = .ok (.aload_n 0, 1) := by decide +kernel
theorem dX4_claimOf_48 : decode cX4_claimOf 48 = .ok (.getfield 28, 3) := by decide +kernel
theorem dX4_claimOf_51 : decode cX4_claimOf 51 = .ok (.iload_n 1, 1) := by decide +kernel
theorem dX4_claimOf_52 : decode cX4_claimOf 52 = .ok (.iaload, 1) := by decide +kernel
theorem dX4_claimOf_53 : decode cX4_claimOf 53 = .ok (.isub, 1) := by decide +kernel
theorem dX4_claimOf_54 : decode cX4_claimOf 54 = .ok (.imul, 1) := by decide +kernel
theorem dX4_claimOf_55 : decode cX4_claimOf 55 = .ok (.iadd, 1) := by decide +kernel
theorem dX4_claimOf_56 : decode cX4_claimOf 56 = .ok (.ireturn, 1) := by decide +kernel
theorem dX4_isAhead_0 : decode cX4_isAhead 0 = .ok (.aload_n 0, 1) := by decide +kernel
theorem dX4_isAhead_1 : decode cX4_isAhead 1 = .ok (.iload_n 1, 1) := by decide +kernel
theorem dX4_isAhead_2 : decode cX4_isAhead 2 = .ok (.iload_n 3, 1) := by decide +kernel
theorem dX4_isAhead_3 : decode cX4_isAhead 3 = .ok (.invokevirtual 106, 3) := by decide +kernel
theorem dX4_isAhead_6 : decode cX4_isAhead 6 = .ok (.istore 4, 2) := by decide +kernel
theorem dX4_isAhead_8 : decode cX4_isAhead 8 = .ok (.aload_n 0, 1) := by decide +kernel
theorem dX4_isAhead_9 : decode cX4_isAhead 9 = .ok (.iload_n 2, 1) := by decide +kernel
theorem dX4_isAhead_10 : decode cX4_isAhead 10 = .ok (.iload_n 3, 1) := by decide +kernel
theorem dX4_isAhead_11 : decode cX4_isAhead 11 = .ok (.invokevirtual 106, 3) := by decide +kernel
theorem dX4_isAhead_14 : decode cX4_isAhead 14 = .ok (.istore 5, 2) := by decide +kernel
theorem dX4_isAhead_16 : decode cX4_isAhead 16 = .ok (.iload 4, 2) := by decide +kernel
theorem dX4_isAhead_18 : decode cX4_isAhead 18 = .ok (.iload 5, 2) := by decide +kernel
theorem dX4_isAhead_20 : decode cX4_isAhead 20 = .ok (.if_icmp .eq 18, 3) := by decide +kernel
theorem dX4_isAhead_23 : decode cX4_isAhead 23 = .ok (.iload 4, 2) := by decide +kernel
theorem dX4_isAhead_25 : decode cX4_isAhead 25 = .ok (.iload 5, 2) := by decide +kernel
theorem dX4_isAhead_27 : decode cX4_isAhead 27 = .ok (.if_icmp .le 7, 3) := by decide +kernel
theorem dX4_isAhead_30 : decode cX4_isAhead 30 = .ok (.iconst 1, 1) := by decide +kernel
theorem dX4_isAhead_31 : decode cX4_isAhead 31 = .ok (.goto 55, 3) := by decide +kernel
theorem dX4_isAhead_34 : decode cX4_isAhead 34 = .ok (.iconst 0, 1) := by decide +kernel
theorem dX4_isAhead_35 : decode cX4_isAhead 35 = .ok (.goto 51, 3) := by decide +kernel
theorem dX4_isAhead_38 : decode cX4_isAhead 38 = .ok (.aload_n 0, 1) := by decide +kernel
theorem dX4_isAhead_39 : decode cX4_isAhead 39 = .ok (.getfield 28, 3) := by decide +kernel
theorem dX4_isAhead_42 : decode cX4_isAhead 42 = .ok (.iload_n 1, 1) := by decide +kernel
theorem dX4_isAhead_43 : decode cX4_isAhead 43 = .ok (.iaload, 1) := by decide +kernel
theorem dX4_isAhead_44 : decode cX4_isAhead 44 = .ok (.aload_n 0, 1) := by decide +kernel
theorem dX4_isAhead_45 : decode cX4_isAhead 45 = .ok (.getfield 28, 3) := by decide +kernel
theorem dX4_isAhead_48 : decode cX4_isAhead 48 = .ok (.iload_n 2, 1) := by decide +kernel
theorem dX4_isAhead_49 : decode cX4_isAhead 49 = .ok (.iaload, 1) := by decide +kernel
theorem dX4_isAhead_50 : decode cX4_isAhead 50 = .ok (.if_icmp .eq 26, 3) := by decide +kernel
theorem dX4_isAhead_53 : decode cX4_isAhead 53 = .ok (.aload_n 0, 1) := by decide +kernel
theorem dX4_isAhead_54 : decode cX4_isAhead 54 = .ok (.getfield 28, 3) := by decide +kernel
theorem dX4_isAhead_57 : decode cX4_isAhead 57 = .ok (.iload_n 1, 1) := by decide +kernel
theorem dX4_isAhead_58 : decode cX4_isAhead 58 = .ok (.iaload, 1) := by decide +kernel
theorem dX4_isAhead_59 : decode cX4_isAhead 59 = .ok (.aload_n 0, 1) := by decide +kernel
theorem dX4_isAhead_60 : decode cX4_isAhead 60 = .ok (.getfield 28, 3) := by decide +kernel
theorem dX4_isAhead_63 : decode cX4_isAhead 63 = .ok (.iload_n 2, 1) := by decide +kernel
theorem dX4_isAhead_64 : decode cX4_isAhead 64 = .ok (.iaload, 1) := by decide +kernel
theorem dX4_isAhead_65 : decode cX4_isAhead 65 = .ok (.if_icmp .ge 7, 3) := by decide +kernel
theorem dX4_isAhead_68 : decode cX4_isAhead 68 = .ok (.iconst 1, 1) := by decide +kernel
theorem dX4_isAhead_69 : decode cX4_isAhead 69 = .ok (.goto 17, 3) := by decide +kernel
theorem dX4_isAhead_72 : decode cX4_isAhead 72 = .ok (.iconst 0, 1) := by decide +kernel
theorem dX4_isAhead_73 : decode cX4_isAhead 73 = .ok (.goto 13, 3) := by decide +kernel
theorem dX4_isAhead_76 : decode cX4_isAhead 76 = .ok (.iload_n 1, 1) := by decide +kernel
theorem dX4_isAhead_77 : decode cX4_isAhead 77 = .ok (.iload_n 2, 1) := by decide +kernel
theorem dX4_isAhead_78 : decode cX4_isAhead 78 = .ok (.if_icmp .ge 7, 3) := by decide +kernel
theorem dX4_isAhead_81 : decode cX4_isAhead 81 = .ok (.iconst 1, 1) := by decide +kernel
theorem dX4_isAhead_82 : decode cX4_isAhead 82 = .ok (.goto 4, 3) := by decide +kernel
theorem dX4_isAhead_85 : decode cX4_isAhead 85 = .ok (.iconst 0, 1) := by decide +kernel
theorem dX4_isAhead_86 : decode cX4_isAhead 86 = .ok (.ireturn, 1) := by decide +kernel
theorem dX4_nextOf_0 : decode cX4_nextOf 0 = .ok (.bipush (-6), 2) := by decide +kernel
theorem dX4_nextOf_2 : decode cX4_nextOf 2 = .ok (.istore_n 3, 1) := by decide +kernel
theorem dX4_nextOf_3 : decode cX4_nextOf 3 = .ok (.iconst 0, 1) := by decide +kernel
theorem dX4_nextOf_4 : decode cX4_nextOf 4 = .ok (.istore 4, 2) := by decide +kernel
theorem dX4_nextOf_6 : decode cX4_nextOf 6 = .ok (.iload 4, 2) := by decide +kernel
theorem dX4_nextOf_8 : decode cX4_nextOf 8 = .ok (.bipush 8, 2) := by decide +kernel
theorem dX4_nextOf_10 : decode cX4_nextOf 10 = .ok (.if_icmp .ge 64, 3) := by decide +kernel
theorem dX4_nextOf_13 : decode cX4_nextOf 13 = .ok (.iload_n 1, 1) := by decide +kernel
theorem dX4_nextOf_14 : decode cX4_nextOf 14 = .ok (.iload 4, 2) := by decide +kernel
theorem dX4_nextOf_16 : decode cX4_nextOf 16 = .ok (.ishr, 1) := by decide +kernel
theorem dX4_nextOf_17 : decode cX4_nextOf 17 = .ok (.iconst 1, 1) := by decide +kernel
theorem dX4_nextOf_18 : decode cX4_nextOf 18 = .ok (.iand, 1) := by decide +kernel
theorem dX4_nextOf_19 : decode cX4_nextOf 19 = .ok (.iconst 1, 1) := by decide +kernel
theorem dX4_nextOf_20 : decode cX4_nextOf 20 = .ok (.if_icmp .ne 18, 3) := by decide +kernel
theorem dX4_nextOf_23 : decode cX4_nextOf 23 = .ok (.aload_n 0, 1) := by decide +kernel
theorem dX4_nextOf_24 : decode cX4_nextOf 24 = .ok (.getfield 28, 3) := by decide +kernel
theorem dX4_nextOf_27 : decode cX4_nextOf 27 = .ok (.iload 4, 2) := by decide +kernel
theorem dX4_nextOf_29 : decode cX4_nextOf 29 = .ok (.iaload, 1) := by decide +kernel
theorem dX4_nextOf_30 : decode cX4_nextOf 30 = .ok (.iload_n 2, 1) := by decide +kernel
theorem dX4_nextOf_31 : decode cX4_nextOf 31 = .ok (.if_icmp .gt 7, 3) := by decide +kernel
theorem dX4_nextOf_34 : decode cX4_nextOf 34 = .ok (.iconst 1, 1) := by decide +kernel
theorem dX4_nextOf_35 : decode cX4_nextOf 35 = .ok (.goto 4, 3) := by decide +kernel
theorem dX4_nextOf_38 : decode cX4_nextOf 38 = .ok (.iconst 0, 1) := by decide +kernel
theorem dX4_nextOf_39 : decode cX4_nextOf 39 = .ok (.istore 5, 2) := by decide +kernel
theorem dX4_nextOf_41 : decode cX4_nextOf 41 = .ok (.iload 5, 2) := by decide +kernel
theorem dX4_nextOf_43 : decode cX4_nextOf 43 = .ok (.ifCond .eq 23, 3) := by decide +kernel
theorem dX4_nextOf_46 : decode cX4_nextOf 46 = .ok (.iload_n 3, 1) := by decide +kernel
theorem dX4_nextOf_47 : decode cX4_nextOf 47 = .ok (.ifCond .lt 14, 3) := by decide +kernel
theorem dX4_nextOf_50 : decode cX4_nextOf 50 = .ok (.aload_n 0, 1) := by decide +kernel
theorem dX4_nextOf_51 : decode cX4_nextOf 51 = .ok (.iload 4, 2) := by decide +kernel
theorem dX4_nextOf_53 : decode cX4_nextOf 53 = .ok (.iload_n 3, 1) := by decide +kernel
theorem dX4_nextOf_54 : decode cX4_nextOf 54 = .ok (.iload_n 2, 1) := by decide +kernel
theorem dX4_nextOf_55 : decode cX4_nextOf 55 = .ok (.invokevirtual 110, 3) := by decide +kernel
theorem dX4_nextOf_58 : decode cX4_nextOf 58 = .ok (.ifCond .eq 8, 3) := by decide +kernel
theorem dX4_nextOf_61 : decode cX4_nextOf 61 = .ok (.iload 4, 2) := by decide +kernel
theorem dX4_nextOf_63 : decode cX4_nextOf 63 = .ok (.goto 4, 3) := by decide +kernel
theorem dX4_nextOf_66 : decode cX4_nextOf 66 = .ok (.iload_n 3, 1) := by decide +kernel
theorem dX4_nextOf_67 : decode cX4_nextOf 67 = .ok (.istore_n 3, 1) := by decide +kernel
theorem dX4_nextOf_68 : decode cX4_nextOf 68 = .ok (.iinc 4 1, 3) := by decide +kernel
theorem dX4_nextOf_71 : decode cX4_nextOf 71 = .ok (.goto (-65), 3) := by decide +kernel
theorem dX4_nextOf_74 : decode cX4_nextOf 74 = .ok (.iload_n 3, 1) := by decide +kernel
theorem dX4_nextOf_75 : decode cX4_nextOf 75 = .ok (.ireturn, 1) := by decide +kernel
theorem dX4_soonest_0 : decode cX4_soonest 0 = .ok (.ldc 114, 2) := by decide +kernel
theorem dX4_soonest_2 : decode cX4_soonest 2 = .ok (.istore_n 2, 1) := by decide +kernel
theorem dX4_soonest_3 : decode cX4_soonest 3 = .ok (.iconst 0, 1) := by decide +kernel
theorem dX4_soonest_4 : decode cX4_soonest 4 = .ok (.istore_n 3, 1) := by decide +kernel
theorem dX4_soonest_5 : decode cX4_soonest 5 = .ok (.iload_n 3, 1) := by decide +kernel
theorem dX4_soonest_6 : decode cX4_soonest 6 = .ok (.bipush 8, 2) := by decide +kernel
theorem dX4_soonest_8 : decode cX4_soonest 8 = .ok (.if_icmp .ge 39, 3) := by decide +kernel
theorem dX4_soonest_11 : decode cX4_soonest 11 = .ok (.iload_n 1, 1) := by decide +kernel
theorem dX4_soonest_12 : decode cX4_soonest 12 = .ok (.iload_n 3, 1) := by decide +kernel
theorem dX4_soonest_13 : decode cX4_soonest 13 = .ok (.ishr, 1) := by decide +kernel
theorem dX4_soonest_14 : decode cX4_soonest 14 = .ok (.iconst 1, 1) := by decide +kernel
theorem dX4_soonest_15 : decode cX4_soonest 15 = .ok (.iand, 1) := by decide +kernel
theorem dX4_soonest_16 : decode cX4_soonest 16 = .ok (.iconst 1, 1) := by decide +kernel
theorem dX4_soonest_17 : decode cX4_soonest 17 = .ok (.if_icmp .ne 22, 3) := by decide +kernel
theorem dX4_soonest_20 : decode cX4_soonest 20 = .ok (.aload_n 0, 1) := by decide +kernel
theorem dX4_soonest_21 : decode cX4_soonest 21 = .ok (.getfield 28, 3) := by decide +kernel
theorem dX4_soonest_24 : decode cX4_soonest 24 = .ok (.iload_n 3, 1) := by decide +kernel
theorem dX4_soonest_25 : decode cX4_soonest 25 = .ok (.iaload, 1) := by decide +kernel
theorem dX4_soonest_26 : decode cX4_soonest 26 = .ok (.iload_n 2, 1) := by decide +kernel
theorem dX4_soonest_27 : decode cX4_soonest 27 = .ok (.if_icmp .ge 12, 3) := by decide +kernel
theorem dX4_soonest_30 : decode cX4_soonest 30 = .ok (.aload_n 0, 1) := by decide +kernel
theorem dX4_soonest_31 : decode cX4_soonest 31 = .ok (.getfield 28, 3) := by decide +kernel
theorem dX4_soonest_34 : decode cX4_soonest 34 = .ok (.iload_n 3, 1) := by decide +kernel
theorem dX4_soonest_35 : decode cX4_soonest 35 = .ok (.iaload, 1) := by decide +kernel
theorem dX4_soonest_36 : decode cX4_soonest 36 = .ok (.goto 4, 3) := by decide +kernel
theorem dX4_soonest_39 : decode cX4_soonest 39 = .ok (.iload_n 2, 1) := by decide +kernel
theorem dX4_soonest_40 : decode cX4_soonest 40 = .ok (.istore_n 2, 1) := by decide +kernel
theorem dX4_soonest_41 : decode cX4_soonest 41 = .ok (.iinc 3 1, 3) := by decide +kernel
theorem dX4_soonest_44 : decode cX4_soonest 44 = .ok (.goto (-39), 3) := by decide +kernel
theorem dX4_soonest_47 : decode cX4_soonest 47 = .ok (.iload_n 2, 1) := by decide +kernel
theorem dX4_soonest_48 : decode cX4_soonest 48 = .ok (.ireturn, 1) := by decide +kernel
theorem dX4_go_0 : decode cX4_go 0 = .ok (.iload_n 1, 1) := by decide +kernel
theorem dX4_go_1 : decode cX4_go 1 = .ok (.istore_n 3, 1) := by decide +kernel
theorem dX4_go_2 : decode cX4_go 2 = .ok (.iconst 0, 1) := by decide +kernel
theorem dX4_go_3 : decode cX4_go 3 = .ok (.istore 4, 2) := by decide +kernel
theorem dX4_go_5 : decode cX4_go 5 = .ok (.iload_n 2, 1) := by decide +kernel
theorem dX4_go_6 : decode cX4_go 6 = .ok (.istore 5, 2) := by decide +kernel
theorem dX4_go_8 : decode cX4_go 8 = .ok (.aload_n 0, 1) := by decide +kernel
theorem dX4_go_9 : decode cX4_go 9 = .ok (.iconst 0, 1) := by decide +kernel
theorem dX4_go_10 : decode cX4_go 10 = .ok (.putfield 115, 3) := by decide +kernel
theorem dX4_go_13 : decode cX4_go 13 = .ok (.iload_n 3, 1) := by decide +kernel
theorem dX4_go_14 : decode cX4_go 14 = .ok (.ifCond .eq 146, 3) := by decide +kernel
theorem dX4_go_17 : decode cX4_go 17 = .ok (.aload_n 0, 1) := by decide +kernel
theorem dX4_go_18 : decode cX4_go 18 = .ok (.iload_n 3, 1) := by decide +kernel
theorem dX4_go_19 : decode cX4_go 19 = .ok (.iload 4, 2) := by decide +kernel
theorem dX4_go_21 : decode cX4_go 21 = .ok (.invokevirtual 118, 3) := by decide +kernel
theorem dX4_go_24 : decode cX4_go 24 = .ok (.istore 6, 2) := by decide +kernel
theorem dX4_go_26 : decode cX4_go 26 = .ok (.iload 6, 2) := by decide +kernel
theorem dX4_go_28 : decode cX4_go 28 = .ok (.ifCond .ge 13, 3) := by decide +kernel
theorem dX4_go_31 : decode cX4_go 31 = .ok (.aload_n 0, 1) := by decide +kernel
theorem dX4_go_32 : decode cX4_go 32 = .ok (.iload_n 3, 1) := by decide +kernel
theorem dX4_go_33 : decode cX4_go 33 = .ok (.invokevirtual 121, 3) := by decide +kernel
theorem dX4_go_36 : decode cX4_go 36 = .ok (.istore 4, 2) := by decide +kernel
theorem dX4_go_38 : decode cX4_go 38 = .ok (.goto 119, 3) := by decide +kernel
theorem dX4_go_41 : decode cX4_go 41 = .ok (.aload_n 0, 1) := by decide +kernel
theorem dX4_go_42 : decode cX4_go 42 = .ok (.getfield 37, 3) := by decide +kernel
theorem dX4_go_45 : decode cX4_go 45 = .ok (.iload 6, 2) := by decide +kernel
theorem dX4_go_47 : decode cX4_go 47 = .ok (.aload_n 0, 1) := by decide +kernel
theorem dX4_go_48 : decode cX4_go 48 = .ok (.getfield 16, 3) := by decide +kernel
theorem dX4_go_51 : decode cX4_go 51 = .ok (.iload 6, 2) := by decide +kernel
theorem dX4_go_53 : decode cX4_go 53 = .ok (.iaload, 1) := by decide +kernel
theorem dX4_go_54 : decode cX4_go 54 = .ok (.iload 5, 2) := by decide +kernel
theorem dX4_go_56 : decode cX4_go 56 = .ok (.if_icmp .ge 13, 3) := by decide +kernel
theorem dX4_go_59 : decode cX4_go 59 = .ok (.aload_n 0, 1) := by decide +kernel
theorem dX4_go_60 : decode cX4_go 60 = .ok (.getfield 16, 3) := by decide +kernel
theorem dX4_go_63 : decode cX4_go 63 = .ok (.iload 6, 2) := by decide +kernel
theorem dX4_go_65 : decode cX4_go 65 = .ok (.iaload, 1) := by decide +kernel
theorem dX4_go_66 : decode cX4_go 66 = .ok (.goto 5, 3) := by decide +kernel
theorem dX4_go_69 : decode cX4_go 69 = .ok (.iload 5, 2) := by decide +kernel
theorem dX4_go_71 : decode cX4_go 71 = .ok (.iastore, 1) := by decide +kernel
theorem dX4_go_72 : decode cX4_go 72 = .ok (.iload 5, 2) := by decide +kernel
theorem dX4_go_74 : decode cX4_go 74 = .ok (.aload_n 0, 1) := by decide +kernel
theorem dX4_go_75 : decode cX4_go 75 = .ok (.getfield 37, 3) := by decide +kernel
theorem dX4_go_78 : decode cX4_go 78 = .ok (.iload 6, 2) := by decide +kernel
theorem dX4_go_80 : decode cX4_go 80 = .ok (.iaload, 1) := by decide +kernel
theorem dX4_go_81 : decode cX4_go 81 = .ok (.isub, 1) := by decide +kernel
theorem dX4_go_82 : decode cX4_go 82 = .ok (.istore 5, 2) := by decide +kernel
theorem dX4_go_84 : decode cX4_go 84 = .ok (.aload_n 0, 1) := by decide +kernel
theorem dX4_go_85 : decode cX4_go 85 = .ok (.getfield 31, 3) := by decide +kernel
theorem dX4_go_88 : decode cX4_go 88 = .ok (.iload 6, 2) := by decide +kernel
theorem dX4_go_90 : decode cX4_go 90 = .ok (.iload 4, 2) := by decide +kernel
theorem dX4_go_92 : decode cX4_go 92 = .ok (.aload_n 0, 1) := by decide +kernel
theorem dX4_go_93 : decode cX4_go 93 = .ok (.getfield 28, 3) := by decide +kernel
theorem dX4_go_96 : decode cX4_go 96 = .ok (.iload 6, 2) := by decide +kernel
theorem dX4_go_98 : decode cX4_go 98 = .ok (.iaload, 1) := by decide +kernel
theorem dX4_go_99 : decode cX4_go 99 = .ok (.isub, 1) := by decide +kernel
theorem dX4_go_100 : decode cX4_go 100 = .ok (.iastore, 1) := by decide +kernel
theorem dX4_go_101 : decode cX4_go 101 = .ok (.iload 4, 2) := by decide +kernel
theorem dX4_go_103 : decode cX4_go 103 = .ok (.aload_n 0, 1) := by decide +kernel
theorem dX4_go_104 : decode cX4_go 104 = .ok (.getfield 50, 3) := by decide +kernel
theorem dX4_go_107 : decode cX4_go 107 = .ok (.aload_n 0, 1) := by decide +kernel
theorem dX4_go_108 : decode cX4_go 108 = .ok (.getfield 37, 3) := by decide +kernel
theorem dX4_go_111 : decode cX4_go 111 = .ok (.iload 6, 2) := by decide +kernel
theorem dX4_go_113 : decode cX4_go 113 = .ok (.iaload, 1) := by decide +kernel
theorem dX4_go_114 : decode cX4_go 114 = .ok (.imul, 1) := by decide +kernel
theorem dX4_go_115 : decode cX4_go 115 = .ok (.iadd, 1) := by decide +kernel
theorem dX4_go_116 : decode cX4_go 116 = .ok (.istore 4, 2) := by decide +kernel
theorem dX4_go_118 : decode cX4_go 118 = .ok (.aload_n 0, 1) := by decide +kernel
theorem dX4_go_119 : decode cX4_go 119 = .ok (.getfield 34, 3) := by decide +kernel
theorem dX4_go_122 : decode cX4_go 122 = .ok (.iload 6, 2) := by decide +kernel
theorem dX4_go_124 : decode cX4_go 124 = .ok (.iload 4, 2) := by decide +kernel
theorem dX4_go_126 : decode cX4_go 126 = .ok (.iastore, 1) := by decide +kernel
theorem dX4_go_127 : decode cX4_go 127 = .ok (.aload_n 0, 1) := by decide +kernel
theorem dX4_go_128 : decode cX4_go 128 = .ok (.getfield 40, 3) := by decide +kernel
theorem dX4_go_131 : decode cX4_go 131 = .ok (.aload_n 0, 1) := by decide +kernel
theorem dX4_go_132 : decode cX4_go 132 = .ok (.getfield 115, 3) := by decide +kernel
theorem dX4_go_135 : decode cX4_go 135 = .ok (.iload 6, 2) := by decide +kernel
theorem dX4_go_137 : decode cX4_go 137 = .ok (.iastore, 1) := by decide +kernel
theorem dX4_go_138 : decode cX4_go 138 = .ok (.aload_n 0, 1) := by decide +kernel
theorem dX4_go_139 : decode cX4_go 139 = .ok (.dup, 1) := by decide +kernel
theorem dX4_go_140 : decode cX4_go 140 = .ok (.getfield 115, 3) := by decide +kernel
theorem dX4_go_143 : decode cX4_go 143 = .ok (.iconst 1, 1) := by decide +kernel
theorem dX4_go_144 : decode cX4_go 144 = .ok (.iadd, 1) := by decide +kernel
theorem dX4_go_145 : decode cX4_go 145 = .ok (.putfield 115, 3) := by decide +kernel
theorem dX4_go_148 : decode cX4_go 148 = .ok (.iload_n 3, 1) := by decide +kernel
theorem dX4_go_149 : decode cX4_go 149 = .ok (.iconst 1, 1) := by decide +kernel
theorem dX4_go_150 : decode cX4_go 150 = .ok (.iload 6, 2) := by decide +kernel
theorem dX4_go_152 : decode cX4_go 152 = .ok (.ishl, 1) := by decide +kernel
theorem dX4_go_153 : decode cX4_go 153 = .ok (.iconst (-1), 1) := by decide +kernel
theorem dX4_go_154 : decode cX4_go 154 = .ok (.ixor, 1) := by decide +kernel
theorem dX4_go_155 : decode cX4_go 155 = .ok (.iand, 1) := by decide +kernel
theorem dX4_go_156 : decode cX4_go 156 = .ok (.istore_n 3, 1) := by decide +kernel
theorem dX4_go_157 : decode cX4_go 157 = .ok (.goto (-144), 3) := by decide +kernel
theorem dX4_go_160 : decode cX4_go 160 = .ok (.return_, 1) := by decide +kernel
theorem dX4_worstOf_0 : decode cX4_worstOf 0 = .ok (.iconst 0, 1) := by decide +kernel
theorem dX4_worstOf_1 : decode cX4_worstOf 1 = .ok (.istore_n 2, 1) := by decide +kernel
theorem dX4_worstOf_2 : decode cX4_worstOf 2 = .ok (.iconst 0, 1) := by decide +kernel
theorem dX4_worstOf_3 : decode cX4_worstOf 3 = .ok (.istore_n 3, 1) := by decide +kernel
theorem dX4_worstOf_4 : decode cX4_worstOf 4 = .ok (.iload_n 3, 1) := by decide +kernel
theorem dX4_worstOf_5 : decode cX4_worstOf 5 = .ok (.bipush 8, 2) := by decide +kernel
theorem dX4_worstOf_7 : decode cX4_worstOf 7 = .ok (.if_icmp .ge 39, 3) := by decide +kernel
theorem dX4_worstOf_10 : decode cX4_worstOf 10 = .ok (.iload_n 1, 1) := by decide +kernel
theorem dX4_worstOf_11 : decode cX4_worstOf 11 = .ok (.iload_n 3, 1) := by decide +kernel
theorem dX4_worstOf_12 : decode cX4_worstOf 12 = .ok (.ishr, 1) := by decide +kernel
theorem dX4_worstOf_13 : decode cX4_worstOf 13 = .ok (.iconst 1, 1) := by decide +kernel
theorem dX4_worstOf_14 : decode cX4_worstOf 14 = .ok (.iand, 1) := by decide +kernel
theorem dX4_worstOf_15 : decode cX4_worstOf 15 = .ok (.iconst 1, 1) := by decide +kernel
theorem dX4_worstOf_16 : decode cX4_worstOf 16 = .ok (.if_icmp .ne 22, 3) := by decide +kernel
theorem dX4_worstOf_19 : decode cX4_worstOf 19 = .ok (.aload_n 0, 1) := by decide +kernel
theorem dX4_worstOf_20 : decode cX4_worstOf 20 = .ok (.getfield 31, 3) := by decide +kernel
theorem dX4_worstOf_23 : decode cX4_worstOf 23 = .ok (.iload_n 3, 1) := by decide +kernel
theorem dX4_worstOf_24 : decode cX4_worstOf 24 = .ok (.iaload, 1) := by decide +kernel
theorem dX4_worstOf_25 : decode cX4_worstOf 25 = .ok (.iload_n 2, 1) := by decide +kernel
theorem dX4_worstOf_26 : decode cX4_worstOf 26 = .ok (.if_icmp .le 12, 3) := by decide +kernel
theorem dX4_worstOf_29 : decode cX4_worstOf 29 = .ok (.aload_n 0, 1) := by decide +kernel
theorem dX4_worstOf_30 : decode cX4_worstOf 30 = .ok (.getfield 31, 3) := by decide +kernel
theorem dX4_worstOf_33 : decode cX4_worstOf 33 = .ok (.iload_n 3, 1) := by decide +kernel
theorem dX4_worstOf_34 : decode cX4_worstOf 34 = .ok (.iaload, 1) := by decide +kernel
theorem dX4_worstOf_35 : decode cX4_worstOf 35 = .ok (.goto 4, 3) := by decide +kernel
theorem dX4_worstOf_38 : decode cX4_worstOf 38 = .ok (.iload_n 2, 1) := by decide +kernel
theorem dX4_worstOf_39 : decode cX4_worstOf 39 = .ok (.istore_n 2, 1) := by decide +kernel
theorem dX4_worstOf_40 : decode cX4_worstOf 40 = .ok (.iinc 3 1, 3) := by decide +kernel
theorem dX4_worstOf_43 : decode cX4_worstOf 43 = .ok (.goto (-39), 3) := by decide +kernel
theorem dX4_worstOf_46 : decode cX4_worstOf 46 = .ok (.iload_n 2, 1) := by decide +kernel
theorem dX4_worstOf_47 : decode cX4_worstOf 47 = .ok (.ireturn, 1) := by decide +kernel
theorem dX4_sumOf_0 : decode cX4_sumOf 0 = .ok (.iconst 0, 1) := by decide +kernel
theorem dX4_sumOf_1 : decode cX4_sumOf 1 = .ok (.istore_n 2, 1) := by decide +kernel
theorem dX4_sumOf_2 : decode cX4_sumOf 2 = .ok (.iconst 0, 1) := by decide +kernel
theorem dX4_sumOf_3 : decode cX4_sumOf 3 = .ok (.istore_n 3, 1) := by decide +kernel
theorem dX4_sumOf_4 : decode cX4_sumOf 4 = .ok (.iload_n 3, 1) := by decide +kernel
theorem dX4_sumOf_5 : decode cX4_sumOf 5 = .ok (.bipush 8, 2) := by decide +kernel
theorem dX4_sumOf_7 : decode cX4_sumOf 7 = .ok (.if_icmp .ge 31, 3) := by decide +kernel
theorem dX4_sumOf_10 : decode cX4_sumOf 10 = .ok (.iload_n 2, 1) := by decide +kernel
theorem dX4_sumOf_11 : decode cX4_sumOf 11 = .ok (.iload_n 1, 1) := by decide +kernel
theorem dX4_sumOf_12 : decode cX4_sumOf 12 = .ok (.iload_n 3, 1) := by decide +kernel
theorem dX4_sumOf_13 : decode cX4_sumOf 13 = .ok (.ishr, 1) := by decide +kernel
theorem dX4_sumOf_14 : decode cX4_sumOf 14 = .ok (.iconst 1, 1) := by decide +kernel
theorem dX4_sumOf_15 : decode cX4_sumOf 15 = .ok (.iand, 1) := by decide +kernel
theorem dX4_sumOf_16 : decode cX4_sumOf 16 = .ok (.iconst 1, 1) := by decide +kernel
theorem dX4_sumOf_17 : decode cX4_sumOf 17 = .ok (.if_icmp .ne 12, 3) := by decide +kernel
theorem dX4_sumOf_20 : decode cX4_sumOf 20 = .ok (.aload_n 0, 1) := by decide +kernel
theorem dX4_sumOf_21 : decode cX4_sumOf 21 = .ok (.getfield 31, 3) := by decide +kernel
theorem dX4_sumOf_24 : decode cX4_sumOf 24 = .ok (.iload_n 3, 1) := by decide +kernel
theorem dX4_sumOf_25 : decode cX4_sumOf 25 = .ok (.iaload, 1) := by decide +kernel
theorem dX4_sumOf_26 : decode cX4_sumOf 26 = .ok (.goto 4, 3) := by decide +kernel
theorem dX4_sumOf_29 : decode cX4_sumOf 29 = .ok (.iconst 0, 1) := by decide +kernel
theorem dX4_sumOf_30 : decode cX4_sumOf 30 = .ok (.iadd, 1) := by decide +kernel
theorem dX4_sumOf_31 : decode cX4_sumOf 31 = .ok (.istore_n 2, 1) := by decide +kernel
theorem dX4_sumOf_32 : decode cX4_sumOf 32 = .ok (.iinc 3 1, 3) := by decide +kernel
theorem dX4_sumOf_35 : decode cX4_sumOf 35 = .ok (.goto (-31), 3) := by decide +kernel
theorem dX4_sumOf_38 : decode cX4_sumOf 38 = .ok (.iload_n 2, 1) := by decide +kernel
theorem dX4_sumOf_39 : decode cX4_sumOf 39 = .ok (.ireturn, 1) := by decide +kernel
theorem dX4_goNow_0 : decode cX4_goNow 0 = .ok (.aload_n 0, 1) := by decide +kernel
theorem dX4_goNow_1 : decode cX4_goNow 1 = .ok (.invokevirtual 124, 3) := by decide +kernel
theorem dX4_goNow_4 : decode cX4_goNow 4 = .ok (.aload_n 0, 1) := by decide +kernel
theorem dX4_goNow_5 : decode cX4_goNow 5 = .ok (.aload_n 0, 1) := by decide +kernel
theorem dX4_goNow_6 : decode cX4_goNow 6 = .ok (.getfield 67, 3) := by decide +kernel
theorem dX4_goNow_9 : decode cX4_goNow 9 = .ok (.bipush 99, 2) := by decide +kernel
theorem dX4_goNow_11 : decode cX4_goNow 11 = .ok (.invokevirtual 127, 3) := by decide +kernel
theorem dX4_goNow_14 : decode cX4_goNow 14 = .ok (.return_, 1) := by decide +kernel
theorem dX4_served_0 : decode cX4_served 0 = .ok (.aload_n 0, 1) := by decide +kernel
theorem dX4_served_1 : decode cX4_served 1 = .ok (.invokevirtual 131, 3) := by decide +kernel
theorem dX4_served_4 : decode cX4_served 4 = .ok (.iload_n 1, 1) := by decide +kernel
theorem dX4_served_5 : decode cX4_served 5 = .ok (.iconst (-1), 1) := by decide +kernel
theorem dX4_served_6 : decode cX4_served 6 = .ok (.if_icmp .ne 10, 3) := by decide +kernel
theorem dX4_served_9 : decode cX4_served 9 = .ok (.aload_n 0, 1) := by decide +kernel
theorem dX4_served_10 : decode cX4_served 10 = .ok (.getfield 115, 3) := by decide +kernel
theorem dX4_served_13 : decode cX4_served 13 = .ok (.goto 30, 3) := by decide +kernel
theorem dX4_served_16 : decode cX4_served 16 = .ok (.iload_n 1, 1) := by decide +kernel
theorem dX4_served_17 : decode cX4_served 17 = .ok (.i2l, 1) := by decide +kernel
theorem dX4_served_18 : decode cX4_served 18 = .ok (.lconst 0, 1) := by decide +kernel
theorem dX4_served_19 : decode cX4_served 19 = .ok (.aload_n 0, 1) := by decide +kernel
theorem dX4_served_20 : decode cX4_served 20 = .ok (.getfield 115, 3) := by decide +kernel
theorem dX4_served_23 : decode cX4_served 23 = .ok (.iconst 1, 1) := by decide +kernel
theorem dX4_served_24 : decode cX4_served 24 = .ok (.isub, 1) := by decide +kernel
theorem dX4_served_25 : decode cX4_served 25 = .ok (.i2l, 1) := by decide +kernel
theorem dX4_served_26 : decode cX4_served 26 = .ok (.invokestatic 59, 3) := by decide +kernel
theorem dX4_served_29 : decode cX4_served 29 = .ok (.ifCond .eq 12, 3) := by decide +kernel
theorem dX4_served_32 : decode cX4_served 32 = .ok (.aload_n 0, 1) := by decide +kernel
theorem dX4_served_33 : decode cX4_served 33 = .ok (.getfield 40, 3) := by decide +kernel
theorem dX4_served_36 : decode cX4_served 36 = .ok (.iload_n 1, 1) := by decide +kernel
theorem dX4_served_37 : decode cX4_served 37 = .ok (.iaload, 1) := by decide +kernel
theorem dX4_served_38 : decode cX4_served 38 = .ok (.goto 5, 3) := by decide +kernel
theorem dX4_served_41 : decode cX4_served 41 = .ok (.bipush (-6), 2) := by decide +kernel
theorem dX4_served_43 : decode cX4_served 43 = .ok (.ireturn, 1) := by decide +kernel
theorem dX4_waits_0 : decode cX4_waits 0 = .ok (.aload_n 0, 1) := by decide +kernel
theorem dX4_waits_1 : decode cX4_waits 1 = .ok (.iload_n 1, 1) := by decide +kernel
theorem dX4_waits_2 : decode cX4_waits 2 = .ok (.invokevirtual 80, 3) := by decide +kernel
theorem dX4_waits_5 : decode cX4_waits 5 = .ok (.ifCond .ne 5, 3) := by decide +kernel
theorem dX4_waits_8 : decode cX4_waits 8 = .ok (.iconst (-1), 1) := by decide +kernel
theorem dX4_waits_9 : decode cX4_waits 9 = .ok (.ireturn, 1) := by decide +kernel
theorem dX4_waits_10 : decode cX4_waits 10 = .ok (.iload_n 2, 1) := by decide +kernel
theorem dX4_waits_11 : decode cX4_waits 11 = .ok (.i2l, 1) := by decide +kernel
theorem dX4_waits_12 : decode cX4_waits 12 = .ok (.lconst 0, 1) := by decide +kernel
theorem dX4_waits_13 : decode cX4_waits 13 = .ok (.lconst 1, 1) := by decide +kernel
theorem dX4_waits_14 : decode cX4_waits 14 = .ok (.invokestatic 59, 3) := by decide +kernel
theorem dX4_waits_17 : decode cX4_waits 17 = .ok (.ifCond .ne 6, 3) := by decide +kernel
theorem dX4_waits_20 : decode cX4_waits 20 = .ok (.bipush (-2), 2) := by decide +kernel
theorem dX4_waits_22 : decode cX4_waits 22 = .ok (.ireturn, 1) := by decide +kernel
theorem dX4_waits_23 : decode cX4_waits 23 = .ok (.aload_n 0, 1) := by decide +kernel
theorem dX4_waits_24 : decode cX4_waits 24 = .ok (.invokevirtual 131, 3) := by decide +kernel
theorem dX4_waits_27 : decode cX4_waits 27 = .ok (.iload_n 2, 1) := by decide +kernel
theorem dX4_waits_28 : decode cX4_waits 28 = .ok (.ifCond .ne 12, 3) := by decide +kernel
theorem dX4_waits_31 : decode cX4_waits 31 = .ok (.aload_n 0, 1) := by decide +kernel
theorem dX4_waits_32 : decode cX4_waits 32 = .ok (.getfield 31, 3) := by decide +kernel
theorem dX4_waits_35 : decode cX4_waits 35 = .ok (.iload_n 1, 1) := by decide +kernel
theorem dX4_waits_36 : decode cX4_waits 36 = .ok (.iaload, 1) := by decide +kernel
theorem dX4_waits_37 : decode cX4_waits 37 = .ok (.goto 9, 3) := by decide +kernel
theorem dX4_waits_40 : decode cX4_waits 40 = .ok (.aload_n 0, 1) := by decide +kernel
theorem dX4_waits_41 : decode cX4_waits 41 = .ok (.getfield 34, 3) := by decide +kernel
theorem dX4_waits_44 : decode cX4_waits 44 = .ok (.iload_n 1, 1) := by decide +kernel
theorem dX4_waits_45 : decode cX4_waits 45 = .ok (.iaload, 1) := by decide +kernel
theorem dX4_waits_46 : decode cX4_waits 46 = .ok (.ireturn, 1) := by decide +kernel
theorem dX4_whose_0 : decode cX4_whose 0 = .ok (.aload_n 0, 1) := by decide +kernel
theorem dX4_whose_1 : decode cX4_whose 1 = .ok (.aload_n 0, 1) := by decide +kernel
theorem dX4_whose_2 : decode cX4_whose 2 = .ok (.getfield 67, 3) := by decide +kernel
theorem dX4_whose_5 : decode cX4_whose 5 = .ok (.invokevirtual 134, 3) := by decide +kernel
theorem dX4_whose_8 : decode cX4_whose 8 = .ok (.istore_n 1, 1) := by decide +kernel
theorem dX4_whose_9 : decode cX4_whose 9 = .ok (.iconst 0, 1) := by decide +kernel
theorem dX4_whose_10 : decode cX4_whose 10 = .ok (.istore_n 2, 1) := by decide +kernel
theorem dX4_whose_11 : decode cX4_whose 11 = .ok (.iload_n 2, 1) := by decide +kernel
theorem dX4_whose_12 : decode cX4_whose 12 = .ok (.bipush 8, 2) := by decide +kernel
theorem dX4_whose_14 : decode cX4_whose 14 = .ok (.if_icmp .ge 29, 3) := by decide +kernel
theorem dX4_whose_17 : decode cX4_whose 17 = .ok (.aload_n 0, 1) := by decide +kernel
theorem dX4_whose_18 : decode cX4_whose 18 = .ok (.iload_n 2, 1) := by decide +kernel
theorem dX4_whose_19 : decode cX4_whose 19 = .ok (.invokevirtual 80, 3) := by decide +kernel
theorem dX4_whose_22 : decode cX4_whose 22 = .ok (.ifCond .eq 15, 3) := by decide +kernel
theorem dX4_whose_25 : decode cX4_whose 25 = .ok (.aload_n 0, 1) := by decide +kernel
theorem dX4_whose_26 : decode cX4_whose 26 = .ok (.getfield 31, 3) := by decide +kernel
theorem dX4_whose_29 : decode cX4_whose 29 = .ok (.iload_n 2, 1) := by decide +kernel
theorem dX4_whose_30 : decode cX4_whose 30 = .ok (.iaload, 1) := by decide +kernel
theorem dX4_whose_31 : decode cX4_whose 31 = .ok (.iload_n 1, 1) := by decide +kernel
theorem dX4_whose_32 : decode cX4_whose 32 = .ok (.if_icmp .ne 5, 3) := by decide +kernel
theorem dX4_whose_35 : decode cX4_whose 35 = .ok (.iload_n 2, 1) := by decide +kernel
theorem dX4_whose_36 : decode cX4_whose 36 = .ok (.ireturn, 1) := by decide +kernel
theorem dX4_whose_37 : decode cX4_whose 37 = .ok (.iinc 2 1, 3) := by decide +kernel
theorem dX4_whose_40 : decode cX4_whose 40 = .ok (.goto (-29), 3) := by decide +kernel
theorem dX4_whose_43 : decode cX4_whose 43 = .ok (.bipush (-6), 2) := by decide +kernel
theorem dX4_whose_45 : decode cX4_whose 45 = .ok (.ireturn, 1) := by decide +kernel
theorem dX4_all_0 : decode cX4_all 0 = .ok (.iload_n 1, 1) := by decide +kernel
theorem dX4_all_1 : decode cX4_all 1 = .ok (.i2l, 1) := by decide +kernel
theorem dX4_all_2 : decode cX4_all 2 = .ok (.lconst 0, 1) := by decide +kernel
theorem dX4_all_3 : decode cX4_all 3 = .ok (.ldc2_w 83, 3) := by decide +kernel
theorem dX4_all_6 : decode cX4_all 6 = .ok (.invokestatic 59, 3) := by decide +kernel
theorem dX4_all_9 : decode cX4_all 9 = .ok (.ifCond .ne 6, 3) := by decide +kernel
theorem dX4_all_12 : decode cX4_all 12 = .ok (.bipush (-2), 2) := by decide +kernel
theorem dX4_all_14 : decode cX4_all 14 = .ok (.ireturn, 1) := by decide +kernel
theorem dX4_all_15 : decode cX4_all 15 = .ok (.aload_n 0, 1) := by decide +kernel
theorem dX4_all_16 : decode cX4_all 16 = .ok (.invokevirtual 131, 3) := by decide +kernel
theorem dX4_all_19 : decode cX4_all 19 = .ok (.iload_n 1, 1) := by decide +kernel
theorem dX4_all_20 : decode cX4_all 20 = .ok (.ifCond .ne 14, 3) := by decide +kernel
theorem dX4_all_23 : decode cX4_all 23 = .ok (.aload_n 0, 1) := by decide +kernel
theorem dX4_all_24 : decode cX4_all 24 = .ok (.aload_n 0, 1) := by decide +kernel
theorem dX4_all_25 : decode cX4_all 25 = .ok (.getfield 67, 3) := by decide +kernel
theorem dX4_all_28 : decode cX4_all 28 = .ok (.invokevirtual 134, 3) := by decide +kernel
theorem dX4_all_31 : decode cX4_all 31 = .ok (.goto 58, 3) := by decide +kernel
theorem dX4_all_34 : decode cX4_all 34 = .ok (.iload_n 1, 1) := by decide +kernel
theorem dX4_all_35 : decode cX4_all 35 = .ok (.iconst 1, 1) := by decide +kernel
theorem dX4_all_36 : decode cX4_all 36 = .ok (.if_icmp .ne 10, 3) := by decide +kernel
theorem dX4_all_39 : decode cX4_all 39 = .ok (.aload_n 0, 1) := by decide +kernel
theorem dX4_all_40 : decode cX4_all 40 = .ok (.invokevirtual 137, 3) := by decide +kernel
theorem dX4_all_43 : decode cX4_all 43 = .ok (.goto 46, 3) := by decide +kernel
theorem dX4_all_46 : decode cX4_all 46 = .ok (.iload_n 1, 1) := by decide +kernel
theorem dX4_all_47 : decode cX4_all 47 = .ok (.iconst 2, 1) := by decide +kernel
theorem dX4_all_48 : decode cX4_all 48 = .ok (.if_icmp .ne 14, 3) := by decide +kernel
theorem dX4_all_51 : decode cX4_all 51 = .ok (.aload_n 0, 1) := by decide +kernel
theorem dX4_all_52 : decode cX4_all 52 = .ok (.aload_n 0, 1) := by decide +kernel
theorem dX4_all_53 : decode cX4_all 53 = .ok (.getfield 67, 3) := by decide +kernel
theorem dX4_all_56 : decode cX4_all 56 = .ok (.invokevirtual 141, 3) := by decide +kernel
theorem dX4_all_59 : decode cX4_all 59 = .ok (.goto 30, 3) := by decide +kernel
theorem dX4_all_62 : decode cX4_all 62 = .ok (.aload_n 0, 1) := by decide +kernel
theorem dX4_all_63 : decode cX4_all 63 = .ok (.getfield 115, 3) := by decide +kernel
theorem dX4_all_66 : decode cX4_all 66 = .ok (.ifCond .ne 7, 3) := by decide +kernel
theorem dX4_all_69 : decode cX4_all 69 = .ok (.iconst 0, 1) := by decide +kernel
theorem dX4_all_70 : decode cX4_all 70 = .ok (.goto 19, 3) := by decide +kernel
theorem dX4_all_73 : decode cX4_all 73 = .ok (.aload_n 0, 1) := by decide +kernel
theorem dX4_all_74 : decode cX4_all 74 = .ok (.getfield 34, 3) := by decide +kernel
theorem dX4_all_77 : decode cX4_all 77 = .ok (.aload_n 0, 1) := by decide +kernel
theorem dX4_all_78 : decode cX4_all 78 = .ok (.getfield 40, 3) := by decide +kernel
theorem dX4_all_81 : decode cX4_all 81 = .ok (.aload_n 0, 1) := by decide +kernel
theorem dX4_all_82 : decode cX4_all 82 = .ok (.getfield 115, 3) := by decide +kernel
theorem dX4_all_85 : decode cX4_all 85 = .ok (.iconst 1, 1) := by decide +kernel
theorem dX4_all_86 : decode cX4_all 86 = .ok (.isub, 1) := by decide +kernel
theorem dX4_all_87 : decode cX4_all 87 = .ok (.iaload, 1) := by decide +kernel
theorem dX4_all_88 : decode cX4_all 88 = .ok (.iaload, 1) := by decide +kernel
theorem dX4_all_89 : decode cX4_all 89 = .ok (.ireturn, 1) := by decide +kernel
theorem dX4_judge_0 : decode cX4_judge 0 = .ok (.iload_n 1, 1) := by decide +kernel
theorem dX4_judge_1 : decode cX4_judge 1 = .ok (.i2l, 1) := by decide +kernel
theorem dX4_judge_2 : decode cX4_judge 2 = .ok (.lconst 0, 1) := by decide +kernel
theorem dX4_judge_3 : decode cX4_judge 3 = .ok (.lconst 1, 1) := by decide +kernel
theorem dX4_judge_4 : decode cX4_judge 4 = .ok (.invokestatic 59, 3) := by decide +kernel
theorem dX4_judge_7 : decode cX4_judge 7 = .ok (.ifCond .ne 6, 3) := by decide +kernel
theorem dX4_judge_10 : decode cX4_judge 10 = .ok (.bipush (-2), 2) := by decide +kernel
theorem dX4_judge_12 : decode cX4_judge 12 = .ok (.ireturn, 1) := by decide +kernel
theorem dX4_judge_13 : decode cX4_judge 13 = .ok (.aload_n 0, 1) := by decide +kernel
theorem dX4_judge_14 : decode cX4_judge 14 = .ok (.invokevirtual 144, 3) := by decide +kernel
theorem dX4_judge_17 : decode cX4_judge 17 = .ok (.ifCond .lt 6, 3) := by decide +kernel
theorem dX4_judge_20 : decode cX4_judge 20 = .ok (.bipush (-5), 2) := by decide +kernel
theorem dX4_judge_22 : decode cX4_judge 22 = .ok (.ireturn, 1) := by decide +kernel
theorem dX4_judge_23 : decode cX4_judge 23 = .ok (.aload_n 0, 1) := by decide +kernel
theorem dX4_judge_24 : decode cX4_judge 24 = .ok (.invokevirtual 131, 3) := by decide +kernel
theorem dX4_judge_27 : decode cX4_judge 27 = .ok (.iconst 0, 1) := by decide +kernel
theorem dX4_judge_28 : decode cX4_judge 28 = .ok (.istore_n 2, 1) := by decide +kernel
theorem dX4_judge_29 : decode cX4_judge 29 = .ok (.iload_n 2, 1) := by decide +kernel
theorem dX4_judge_30 : decode cX4_judge 30 = .ok (.aload_n 0, 1) := by decide +kernel
theorem dX4_judge_31 : decode cX4_judge 31 = .ok (.getfield 97, 3) := by decide +kernel
theorem dX4_judge_34 : decode cX4_judge 34 = .ok (.if_icmp .ge 42, 3) := by decide +kernel
theorem dX4_judge_37 : decode cX4_judge 37 = .ok (.aload_n 0, 1) := by decide +kernel
theorem dX4_judge_38 : decode cX4_judge 38 = .ok (.getfield 22, 3) := by decide +kernel
theorem dX4_judge_41 : decode cX4_judge 41 = .ok (.iload_n 2, 1) := by decide +kernel
theorem dX4_judge_42 : decode cX4_judge 42 = .ok (.iaload, 1) := by decide +kernel
theorem dX4_judge_43 : decode cX4_judge 43 = .ok (.bipush 65, 2) := by decide +kernel
theorem dX4_judge_45 : decode cX4_judge 45 = .ok (.isub, 1) := by decide +kernel
theorem dX4_judge_46 : decode cX4_judge 46 = .ok (.aload_n 0, 1) := by decide +kernel
theorem dX4_judge_47 : decode cX4_judge 47 = .ok (.getfield 40, 3) := by decide +kernel
theorem dX4_judge_50 : decode cX4_judge 50 = .ok (.iload_n 2, 1) := by decide +kernel
theorem dX4_judge_51 : decode cX4_judge 51 = .ok (.iaload, 1) := by decide +kernel
theorem dX4_judge_52 : decode cX4_judge 52 = .ok (.if_icmp .eq 18, 3) := by decide +kernel
theorem dX4_judge_55 : decode cX4_judge 55 = .ok (.iload_n 1, 1) := by decide +kernel
theorem dX4_judge_56 : decode cX4_judge 56 = .ok (.ifCond .ne 7, 3) := by decide +kernel
theorem dX4_judge_59 : decode cX4_judge 59 = .ok (.iload_n 2, 1) := by decide +kernel
theorem dX4_judge_60 : decode cX4_judge 60 = .ok (.goto 9, 3) := by decide +kernel
theorem dX4_judge_63 : decode cX4_judge 63 = .ok (.aload_n 0, 1) := by decide +kernel
theorem dX4_judge_64 : decode cX4_judge 64 = .ok (.getfield 40, 3) := by decide +kernel
theorem dX4_judge_67 : decode cX4_judge 67 = .ok (.iload_n 2, 1) := by decide +kernel
theorem dX4_judge_68 : decode cX4_judge 68 = .ok (.iaload, 1) := by decide +kernel
theorem dX4_judge_69 : decode cX4_judge 69 = .ok (.ireturn, 1) := by decide +kernel
theorem dX4_judge_70 : decode cX4_judge 70 = .ok (.iinc 2 1, 3) := by decide +kernel
theorem dX4_judge_73 : decode cX4_judge 73 = .ok (.goto (-44), 3) := by decide +kernel
theorem dX4_judge_76 : decode cX4_judge 76 = .ok (.bipush (-6), 2) := by decide +kernel
theorem dX4_judge_78 : decode cX4_judge 78 = .ok (.ireturn, 1) := by decide +kernel
theorem dX4_left_0 : decode cX4_left 0 = .ok (.aload_n 0, 1) := by decide +kernel
theorem dX4_left_1 : decode cX4_left 1 = .ok (.iload_n 2, 1) := by decide +kernel
theorem dX4_left_2 : decode cX4_left 2 = .ok (.invokevirtual 80, 3) := by decide +kernel
theorem dX4_left_5 : decode cX4_left 5 = .ok (.ifCond .ne 5, 3) := by decide +kernel
theorem dX4_left_8 : decode cX4_left 8 = .ok (.iconst (-1), 1) := by decide +kernel
theorem dX4_left_9 : decode cX4_left 9 = .ok (.ireturn, 1) := by decide +kernel
theorem dX4_left_10 : decode cX4_left 10 = .ok (.iload_n 1, 1) := by decide +kernel
theorem dX4_left_11 : decode cX4_left 11 = .ok (.i2l, 1) := by decide +kernel
theorem dX4_left_12 : decode cX4_left 12 = .ok (.lconst 0, 1) := by decide +kernel
theorem dX4_left_13 : decode cX4_left 13 = .ok (.ldc2_w 70, 3) := by decide +kernel
theorem dX4_left_16 : decode cX4_left 16 = .ok (.invokestatic 59, 3) := by decide +kernel
theorem dX4_left_19 : decode cX4_left 19 = .ok (.ifCond .ne 6, 3) := by decide +kernel
theorem dX4_left_22 : decode cX4_left 22 = .ok (.bipush (-2), 2) := by decide +kernel
theorem dX4_left_24 : decode cX4_left 24 = .ok (.ireturn, 1) := by decide +kernel
theorem dX4_left_25 : decode cX4_left 25 = .ok (.aload_n 0, 1) := by decide +kernel
theorem dX4_left_26 : decode cX4_left 26 = .ok (.invokevirtual 124, 3) := by decide +kernel
theorem dX4_left_29 : decode cX4_left 29 = .ok (.aload_n 0, 1) := by decide +kernel
theorem dX4_left_30 : decode cX4_left 30 = .ok (.aload_n 0, 1) := by decide +kernel
theorem dX4_left_31 : decode cX4_left 31 = .ok (.getfield 67, 3) := by decide +kernel
theorem dX4_left_34 : decode cX4_left 34 = .ok (.iload_n 1, 1) := by decide +kernel
theorem dX4_left_35 : decode cX4_left 35 = .ok (.invokevirtual 127, 3) := by decide +kernel
theorem dX4_left_38 : decode cX4_left 38 = .ok (.aload_n 0, 1) := by decide +kernel
theorem dX4_left_39 : decode cX4_left 39 = .ok (.getfield 37, 3) := by decide +kernel
theorem dX4_left_42 : decode cX4_left 42 = .ok (.iload_n 2, 1) := by decide +kernel
theorem dX4_left_43 : decode cX4_left 43 = .ok (.iaload, 1) := by decide +kernel
theorem dX4_left_44 : decode cX4_left 44 = .ok (.ireturn, 1) := by decide +kernel
theorem dX4_best_0 : decode cX4_best 0 = .ok (.aload_n 0, 1) := by decide +kernel
theorem dX4_best_1 : decode cX4_best 1 = .ok (.iload_n 1, 1) := by decide +kernel
theorem dX4_best_2 : decode cX4_best 2 = .ok (.invokevirtual 80, 3) := by decide +kernel
theorem dX4_best_5 : decode cX4_best 5 = .ok (.ifCond .ne 5, 3) := by decide +kernel
theorem dX4_best_8 : decode cX4_best 8 = .ok (.iconst (-1), 1) := by decide +kernel
theorem dX4_best_9 : decode cX4_best 9 = .ok (.ireturn, 1) := by decide +kernel
theorem dX4_best_10 : decode cX4_best 10 = .ok (.iload_n 2, 1) := by decide +kernel
theorem dX4_best_11 : decode cX4_best 11 = .ok (.i2l, 1) := by decide +kernel
theorem dX4_best_12 : decode cX4_best 12 = .ok (.lconst 0, 1) := by decide +kernel
theorem dX4_best_13 : decode cX4_best 13 = .ok (.ldc2_w 72, 3) := by decide +kernel
theorem dX4_best_16 : decode cX4_best 16 = .ok (.invokestatic 59, 3) := by decide +kernel
theorem dX4_best_19 : decode cX4_best 19 = .ok (.ifCond .eq 27, 3) := by decide +kernel
theorem dX4_best_22 : decode cX4_best 22 = .ok (.iload_n 3, 1) := by decide +kernel
theorem dX4_best_23 : decode cX4_best 23 = .ok (.i2l, 1) := by decide +kernel
theorem dX4_best_24 : decode cX4_best 24 = .ok (.iload_n 2, 1) := by decide +kernel
theorem dX4_best_25 : decode cX4_best 25 = .ok (.i2l, 1) := by decide +kernel
theorem dX4_best_26 : decode cX4_best 26 = .ok (.ldc2_w 72, 3) := by decide +kernel
theorem dX4_best_29 : decode cX4_best 29 = .ok (.invokestatic 59, 3) := by decide +kernel
theorem dX4_best_32 : decode cX4_best 32 = .ok (.ifCond .eq 14, 3) := by decide +kernel
theorem dX4_best_35 : decode cX4_best 35 = .ok (.iload 4, 2) := by decide +kernel
theorem dX4_best_37 : decode cX4_best 37 = .ok (.i2l, 1) := by decide +kernel
theorem dX4_best_38 : decode cX4_best 38 = .ok (.lconst 0, 1) := by decide +kernel
theorem dX4_best_39 : decode cX4_best 39 = .ok (.lconst 1, 1) := by decide +kernel
theorem dX4_best_40 : decode cX4_best 40 = .ok (.invokestatic 59, 3) := by decide +kernel
theorem dX4_best_43 : decode cX4_best 43 = .ok (.ifCond .ne 6, 3) := by decide +kernel
theorem dX4_best_46 : decode cX4_best 46 = .ok (.bipush (-2), 2) := by decide +kernel
theorem dX4_best_48 : decode cX4_best 48 = .ok (.ireturn, 1) := by decide +kernel
theorem dX4_best_49 : decode cX4_best 49 = .ok (.aload_n 0, 1) := by decide +kernel
theorem dX4_best_50 : decode cX4_best 50 = .ok (.invokevirtual 124, 3) := by decide +kernel
theorem dX4_best_53 : decode cX4_best 53 = .ok (.bipush (-6), 2) := by decide +kernel
theorem dX4_best_55 : decode cX4_best 55 = .ok (.istore 5, 2) := by decide +kernel
theorem dX4_best_57 : decode cX4_best 57 = .ok (.ldc 114, 2) := by decide +kernel
theorem dX4_best_59 : decode cX4_best 59 = .ok (.istore 6, 2) := by decide +kernel
theorem dX4_best_61 : decode cX4_best 61 = .ok (.iload_n 2, 1) := by decide +kernel
theorem dX4_best_62 : decode cX4_best 62 = .ok (.istore 7, 2) := by decide +kernel
theorem dX4_best_64 : decode cX4_best 64 = .ok (.iload 7, 2) := by decide +kernel
theorem dX4_best_66 : decode cX4_best 66 = .ok (.iload_n 3, 1) := by decide +kernel
theorem dX4_best_67 : decode cX4_best 67 = .ok (.if_icmp .gt 71, 3) := by decide +kernel
theorem dX4_best_70 : decode cX4_best 70 = .ok (.aload_n 0, 1) := by decide +kernel
theorem dX4_best_71 : decode cX4_best 71 = .ok (.getfield 28, 3) := by decide +kernel
theorem dX4_best_74 : decode cX4_best 74 = .ok (.iload_n 1, 1) := by decide +kernel
theorem dX4_best_75 : decode cX4_best 75 = .ok (.iload 7, 2) := by decide +kernel
theorem dX4_best_77 : decode cX4_best 77 = .ok (.iastore, 1) := by decide +kernel
theorem dX4_best_78 : decode cX4_best 78 = .ok (.aload_n 0, 1) := by decide +kernel
theorem dX4_best_79 : decode cX4_best 79 = .ok (.aload_n 0, 1) := by decide +kernel
theorem dX4_best_80 : decode cX4_best 80 = .ok (.getfield 67, 3) := by decide +kernel
theorem dX4_best_83 : decode cX4_best 83 = .ok (.bipush 99, 2) := by decide +kernel
theorem dX4_best_85 : decode cX4_best 85 = .ok (.invokevirtual 127, 3) := by decide +kernel
theorem dX4_best_88 : decode cX4_best 88 = .ok (.aload_n 0, 1) := by decide +kernel
theorem dX4_best_89 : decode cX4_best 89 = .ok (.getfield 31, 3) := by decide +kernel
theorem dX4_best_92 : decode cX4_best 92 = .ok (.iload_n 1, 1) := by decide +kernel
theorem dX4_best_93 : decode cX4_best 93 = .ok (.iaload, 1) := by decide +kernel
theorem dX4_best_94 : decode cX4_best 94 = .ok (.iload 6, 2) := by decide +kernel
theorem dX4_best_96 : decode cX4_best 96 = .ok (.if_icmp .ge 8, 3) := by decide +kernel
theorem dX4_best_99 : decode cX4_best 99 = .ok (.iload 7, 2) := by decide +kernel
theorem dX4_best_101 : decode cX4_best 101 = .ok (.goto 5, 3) := by decide +kernel
theorem dX4_best_104 : decode cX4_best 104 = .ok (.iload 5, 2) := by decide +kernel
theorem dX4_best_106 : decode cX4_best 106 = .ok (.istore 5, 2) := by decide +kernel
theorem dX4_best_108 : decode cX4_best 108 = .ok (.aload_n 0, 1) := by decide +kernel
theorem dX4_best_109 : decode cX4_best 109 = .ok (.getfield 31, 3) := by decide +kernel
theorem dX4_best_112 : decode cX4_best 112 = .ok (.iload_n 1, 1) := by decide +kernel
theorem dX4_best_113 : decode cX4_best 113 = .ok (.iaload, 1) := by decide +kernel
theorem dX4_best_114 : decode cX4_best 114 = .ok (.iload 6, 2) := by decide +kernel
theorem dX4_best_116 : decode cX4_best 116 = .ok (.if_icmp .ge 12, 3) := by decide +kernel
theorem dX4_best_119 : decode cX4_best 119 = .ok (.aload_n 0, 1) := by decide +kernel
theorem dX4_best_120 : decode cX4_best 120 = .ok (.getfield 31, 3) := by decide +kernel
theorem dX4_best_123 : decode cX4_best 123 = .ok (.iload_n 1, 1) := by decide +kernel
theorem dX4_best_124 : decode cX4_best 124 = .ok (.iaload, 1) := by decide +kernel
theorem dX4_best_125 : decode cX4_best 125 = .ok (.goto 5, 3) := by decide +kernel
theorem dX4_best_128 : decode cX4_best 128 = .ok (.iload 6, 2) := by decide +kernel
theorem dX4_best_130 : decode cX4_best 130 = .ok (.istore 6, 2) := by decide +kernel
theorem dX4_best_132 : decode cX4_best 132 = .ok (.iinc 7 1, 3) := by decide +kernel
theorem dX4_best_135 : decode cX4_best 135 = .ok (.goto (-71), 3) := by decide +kernel
theorem dX4_best_138 : decode cX4_best 138 = .ok (.iload 4, 2) := by decide +kernel
theorem dX4_best_140 : decode cX4_best 140 = .ok (.ifCond .ne 8, 3) := by decide +kernel
theorem dX4_best_143 : decode cX4_best 143 = .ok (.iload 5, 2) := by decide +kernel
theorem dX4_best_145 : decode cX4_best 145 = .ok (.goto 5, 3) := by decide +kernel
theorem dX4_best_148 : decode cX4_best 148 = .ok (.iload 6, 2) := by decide +kernel
theorem dX4_best_150 : decode cX4_best 150 = .ok (.ireturn, 1) := by decide +kernel
