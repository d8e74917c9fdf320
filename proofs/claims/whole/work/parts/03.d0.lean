theorem dX0_init_0 : decode cX0_init 0 = .ok (.aload_n 0, 1) := by decide +kernel
theorem dX0_init_1 : decode cX0_init 1 = .ok (.invokespecial 3, 3) := by decide +kernel
theorem dX0_init_4 : decode cX0_init 4 = .ok (.aload_n 0, 1) := by decide +kernel
theorem dX0_init_5 : decode cX0_init 5 = .ok (.bipush 40, 2) := by decide +kernel
theorem dX0_init_7 : decode cX0_init 7 = .ok (.newarray .int, 2) := by decide +kernel
theorem dX0_init_9 : decode cX0_init 9 = .ok (.putfield 11, 3) := by decide +kernel
theorem dX0_init_12 : decode cX0_init 12 = .ok (.return_, 1) := by decide +kernel
theorem dX0_add_0 : decode cX0_add 0 = .ok (.aload_n 0, 1) := by decide +kernel
theorem dX0_add_1 : decode cX0_add 1 = .ok (.getfield 15, 3) := by decide +kernel
theorem dX0_add_4 : decode cX0_add 4 = .ok (.bipush 40, 2) := by decide +kernel
theorem dX0_add_6 : decode cX0_add 6 = .ok (.if_icmp .lt 5, 3) := by decide +kernel
theorem dX0_add_9 : decode cX0_add 9 = .ok (.iconst 0, 1) := by decide +kernel
theorem dX0_add_10 : decode cX0_add 10 = .ok (.ireturn, 1) := by decide +kernel
theorem dX0_add_11 : decode cX0_add 11 = .ok (.aload_n 0, 1) := by decide +kernel
theorem dX0_add_12 : decode cX0_add 12 = .ok (.getfield 11, 3) := by decide +kernel
theorem dX0_add_15 : decode cX0_add 15 = .ok (.aload_n 0, 1) := by decide +kernel
theorem dX0_add_16 : decode cX0_add 16 = .ok (.getfield 15, 3) := by decide +kernel
theorem dX0_add_19 : decode cX0_add 19 = .ok (.iload_n 1, 1) := by decide +kernel
theorem dX0_add_20 : decode cX0_add 20 = .ok (.iastore, 1) := by decide +kernel
theorem dX0_add_21 : decode cX0_add 21 = .ok (.aload_n 0, 1) := by decide +kernel
theorem dX0_add_22 : decode cX0_add 22 = .ok (.dup, 1) := by decide +kernel
theorem dX0_add_23 : decode cX0_add 23 = .ok (.getfield 15, 3) := by decide +kernel
theorem dX0_add_26 : decode cX0_add 26 = .ok (.iconst 1, 1) := by decide +kernel
theorem dX0_add_27 : decode cX0_add 27 = .ok (.iadd, 1) := by decide +kernel
theorem dX0_add_28 : decode cX0_add 28 = .ok (.putfield 15, 3) := by decide +kernel
theorem dX0_add_31 : decode cX0_add 31 = .ok (.iconst 1, 1) := by decide +kernel
theorem dX0_add_32 : decode cX0_add 32 = .ok (.ireturn, 1) := by decide +kernel
theorem dX0_personAt_0 : decode cX0_personAt 0 = .ok (.iload_n 1, 1) := by decide +kernel
theorem dX0_personAt_1 : decode cX0_personAt 1 = .ok (.ifCond .lt 11, 3) := by decide +kernel
theorem dX0_personAt_4 : decode cX0_personAt 4 = .ok (.iload_n 1, 1) := by decide +kernel
theorem dX0_personAt_5 : decode cX0_personAt 5 = .ok (.aload_n 0, 1) := by decide +kernel
theorem dX0_personAt_6 : decode cX0_personAt 6 = .ok (.getfield 15, 3) := by decide +kernel
theorem dX0_personAt_9 : decode cX0_personAt 9 = .ok (.if_icmp .lt 6, 3) := by decide +kernel
theorem dX0_personAt_12 : decode cX0_personAt 12 = .ok (.bipush (-6), 2) := by decide +kernel
theorem dX0_personAt_14 : decode cX0_personAt 14 = .ok (.ireturn, 1) := by decide +kernel
theorem dX0_personAt_15 : decode cX0_personAt 15 = .ok (.aload_n 0, 1) := by decide +kernel
theorem dX0_personAt_16 : decode cX0_personAt 16 = .ok (.getfield 11, 3) := by decide +kernel
theorem dX0_personAt_19 : decode cX0_personAt 19 = .ok (.iload_n 1, 1) := by decide +kernel
theorem dX0_personAt_20 : decode cX0_personAt 20 = .ok (.iaload, 1) := by decide +kernel
theorem dX0_personAt_21 : decode cX0_personAt 21 = .ok (.bipush 65, 2) := by decide +kernel
theorem dX0_personAt_23 : decode cX0_personAt 23 = .ok (.isub, 1) := by decide +kernel
theorem dX0_personAt_24 : decode cX0_personAt 24 = .ok (.istore_n 2, 1) := by decide +kernel
theorem dX0_personAt_25 : decode cX0_personAt 25 = .ok (.iload_n 2, 1) := by decide +kernel
theorem dX0_personAt_26 : decode cX0_personAt 26 = .ok (.ifCond .lt 13, 3) := by decide +kernel
theorem dX0_personAt_29 : decode cX0_personAt 29 = .ok (.iload_n 2, 1) := by decide +kernel
theorem dX0_personAt_30 : decode cX0_personAt 30 = .ok (.bipush 8, 2) := by decide +kernel
theorem dX0_personAt_32 : decode cX0_personAt 32 = .ok (.if_icmp .ge 7, 3) := by decide +kernel
theorem dX0_personAt_35 : decode cX0_personAt 35 = .ok (.iload_n 2, 1) := by decide +kernel
theorem dX0_personAt_36 : decode cX0_personAt 36 = .ok (.goto 5, 3) := by decide +kernel
theorem dX0_personAt_39 : decode cX0_personAt 39 = .ok (.bipush (-6), 2) := by decide +kernel
theorem dX0_personAt_41 : decode cX0_personAt 41 = .ok (.ireturn, 1) := by decide +kernel
theorem dX0_faultAmong_0 : decode cX0_faultAmong 0 = .ok (.iload_n 1, 1) := by decide +kernel
theorem dX0_faultAmong_1 : decode cX0_faultAmong 1 = .ok (.istore_n 2, 1) := by decide +kernel
theorem dX0_faultAmong_2 : decode cX0_faultAmong 2 = .ok (.iconst 0, 1) := by decide +kernel
theorem dX0_faultAmong_3 : decode cX0_faultAmong 3 = .ok (.istore_n 3, 1) := by decide +kernel
theorem dX0_faultAmong_4 : decode cX0_faultAmong 4 = .ok (.iload_n 3, 1) := by decide +kernel
theorem dX0_faultAmong_5 : decode cX0_faultAmong 5 = .ok (.aload_n 0, 1) := by decide +kernel
theorem dX0_faultAmong_6 : decode cX0_faultAmong 6 = .ok (.getfield 15, 3) := by decide +kernel
theorem dX0_faultAmong_9 : decode cX0_faultAmong 9 = .ok (.if_icmp .ge 43, 3) := by decide +kernel
theorem dX0_faultAmong_12 : decode cX0_faultAmong 12 = .ok (.aload_n 0, 1) := by decide +kernel
theorem dX0_faultAmong_13 : decode cX0_faultAmong 13 = .ok (.iload_n 3, 1) := by decide +kernel
theorem dX0_faultAmong_14 : decode cX0_faultAmong 14 = .ok (.invokevirtual 19, 3) := by decide +kernel
theorem dX0_faultAmong_17 : decode cX0_faultAmong 17 = .ok (.istore 4, 2) := by decide +kernel
theorem dX0_faultAmong_19 : decode cX0_faultAmong 19 = .ok (.iload 4, 2) := by decide +kernel
theorem dX0_faultAmong_21 : decode cX0_faultAmong 21 = .ok (.bipush (-6), 2) := by decide +kernel
theorem dX0_faultAmong_23 : decode cX0_faultAmong 23 = .ok (.if_icmp .eq 12, 3) := by decide +kernel
theorem dX0_faultAmong_26 : decode cX0_faultAmong 26 = .ok (.iload_n 2, 1) := by decide +kernel
theorem dX0_faultAmong_27 : decode cX0_faultAmong 27 = .ok (.iload 4, 2) := by decide +kernel
theorem dX0_faultAmong_29 : decode cX0_faultAmong 29 = .ok (.ishr, 1) := by decide +kernel
theorem dX0_faultAmong_30 : decode cX0_faultAmong 30 = .ok (.iconst 1, 1) := by decide +kernel
theorem dX0_faultAmong_31 : decode cX0_faultAmong 31 = .ok (.iand, 1) := by decide +kernel
theorem dX0_faultAmong_32 : decode cX0_faultAmong 32 = .ok (.ifCond .ne 5, 3) := by decide +kernel
theorem dX0_faultAmong_35 : decode cX0_faultAmong 35 = .ok (.iload_n 3, 1) := by decide +kernel
theorem dX0_faultAmong_36 : decode cX0_faultAmong 36 = .ok (.ireturn, 1) := by decide +kernel
theorem dX0_faultAmong_37 : decode cX0_faultAmong 37 = .ok (.iload_n 2, 1) := by decide +kernel
theorem dX0_faultAmong_38 : decode cX0_faultAmong 38 = .ok (.iconst 1, 1) := by decide +kernel
theorem dX0_faultAmong_39 : decode cX0_faultAmong 39 = .ok (.iload 4, 2) := by decide +kernel
theorem dX0_faultAmong_41 : decode cX0_faultAmong 41 = .ok (.ishl, 1) := by decide +kernel
theorem dX0_faultAmong_42 : decode cX0_faultAmong 42 = .ok (.iconst (-1), 1) := by decide +kernel
theorem dX0_faultAmong_43 : decode cX0_faultAmong 43 = .ok (.ixor, 1) := by decide +kernel
theorem dX0_faultAmong_44 : decode cX0_faultAmong 44 = .ok (.iand, 1) := by decide +kernel
theorem dX0_faultAmong_45 : decode cX0_faultAmong 45 = .ok (.istore_n 2, 1) := by decide +kernel
theorem dX0_faultAmong_46 : decode cX0_faultAmong 46 = .ok (.iinc 3 1, 3) := by decide +kernel
theorem dX0_faultAmong_49 : decode cX0_faultAmong 49 = .ok (.goto (-45), 3) := by decide +kernel
theorem dX0_faultAmong_52 : decode cX0_faultAmong 52 = .ok (.bipush (-6), 2) := by decide +kernel
theorem dX0_faultAmong_54 : decode cX0_faultAmong 54 = .ok (.ireturn, 1) := by decide +kernel
theorem dX1_init_0 : decode cX1_init 0 = .ok (.aload_n 0, 1) := by decide +kernel
theorem dX1_init_1 : decode cX1_init 1 = .ok (.invokespecial 3, 3) := by decide +kernel
theorem dX1_init_4 : decode cX1_init 4 = .ok (.aload_n 0, 1) := by decide +kernel
theorem dX1_init_5 : decode cX1_init 5 = .ok (.bipush 8, 2) := by decide +kernel
theorem dX1_init_7 : decode cX1_init 7 = .ok (.newarray .int, 2) := by decide +kernel
theorem dX1_init_9 : decode cX1_init 9 = .ok (.putfield 9, 3) := by decide +kernel
theorem dX1_init_12 : decode cX1_init 12 = .ok (.aload_n 0, 1) := by decide +kernel
theorem dX1_init_13 : decode cX1_init 13 = .ok (.bipush 8, 2) := by decide +kernel
theorem dX1_init_15 : decode cX1_init 15 = .ok (.newarray .int, 2) := by decide +kernel
theorem dX1_init_17 : decode cX1_init 17 = .ok (.putfield 15, 3) := by decide +kernel
theorem dX1_init_20 : decode cX1_init 20 = .ok (.aload_n 0, 1) := by decide +kernel
theorem dX1_init_21 : decode cX1_init 21 = .ok (.bipush 8, 2) := by decide +kernel
theorem dX1_init_23 : decode cX1_init 23 = .ok (.newarray .int, 2) := by decide +kernel
theorem dX1_init_25 : decode cX1_init 25 = .ok (.putfield 18, 3) := by decide +kernel
theorem dX1_init_28 : decode cX1_init 28 = .ok (.aload_n 0, 1) := by decide +kernel
theorem dX1_init_29 : decode cX1_init 29 = .ok (.bipush 8, 2) := by decide +kernel
theorem dX1_init_31 : decode cX1_init 31 = .ok (.newarray .boolean, 2) := by decide +kernel
theorem dX1_init_33 : decode cX1_init 33 = .ok (.putfield 21, 3) := by decide +kernel
theorem dX1_init_36 : decode cX1_init 36 = .ok (.aload_n 0, 1) := by decide +kernel
theorem dX1_init_37 : decode cX1_init 37 = .ok (.iconst 4, 1) := by decide +kernel
theorem dX1_init_38 : decode cX1_init 38 = .ok (.newarray .int, 2) := by decide +kernel
theorem dX1_init_40 : decode cX1_init 40 = .ok (.putfield 25, 3) := by decide +kernel
theorem dX1_init_43 : decode cX1_init 43 = .ok (.aload_n 0, 1) := by decide +kernel
theorem dX1_init_44 : decode cX1_init 44 = .ok (.getfield 25, 3) := by decide +kernel
theorem dX1_init_47 : decode cX1_init 47 = .ok (.iconst 0, 1) := by decide +kernel
theorem dX1_init_48 : decode cX1_init 48 = .ok (.iconst 2, 1) := by decide +kernel
theorem dX1_init_49 : decode cX1_init 49 = .ok (.iastore, 1) := by decide +kernel
theorem dX1_init_50 : decode cX1_init 50 = .ok (.aload_n 0, 1) := by decide +kernel
theorem dX1_init_51 : decode cX1_init 51 = .ok (.getfield 25, 3) := by decide +kernel
theorem dX1_init_54 : decode cX1_init 54 = .ok (.iconst 1, 1) := by decide +kernel
theorem dX1_init_55 : decode cX1_init 55 = .ok (.iconst 1, 1) := by decide +kernel
theorem dX1_init_56 : decode cX1_init 56 = .ok (.iastore, 1) := by decide +kernel
theorem dX1_init_57 : decode cX1_init 57 = .ok (.return_, 1) := by decide +kernel
theorem dX1_copy_0 : decode cX1_copy 0 = .ok (.iconst 0, 1) := by decide +kernel
theorem dX1_copy_1 : decode cX1_copy 1 = .ok (.istore_n 2, 1) := by decide +kernel
theorem dX1_copy_2 : decode cX1_copy 2 = .ok (.iload_n 2, 1) := by decide +kernel
theorem dX1_copy_3 : decode cX1_copy 3 = .ok (.bipush 8, 2) := by decide +kernel
theorem dX1_copy_5 : decode cX1_copy 5 = .ok (.if_icmp .ge 57, 3) := by decide +kernel
theorem dX1_copy_8 : decode cX1_copy 8 = .ok (.aload_n 0, 1) := by decide +kernel
theorem dX1_copy_9 : decode cX1_copy 9 = .ok (.getfield 9, 3) := by decide +kernel
theorem dX1_copy_12 : decode cX1_copy 12 = .ok (.iload_n 2, 1) := by decide +kernel
theorem dX1_copy_13 : decode cX1_copy 13 = .ok (.aload_n 1, 1) := by decide +kernel
theorem dX1_copy_14 : decode cX1_copy 14 = .ok (.getfield 9, 3) := by decide +kernel
theorem dX1_copy_17 : decode cX1_copy 17 = .ok (.iload_n 2, 1) := by decide +kernel
theorem dX1_copy_18 : decode cX1_copy 18 = .ok (.iaload, 1) := by decide +kernel
theorem dX1_copy_19 : decode cX1_copy 19 = .ok (.iastore, 1) := by decide +kernel
theorem dX1_copy_20 : decode cX1_copy 20 = .ok (.aload_n 0, 1) := by decide +kernel
theorem dX1_copy_21 : decode cX1_copy 21 = .ok (.getfield 15, 3) := by decide +kernel
theorem dX1_copy_24 : decode cX1_copy 24 = .ok (.iload_n 2, 1) := by decide +kernel
theorem dX1_copy_25 : decode cX1_copy 25 = .ok (.aload_n 1, 1) := by decide +kernel
theorem dX1_copy_26 : decode cX1_copy 26 = .ok (.getfield 15, 3) := by decide +kernel
theorem dX1_copy_29 : decode cX1_copy 29 = .ok (.iload_n 2, 1) := by decide +kernel
theorem dX1_copy_30 : decode cX1_copy 30 = .ok (.iaload, 1) := by decide +kernel
theorem dX1_copy_31 : decode cX1_copy 31 = .ok (.iastore, 1) := by decide +kernel
theorem dX1_copy_32 : decode cX1_copy 32 = .ok (.aload_n 0, 1) := by decide +kernel
theorem dX1_copy_33 : decode cX1_copy 33 = .ok (.getfield 18, 3) := by decide +kernel
theorem dX1_copy_36 : decode cX1_copy 36 = .ok (.iload_n 2, 1) := by decide +kernel
theorem dX1_copy_37 : decode cX1_copy 37 = .ok (.aload_n 1, 1) := by decide +kernel
theorem dX1_copy_38 : decode cX1_copy 38 = .ok (.getfield 18, 3) := by decide +kernel
theorem dX1_copy_41 : decode cX1_copy 41 = .ok (.iload_n 2, 1) := by decide +kernel
theorem dX1_copy_42 : decode cX1_copy 42 = .ok (.iaload, 1) := by decide +kernel
theorem dX1_copy_43 : decode cX1_copy 43 = .ok (.iastore, 1) := by decide +kernel
theorem dX1_copy_44 : decode cX1_copy 44 = .ok (.aload_n 0, 1) := by decide +kernel
theorem dX1_copy_45 : decode cX1_copy 45 = .ok (.getfield 21, 3) := by decide +kernel
theorem dX1_copy_48 : decode cX1_copy 48 = .ok (.iload_n 2, 1) := by decide +kernel
theorem dX1_copy_49 : decode cX1_copy 49 = .ok (.aload_n 1, 1) := by decide +kernel
theorem dX1_copy_50 : decode cX1_copy 50 = .ok (.getfield 21, 3) := by decide +kernel
theorem dX1_copy_53 : decode cX1_copy 53 = .ok (.iload_n 2, 1) := by decide +kernel
theorem dX1_copy_54 : decode cX1_copy 54 = .ok (.baload, 1) := by decide +kernel
theorem dX1_copy_55 : decode cX1_copy 55 = .ok (.bastore, 1) := by decide +kernel
theorem dX1_copy_56 : decode cX1_copy 56 = .ok (.iinc 2 1, 3) := by decide +kernel
theorem dX1_copy_59 : decode cX1_copy 59 = .ok (.goto (-57), 3) := by decide +kernel
theorem dX1_copy_62 : decode cX1_copy 62 = .ok (.iconst 0, 1) := by decide +kernel
theorem dX1_copy_63 : decode cX1_copy 63 = .ok (.istore_n 2, 1) := by decide +kernel
theorem dX1_copy_64 : decode cX1_copy 64 = .ok (.iload_n 2, 1) := by decide +kernel
theorem dX1_copy_65 : decode cX1_copy 65 = .ok (.iconst 4, 1) := by decide +kernel
theorem dX1_copy_66 : decode cX1_copy 66 = .ok (.if_icmp .ge 21, 3) := by decide +kernel
theorem dX1_copy_69 : decode cX1_copy 69 = .ok (.aload_n 0, 1) := by decide +kernel
theorem dX1_copy_70 : decode cX1_copy 70 = .ok (.getfield 25, 3) := by decide +kernel
theorem dX1_copy_73 : decode cX1_copy 73 = .ok (.iload_n 2, 1) := by decide +kernel
theorem dX1_copy_74 : decode cX1_copy 74 = .ok (.aload_n 1, 1) := by decide +kernel
theorem dX1_copy_75 : decode cX1_copy 75 = .ok (.getfield 25, 3) := by decide +kernel
theorem dX1_copy_78 : decode cX1_copy 78 = .ok (.iload_n 2, 1) := by decide +kernel
theorem dX1_copy_79 : decode cX1_copy 79 = .ok (.iaload, 1) := by decide +kernel
theorem dX1_copy_80 : decode cX1_copy 80 = .ok (.iastore, 1) := by decide +kernel
theorem dX1_copy_81 : decode cX1_copy 81 = .ok (.iinc 2 1, 3) := by decide +kernel
theorem dX1_copy_84 : decode cX1_copy 84 = .ok (.goto (-20), 3) := by decide +kernel
theorem dX1_copy_87 : decode cX1_copy 87 = .ok (.aload_n 0, 1) := by decide +kernel
theorem dX1_copy_88 : decode cX1_copy 88 = .ok (.aload_n 1, 1) := by decide +kernel
theorem dX1_copy_89 : decode cX1_copy 89 = .ok (.getfield 28, 3) := by decide +kernel
theorem dX1_copy_92 : decode cX1_copy 92 = .ok (.putfield 28, 3) := by decide +kernel
theorem dX1_copy_95 : decode cX1_copy 95 = .ok (.return_, 1) := by decide +kernel
theorem dX1_setting_0 : decode cX1_setting 0 = .ok (.iload_n 1, 1) := by decide +kernel
theorem dX1_setting_1 : decode cX1_setting 1 = .ok (.ifCond .lt 17, 3) := by decide +kernel
theorem dX1_setting_4 : decode cX1_setting 4 = .ok (.iload_n 1, 1) := by decide +kernel
theorem dX1_setting_5 : decode cX1_setting 5 = .ok (.iconst 4, 1) := by decide +kernel
theorem dX1_setting_6 : decode cX1_setting 6 = .ok (.if_icmp .ge 12, 3) := by decide +kernel
theorem dX1_setting_9 : decode cX1_setting 9 = .ok (.aload_n 0, 1) := by decide +kernel
theorem dX1_setting_10 : decode cX1_setting 10 = .ok (.getfield 25, 3) := by decide +kernel
theorem dX1_setting_13 : decode cX1_setting 13 = .ok (.iload_n 1, 1) := by decide +kernel
theorem dX1_setting_14 : decode cX1_setting 14 = .ok (.iaload, 1) := by decide +kernel
theorem dX1_setting_15 : decode cX1_setting 15 = .ok (.goto 5, 3) := by decide +kernel
theorem dX1_setting_18 : decode cX1_setting 18 = .ok (.bipush (-2), 2) := by decide +kernel
theorem dX1_setting_20 : decode cX1_setting 20 = .ok (.ireturn, 1) := by decide +kernel
theorem dX1_change_0 : decode cX1_change 0 = .ok (.iload_n 1, 1) := by decide +kernel
theorem dX1_change_1 : decode cX1_change 1 = .ok (.ifCond .lt 15, 3) := by decide +kernel
theorem dX1_change_4 : decode cX1_change 4 = .ok (.iload_n 1, 1) := by decide +kernel
theorem dX1_change_5 : decode cX1_change 5 = .ok (.iconst 4, 1) := by decide +kernel
theorem dX1_change_6 : decode cX1_change 6 = .ok (.if_icmp .ge 10, 3) := by decide +kernel
theorem dX1_change_9 : decode cX1_change 9 = .ok (.aload_n 0, 1) := by decide +kernel
theorem dX1_change_10 : decode cX1_change 10 = .ok (.getfield 25, 3) := by decide +kernel
theorem dX1_change_13 : decode cX1_change 13 = .ok (.iload_n 1, 1) := by decide +kernel
theorem dX1_change_14 : decode cX1_change 14 = .ok (.iload_n 2, 1) := by decide +kernel
theorem dX1_change_15 : decode cX1_change 15 = .ok (.iastore, 1) := by decide +kernel
theorem dX1_change_16 : decode cX1_change 16 = .ok (.return_, 1) := by decide +kernel
theorem dX1_comes_0 : decode cX1_comes 0 = .ok (.iload_n 1, 1) := by decide +kernel
theorem dX1_comes_1 : decode cX1_comes 1 = .ok (.ifCond .lt 24, 3) := by decide +kernel
theorem dX1_comes_4 : decode cX1_comes 4 = .ok (.iload_n 1, 1) := by decide +kernel
theorem dX1_comes_5 : decode cX1_comes 5 = .ok (.bipush 8, 2) := by decide +kernel
theorem dX1_comes_7 : decode cX1_comes 7 = .ok (.if_icmp .ge 18, 3) := by decide +kernel
theorem dX1_comes_10 : decode cX1_comes 10 = .ok (.aload_n 0, 1) := by decide +kernel
theorem dX1_comes_11 : decode cX1_comes 11 = .ok (.getfield 28, 3) := by decide +kernel
theorem dX1_comes_14 : decode cX1_comes 14 = .ok (.iload_n 1, 1) := by decide +kernel
theorem dX1_comes_15 : decode cX1_comes 15 = .ok (.ishr, 1) := by decide +kernel
theorem dX1_comes_16 : decode cX1_comes 16 = .ok (.iconst 1, 1) := by decide +kernel
theorem dX1_comes_17 : decode cX1_comes 17 = .ok (.iand, 1) := by decide +kernel
theorem dX1_comes_18 : decode cX1_comes 18 = .ok (.ifCond .eq 7, 3) := by decide +kernel
theorem dX1_comes_21 : decode cX1_comes 21 = .ok (.iconst 1, 1) := by decide +kernel
theorem dX1_comes_22 : decode cX1_comes 22 = .ok (.goto 4, 3) := by decide +kernel
theorem dX1_comes_25 : decode cX1_comes 25 = .ok (.iconst 0, 1) := by decide +kernel
theorem dX1_comes_26 : decode cX1_comes 26 = .ok (.ireturn, 1) := by decide +kernel
theorem dX1_timeToDraw_0 : decode cX1_timeToDraw 0 = .ok (.aload_n 0, 1) := by decide +kernel
theorem dX1_timeToDraw_1 : decode cX1_timeToDraw 1 = .ok (.getfield 25, 3) := by decide +kernel
theorem dX1_timeToDraw_4 : decode cX1_timeToDraw 4 = .ok (.iconst 0, 1) := by decide +kernel
theorem dX1_timeToDraw_5 : decode cX1_timeToDraw 5 = .ok (.iaload, 1) := by decide +kernel
theorem dX1_timeToDraw_6 : decode cX1_timeToDraw 6 = .ok (.aload_n 0, 1) := by decide +kernel
theorem dX1_timeToDraw_7 : decode cX1_timeToDraw 7 = .ok (.getfield 18, 3) := by decide +kernel
theorem dX1_timeToDraw_10 : decode cX1_timeToDraw 10 = .ok (.iload_n 1, 1) := by decide +kernel
theorem dX1_timeToDraw_11 : decode cX1_timeToDraw 11 = .ok (.iaload, 1) := by decide +kernel
theorem dX1_timeToDraw_12 : decode cX1_timeToDraw 12 = .ok (.imul, 1) := by decide +kernel
theorem dX1_timeToDraw_13 : decode cX1_timeToDraw 13 = .ok (.ireturn, 1) := by decide +kernel
theorem dX1_firstComing_0 : decode cX1_firstComing 0 = .ok (.bipush (-6), 2) := by decide +kernel
theorem dX1_firstComing_2 : decode cX1_firstComing 2 = .ok (.istore_n 2, 1) := by decide +kernel
theorem dX1_firstComing_3 : decode cX1_firstComing 3 = .ok (.iconst 0, 1) := by decide +kernel
theorem dX1_firstComing_4 : decode cX1_firstComing 4 = .ok (.istore_n 3, 1) := by decide +kernel
theorem dX1_firstComing_5 : decode cX1_firstComing 5 = .ok (.iload_n 3, 1) := by decide +kernel
theorem dX1_firstComing_6 : decode cX1_firstComing 6 = .ok (.bipush 8, 2) := by decide +kernel
theorem dX1_firstComing_8 : decode cX1_firstComing 8 = .ok (.if_icmp .ge 52, 3) := by decide +kernel
theorem dX1_firstComing_11 : decode cX1_firstComing 11 = .ok (.iload_n 1, 1) := by decide +kernel
theorem dX1_firstComing_12 : decode cX1_firstComing 12 = .ok (.iload_n 3, 1) := by decide +kernel
theorem dX1_firstComing_13 : decode cX1_firstComing 13 = .ok (.ishr, 1) := by decide +kernel
theorem dX1_firstComing_14 : decode cX1_firstComing 14 = .ok (.iconst 1, 1) := by decide +kernel
theorem dX1_firstComing_15 : decode cX1_firstComing 15 = .ok (.iand, 1) := by decide +kernel
theorem dX1_firstComing_16 : decode cX1_firstComing 16 = .ok (.ifCond .eq 7, 3) := by decide +kernel
theorem dX1_firstComing_19 : decode cX1_firstComing 19 = .ok (.iconst 1, 1) := by decide +kernel
theorem dX1_firstComing_20 : decode cX1_firstComing 20 = .ok (.goto 4, 3) := by decide +kernel
theorem dX1_firstComing_23 : decode cX1_firstComing 23 = .ok (.iconst 0, 1) := by decide +kernel
theorem dX1_firstComing_24 : decode cX1_firstComing 24 = .ok (.istore 4, 2) := by decide +kernel
theorem dX1_firstComing_26 : decode cX1_firstComing 26 = .ok (.iload 4, 2) := by decide +kernel
theorem dX1_firstComing_28 : decode cX1_firstComing 28 = .ok (.ifCond .eq 26, 3) := by decide +kernel
theorem dX1_firstComing_31 : decode cX1_firstComing 31 = .ok (.iload_n 2, 1) := by decide +kernel
theorem dX1_firstComing_32 : decode cX1_firstComing 32 = .ok (.bipush (-6), 2) := by decide +kernel
theorem dX1_firstComing_34 : decode cX1_firstComing 34 = .ok (.if_icmp .eq 13, 3) := by decide +kernel
theorem dX1_firstComing_37 : decode cX1_firstComing 37 = .ok (.aload_n 0, 1) := by decide +kernel
theorem dX1_firstComing_38 : decode cX1_firstComing 38 = .ok (.getfield 15, 3) := by decide +kernel
theorem dX1_firstComing_41 : decode cX1_firstComing 41 = .ok (.iload_n 3, 1) := by decide +kernel
theorem dX1_firstComing_42 : decode cX1_firstComing 42 = .ok (.iaload, 1) := by decide +kernel
theorem dX1_firstComing_43 : decode cX1_firstComing 43 = .ok (.iload_n 2, 1) := by decide +kernel
theorem dX1_firstComing_44 : decode cX1_firstComing 44 = .ok (.if_icmp .ge 10, 3) := by decide +kernel
theorem dX1_firstComing_47 : decode cX1_firstComing 47 = .ok (.aload_n 0, 1) := by decide +kernel
theorem dX1_firstComing_48 : decode cX1_firstComing 48 = .ok (.getfield 15, 3) := by decide +kernel
theorem dX1_firstComing_51 : decode cX1_firstComing 51 = .ok (.iload_n 3, 1) := by decide +kernel
theorem dX1_firstComing_52 : decode cX1_firstComing 52 = .ok (.iaload, 1) := by decide +kernel
theorem dX1_firstComing_53 : decode cX1_firstComing 53 = .ok (.istore_n 2, 1) := by decide +kernel
theorem dX1_firstComing_54 : decode cX1_firstComing 54 = .ok (.iinc 3 1, 3) := by decide +kernel
theorem dX1_firstComing_57 : decode cX1_firstComing 57 = .ok (.goto (-52), 3) := by decide +kernel
theorem dX1_firstComing_60 : decode cX1_firstComing 60 = .ok (.iload_n 2, 1) := by decide +kernel
theorem dX1_firstComing_61 : decode cX1_firstComing 61 = .ok (.ireturn, 1) := by decide +kernel
theorem dX1_nextAt_0 : decode cX1_nextAt 0 = .ok (.bipush (-6), 2) := by decide +kernel
theorem dX1_nextAt_2 : decode cX1_nextAt 2 = .ok (.istore_n 3, 1) := by decide +kernel
theorem dX1_nextAt_3 : decode cX1_nextAt 3 = .ok (.iconst 0, 1) := by decide +kernel
theorem dX1_nextAt_4 : decode cX1_nextAt 4 = .ok (.istore 4, 2) := by decide +kernel
theorem dX1_nextAt_6 : decode cX1_nextAt 6 = .ok (.iload 4, 2) := by decide +kernel
theorem dX1_nextAt_8 : decode cX1_nextAt 8 = .ok (.bipush 8, 2) := by decide +kernel
theorem dX1_nextAt_10 : decode cX1_nextAt 10 = .ok (.if_icmp .ge 61, 3) := by decide +kernel
theorem dX1_nextAt_13 : decode cX1_nextAt 13 = .ok (.iload_n 2, 1) := by decide +kernel
theorem dX1_nextAt_14 : decode cX1_nextAt 14 = .ok (.iload 4, 2) := by decide +kernel
theorem dX1_nextAt_16 : decode cX1_nextAt 16 = .ok (.ishr, 1) := by decide +kernel
theorem dX1_nextAt_17 : decode cX1_nextAt 17 = .ok (.iconst 1, 1) := by decide +kernel
theorem dX1_nextAt_18 : decode cX1_nextAt 18 = .ok (.iand, 1) := by decide +kernel
theorem dX1_nextAt_19 : decode cX1_nextAt 19 = .ok (.ifCond .eq 18, 3) := by decide +kernel
theorem dX1_nextAt_22 : decode cX1_nextAt 22 = .ok (.aload_n 0, 1) := by decide +kernel
theorem dX1_nextAt_23 : decode cX1_nextAt 23 = .ok (.getfield 15, 3) := by decide +kernel
theorem dX1_nextAt_26 : decode cX1_nextAt 26 = .ok (.iload 4, 2) := by decide +kernel
theorem dX1_nextAt_28 : decode cX1_nextAt 28 = .ok (.iaload, 1) := by decide +kernel
theorem dX1_nextAt_29 : decode cX1_nextAt 29 = .ok (.iload_n 1, 1) := by decide +kernel
theorem dX1_nextAt_30 : decode cX1_nextAt 30 = .ok (.if_icmp .gt 7, 3) := by decide +kernel
theorem dX1_nextAt_33 : decode cX1_nextAt 33 = .ok (.iconst 1, 1) := by decide +kernel
theorem dX1_nextAt_34 : decode cX1_nextAt 34 = .ok (.goto 4, 3) := by decide +kernel
theorem dX1_nextAt_37 : decode cX1_nextAt 37 = .ok (.iconst 0, 1) := by decide +kernel
theorem dX1_nextAt_38 : decode cX1_nextAt 38 = .ok (.istore 5, 2) := by decide +kernel
theorem dX1_nextAt_40 : decode cX1_nextAt 40 = .ok (.iload 5, 2) := by decide +kernel
theorem dX1_nextAt_42 : decode cX1_nextAt 42 = .ok (.ifCond .eq 23, 3) := by decide +kernel
theorem dX1_nextAt_45 : decode cX1_nextAt 45 = .ok (.iload_n 3, 1) := by decide +kernel
theorem dX1_nextAt_46 : decode cX1_nextAt 46 = .ok (.bipush (-6), 2) := by decide +kernel
theorem dX1_nextAt_48 : decode cX1_nextAt 48 = .ok (.if_icmp .eq 14, 3) := by decide +kernel
theorem dX1_nextAt_51 : decode cX1_nextAt 51 = .ok (.aload_n 0, 1) := by decide +kernel
theorem dX1_nextAt_52 : decode cX1_nextAt 52 = .ok (.iload 4, 2) := by decide +kernel
theorem dX1_nextAt_54 : decode cX1_nextAt 54 = .ok (.iload_n 3, 1) := by decide +kernel
theorem dX1_nextAt_55 : decode cX1_nextAt 55 = .ok (.iload_n 1, 1) := by decide +kernel
theorem dX1_nextAt_56 : decode cX1_nextAt 56 = .ok (.invokevirtual 32, 3) := by decide +kernel
theorem dX1_nextAt_59 : decode cX1_nextAt 59 = .ok (.ifCond .eq 6, 3) := by decide +kernel
theorem dX1_nextAt_62 : decode cX1_nextAt 62 = .ok (.iload 4, 2) := by decide +kernel
theorem dX1_nextAt_64 : decode cX1_nextAt 64 = .ok (.istore_n 3, 1) := by decide +kernel
theorem dX1_nextAt_65 : decode cX1_nextAt 65 = .ok (.iinc 4 1, 3) := by decide +kernel
theorem dX1_nextAt_68 : decode cX1_nextAt 68 = .ok (.goto (-62), 3) := by decide +kernel
theorem dX1_nextAt_71 : decode cX1_nextAt 71 = .ok (.iload_n 3, 1) := by decide +kernel
theorem dX1_nextAt_72 : decode cX1_nextAt 72 = .ok (.ireturn, 1) := by decide +kernel
theorem dX1_goesBefore_0 : decode cX1_goesBefore 0 = .ok (.aload_n 0, 1) := by decide +kernel
theorem dX1_goesBefore_1 : decode cX1_goesBefore 1 = .ok (.iload_n 3, 1) := by decide +kernel
theorem dX1_goesBefore_2 : decode cX1_goesBefore 2 = .ok (.iload_n 1, 1) := by decide +kernel
theorem dX1_goesBefore_3 : decode cX1_goesBefore 3 = .ok (.invokevirtual 36, 3) := by decide +kernel
theorem dX1_goesBefore_6 : decode cX1_goesBefore 6 = .ok (.istore 4, 2) := by decide +kernel
theorem dX1_goesBefore_8 : decode cX1_goesBefore 8 = .ok (.aload_n 0, 1) := by decide +kernel
theorem dX1_goesBefore_9 : decode cX1_goesBefore 9 = .ok (.iload_n 3, 1) := by decide +kernel
theorem dX1_goesBefore_10 : decode cX1_goesBefore 10 = .ok (.iload_n 2, 1) := by decide +kernel
theorem dX1_goesBefore_11 : decode cX1_goesBefore 11 = .ok (.invokevirtual 36, 3) := by decide +kernel
theorem dX1_goesBefore_14 : decode cX1_goesBefore 14 = .ok (.istore 5, 2) := by decide +kernel
theorem dX1_goesBefore_16 : decode cX1_goesBefore 16 = .ok (.iload 4, 2) := by decide +kernel
theorem dX1_goesBefore_18 : decode cX1_goesBefore 18 = .ok (.iload 5, 2) := by decide +kernel
theorem dX1_goesBefore_20 : decode cX1_goesBefore 20 = .ok (.if_icmp .eq 16, 3) := by decide +kernel
theorem dX1_goesBefore_23 : decode cX1_goesBefore 23 = .ok (.iload 4, 2) := by decide +kernel
theorem dX1_goesBefore_25 : decode cX1_goesBefore 25 = .ok (.iload 5, 2) := by decide +kernel
theorem dX1_goesBefore_27 : decode cX1_goesBefore 27 = .ok (.if_icmp .le 7, 3) := by decide +kernel
theorem dX1_goesBefore_30 : decode cX1_goesBefore 30 = .ok (.iconst 1, 1) := by decide +kernel
theorem dX1_goesBefore_31 : decode cX1_goesBefore 31 = .ok (.goto 4, 3) := by decide +kernel
theorem dX1_goesBefore_34 : decode cX1_goesBefore 34 = .ok (.iconst 0, 1) := by decide +kernel
theorem dX1_goesBefore_35 : decode cX1_goesBefore 35 = .ok (.ireturn, 1) := by decide +kernel
theorem dX1_goesBefore_36 : decode cX1_goesBefore 36 = .ok (.aload_n 0, 1) := by decide +kernel
theorem dX1_goesBefore_37 : decode cX1_goesBefore 37 = .ok (.getfield 15, 3) := by decide +kernel
theorem dX1_goesBefore_40 : decode cX1_goesBefore 40 = .ok (.iload_n 1, 1) := by decide +kernel
theorem dX1_goesBefore_41 : decode cX1_goesBefore 41 = .ok (.iaload, 1) := by decide +kernel
theorem dX1_goesBefore_42 : decode cX1_goesBefore 42 = .ok (.aload_n 0, 1) := by decide +kernel
theorem dX1_goesBefore_43 : decode cX1_goesBefore 43 = .ok (.getfield 15, 3) := by decide +kernel
theorem dX1_goesBefore_46 : decode cX1_goesBefore 46 = .ok (.iload_n 2, 1) := by decide +kernel
theorem dX1_goesBefore_47 : decode cX1_goesBefore 47 = .ok (.iaload, 1) := by decide +kernel
theorem dX1_goesBefore_48 : decode cX1_goesBefore 48 = .ok (.if_icmp .eq 24, 3) := by decide +kernel
theorem dX1_goesBefore_51 : decode cX1_goesBefore 51 = .ok (.aload_n 0, 1) := by decide +kernel
theorem dX1_goesBefore_52 : decode cX1_goesBefore 52 = .ok (.getfield 15, 3) := by decide +kernel
theorem dX1_goesBefore_55 : decode cX1_goesBefore 55 = .ok (.iload_n 1, 1) := by decide +kernel
theorem dX1_goesBefore_56 : decode cX1_goesBefore 56 = .ok (.iaload, 1) := by decide +kernel
theorem dX1_goesBefore_57 : decode cX1_goesBefore 57 = .ok (.aload_n 0, 1) := by decide +kernel
theorem dX1_goesBefore_58 : decode cX1_goesBefore 58 = .ok (.getfield 15, 3) := by decide +kernel
theorem dX1_goesBefore_61 : decode cX1_goesBefore 61 = .ok (.iload_n 2, 1) := by decide +kernel
theorem dX1_goesBefore_62 : decode cX1_goesBefore 62 = .ok (.iaload, 1) := by decide +kernel
theorem dX1_goesBefore_63 : decode cX1_goesBefore 63 = .ok (.if_icmp .ge 7, 3) := by decide +kernel
theorem dX1_goesBefore_66 : decode cX1_goesBefore 66 = .ok (.iconst 1, 1) := by decide +kernel
theorem dX1_goesBefore_67 : decode cX1_goesBefore 67 = .ok (.goto 4, 3) := by decide +kernel
theorem dX1_goesBefore_70 : decode cX1_goesBefore 70 = .ok (.iconst 0, 1) := by decide +kernel
theorem dX1_goesBefore_71 : decode cX1_goesBefore 71 = .ok (.ireturn, 1) := by decide +kernel
theorem dX1_goesBefore_72 : decode cX1_goesBefore 72 = .ok (.iload_n 1, 1) := by decide +kernel
theorem dX1_goesBefore_73 : decode cX1_goesBefore 73 = .ok (.iload_n 2, 1) := by decide +kernel
theorem dX1_goesBefore_74 : decode cX1_goesBefore 74 = .ok (.if_icmp .ge 7, 3) := by decide +kernel
theorem dX1_goesBefore_77 : decode cX1_goesBefore 77 = .ok (.iconst 1, 1) := by decide +kernel
theorem dX1_goesBefore_78 : decode cX1_goesBefore 78 = .ok (.goto 4, 3) := by decide +kernel
theorem dX1_goesBefore_81 : decode cX1_goesBefore 81 = .ok (.iconst 0, 1) := by decide +kernel
theorem dX1_goesBefore_82 : decode cX1_goesBefore 82 = .ok (.ireturn, 1) := by decide +kernel
theorem dX1_claimAt_0 : decode cX1_claimAt 0 = .ok (.aload_n 0, 1) := by decide +kernel
theorem dX1_claimAt_1 : decode cX1_claimAt 1 = .ok (.getfield 25, 3) := by decide +kernel
theorem dX1_claimAt_4 : decode cX1_claimAt 4 = .ok (.iconst 3, 1) := by decide +kernel
theorem dX1_claimAt_5 : decode cX1_claimAt 5 = .ok (.iaload, 1) := by decide +kernel
theorem dX1_claimAt_6 : decode cX1_claimAt 6 = .ok (.iconst 1, 1) := by decide +kernel
theorem dX1_claimAt_7 : decode cX1_claimAt 7 = .ok (.if_icmp .ne 16, 3) := by decide +kernel
theorem dX1_claimAt_10 : decode cX1_claimAt 10 = .ok (.aload_n 0, 1) := by decide +kernel
theorem dX1_claimAt_11 : decode cX1_claimAt 11 = .ok (.getfield 21, 3) := by decide +kernel
theorem dX1_claimAt_14 : decode cX1_claimAt 14 = .ok (.iload_n 2, 1) := by decide +kernel
theorem dX1_claimAt_15 : decode cX1_claimAt 15 = .ok (.baload, 1) := by decide +kernel
theorem dX1_claimAt_16 : decode cX1_claimAt 16 = .ok (.ifCond .eq 7, 3) := by decide +kernel
theorem dX1_claimAt_19 : decode cX1_claimAt 19 = .ok (.iconst 1, 1) := by decide +kernel
theorem dX1_claimAt_20 : decode cX1_claimAt 20 = .ok (.goto 4, 3) := by decide +kernel
theorem dX1_claimAt_23 : decode cX1_claimAt 23 = .ok (.iconst 0, 1) := by decide +kernel
theorem dX1_claimAt_24 : decode cX1_claimAt 24 = .ok (.istore_n 3, 1) := by decide +kernel
theorem dX1_claimAt_25 : decode cX1_claimAt 25 = .ok (.iload_n 3, 1) := by decide +kernel
theorem dX1_claimAt_26 : decode cX1_claimAt 26 = .ok (.ifCond .eq 14, 3) := by decide +kernel
theorem dX1_claimAt_29 : decode cX1_claimAt 29 = .ok (.aload_n 0, 1) := by decide +kernel
theorem dX1_claimAt_30 : decode cX1_claimAt 30 = .ok (.getfield 9, 3) := by decide +kernel
theorem dX1_claimAt_33 : decode cX1_claimAt 33 = .ok (.iload_n 2, 1) := by decide +kernel
theorem dX1_claimAt_34 : decode cX1_claimAt 34 = .ok (.iaload, 1) := by decide +kernel
theorem dX1_claimAt_35 : decode cX1_claimAt 35 = .ok (.iconst 2, 1) := by decide +kernel
theorem dX1_claimAt_36 : decode cX1_claimAt 36 = .ok (.idiv, 1) := by decide +kernel
theorem dX1_claimAt_37 : decode cX1_claimAt 37 = .ok (.goto 9, 3) := by decide +kernel
theorem dX1_claimAt_40 : decode cX1_claimAt 40 = .ok (.aload_n 0, 1) := by decide +kernel
theorem dX1_claimAt_41 : decode cX1_claimAt 41 = .ok (.getfield 9, 3) := by decide +kernel
theorem dX1_claimAt_44 : decode cX1_claimAt 44 = .ok (.iload_n 2, 1) := by decide +kernel
theorem dX1_claimAt_45 : decode cX1_claimAt 45 = .ok (.iaload, 1) := by decide +kernel
theorem dX1_claimAt_46 : decode cX1_claimAt 46 = .ok (.istore 4, 2) := by decide +kernel
theorem dX1_claimAt_48 : decode cX1_claimAt 48 = .ok (.aload_n 0, 1) := by decide +kernel
theorem dX1_claimAt_49 : decode cX1_claimAt 49 = .ok (.getfield 25, 3) := by decide +kernel
theorem dX1_claimAt_52 : decode cX1_claimAt 52 = .ok (.iconst 1, 1) := by decide +kernel
theorem dX1_claimAt_53 : decode cX1_claimAt 53 = .ok (.iaload, 1) := by decide +kernel
theorem dX1_claimAt_54 : decode cX1_claimAt 54 = .ok (.iload 4, 2) := by decide +kernel
theorem dX1_claimAt_56 : decode cX1_claimAt 56 = .ok (.imul, 1) := by decide +kernel
theorem dX1_claimAt_57 : decode cX1_claimAt 57 = .ok (.aload_n 0, 1) := by decide +kernel
theorem dX1_claimAt_58 : decode cX1_claimAt 58 = .ok (.getfield 25, 3) := by decide +kernel
theorem dX1_claimAt_61 : decode cX1_claimAt 61 = .ok (.iconst 2, 1) := by decide +kernel
theorem dX1_claimAt_62 : decode cX1_claimAt 62 = .ok (.iaload, 1) := by decide +kernel
theorem dX1_claimAt_63 : decode cX1_claimAt 63 = .ok (.iload_n 1, 1) := by decide +kernel
theorem dX1_claimAt_64 : decode cX1_claimAt 64 = .ok (.aload_n 0, 1) := by decide +kernel
theorem dX1_claimAt_65 : decode cX1_claimAt 65 = .ok (.getfield 15, 3) := by decide +kernel
theorem dX1_claimAt_68 : decode cX1_claimAt 68 = .ok (.iload_n 2, 1) := by decide +kernel
theorem dX1_claimAt_69 : decode cX1_claimAt 69 = .ok (.iaload, 1) := by decide +kernel
theorem dX1_claimAt_70 : decode cX1_claimAt 70 = .ok (.isub, 1) := by decide +kernel
theorem dX1_claimAt_71 : decode cX1_claimAt 71 = .ok (.imul, 1) := by decide +kernel
theorem dX1_claimAt_72 : decode cX1_claimAt 72 = .ok (.iadd, 1) := by decide +kernel
theorem dX1_claimAt_73 : decode cX1_claimAt 73 = .ok (.ireturn, 1) := by decide +kernel
theorem dX2_init_0 : decode cX2_init 0 = .ok (.aload_n 0, 1) := by decide +kernel
theorem dX2_init_1 : decode cX2_init 1 = .ok (.invokespecial 3, 3) := by decide +kernel
theorem dX2_init_4 : decode cX2_init 4 = .ok (.aload_n 0, 1) := by decide +kernel
theorem dX2_init_5 : decode cX2_init 5 = .ok (.bipush 8, 2) := by decide +kernel
theorem dX2_init_7 : decode cX2_init 7 = .ok (.newarray .int, 2) := by decide +kernel
theorem dX2_init_9 : decode cX2_init 9 = .ok (.putfield 9, 3) := by decide +kernel
theorem dX2_init_12 : decode cX2_init 12 = .ok (.aload_n 0, 1) := by decide +kernel
theorem dX2_init_13 : decode cX2_init 13 = .ok (.bipush 8, 2) := by decide +kernel
theorem dX2_init_15 : decode cX2_init 15 = .ok (.newarray .int, 2) := by decide +kernel
theorem dX2_init_17 : decode cX2_init 17 = .ok (.putfield 15, 3) := by decide +kernel
theorem dX2_init_20 : decode cX2_init 20 = .ok (.aload_n 0, 1) := by decide +kernel
theorem dX2_init_21 : decode cX2_init 21 = .ok (.bipush 8, 2) := by decide +kernel
theorem dX2_init_23 : decode cX2_init 23 = .ok (.newarray .int, 2) := by decide +kernel
theorem dX2_init_25 : decode cX2_init 25 = .ok (.putfield 18, 3) := by decide +kernel
theorem dX2_init_28 : decode cX2_init 28 = .ok (.aload_n 0, 1) := by decide +kernel
theorem dX2_init_29 : decode cX2_init 29 = .ok (.bipush 8, 2) := by decide +kernel
theorem dX2_init_31 : decode cX2_init 31 = .ok (.newarray .int, 2) := by decide +kernel
theorem dX2_init_33 : decode cX2_init 33 = .ok (.putfield 21, 3) := by decide +kernel
theorem dX2_init_36 : decode cX2_init 36 = .ok (.return_, 1) := by decide +kernel
theorem dX2_run_0 : decode cX2_run 0 = .ok (.aload_n 0, 1) := by decide +kernel
theorem dX2_run_1 : decode cX2_run 1 = .ok (.iload_n 2, 1) := by decide +kernel
theorem dX2_run_2 : decode cX2_run 2 = .ok (.invokevirtual 24, 3) := by decide +kernel
theorem dX2_run_5 : decode cX2_run 5 = .ok (.iconst 0, 1) := by decide +kernel
theorem dX2_run_6 : decode cX2_run 6 = .ok (.istore_n 3, 1) := by decide +kernel
theorem dX2_run_7 : decode cX2_run 7 = .ok (.iload_n 3, 1) := by decide +kernel
theorem dX2_run_8 : decode cX2_run 8 = .ok (.bipush 8, 2) := by decide +kernel
theorem dX2_run_10 : decode cX2_run 10 = .ok (.if_icmp .ge 22, 3) := by decide +kernel
theorem dX2_run_13 : decode cX2_run 13 = .ok (.aload_n 0, 1) := by decide +kernel
theorem dX2_run_14 : decode cX2_run 14 = .ok (.aload_n 1, 1) := by decide +kernel
theorem dX2_run_15 : decode cX2_run 15 = .ok (.invokevirtual 28, 3) := by decide +kernel
theorem dX2_run_18 : decode cX2_run 18 = .ok (.bipush (-6), 2) := by decide +kernel
theorem dX2_run_20 : decode cX2_run 20 = .ok (.if_icmp .ne 6, 3) := by decide +kernel
theorem dX2_run_23 : decode cX2_run 23 = .ok (.goto 9, 3) := by decide +kernel
theorem dX2_run_26 : decode cX2_run 26 = .ok (.iinc 3 1, 3) := by decide +kernel
theorem dX2_run_29 : decode cX2_run 29 = .ok (.goto (-22), 3) := by decide +kernel
theorem dX2_run_32 : decode cX2_run 32 = .ok (.return_, 1) := by decide +kernel
theorem dX2_keepsTo_0 : decode cX2_keepsTo 0 = .ok (.aload_n 0, 1) := by decide +kernel
theorem dX2_keepsTo_1 : decode cX2_keepsTo 1 = .ok (.aload_n 1, 1) := by decide +kernel
theorem dX2_keepsTo_2 : decode cX2_keepsTo 2 = .ok (.getfield 32, 3) := by decide +kernel
theorem dX2_keepsTo_5 : decode cX2_keepsTo 5 = .ok (.invokevirtual 24, 3) := by decide +kernel
theorem dX2_keepsTo_8 : decode cX2_keepsTo 8 = .ok (.iconst 0, 1) := by decide +kernel
theorem dX2_keepsTo_9 : decode cX2_keepsTo 9 = .ok (.istore_n 3, 1) := by decide +kernel
theorem dX2_keepsTo_10 : decode cX2_keepsTo 10 = .ok (.iload_n 3, 1) := by decide +kernel
theorem dX2_keepsTo_11 : decode cX2_keepsTo 11 = .ok (.aload_n 2, 1) := by decide +kernel
theorem dX2_keepsTo_12 : decode cX2_keepsTo 12 = .ok (.getfield 38, 3) := by decide +kernel
theorem dX2_keepsTo_15 : decode cX2_keepsTo 15 = .ok (.if_icmp .ge 30, 3) := by decide +kernel
theorem dX2_keepsTo_18 : decode cX2_keepsTo 18 = .ok (.iload_n 3, 1) := by decide +kernel
theorem dX2_keepsTo_19 : decode cX2_keepsTo 19 = .ok (.bipush 8, 2) := by decide +kernel
theorem dX2_keepsTo_21 : decode cX2_keepsTo 21 = .ok (.if_icmp .ge 24, 3) := by decide +kernel
theorem dX2_keepsTo_24 : decode cX2_keepsTo 24 = .ok (.aload_n 0, 1) := by decide +kernel
theorem dX2_keepsTo_25 : decode cX2_keepsTo 25 = .ok (.aload_n 1, 1) := by decide +kernel
theorem dX2_keepsTo_26 : decode cX2_keepsTo 26 = .ok (.invokevirtual 28, 3) := by decide +kernel
theorem dX2_keepsTo_29 : decode cX2_keepsTo 29 = .ok (.aload_n 2, 1) := by decide +kernel
theorem dX2_keepsTo_30 : decode cX2_keepsTo 30 = .ok (.iload_n 3, 1) := by decide +kernel
theorem dX2_keepsTo_31 : decode cX2_keepsTo 31 = .ok (.invokevirtual 43, 3) := by decide +kernel
theorem dX2_keepsTo_34 : decode cX2_keepsTo 34 = .ok (.if_icmp .eq 5, 3) := by decide +kernel
theorem dX2_keepsTo_37 : decode cX2_keepsTo 37 = .ok (.iconst 0, 1) := by decide +kernel
theorem dX2_keepsTo_38 : decode cX2_keepsTo 38 = .ok (.ireturn, 1) := by decide +kernel
theorem dX2_keepsTo_39 : decode cX2_keepsTo 39 = .ok (.iinc 3 1, 3) := by decide +kernel
theorem dX2_keepsTo_42 : decode cX2_keepsTo 42 = .ok (.goto (-32), 3) := by decide +kernel
theorem dX2_keepsTo_45 : decode cX2_keepsTo 45 = .ok (.iconst 1, 1) := by decide +kernel
theorem dX2_keepsTo_46 : decode cX2_keepsTo 46 = .ok (.ireturn, 1) := by decide +kernel
theorem dX2_beginOfOneMore_0 : decode cX2_beginOfOneMore 0 = .ok (.aload_n 1, 1) := by decide +kernel
theorem dX2_beginOfOneMore_1 : decode cX2_beginOfOneMore 1 = .ok (.getfield 47, 3) := by decide +kernel
theorem dX2_beginOfOneMore_4 : decode cX2_beginOfOneMore 4 = .ok (.iload_n 2, 1) := by decide +kernel
theorem dX2_beginOfOneMore_5 : decode cX2_beginOfOneMore 5 = .ok (.iaload, 1) := by decide +kernel
theorem dX2_beginOfOneMore_6 : decode cX2_beginOfOneMore 6 = .ok (.istore_n 3, 1) := by decide +kernel
theorem dX2_beginOfOneMore_7 : decode cX2_beginOfOneMore 7 = .ok (.iconst 0, 1) := by decide +kernel
theorem dX2_beginOfOneMore_8 : decode cX2_beginOfOneMore 8 = .ok (.istore 4, 2) := by decide +kernel
theorem dX2_beginOfOneMore_10 : decode cX2_beginOfOneMore 10 = .ok (.iconst 0, 1) := by decide +kernel
theorem dX2_beginOfOneMore_11 : decode cX2_beginOfOneMore 11 = .ok (.istore 5, 2) := by decide +kernel
theorem dX2_beginOfOneMore_13 : decode cX2_beginOfOneMore 13 = .ok (.iload 5, 2) := by decide +kernel
theorem dX2_beginOfOneMore_15 : decode cX2_beginOfOneMore 15 = .ok (.aload_n 0, 1) := by decide +kernel
theorem dX2_beginOfOneMore_16 : decode cX2_beginOfOneMore 16 = .ok (.getfield 50, 3) := by decide +kernel
theorem dX2_beginOfOneMore_19 : decode cX2_beginOfOneMore 19 = .ok (.if_icmp .ge 98, 3) := by decide +kernel
theorem dX2_beginOfOneMore_22 : decode cX2_beginOfOneMore 22 = .ok (.aload_n 0, 1) := by decide +kernel
theorem dX2_beginOfOneMore_23 : decode cX2_beginOfOneMore 23 = .ok (.getfield 9, 3) := by decide +kernel
theorem dX2_beginOfOneMore_26 : decode cX2_beginOfOneMore 26 = .ok (.iload 5, 2) := by decide +kernel
theorem dX2_beginOfOneMore_28 : decode cX2_beginOfOneMore 28 = .ok (.iaload, 1) := by decide +kernel
theorem dX2_beginOfOneMore_29 : decode cX2_beginOfOneMore 29 = .ok (.istore 6, 2) := by decide +kernel
theorem dX2_beginOfOneMore_31 : decode cX2_beginOfOneMore 31 = .ok (.iload_n 3, 1) := by decide +kernel
theorem dX2_beginOfOneMore_32 : decode cX2_beginOfOneMore 32 = .ok (.iload 4, 2) := by decide +kernel
theorem dX2_beginOfOneMore_34 : decode cX2_beginOfOneMore 34 = .ok (.invokestatic 53, 3) := by decide +kernel
theorem dX2_beginOfOneMore_37 : decode cX2_beginOfOneMore 37 = .ok (.istore 7, 2) := by decide +kernel
theorem dX2_beginOfOneMore_39 : decode cX2_beginOfOneMore 39 = .ok (.iload 7, 2) := by decide +kernel
theorem dX2_beginOfOneMore_41 : decode cX2_beginOfOneMore 41 = .ok (.aload_n 0, 1) := by decide +kernel
theorem dX2_beginOfOneMore_42 : decode cX2_beginOfOneMore 42 = .ok (.getfield 15, 3) := by decide +kernel
theorem dX2_beginOfOneMore_45 : decode cX2_beginOfOneMore 45 = .ok (.iload 6, 2) := by decide +kernel
theorem dX2_beginOfOneMore_47 : decode cX2_beginOfOneMore 47 = .ok (.iaload, 1) := by decide +kernel
theorem dX2_beginOfOneMore_48 : decode cX2_beginOfOneMore 48 = .ok (.if_icmp .ge 7, 3) := by decide +kernel
theorem dX2_beginOfOneMore_51 : decode cX2_beginOfOneMore 51 = .ok (.iconst 1, 1) := by decide +kernel
theorem dX2_beginOfOneMore_52 : decode cX2_beginOfOneMore 52 = .ok (.goto 4, 3) := by decide +kernel
theorem dX2_beginOfOneMore_55 : decode cX2_beginOfOneMore 55 = .ok (.iconst 0, 1) := by decide +kernel
theorem dX2_beginOfOneMore_56 : decode cX2_beginOfOneMore 56 = .ok (.istore 8, 2) := by decide +kernel
theorem dX2_beginOfOneMore_58 : decode cX2_beginOfOneMore 58 = .ok (.iload 7, 2) := by decide +kernel
theorem dX2_beginOfOneMore_60 : decode cX2_beginOfOneMore 60 = .ok (.aload_n 0, 1) := by decide +kernel
theorem dX2_beginOfOneMore_61 : decode cX2_beginOfOneMore 61 = .ok (.getfield 15, 3) := by decide +kernel
theorem dX2_beginOfOneMore_64 : decode cX2_beginOfOneMore 64 = .ok (.iload 6, 2) := by decide +kernel
theorem dX2_beginOfOneMore_66 : decode cX2_beginOfOneMore 66 = .ok (.iaload, 1) := by decide +kernel
theorem dX2_beginOfOneMore_67 : decode cX2_beginOfOneMore 67 = .ok (.if_icmp .ne 19, 3) := by decide +kernel
theorem dX2_beginOfOneMore_70 : decode cX2_beginOfOneMore 70 = .ok (.aload_n 1, 1) := by decide +kernel
theorem dX2_beginOfOneMore_71 : decode cX2_beginOfOneMore 71 = .ok (.iload_n 2, 1) := by decide +kernel
theorem dX2_beginOfOneMore_72 : decode cX2_beginOfOneMore 72 = .ok (.iload 6, 2) := by decide +kernel
theorem dX2_beginOfOneMore_74 : decode cX2_beginOfOneMore 74 = .ok (.iload 7, 2) := by decide +kernel
theorem dX2_beginOfOneMore_76 : decode cX2_beginOfOneMore 76 = .ok (.invokevirtual 59, 3) := by decide +kernel
theorem dX2_beginOfOneMore_79 : decode cX2_beginOfOneMore 79 = .ok (.ifCond .eq 7, 3) := by decide +kernel
theorem dX2_beginOfOneMore_82 : decode cX2_beginOfOneMore 82 = .ok (.iconst 1, 1) := by decide +kernel
theorem dX2_beginOfOneMore_83 : decode cX2_beginOfOneMore 83 = .ok (.goto 4, 3) := by decide +kernel
theorem dX2_beginOfOneMore_86 : decode cX2_beginOfOneMore 86 = .ok (.iconst 0, 1) := by decide +kernel
theorem dX2_beginOfOneMore_87 : decode cX2_beginOfOneMore 87 = .ok (.istore 9, 2) := by decide +kernel
theorem dX2_beginOfOneMore_89 : decode cX2_beginOfOneMore 89 = .ok (.iload 8, 2) := by decide +kernel
theorem dX2_beginOfOneMore_91 : decode cX2_beginOfOneMore 91 = .ok (.ifCond .ne 8, 3) := by decide +kernel
theorem dX2_beginOfOneMore_94 : decode cX2_beginOfOneMore 94 = .ok (.iload 9, 2) := by decide +kernel
theorem dX2_beginOfOneMore_96 : decode cX2_beginOfOneMore 96 = .ok (.ifCond .eq 6, 3) := by decide +kernel
theorem dX2_beginOfOneMore_99 : decode cX2_beginOfOneMore 99 = .ok (.iload 7, 2) := by decide +kernel
theorem dX2_beginOfOneMore_101 : decode cX2_beginOfOneMore 101 = .ok (.ireturn, 1) := by decide +kernel
theorem dX2_beginOfOneMore_102 : decode cX2_beginOfOneMore 102 = .ok (.aload_n 0, 1) := by decide +kernel
theorem dX2_beginOfOneMore_103 : decode cX2_beginOfOneMore 103 = .ok (.getfield 18, 3) := by decide +kernel
theorem dX2_beginOfOneMore_106 : decode cX2_beginOfOneMore 106 = .ok (.iload 6, 2) := by decide +kernel
theorem dX2_beginOfOneMore_108 : decode cX2_beginOfOneMore 108 = .ok (.iaload, 1) := by decide +kernel
theorem dX2_beginOfOneMore_109 : decode cX2_beginOfOneMore 109 = .ok (.istore 4, 2) := by decide +kernel
theorem dX2_beginOfOneMore_111 : decode cX2_beginOfOneMore 111 = .ok (.iinc 5 1, 3) := by decide +kernel
theorem dX2_beginOfOneMore_114 : decode cX2_beginOfOneMore 114 = .ok (.goto (-101), 3) := by decide +kernel
theorem dX2_beginOfOneMore_117 : decode cX2_beginOfOneMore 117 = .ok (.iload_n 3, 1) := by decide +kernel
theorem dX2_beginOfOneMore_118 : decode cX2_beginOfOneMore 118 = .ok (.iload 4, 2) := by decide +kernel
theorem dX2_beginOfOneMore_120 : decode cX2_beginOfOneMore 120 = .ok (.invokestatic 53, 3) := by decide +kernel
theorem dX2_beginOfOneMore_123 : decode cX2_beginOfOneMore 123 = .ok (.ireturn, 1) := by decide +kernel
theorem dX2_worstOff_0 : decode cX2_worstOff 0 = .ok (.iconst 0, 1) := by decide +kernel
theorem dX2_worstOff_1 : decode cX2_worstOff 1 = .ok (.istore_n 1, 1) := by decide +kernel
theorem dX2_worstOff_2 : decode cX2_worstOff 2 = .ok (.iload_n 1, 1) := by decide +kernel
theorem dX2_worstOff_3 : decode cX2_worstOff 3 = .ok (.bipush 8, 2) := by decide +kernel
theorem dX2_worstOff_5 : decode cX2_worstOff 5 = .ok (.if_icmp .ge 35, 3) := by decide +kernel
theorem dX2_worstOff_8 : decode cX2_worstOff 8 = .ok (.aload_n 0, 1) := by decide +kernel
theorem dX2_worstOff_9 : decode cX2_worstOff 9 = .ok (.getfield 63, 3) := by decide +kernel
theorem dX2_worstOff_12 : decode cX2_worstOff 12 = .ok (.iload_n 1, 1) := by decide +kernel
theorem dX2_worstOff_13 : decode cX2_worstOff 13 = .ok (.ishr, 1) := by decide +kernel
theorem dX2_worstOff_14 : decode cX2_worstOff 14 = .ok (.iconst 1, 1) := by decide +kernel
theorem dX2_worstOff_15 : decode cX2_worstOff 15 = .ok (.iand, 1) := by decide +kernel
theorem dX2_worstOff_16 : decode cX2_worstOff 16 = .ok (.ifCond .eq 18, 3) := by decide +kernel
theorem dX2_worstOff_19 : decode cX2_worstOff 19 = .ok (.aload_n 0, 1) := by decide +kernel
theorem dX2_worstOff_20 : decode cX2_worstOff 20 = .ok (.getfield 21, 3) := by decide +kernel
theorem dX2_worstOff_23 : decode cX2_worstOff 23 = .ok (.iload_n 1, 1) := by decide +kernel
theorem dX2_worstOff_24 : decode cX2_worstOff 24 = .ok (.iaload, 1) := by decide +kernel
theorem dX2_worstOff_25 : decode cX2_worstOff 25 = .ok (.aload_n 0, 1) := by decide +kernel
theorem dX2_worstOff_26 : decode cX2_worstOff 26 = .ok (.getfield 64, 3) := by decide +kernel
theorem dX2_worstOff_29 : decode cX2_worstOff 29 = .ok (.if_icmp .ne 5, 3) := by decide +kernel
theorem dX2_worstOff_32 : decode cX2_worstOff 32 = .ok (.iload_n 1, 1) := by decide +kernel
theorem dX2_worstOff_33 : decode cX2_worstOff 33 = .ok (.ireturn, 1) := by decide +kernel
theorem dX2_worstOff_34 : decode cX2_worstOff 34 = .ok (.iinc 1 1, 3) := by decide +kernel
theorem dX2_worstOff_37 : decode cX2_worstOff 37 = .ok (.goto (-35), 3) := by decide +kernel
theorem dX2_worstOff_40 : decode cX2_worstOff 40 = .ok (.bipush (-6), 2) := by decide +kernel
theorem dX2_worstOff_42 : decode cX2_worstOff 42 = .ok (.ireturn, 1) := by decide +kernel
theorem dX2_start_0 : decode cX2_start 0 = .ok (.aload_n 0, 1) := by decide +kernel
theorem dX2_start_1 : decode cX2_start 1 = .ok (.iload_n 1, 1) := by decide +kernel
theorem dX2_start_2 : decode cX2_start 2 = .ok (.putfield 63, 3) := by decide +kernel
theorem dX2_start_5 : decode cX2_start 5 = .ok (.aload_n 0, 1) := by decide +kernel
theorem dX2_start_6 : decode cX2_start 6 = .ok (.iload_n 1, 1) := by decide +kernel
theorem dX2_start_7 : decode cX2_start 7 = .ok (.putfield 67, 3) := by decide +kernel
theorem dX2_start_10 : decode cX2_start 10 = .ok (.aload_n 0, 1) := by decide +kernel
theorem dX2_start_11 : decode cX2_start 11 = .ok (.iconst 0, 1) := by decide +kernel
theorem dX2_start_12 : decode cX2_start 12 = .ok (.putfield 50, 3) := by decide +kernel
theorem dX2_start_15 : decode cX2_start 15 = .ok (.aload_n 0, 1) := by decide +kernel
theorem dX2_start_16 : decode cX2_start 16 = .ok (.iconst 0, 1) := by decide +kernel
theorem dX2_start_17 : decode cX2_start 17 = .ok (.putfield 64, 3) := by decide +kernel
theorem dX2_start_20 : decode cX2_start 20 = .ok (.aload_n 0, 1) := by decide +kernel
theorem dX2_start_21 : decode cX2_start 21 = .ok (.iconst 0, 1) := by decide +kernel
theorem dX2_start_22 : decode cX2_start 22 = .ok (.putfield 70, 3) := by decide +kernel
theorem dX2_start_25 : decode cX2_start 25 = .ok (.aload_n 0, 1) := by decide +kernel
theorem dX2_start_26 : decode cX2_start 26 = .ok (.iconst 0, 1) := by decide +kernel
theorem dX2_start_27 : decode cX2_start 27 = .ok (.putfield 73, 3) := by decide +kernel
theorem dX2_start_30 : decode cX2_start 30 = .ok (.return_, 1) := by decide +kernel
theorem dX2_serveNext_0 : decode cX2_serveNext 0 = .ok (.aload_n 0, 1) := by decide +kernel
theorem dX2_serveNext_1 : decode cX2_serveNext 1 = .ok (.getfield 67, 3) := by decide +kernel
theorem dX2_serveNext_4 : decode cX2_serveNext 4 = .ok (.ifCond .eq 12, 3) := by decide +kernel
theorem dX2_serveNext_7 : decode cX2_serveNext 7 = .ok (.aload_n 0, 1) := by decide +kernel
theorem dX2_serveNext_8 : decode cX2_serveNext 8 = .ok (.getfield 50, 3) := by decide +kernel
theorem dX2_serveNext_11 : decode cX2_serveNext 11 = .ok (.bipush 8, 2) := by decide +kernel
theorem dX2_serveNext_13 : decode cX2_serveNext 13 = .ok (.if_icmp .lt 6, 3) := by decide +kernel
theorem dX2_serveNext_16 : decode cX2_serveNext 16 = .ok (.bipush (-6), 2) := by decide +kernel
theorem dX2_serveNext_18 : decode cX2_serveNext 18 = .ok (.ireturn, 1) := by decide +kernel
theorem dX2_serveNext_19 : decode cX2_serveNext 19 = .ok (.aload_n 0, 1) := by decide +kernel
theorem dX2_serveNext_20 : decode cX2_serveNext 20 = .ok (.aload_n 0, 1) := by decide +kernel
theorem dX2_serveNext_21 : decode cX2_serveNext 21 = .ok (.getfield 73, 3) := by decide +kernel
theorem dX2_serveNext_24 : decode cX2_serveNext 24 = .ok (.aload_n 1, 1) := by decide +kernel
theorem dX2_serveNext_25 : decode cX2_serveNext 25 = .ok (.aload_n 0, 1) := by decide +kernel
theorem dX2_serveNext_26 : decode cX2_serveNext 26 = .ok (.getfield 67, 3) := by decide +kernel
theorem dX2_serveNext_29 : decode cX2_serveNext 29 = .ok (.invokevirtual 76, 3) := by decide +kernel
theorem dX2_serveNext_32 : decode cX2_serveNext 32 = .ok (.invokestatic 53, 3) := by decide +kernel
theorem dX2_serveNext_35 : decode cX2_serveNext 35 = .ok (.putfield 73, 3) := by decide +kernel
theorem dX2_serveNext_38 : decode cX2_serveNext 38 = .ok (.aload_n 1, 1) := by decide +kernel
theorem dX2_serveNext_39 : decode cX2_serveNext 39 = .ok (.aload_n 0, 1) := by decide +kernel
theorem dX2_serveNext_40 : decode cX2_serveNext 40 = .ok (.getfield 73, 3) := by decide +kernel
theorem dX2_serveNext_43 : decode cX2_serveNext 43 = .ok (.aload_n 0, 1) := by decide +kernel
theorem dX2_serveNext_44 : decode cX2_serveNext 44 = .ok (.getfield 67, 3) := by decide +kernel
theorem dX2_serveNext_47 : decode cX2_serveNext 47 = .ok (.invokevirtual 79, 3) := by decide +kernel
theorem dX2_serveNext_50 : decode cX2_serveNext 50 = .ok (.istore_n 2, 1) := by decide +kernel
theorem dX2_serveNext_51 : decode cX2_serveNext 51 = .ok (.iload_n 2, 1) := by decide +kernel
theorem dX2_serveNext_52 : decode cX2_serveNext 52 = .ok (.bipush (-6), 2) := by decide +kernel
theorem dX2_serveNext_54 : decode cX2_serveNext 54 = .ok (.if_icmp .ne 6, 3) := by decide +kernel
theorem dX2_serveNext_57 : decode cX2_serveNext 57 = .ok (.bipush (-6), 2) := by decide +kernel
theorem dX2_serveNext_59 : decode cX2_serveNext 59 = .ok (.ireturn, 1) := by decide +kernel
theorem dX2_serveNext_60 : decode cX2_serveNext 60 = .ok (.aload_n 0, 1) := by decide +kernel
theorem dX2_serveNext_61 : decode cX2_serveNext 61 = .ok (.getfield 15, 3) := by decide +kernel
theorem dX2_serveNext_64 : decode cX2_serveNext 64 = .ok (.iload_n 2, 1) := by decide +kernel
theorem dX2_serveNext_65 : decode cX2_serveNext 65 = .ok (.aload_n 0, 1) := by decide +kernel
theorem dX2_serveNext_66 : decode cX2_serveNext 66 = .ok (.getfield 73, 3) := by decide +kernel
theorem dX2_serveNext_69 : decode cX2_serveNext 69 = .ok (.iastore, 1) := by decide +kernel
theorem dX2_serveNext_70 : decode cX2_serveNext 70 = .ok (.aload_n 0, 1) := by decide +kernel
theorem dX2_serveNext_71 : decode cX2_serveNext 71 = .ok (.getfield 21, 3) := by decide +kernel
theorem dX2_serveNext_74 : decode cX2_serveNext 74 = .ok (.iload_n 2, 1) := by decide +kernel
theorem dX2_serveNext_75 : decode cX2_serveNext 75 = .ok (.aload_n 0, 1) := by decide +kernel
theorem dX2_serveNext_76 : decode cX2_serveNext 76 = .ok (.getfield 73, 3) := by decide +kernel
theorem dX2_serveNext_79 : decode cX2_serveNext 79 = .ok (.aload_n 1, 1) := by decide +kernel
theorem dX2_serveNext_80 : decode cX2_serveNext 80 = .ok (.getfield 47, 3) := by decide +kernel
theorem dX2_serveNext_83 : decode cX2_serveNext 83 = .ok (.iload_n 2, 1) := by decide +kernel
theorem dX2_serveNext_84 : decode cX2_serveNext 84 = .ok (.iaload, 1) := by decide +kernel
theorem dX2_serveNext_85 : decode cX2_serveNext 85 = .ok (.isub, 1) := by decide +kernel
theorem dX2_serveNext_86 : decode cX2_serveNext 86 = .ok (.iastore, 1) := by decide +kernel
theorem dX2_serveNext_87 : decode cX2_serveNext 87 = .ok (.aload_n 0, 1) := by decide +kernel
theorem dX2_serveNext_88 : decode cX2_serveNext 88 = .ok (.dup, 1) := by decide +kernel
theorem dX2_serveNext_89 : decode cX2_serveNext 89 = .ok (.getfield 73, 3) := by decide +kernel
theorem dX2_serveNext_92 : decode cX2_serveNext 92 = .ok (.aload_n 1, 1) := by decide +kernel
theorem dX2_serveNext_93 : decode cX2_serveNext 93 = .ok (.iload_n 2, 1) := by decide +kernel
theorem dX2_serveNext_94 : decode cX2_serveNext 94 = .ok (.invokevirtual 82, 3) := by decide +kernel
theorem dX2_serveNext_97 : decode cX2_serveNext 97 = .ok (.iadd, 1) := by decide +kernel
theorem dX2_serveNext_98 : decode cX2_serveNext 98 = .ok (.putfield 73, 3) := by decide +kernel
theorem dX2_serveNext_101 : decode cX2_serveNext 101 = .ok (.aload_n 0, 1) := by decide +kernel
theorem dX2_serveNext_102 : decode cX2_serveNext 102 = .ok (.getfield 18, 3) := by decide +kernel
theorem dX2_serveNext_105 : decode cX2_serveNext 105 = .ok (.iload_n 2, 1) := by decide +kernel
theorem dX2_serveNext_106 : decode cX2_serveNext 106 = .ok (.aload_n 0, 1) := by decide +kernel
theorem dX2_serveNext_107 : decode cX2_serveNext 107 = .ok (.getfield 73, 3) := by decide +kernel
theorem dX2_serveNext_110 : decode cX2_serveNext 110 = .ok (.iastore, 1) := by decide +kernel
theorem dX2_serveNext_111 : decode cX2_serveNext 111 = .ok (.aload_n 0, 1) := by decide +kernel
theorem dX2_serveNext_112 : decode cX2_serveNext 112 = .ok (.aload_n 0, 1) := by decide +kernel
theorem dX2_serveNext_113 : decode cX2_serveNext 113 = .ok (.getfield 64, 3) := by decide +kernel
theorem dX2_serveNext_116 : decode cX2_serveNext 116 = .ok (.aload_n 0, 1) := by decide +kernel
theorem dX2_serveNext_117 : decode cX2_serveNext 117 = .ok (.getfield 21, 3) := by decide +kernel
theorem dX2_serveNext_120 : decode cX2_serveNext 120 = .ok (.iload_n 2, 1) := by decide +kernel
theorem dX2_serveNext_121 : decode cX2_serveNext 121 = .ok (.iaload, 1) := by decide +kernel
theorem dX2_serveNext_122 : decode cX2_serveNext 122 = .ok (.invokestatic 53, 3) := by decide +kernel
theorem dX2_serveNext_125 : decode cX2_serveNext 125 = .ok (.putfield 64, 3) := by decide +kernel
theorem dX2_serveNext_128 : decode cX2_serveNext 128 = .ok (.aload_n 0, 1) := by decide +kernel
theorem dX2_serveNext_129 : decode cX2_serveNext 129 = .ok (.dup, 1) := by decide +kernel
theorem dX2_serveNext_130 : decode cX2_serveNext 130 = .ok (.getfield 70, 3) := by decide +kernel
theorem dX2_serveNext_133 : decode cX2_serveNext 133 = .ok (.aload_n 0, 1) := by decide +kernel
theorem dX2_serveNext_134 : decode cX2_serveNext 134 = .ok (.getfield 21, 3) := by decide +kernel
theorem dX2_serveNext_137 : decode cX2_serveNext 137 = .ok (.iload_n 2, 1) := by decide +kernel
theorem dX2_serveNext_138 : decode cX2_serveNext 138 = .ok (.iaload, 1) := by decide +kernel
theorem dX2_serveNext_139 : decode cX2_serveNext 139 = .ok (.iadd, 1) := by decide +kernel
theorem dX2_serveNext_140 : decode cX2_serveNext 140 = .ok (.putfield 70, 3) := by decide +kernel
theorem dX2_serveNext_143 : decode cX2_serveNext 143 = .ok (.aload_n 0, 1) := by decide +kernel
theorem dX2_serveNext_144 : decode cX2_serveNext 144 = .ok (.getfield 9, 3) := by decide +kernel
theorem dX2_serveNext_147 : decode cX2_serveNext 147 = .ok (.aload_n 0, 1) := by decide +kernel
theorem dX2_serveNext_148 : decode cX2_serveNext 148 = .ok (.getfield 50, 3) := by decide +kernel
theorem dX2_serveNext_151 : decode cX2_serveNext 151 = .ok (.iload_n 2, 1) := by decide +kernel
theorem dX2_serveNext_152 : decode cX2_serveNext 152 = .ok (.iastore, 1) := by decide +kernel
theorem dX2_serveNext_153 : decode cX2_serveNext 153 = .ok (.aload_n 0, 1) := by decide +kernel
theorem dX2_serveNext_154 : decode cX2_serveNext 154 = .ok (.dup, 1) := by decide +kernel
theorem dX2_serveNext_155 : decode cX2_serveNext 155 = .ok (.getfield 50, 3) := by decide +kernel
theorem dX2_serveNext_158 : decode cX2_serveNext 158 = .ok (.iconst 1, 1) := by decide +kernel
theorem dX2_serveNext_159 : decode cX2_serveNext 159 = .ok (.iadd, 1) := by decide +kernel
theorem dX2_serveNext_160 : decode cX2_serveNext 160 = .ok (.putfield 50, 3) := by decide +kernel
theorem dX2_serveNext_163 : decode cX2_serveNext 163 = .ok (.aload_n 0, 1) := by decide +kernel
theorem dX2_serveNext_164 : decode cX2_serveNext 164 = .ok (.dup, 1) := by decide +kernel
theorem dX2_serveNext_165 : decode cX2_serveNext 165 = .ok (.getfield 67, 3) := by decide +kernel
theorem dX2_serveNext_168 : decode cX2_serveNext 168 = .ok (.iconst 1, 1) := by decide +kernel
theorem dX2_serveNext_169 : decode cX2_serveNext 169 = .ok (.iload_n 2, 1) := by decide +kernel
theorem dX2_serveNext_170 : decode cX2_serveNext 170 = .ok (.ishl, 1) := by decide +kernel
theorem dX2_serveNext_171 : decode cX2_serveNext 171 = .ok (.iconst (-1), 1) := by decide +kernel
theorem dX2_serveNext_172 : decode cX2_serveNext 172 = .ok (.ixor, 1) := by decide +kernel
theorem dX2_serveNext_173 : decode cX2_serveNext 173 = .ok (.iand, 1) := by decide +kernel
theorem dX2_serveNext_174 : decode cX2_serveNext 174 = .ok (.putfield 67, 3) := by decide +kernel
theorem dX2_serveNext_177 : decode cX2_serveNext 177 = .ok (.iload_n 2, 1) := by decide +kernel
theorem dX2_serveNext_178 : decode cX2_serveNext 178 = .ok (.ireturn, 1) := by decide +kernel
theorem dX3_init_0 : decode cX3_init 0 = .ok (.aload_n 0, 1) := by decide +kernel
theorem dX3_init_1 : decode cX3_init 1 = .ok (.invokespecial 1, 3) := by decide +kernel
theorem dX3_init_4 : decode cX3_init 4 = .ok (.aload_n 0, 1) := by decide +kernel
theorem dX3_init_5 : decode cX3_init 5 = .ok (.new 7, 3) := by decide +kernel
theorem dX3_init_8 : decode cX3_init 8 = .ok (.dup, 1) := by decide +kernel
theorem dX3_init_9 : decode cX3_init 9 = .ok (.invokespecial 9, 3) := by decide +kernel
theorem dX3_init_12 : decode cX3_init 12 = .ok (.putfield 10, 3) := by decide +kernel
theorem dX3_init_15 : decode cX3_init 15 = .ok (.aload_n 0, 1) := by decide +kernel
theorem dX3_init_16 : decode cX3_init 16 = .ok (.new 7, 3) := by decide +kernel
theorem dX3_init_19 : decode cX3_init 19 = .ok (.dup, 1) := by decide +kernel
theorem dX3_init_20 : decode cX3_init 20 = .ok (.invokespecial 9, 3) := by decide +kernel
theorem dX3_init_23 : decode cX3_init 23 = .ok (.putfield 16, 3) := by decide +kernel
theorem dX3_init_26 : decode cX3_init 26 = .ok (.aload_n 0, 1) := by decide +kernel
theorem dX3_init_27 : decode cX3_init 27 = .ok (.iconst 2, 1) := by decide +kernel
theorem dX3_init_28 : decode cX3_init 28 = .ok (.anewarray 7, 3) := by decide +kernel
theorem dX3_init_31 : decode cX3_init 31 = .ok (.putfield 19, 3) := by decide +kernel
theorem dX3_init_34 : decode cX3_init 34 = .ok (.iconst 0, 1) := by decide +kernel
theorem dX3_init_35 : decode cX3_init 35 = .ok (.istore_n 1, 1) := by decide +kernel
theorem dX3_init_36 : decode cX3_init 36 = .ok (.iload_n 1, 1) := by decide +kernel
theorem dX3_init_37 : decode cX3_init 37 = .ok (.iconst 2, 1) := by decide +kernel
theorem dX3_init_38 : decode cX3_init 38 = .ok (.if_icmp .ge 22, 3) := by decide +kernel
theorem dX3_init_41 : decode cX3_init 41 = .ok (.aload_n 0, 1) := by decide +kernel
theorem dX3_init_42 : decode cX3_init 42 = .ok (.getfield 19, 3) := by decide +kernel
theorem dX3_init_45 : decode cX3_init 45 = .ok (.iload_n 1, 1) := by decide +kernel
theorem dX3_init_46 : decode cX3_init 46 = .ok (.new 7, 3) := by decide +kernel
theorem dX3_init_49 : decode cX3_init 49 = .ok (.dup, 1) := by decide +kernel
theorem dX3_init_50 : decode cX3_init 50 = .ok (.invokespecial 9, 3) := by decide +kernel
theorem dX3_init_53 : decode cX3_init 53 = .ok (.aastore, 1) := by decide +kernel
theorem dX3_init_54 : decode cX3_init 54 = .ok (.iinc 1 1, 3) := by decide +kernel
theorem dX3_init_57 : decode cX3_init 57 = .ok (.goto (-21), 3) := by decide +kernel
theorem dX3_init_60 : decode cX3_init 60 = .ok (.aload_n 0, 1) := by decide +kernel
theorem dX3_init_61 : decode cX3_init 61 = .ok (.iconst 2, 1) := by decide +kernel
theorem dX3_init_62 : decode cX3_init 62 = .ok (.newarray .boolean, 2) := by decide +kernel
theorem dX3_init_64 : decode cX3_init 64 = .ok (.putfield 23, 3) := by decide +kernel
theorem dX3_init_67 : decode cX3_init 67 = .ok (.aload_n 0, 1) := by decide +kernel
theorem dX3_init_68 : decode cX3_init 68 = .ok (.new 27, 3) := by decide +kernel
theorem dX3_init_71 : decode cX3_init 71 = .ok (.dup, 1) := by decide +kernel
theorem dX3_init_72 : decode cX3_init 72 = .ok (.invokespecial 29, 3) := by decide +kernel
theorem dX3_init_75 : decode cX3_init 75 = .ok (.putfield 30, 3) := by decide +kernel
theorem dX3_init_78 : decode cX3_init 78 = .ok (.aload_n 0, 1) := by decide +kernel
theorem dX3_init_79 : decode cX3_init 79 = .ok (.new 34, 3) := by decide +kernel
theorem dX3_init_82 : decode cX3_init 82 = .ok (.dup, 1) := by decide +kernel
theorem dX3_init_83 : decode cX3_init 83 = .ok (.invokespecial 36, 3) := by decide +kernel
theorem dX3_init_86 : decode cX3_init 86 = .ok (.putfield 37, 3) := by decide +kernel
theorem dX3_init_89 : decode cX3_init 89 = .ok (.return_, 1) := by decide +kernel
theorem dX3_come_0 : decode cX3_come 0 = .ok (.iload_n 1, 1) := by decide +kernel
theorem dX3_come_1 : decode cX3_come 1 = .ok (.iconst 0, 1) := by decide +kernel
theorem dX3_come_2 : decode cX3_come 2 = .ok (.bipush 7, 2) := by decide +kernel
theorem dX3_come_4 : decode cX3_come 4 = .ok (.invokestatic 41, 3) := by decide +kernel
theorem dX3_come_7 : decode cX3_come 7 = .ok (.ifCond .ne 5, 3) := by decide +kernel
theorem dX3_come_10 : decode cX3_come 10 = .ok (.iconst (-1), 1) := by decide +kernel
theorem dX3_come_11 : decode cX3_come 11 = .ok (.ireturn, 1) := by decide +kernel
theorem dX3_come_12 : decode cX3_come 12 = .ok (.iload_n 2, 1) := by decide +kernel
theorem dX3_come_13 : decode cX3_come 13 = .ok (.iconst 0, 1) := by decide +kernel
theorem dX3_come_14 : decode cX3_come 14 = .ok (.bipush 99, 2) := by decide +kernel
theorem dX3_come_16 : decode cX3_come 16 = .ok (.invokestatic 41, 3) := by decide +kernel
theorem dX3_come_19 : decode cX3_come 19 = .ok (.ifCond .eq 25, 3) := by decide +kernel
theorem dX3_come_22 : decode cX3_come 22 = .ok (.iload_n 3, 1) := by decide +kernel
theorem dX3_come_23 : decode cX3_come 23 = .ok (.iconst 0, 1) := by decide +kernel
theorem dX3_come_24 : decode cX3_come 24 = .ok (.sipush 999, 3) := by decide +kernel
theorem dX3_come_27 : decode cX3_come 27 = .ok (.invokestatic 41, 3) := by decide +kernel
theorem dX3_come_30 : decode cX3_come 30 = .ok (.ifCond .eq 14, 3) := by decide +kernel
theorem dX3_come_33 : decode cX3_come 33 = .ok (.iload 4, 2) := by decide +kernel
theorem dX3_come_35 : decode cX3_come 35 = .ok (.iconst 1, 1) := by decide +kernel
theorem dX3_come_36 : decode cX3_come 36 = .ok (.bipush 9, 2) := by decide +kernel
theorem dX3_come_38 : decode cX3_come 38 = .ok (.invokestatic 41, 3) := by decide +kernel
theorem dX3_come_41 : decode cX3_come 41 = .ok (.ifCond .ne 6, 3) := by decide +kernel
theorem dX3_come_44 : decode cX3_come 44 = .ok (.bipush (-2), 2) := by decide +kernel
theorem dX3_come_46 : decode cX3_come 46 = .ok (.ireturn, 1) := by decide +kernel
theorem dX3_come_47 : decode cX3_come 47 = .ok (.aload_n 0, 1) := by decide +kernel
theorem dX3_come_48 : decode cX3_come 48 = .ok (.getfield 10, 3) := by decide +kernel
theorem dX3_come_51 : decode cX3_come 51 = .ok (.getfield 45, 3) := by decide +kernel
theorem dX3_come_54 : decode cX3_come 54 = .ok (.iload_n 1, 1) := by decide +kernel
theorem dX3_come_55 : decode cX3_come 55 = .ok (.iload_n 2, 1) := by decide +kernel
theorem dX3_come_56 : decode cX3_come 56 = .ok (.iastore, 1) := by decide +kernel
