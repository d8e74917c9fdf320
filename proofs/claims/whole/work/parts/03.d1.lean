theorem dX3_come_57 : decode cX3_come 57 = .ok (.aload_n 0, 1) := by decide +kernel
theorem dX3_come_58 : decode cX3_come 58 = .ok (.getfield 10, 3) := by decide +kernel
theorem dX3_come_61 : decode cX3_come 61 = .ok (.getfield 49, 3) := by decide +kernel
theorem dX3_come_64 : decode cX3_come 64 = .ok (.iload_n 1, 1) := by decide +kernel
theorem dX3_come_65 : decode cX3_come 65 = .ok (.iload_n 3, 1) := by decide +kernel
theorem dX3_come_66 : decode cX3_come 66 = .ok (.iastore, 1) := by decide +kernel
theorem dX3_come_67 : decode cX3_come 67 = .ok (.aload_n 0, 1) := by decide +kernel
theorem dX3_come_68 : decode cX3_come 68 = .ok (.getfield 10, 3) := by decide +kernel
theorem dX3_come_71 : decode cX3_come 71 = .ok (.getfield 52, 3) := by decide +kernel
theorem dX3_come_74 : decode cX3_come 74 = .ok (.iload_n 1, 1) := by decide +kernel
theorem dX3_come_75 : decode cX3_come 75 = .ok (.iload 4, 2) := by decide +kernel
theorem dX3_come_77 : decode cX3_come 77 = .ok (.iastore, 1) := by decide +kernel
theorem dX3_come_78 : decode cX3_come 78 = .ok (.aload_n 0, 1) := by decide +kernel
theorem dX3_come_79 : decode cX3_come 79 = .ok (.getfield 10, 3) := by decide +kernel
theorem dX3_come_82 : decode cX3_come 82 = .ok (.getfield 55, 3) := by decide +kernel
theorem dX3_come_85 : decode cX3_come 85 = .ok (.iload_n 1, 1) := by decide +kernel
theorem dX3_come_86 : decode cX3_come 86 = .ok (.iload 5, 2) := by decide +kernel
theorem dX3_come_88 : decode cX3_come 88 = .ok (.bastore, 1) := by decide +kernel
theorem dX3_come_89 : decode cX3_come 89 = .ok (.aload_n 0, 1) := by decide +kernel
theorem dX3_come_90 : decode cX3_come 90 = .ok (.getfield 10, 3) := by decide +kernel
theorem dX3_come_93 : decode cX3_come 93 = .ok (.dup, 1) := by decide +kernel
theorem dX3_come_94 : decode cX3_come 94 = .ok (.getfield 58, 3) := by decide +kernel
theorem dX3_come_97 : decode cX3_come 97 = .ok (.iconst 1, 1) := by decide +kernel
theorem dX3_come_98 : decode cX3_come 98 = .ok (.iload_n 1, 1) := by decide +kernel
theorem dX3_come_99 : decode cX3_come 99 = .ok (.ishl, 1) := by decide +kernel
theorem dX3_come_100 : decode cX3_come 100 = .ok (.ior, 1) := by decide +kernel
theorem dX3_come_101 : decode cX3_come 101 = .ok (.putfield 58, 3) := by decide +kernel
theorem dX3_come_104 : decode cX3_come 104 = .ok (.aload_n 0, 1) := by decide +kernel
theorem dX3_come_105 : decode cX3_come 105 = .ok (.getfield 10, 3) := by decide +kernel
theorem dX3_come_108 : decode cX3_come 108 = .ok (.getfield 58, 3) := by decide +kernel
theorem dX3_come_111 : decode cX3_come 111 = .ok (.invokestatic 62, 3) := by decide +kernel
theorem dX3_come_114 : decode cX3_come 114 = .ok (.ireturn, 1) := by decide +kernel
theorem dX3_stays_0 : decode cX3_stays 0 = .ok (.aload_n 0, 1) := by decide +kernel
theorem dX3_stays_1 : decode cX3_stays 1 = .ok (.getfield 10, 3) := by decide +kernel
theorem dX3_stays_4 : decode cX3_stays 4 = .ok (.iload_n 1, 1) := by decide +kernel
theorem dX3_stays_5 : decode cX3_stays 5 = .ok (.invokevirtual 68, 3) := by decide +kernel
theorem dX3_stays_8 : decode cX3_stays 8 = .ok (.ifCond .ne 5, 3) := by decide +kernel
theorem dX3_stays_11 : decode cX3_stays 11 = .ok (.iconst (-1), 1) := by decide +kernel
theorem dX3_stays_12 : decode cX3_stays 12 = .ok (.ireturn, 1) := by decide +kernel
theorem dX3_stays_13 : decode cX3_stays 13 = .ok (.aload_n 0, 1) := by decide +kernel
theorem dX3_stays_14 : decode cX3_stays 14 = .ok (.getfield 10, 3) := by decide +kernel
theorem dX3_stays_17 : decode cX3_stays 17 = .ok (.dup, 1) := by decide +kernel
theorem dX3_stays_18 : decode cX3_stays 18 = .ok (.getfield 58, 3) := by decide +kernel
theorem dX3_stays_21 : decode cX3_stays 21 = .ok (.iconst 1, 1) := by decide +kernel
theorem dX3_stays_22 : decode cX3_stays 22 = .ok (.iload_n 1, 1) := by decide +kernel
theorem dX3_stays_23 : decode cX3_stays 23 = .ok (.ishl, 1) := by decide +kernel
theorem dX3_stays_24 : decode cX3_stays 24 = .ok (.iconst (-1), 1) := by decide +kernel
theorem dX3_stays_25 : decode cX3_stays 25 = .ok (.ixor, 1) := by decide +kernel
theorem dX3_stays_26 : decode cX3_stays 26 = .ok (.iand, 1) := by decide +kernel
theorem dX3_stays_27 : decode cX3_stays 27 = .ok (.putfield 58, 3) := by decide +kernel
theorem dX3_stays_30 : decode cX3_stays 30 = .ok (.aload_n 0, 1) := by decide +kernel
theorem dX3_stays_31 : decode cX3_stays 31 = .ok (.getfield 10, 3) := by decide +kernel
theorem dX3_stays_34 : decode cX3_stays 34 = .ok (.getfield 58, 3) := by decide +kernel
theorem dX3_stays_37 : decode cX3_stays 37 = .ok (.invokestatic 62, 3) := by decide +kernel
theorem dX3_stays_40 : decode cX3_stays 40 = .ok (.ireturn, 1) := by decide +kernel
theorem dX3_person_0 : decode cX3_person 0 = .ok (.aload_n 0, 1) := by decide +kernel
theorem dX3_person_1 : decode cX3_person 1 = .ok (.getfield 10, 3) := by decide +kernel
theorem dX3_person_4 : decode cX3_person 4 = .ok (.iload_n 1, 1) := by decide +kernel
theorem dX3_person_5 : decode cX3_person 5 = .ok (.invokevirtual 68, 3) := by decide +kernel
theorem dX3_person_8 : decode cX3_person 8 = .ok (.ifCond .ne 5, 3) := by decide +kernel
theorem dX3_person_11 : decode cX3_person 11 = .ok (.iconst (-1), 1) := by decide +kernel
theorem dX3_person_12 : decode cX3_person 12 = .ok (.ireturn, 1) := by decide +kernel
theorem dX3_person_13 : decode cX3_person 13 = .ok (.iload_n 2, 1) := by decide +kernel
theorem dX3_person_14 : decode cX3_person 14 = .ok (.tableswitch 78 0 3 #[30, 40, 50, 60], 30) := by decide +kernel
theorem dX3_person_44 : decode cX3_person 44 = .ok (.aload_n 0, 1) := by decide +kernel
theorem dX3_person_45 : decode cX3_person 45 = .ok (.getfield 10, 3) := by decide +kernel
theorem dX3_person_48 : decode cX3_person 48 = .ok (.getfield 45, 3) := by decide +kernel
theorem dX3_person_51 : decode cX3_person 51 = .ok (.iload_n 1, 1) := by decide +kernel
theorem dX3_person_52 : decode cX3_person 52 = .ok (.iaload, 1) := by decide +kernel
theorem dX3_person_53 : decode cX3_person 53 = .ok (.ireturn, 1) := by decide +kernel
theorem dX3_person_54 : decode cX3_person 54 = .ok (.aload_n 0, 1) := by decide +kernel
theorem dX3_person_55 : decode cX3_person 55 = .ok (.getfield 10, 3) := by decide +kernel
theorem dX3_person_58 : decode cX3_person 58 = .ok (.getfield 49, 3) := by decide +kernel
theorem dX3_person_61 : decode cX3_person 61 = .ok (.iload_n 1, 1) := by decide +kernel
theorem dX3_person_62 : decode cX3_person 62 = .ok (.iaload, 1) := by decide +kernel
theorem dX3_person_63 : decode cX3_person 63 = .ok (.ireturn, 1) := by decide +kernel
theorem dX3_person_64 : decode cX3_person 64 = .ok (.aload_n 0, 1) := by decide +kernel
theorem dX3_person_65 : decode cX3_person 65 = .ok (.getfield 10, 3) := by decide +kernel
theorem dX3_person_68 : decode cX3_person 68 = .ok (.getfield 52, 3) := by decide +kernel
theorem dX3_person_71 : decode cX3_person 71 = .ok (.iload_n 1, 1) := by decide +kernel
theorem dX3_person_72 : decode cX3_person 72 = .ok (.iaload, 1) := by decide +kernel
theorem dX3_person_73 : decode cX3_person 73 = .ok (.ireturn, 1) := by decide +kernel
theorem dX3_person_74 : decode cX3_person 74 = .ok (.aload_n 0, 1) := by decide +kernel
theorem dX3_person_75 : decode cX3_person 75 = .ok (.getfield 10, 3) := by decide +kernel
theorem dX3_person_78 : decode cX3_person 78 = .ok (.getfield 55, 3) := by decide +kernel
theorem dX3_person_81 : decode cX3_person 81 = .ok (.iload_n 1, 1) := by decide +kernel
theorem dX3_person_82 : decode cX3_person 82 = .ok (.baload, 1) := by decide +kernel
theorem dX3_person_83 : decode cX3_person 83 = .ok (.ifCond .eq 7, 3) := by decide +kernel
theorem dX3_person_86 : decode cX3_person 86 = .ok (.iconst 1, 1) := by decide +kernel
theorem dX3_person_87 : decode cX3_person 87 = .ok (.goto 4, 3) := by decide +kernel
theorem dX3_person_90 : decode cX3_person 90 = .ok (.iconst 0, 1) := by decide +kernel
theorem dX3_person_91 : decode cX3_person 91 = .ok (.ireturn, 1) := by decide +kernel
theorem dX3_person_92 : decode cX3_person 92 = .ok (.bipush (-2), 2) := by decide +kernel
theorem dX3_person_94 : decode cX3_person 94 = .ok (.ireturn, 1) := by decide +kernel
theorem dX3_set_0 : decode cX3_set 0 = .ok (.iload_n 1, 1) := by decide +kernel
theorem dX3_set_1 : decode cX3_set 1 = .ok (.iconst 0, 1) := by decide +kernel
theorem dX3_set_2 : decode cX3_set 2 = .ok (.iconst 3, 1) := by decide +kernel
theorem dX3_set_3 : decode cX3_set 3 = .ok (.invokestatic 41, 3) := by decide +kernel
theorem dX3_set_6 : decode cX3_set 6 = .ok (.ifCond .eq 18, 3) := by decide +kernel
theorem dX3_set_9 : decode cX3_set 9 = .ok (.iload_n 2, 1) := by decide +kernel
theorem dX3_set_10 : decode cX3_set 10 = .ok (.iload_n 1, 1) := by decide +kernel
theorem dX3_set_11 : decode cX3_set 11 = .ok (.invokestatic 72, 3) := by decide +kernel
theorem dX3_set_14 : decode cX3_set 14 = .ok (.iload_n 1, 1) := by decide +kernel
theorem dX3_set_15 : decode cX3_set 15 = .ok (.invokestatic 75, 3) := by decide +kernel
theorem dX3_set_18 : decode cX3_set 18 = .ok (.invokestatic 41, 3) := by decide +kernel
theorem dX3_set_21 : decode cX3_set 21 = .ok (.ifCond .ne 6, 3) := by decide +kernel
theorem dX3_set_24 : decode cX3_set 24 = .ok (.bipush (-2), 2) := by decide +kernel
theorem dX3_set_26 : decode cX3_set 26 = .ok (.ireturn, 1) := by decide +kernel
theorem dX3_set_27 : decode cX3_set 27 = .ok (.aload_n 0, 1) := by decide +kernel
theorem dX3_set_28 : decode cX3_set 28 = .ok (.getfield 10, 3) := by decide +kernel
theorem dX3_set_31 : decode cX3_set 31 = .ok (.iload_n 1, 1) := by decide +kernel
theorem dX3_set_32 : decode cX3_set 32 = .ok (.invokevirtual 78, 3) := by decide +kernel
theorem dX3_set_35 : decode cX3_set 35 = .ok (.istore_n 3, 1) := by decide +kernel
theorem dX3_set_36 : decode cX3_set 36 = .ok (.aload_n 0, 1) := by decide +kernel
theorem dX3_set_37 : decode cX3_set 37 = .ok (.getfield 10, 3) := by decide +kernel
theorem dX3_set_40 : decode cX3_set 40 = .ok (.iload_n 1, 1) := by decide +kernel
theorem dX3_set_41 : decode cX3_set 41 = .ok (.iload_n 2, 1) := by decide +kernel
theorem dX3_set_42 : decode cX3_set 42 = .ok (.invokevirtual 81, 3) := by decide +kernel
theorem dX3_set_45 : decode cX3_set 45 = .ok (.iload_n 3, 1) := by decide +kernel
theorem dX3_set_46 : decode cX3_set 46 = .ok (.ireturn, 1) := by decide +kernel
theorem dX3_say_0 : decode cX3_say 0 = .ok (.iload_n 1, 1) := by decide +kernel
theorem dX3_say_1 : decode cX3_say 1 = .ok (.bipush 33, 2) := by decide +kernel
theorem dX3_say_3 : decode cX3_say 3 = .ok (.bipush 126, 2) := by decide +kernel
theorem dX3_say_5 : decode cX3_say 5 = .ok (.invokestatic 41, 3) := by decide +kernel
theorem dX3_say_8 : decode cX3_say 8 = .ok (.ifCond .ne 6, 3) := by decide +kernel
theorem dX3_say_11 : decode cX3_say 11 = .ok (.bipush (-2), 2) := by decide +kernel
theorem dX3_say_13 : decode cX3_say 13 = .ok (.ireturn, 1) := by decide +kernel
theorem dX3_say_14 : decode cX3_say 14 = .ok (.aload_n 0, 1) := by decide +kernel
theorem dX3_say_15 : decode cX3_say 15 = .ok (.getfield 37, 3) := by decide +kernel
theorem dX3_say_18 : decode cX3_say 18 = .ok (.iload_n 1, 1) := by decide +kernel
theorem dX3_say_19 : decode cX3_say 19 = .ok (.invokevirtual 85, 3) := by decide +kernel
theorem dX3_say_22 : decode cX3_say 22 = .ok (.ifCond .eq 13, 3) := by decide +kernel
theorem dX3_say_25 : decode cX3_say 25 = .ok (.aload_n 0, 1) := by decide +kernel
theorem dX3_say_26 : decode cX3_say 26 = .ok (.getfield 37, 3) := by decide +kernel
theorem dX3_say_29 : decode cX3_say 29 = .ok (.getfield 88, 3) := by decide +kernel
theorem dX3_say_32 : decode cX3_say 32 = .ok (.goto 5, 3) := by decide +kernel
theorem dX3_say_35 : decode cX3_say 35 = .ok (.bipush (-4), 2) := by decide +kernel
theorem dX3_say_37 : decode cX3_say 37 = .ok (.ireturn, 1) := by decide +kernel
theorem dX3_wipe_0 : decode cX3_wipe 0 = .ok (.aload_n 0, 1) := by decide +kernel
theorem dX3_wipe_1 : decode cX3_wipe 1 = .ok (.getfield 37, 3) := by decide +kernel
theorem dX3_wipe_4 : decode cX3_wipe 4 = .ok (.getfield 88, 3) := by decide +kernel
theorem dX3_wipe_7 : decode cX3_wipe 7 = .ok (.istore_n 1, 1) := by decide +kernel
theorem dX3_wipe_8 : decode cX3_wipe 8 = .ok (.aload_n 0, 1) := by decide +kernel
theorem dX3_wipe_9 : decode cX3_wipe 9 = .ok (.getfield 37, 3) := by decide +kernel
theorem dX3_wipe_12 : decode cX3_wipe 12 = .ok (.iconst 0, 1) := by decide +kernel
theorem dX3_wipe_13 : decode cX3_wipe 13 = .ok (.putfield 88, 3) := by decide +kernel
theorem dX3_wipe_16 : decode cX3_wipe 16 = .ok (.iload_n 1, 1) := by decide +kernel
theorem dX3_wipe_17 : decode cX3_wipe 17 = .ok (.ireturn, 1) := by decide +kernel
theorem dX3_fault_0 : decode cX3_fault 0 = .ok (.aload_n 0, 1) := by decide +kernel
theorem dX3_fault_1 : decode cX3_fault 1 = .ok (.getfield 37, 3) := by decide +kernel
theorem dX3_fault_4 : decode cX3_fault 4 = .ok (.aload_n 0, 1) := by decide +kernel
theorem dX3_fault_5 : decode cX3_fault 5 = .ok (.getfield 10, 3) := by decide +kernel
theorem dX3_fault_8 : decode cX3_fault 8 = .ok (.getfield 58, 3) := by decide +kernel
theorem dX3_fault_11 : decode cX3_fault 11 = .ok (.invokevirtual 91, 3) := by decide +kernel
theorem dX3_fault_14 : decode cX3_fault 14 = .ok (.ireturn, 1) := by decide +kernel
theorem dX3_served_0 : decode cX3_served 0 = .ok (.aload_n 0, 1) := by decide +kernel
theorem dX3_served_1 : decode cX3_served 1 = .ok (.getfield 30, 3) := by decide +kernel
theorem dX3_served_4 : decode cX3_served 4 = .ok (.aload_n 0, 1) := by decide +kernel
theorem dX3_served_5 : decode cX3_served 5 = .ok (.getfield 10, 3) := by decide +kernel
theorem dX3_served_8 : decode cX3_served 8 = .ok (.aload_n 0, 1) := by decide +kernel
theorem dX3_served_9 : decode cX3_served 9 = .ok (.getfield 10, 3) := by decide +kernel
theorem dX3_served_12 : decode cX3_served 12 = .ok (.getfield 58, 3) := by decide +kernel
theorem dX3_served_15 : decode cX3_served 15 = .ok (.invokevirtual 94, 3) := by decide +kernel
theorem dX3_served_18 : decode cX3_served 18 = .ok (.iload_n 1, 1) := by decide +kernel
theorem dX3_served_19 : decode cX3_served 19 = .ok (.iconst (-1), 1) := by decide +kernel
theorem dX3_served_20 : decode cX3_served 20 = .ok (.if_icmp .ne 11, 3) := by decide +kernel
theorem dX3_served_23 : decode cX3_served 23 = .ok (.aload_n 0, 1) := by decide +kernel
theorem dX3_served_24 : decode cX3_served 24 = .ok (.getfield 30, 3) := by decide +kernel
theorem dX3_served_27 : decode cX3_served 27 = .ok (.getfield 98, 3) := by decide +kernel
theorem dX3_served_30 : decode cX3_served 30 = .ok (.ireturn, 1) := by decide +kernel
theorem dX3_served_31 : decode cX3_served 31 = .ok (.iload_n 1, 1) := by decide +kernel
theorem dX3_served_32 : decode cX3_served 32 = .ok (.iconst 0, 1) := by decide +kernel
theorem dX3_served_33 : decode cX3_served 33 = .ok (.aload_n 0, 1) := by decide +kernel
theorem dX3_served_34 : decode cX3_served 34 = .ok (.getfield 30, 3) := by decide +kernel
theorem dX3_served_37 : decode cX3_served 37 = .ok (.getfield 98, 3) := by decide +kernel
theorem dX3_served_40 : decode cX3_served 40 = .ok (.iconst 1, 1) := by decide +kernel
theorem dX3_served_41 : decode cX3_served 41 = .ok (.isub, 1) := by decide +kernel
theorem dX3_served_42 : decode cX3_served 42 = .ok (.invokestatic 41, 3) := by decide +kernel
theorem dX3_served_45 : decode cX3_served 45 = .ok (.ifCond .eq 15, 3) := by decide +kernel
theorem dX3_served_48 : decode cX3_served 48 = .ok (.aload_n 0, 1) := by decide +kernel
theorem dX3_served_49 : decode cX3_served 49 = .ok (.getfield 30, 3) := by decide +kernel
theorem dX3_served_52 : decode cX3_served 52 = .ok (.getfield 101, 3) := by decide +kernel
theorem dX3_served_55 : decode cX3_served 55 = .ok (.iload_n 1, 1) := by decide +kernel
theorem dX3_served_56 : decode cX3_served 56 = .ok (.iaload, 1) := by decide +kernel
theorem dX3_served_57 : decode cX3_served 57 = .ok (.goto 5, 3) := by decide +kernel
theorem dX3_served_60 : decode cX3_served 60 = .ok (.bipush (-6), 2) := by decide +kernel
theorem dX3_served_62 : decode cX3_served 62 = .ok (.ireturn, 1) := by decide +kernel
theorem dX3_waits_0 : decode cX3_waits 0 = .ok (.aload_n 0, 1) := by decide +kernel
theorem dX3_waits_1 : decode cX3_waits 1 = .ok (.getfield 10, 3) := by decide +kernel
theorem dX3_waits_4 : decode cX3_waits 4 = .ok (.iload_n 1, 1) := by decide +kernel
theorem dX3_waits_5 : decode cX3_waits 5 = .ok (.invokevirtual 68, 3) := by decide +kernel
theorem dX3_waits_8 : decode cX3_waits 8 = .ok (.ifCond .ne 5, 3) := by decide +kernel
theorem dX3_waits_11 : decode cX3_waits 11 = .ok (.iconst (-1), 1) := by decide +kernel
theorem dX3_waits_12 : decode cX3_waits 12 = .ok (.ireturn, 1) := by decide +kernel
theorem dX3_waits_13 : decode cX3_waits 13 = .ok (.iload_n 2, 1) := by decide +kernel
theorem dX3_waits_14 : decode cX3_waits 14 = .ok (.iconst 0, 1) := by decide +kernel
theorem dX3_waits_15 : decode cX3_waits 15 = .ok (.iconst 1, 1) := by decide +kernel
theorem dX3_waits_16 : decode cX3_waits 16 = .ok (.invokestatic 41, 3) := by decide +kernel
theorem dX3_waits_19 : decode cX3_waits 19 = .ok (.ifCond .ne 6, 3) := by decide +kernel
theorem dX3_waits_22 : decode cX3_waits 22 = .ok (.bipush (-2), 2) := by decide +kernel
theorem dX3_waits_24 : decode cX3_waits 24 = .ok (.ireturn, 1) := by decide +kernel
theorem dX3_waits_25 : decode cX3_waits 25 = .ok (.aload_n 0, 1) := by decide +kernel
theorem dX3_waits_26 : decode cX3_waits 26 = .ok (.getfield 30, 3) := by decide +kernel
theorem dX3_waits_29 : decode cX3_waits 29 = .ok (.aload_n 0, 1) := by decide +kernel
theorem dX3_waits_30 : decode cX3_waits 30 = .ok (.getfield 10, 3) := by decide +kernel
theorem dX3_waits_33 : decode cX3_waits 33 = .ok (.aload_n 0, 1) := by decide +kernel
theorem dX3_waits_34 : decode cX3_waits 34 = .ok (.getfield 10, 3) := by decide +kernel
theorem dX3_waits_37 : decode cX3_waits 37 = .ok (.getfield 58, 3) := by decide +kernel
theorem dX3_waits_40 : decode cX3_waits 40 = .ok (.invokevirtual 94, 3) := by decide +kernel
theorem dX3_waits_43 : decode cX3_waits 43 = .ok (.iload_n 2, 1) := by decide +kernel
theorem dX3_waits_44 : decode cX3_waits 44 = .ok (.ifCond .ne 15, 3) := by decide +kernel
theorem dX3_waits_47 : decode cX3_waits 47 = .ok (.aload_n 0, 1) := by decide +kernel
theorem dX3_waits_48 : decode cX3_waits 48 = .ok (.getfield 30, 3) := by decide +kernel
theorem dX3_waits_51 : decode cX3_waits 51 = .ok (.getfield 104, 3) := by decide +kernel
theorem dX3_waits_54 : decode cX3_waits 54 = .ok (.iload_n 1, 1) := by decide +kernel
theorem dX3_waits_55 : decode cX3_waits 55 = .ok (.iaload, 1) := by decide +kernel
theorem dX3_waits_56 : decode cX3_waits 56 = .ok (.goto 12, 3) := by decide +kernel
theorem dX3_waits_59 : decode cX3_waits 59 = .ok (.aload_n 0, 1) := by decide +kernel
theorem dX3_waits_60 : decode cX3_waits 60 = .ok (.getfield 30, 3) := by decide +kernel
theorem dX3_waits_63 : decode cX3_waits 63 = .ok (.getfield 107, 3) := by decide +kernel
theorem dX3_waits_66 : decode cX3_waits 66 = .ok (.iload_n 1, 1) := by decide +kernel
theorem dX3_waits_67 : decode cX3_waits 67 = .ok (.iaload, 1) := by decide +kernel
theorem dX3_waits_68 : decode cX3_waits 68 = .ok (.ireturn, 1) := by decide +kernel
theorem dX3_all_0 : decode cX3_all 0 = .ok (.iload_n 1, 1) := by decide +kernel
theorem dX3_all_1 : decode cX3_all 1 = .ok (.iconst 0, 1) := by decide +kernel
theorem dX3_all_2 : decode cX3_all 2 = .ok (.iconst 3, 1) := by decide +kernel
theorem dX3_all_3 : decode cX3_all 3 = .ok (.invokestatic 41, 3) := by decide +kernel
theorem dX3_all_6 : decode cX3_all 6 = .ok (.ifCond .ne 6, 3) := by decide +kernel
theorem dX3_all_9 : decode cX3_all 9 = .ok (.bipush (-2), 2) := by decide +kernel
theorem dX3_all_11 : decode cX3_all 11 = .ok (.ireturn, 1) := by decide +kernel
theorem dX3_all_12 : decode cX3_all 12 = .ok (.aload_n 0, 1) := by decide +kernel
theorem dX3_all_13 : decode cX3_all 13 = .ok (.getfield 30, 3) := by decide +kernel
theorem dX3_all_16 : decode cX3_all 16 = .ok (.aload_n 0, 1) := by decide +kernel
theorem dX3_all_17 : decode cX3_all 17 = .ok (.getfield 10, 3) := by decide +kernel
theorem dX3_all_20 : decode cX3_all 20 = .ok (.aload_n 0, 1) := by decide +kernel
theorem dX3_all_21 : decode cX3_all 21 = .ok (.getfield 10, 3) := by decide +kernel
theorem dX3_all_24 : decode cX3_all 24 = .ok (.getfield 58, 3) := by decide +kernel
theorem dX3_all_27 : decode cX3_all 27 = .ok (.invokevirtual 94, 3) := by decide +kernel
theorem dX3_all_30 : decode cX3_all 30 = .ok (.iload_n 1, 1) := by decide +kernel
theorem dX3_all_31 : decode cX3_all 31 = .ok (.tableswitch 49 0 2 #[25, 33, 41], 25) := by decide +kernel
theorem dX3_all_56 : decode cX3_all 56 = .ok (.aload_n 0, 1) := by decide +kernel
theorem dX3_all_57 : decode cX3_all 57 = .ok (.getfield 30, 3) := by decide +kernel
theorem dX3_all_60 : decode cX3_all 60 = .ok (.getfield 110, 3) := by decide +kernel
theorem dX3_all_63 : decode cX3_all 63 = .ok (.ireturn, 1) := by decide +kernel
theorem dX3_all_64 : decode cX3_all 64 = .ok (.aload_n 0, 1) := by decide +kernel
theorem dX3_all_65 : decode cX3_all 65 = .ok (.getfield 30, 3) := by decide +kernel
theorem dX3_all_68 : decode cX3_all 68 = .ok (.invokevirtual 113, 3) := by decide +kernel
theorem dX3_all_71 : decode cX3_all 71 = .ok (.ireturn, 1) := by decide +kernel
theorem dX3_all_72 : decode cX3_all 72 = .ok (.aload_n 0, 1) := by decide +kernel
theorem dX3_all_73 : decode cX3_all 73 = .ok (.getfield 30, 3) := by decide +kernel
theorem dX3_all_76 : decode cX3_all 76 = .ok (.getfield 117, 3) := by decide +kernel
theorem dX3_all_79 : decode cX3_all 79 = .ok (.ireturn, 1) := by decide +kernel
theorem dX3_all_80 : decode cX3_all 80 = .ok (.aload_n 0, 1) := by decide +kernel
theorem dX3_all_81 : decode cX3_all 81 = .ok (.getfield 30, 3) := by decide +kernel
theorem dX3_all_84 : decode cX3_all 84 = .ok (.getfield 120, 3) := by decide +kernel
theorem dX3_all_87 : decode cX3_all 87 = .ok (.ireturn, 1) := by decide +kernel
theorem dX3_judge_0 : decode cX3_judge 0 = .ok (.iload_n 1, 1) := by decide +kernel
theorem dX3_judge_1 : decode cX3_judge 1 = .ok (.iconst 0, 1) := by decide +kernel
theorem dX3_judge_2 : decode cX3_judge 2 = .ok (.iconst 1, 1) := by decide +kernel
theorem dX3_judge_3 : decode cX3_judge 3 = .ok (.invokestatic 41, 3) := by decide +kernel
theorem dX3_judge_6 : decode cX3_judge 6 = .ok (.ifCond .ne 6, 3) := by decide +kernel
theorem dX3_judge_9 : decode cX3_judge 9 = .ok (.bipush (-2), 2) := by decide +kernel
theorem dX3_judge_11 : decode cX3_judge 11 = .ok (.ireturn, 1) := by decide +kernel
theorem dX3_judge_12 : decode cX3_judge 12 = .ok (.aload_n 0, 1) := by decide +kernel
theorem dX3_judge_13 : decode cX3_judge 13 = .ok (.getfield 37, 3) := by decide +kernel
theorem dX3_judge_16 : decode cX3_judge 16 = .ok (.aload_n 0, 1) := by decide +kernel
theorem dX3_judge_17 : decode cX3_judge 17 = .ok (.getfield 10, 3) := by decide +kernel
theorem dX3_judge_20 : decode cX3_judge 20 = .ok (.getfield 58, 3) := by decide +kernel
theorem dX3_judge_23 : decode cX3_judge 23 = .ok (.invokevirtual 91, 3) := by decide +kernel
theorem dX3_judge_26 : decode cX3_judge 26 = .ok (.bipush (-6), 2) := by decide +kernel
theorem dX3_judge_28 : decode cX3_judge 28 = .ok (.if_icmp .eq 6, 3) := by decide +kernel
theorem dX3_judge_31 : decode cX3_judge 31 = .ok (.bipush (-5), 2) := by decide +kernel
theorem dX3_judge_33 : decode cX3_judge 33 = .ok (.ireturn, 1) := by decide +kernel
theorem dX3_judge_34 : decode cX3_judge 34 = .ok (.aload_n 0, 1) := by decide +kernel
theorem dX3_judge_35 : decode cX3_judge 35 = .ok (.getfield 30, 3) := by decide +kernel
theorem dX3_judge_38 : decode cX3_judge 38 = .ok (.aload_n 0, 1) := by decide +kernel
theorem dX3_judge_39 : decode cX3_judge 39 = .ok (.getfield 10, 3) := by decide +kernel
theorem dX3_judge_42 : decode cX3_judge 42 = .ok (.aload_n 0, 1) := by decide +kernel
theorem dX3_judge_43 : decode cX3_judge 43 = .ok (.getfield 10, 3) := by decide +kernel
theorem dX3_judge_46 : decode cX3_judge 46 = .ok (.getfield 58, 3) := by decide +kernel
theorem dX3_judge_49 : decode cX3_judge 49 = .ok (.invokevirtual 94, 3) := by decide +kernel
theorem dX3_judge_52 : decode cX3_judge 52 = .ok (.iconst 0, 1) := by decide +kernel
theorem dX3_judge_53 : decode cX3_judge 53 = .ok (.istore_n 2, 1) := by decide +kernel
theorem dX3_judge_54 : decode cX3_judge 54 = .ok (.iload_n 2, 1) := by decide +kernel
theorem dX3_judge_55 : decode cX3_judge 55 = .ok (.aload_n 0, 1) := by decide +kernel
theorem dX3_judge_56 : decode cX3_judge 56 = .ok (.getfield 37, 3) := by decide +kernel
theorem dX3_judge_59 : decode cX3_judge 59 = .ok (.getfield 88, 3) := by decide +kernel
theorem dX3_judge_62 : decode cX3_judge 62 = .ok (.if_icmp .ge 58, 3) := by decide +kernel
theorem dX3_judge_65 : decode cX3_judge 65 = .ok (.iload_n 2, 1) := by decide +kernel
theorem dX3_judge_66 : decode cX3_judge 66 = .ok (.aload_n 0, 1) := by decide +kernel
theorem dX3_judge_67 : decode cX3_judge 67 = .ok (.getfield 30, 3) := by decide +kernel
theorem dX3_judge_70 : decode cX3_judge 70 = .ok (.getfield 98, 3) := by decide +kernel
theorem dX3_judge_73 : decode cX3_judge 73 = .ok (.if_icmp .ge 47, 3) := by decide +kernel
theorem dX3_judge_76 : decode cX3_judge 76 = .ok (.aload_n 0, 1) := by decide +kernel
theorem dX3_judge_77 : decode cX3_judge 77 = .ok (.getfield 37, 3) := by decide +kernel
theorem dX3_judge_80 : decode cX3_judge 80 = .ok (.iload_n 2, 1) := by decide +kernel
theorem dX3_judge_81 : decode cX3_judge 81 = .ok (.invokevirtual 123, 3) := by decide +kernel
theorem dX3_judge_84 : decode cX3_judge 84 = .ok (.aload_n 0, 1) := by decide +kernel
theorem dX3_judge_85 : decode cX3_judge 85 = .ok (.getfield 30, 3) := by decide +kernel
theorem dX3_judge_88 : decode cX3_judge 88 = .ok (.getfield 101, 3) := by decide +kernel
theorem dX3_judge_91 : decode cX3_judge 91 = .ok (.iload_n 2, 1) := by decide +kernel
theorem dX3_judge_92 : decode cX3_judge 92 = .ok (.iaload, 1) := by decide +kernel
theorem dX3_judge_93 : decode cX3_judge 93 = .ok (.if_icmp .eq 21, 3) := by decide +kernel
theorem dX3_judge_96 : decode cX3_judge 96 = .ok (.iload_n 1, 1) := by decide +kernel
theorem dX3_judge_97 : decode cX3_judge 97 = .ok (.ifCond .ne 7, 3) := by decide +kernel
theorem dX3_judge_100 : decode cX3_judge 100 = .ok (.iload_n 2, 1) := by decide +kernel
theorem dX3_judge_101 : decode cX3_judge 101 = .ok (.goto 12, 3) := by decide +kernel
theorem dX3_judge_104 : decode cX3_judge 104 = .ok (.aload_n 0, 1) := by decide +kernel
theorem dX3_judge_105 : decode cX3_judge 105 = .ok (.getfield 30, 3) := by decide +kernel
theorem dX3_judge_108 : decode cX3_judge 108 = .ok (.getfield 101, 3) := by decide +kernel
theorem dX3_judge_111 : decode cX3_judge 111 = .ok (.iload_n 2, 1) := by decide +kernel
theorem dX3_judge_112 : decode cX3_judge 112 = .ok (.iaload, 1) := by decide +kernel
theorem dX3_judge_113 : decode cX3_judge 113 = .ok (.ireturn, 1) := by decide +kernel
theorem dX3_judge_114 : decode cX3_judge 114 = .ok (.iinc 2 1, 3) := by decide +kernel
theorem dX3_judge_117 : decode cX3_judge 117 = .ok (.goto (-63), 3) := by decide +kernel
theorem dX3_judge_120 : decode cX3_judge 120 = .ok (.bipush (-6), 2) := by decide +kernel
theorem dX3_judge_122 : decode cX3_judge 122 = .ok (.ireturn, 1) := by decide +kernel
theorem dX3_left_0 : decode cX3_left 0 = .ok (.aload_n 0, 1) := by decide +kernel
theorem dX3_left_1 : decode cX3_left 1 = .ok (.getfield 10, 3) := by decide +kernel
theorem dX3_left_4 : decode cX3_left 4 = .ok (.iload_n 2, 1) := by decide +kernel
theorem dX3_left_5 : decode cX3_left 5 = .ok (.invokevirtual 68, 3) := by decide +kernel
theorem dX3_left_8 : decode cX3_left 8 = .ok (.ifCond .ne 5, 3) := by decide +kernel
theorem dX3_left_11 : decode cX3_left 11 = .ok (.iconst (-1), 1) := by decide +kernel
theorem dX3_left_12 : decode cX3_left 12 = .ok (.ireturn, 1) := by decide +kernel
theorem dX3_left_13 : decode cX3_left 13 = .ok (.iload_n 1, 1) := by decide +kernel
theorem dX3_left_14 : decode cX3_left 14 = .ok (.iconst 0, 1) := by decide +kernel
theorem dX3_left_15 : decode cX3_left 15 = .ok (.bipush 99, 2) := by decide +kernel
theorem dX3_left_17 : decode cX3_left 17 = .ok (.invokestatic 41, 3) := by decide +kernel
theorem dX3_left_20 : decode cX3_left 20 = .ok (.ifCond .ne 6, 3) := by decide +kernel
theorem dX3_left_23 : decode cX3_left 23 = .ok (.bipush (-2), 2) := by decide +kernel
theorem dX3_left_25 : decode cX3_left 25 = .ok (.ireturn, 1) := by decide +kernel
theorem dX3_left_26 : decode cX3_left 26 = .ok (.aload_n 0, 1) := by decide +kernel
theorem dX3_left_27 : decode cX3_left 27 = .ok (.getfield 30, 3) := by decide +kernel
theorem dX3_left_30 : decode cX3_left 30 = .ok (.aload_n 0, 1) := by decide +kernel
theorem dX3_left_31 : decode cX3_left 31 = .ok (.getfield 10, 3) := by decide +kernel
theorem dX3_left_34 : decode cX3_left 34 = .ok (.aload_n 0, 1) := by decide +kernel
theorem dX3_left_35 : decode cX3_left 35 = .ok (.getfield 10, 3) := by decide +kernel
theorem dX3_left_38 : decode cX3_left 38 = .ok (.getfield 58, 3) := by decide +kernel
theorem dX3_left_41 : decode cX3_left 41 = .ok (.invokevirtual 94, 3) := by decide +kernel
theorem dX3_left_44 : decode cX3_left 44 = .ok (.iload_n 1, 1) := by decide +kernel
theorem dX3_left_45 : decode cX3_left 45 = .ok (.istore_n 3, 1) := by decide +kernel
theorem dX3_left_46 : decode cX3_left 46 = .ok (.iconst 0, 1) := by decide +kernel
theorem dX3_left_47 : decode cX3_left 47 = .ok (.istore 4, 2) := by decide +kernel
theorem dX3_left_49 : decode cX3_left 49 = .ok (.iload 4, 2) := by decide +kernel
theorem dX3_left_51 : decode cX3_left 51 = .ok (.aload_n 0, 1) := by decide +kernel
theorem dX3_left_52 : decode cX3_left 52 = .ok (.getfield 30, 3) := by decide +kernel
theorem dX3_left_55 : decode cX3_left 55 = .ok (.getfield 98, 3) := by decide +kernel
theorem dX3_left_58 : decode cX3_left 58 = .ok (.if_icmp .ge 55, 3) := by decide +kernel
theorem dX3_left_61 : decode cX3_left 61 = .ok (.iload_n 3, 1) := by decide +kernel
theorem dX3_left_62 : decode cX3_left 62 = .ok (.aload_n 0, 1) := by decide +kernel
theorem dX3_left_63 : decode cX3_left 63 = .ok (.getfield 10, 3) := by decide +kernel
theorem dX3_left_66 : decode cX3_left 66 = .ok (.getfield 52, 3) := by decide +kernel
theorem dX3_left_69 : decode cX3_left 69 = .ok (.aload_n 0, 1) := by decide +kernel
theorem dX3_left_70 : decode cX3_left 70 = .ok (.getfield 30, 3) := by decide +kernel
theorem dX3_left_73 : decode cX3_left 73 = .ok (.getfield 101, 3) := by decide +kernel
theorem dX3_left_76 : decode cX3_left 76 = .ok (.iload 4, 2) := by decide +kernel
theorem dX3_left_78 : decode cX3_left 78 = .ok (.iaload, 1) := by decide +kernel
theorem dX3_left_79 : decode cX3_left 79 = .ok (.iaload, 1) := by decide +kernel
theorem dX3_left_80 : decode cX3_left 80 = .ok (.invokestatic 126, 3) := by decide +kernel
theorem dX3_left_83 : decode cX3_left 83 = .ok (.istore 5, 2) := by decide +kernel
theorem dX3_left_85 : decode cX3_left 85 = .ok (.aload_n 0, 1) := by decide +kernel
theorem dX3_left_86 : decode cX3_left 86 = .ok (.getfield 30, 3) := by decide +kernel
theorem dX3_left_89 : decode cX3_left 89 = .ok (.getfield 101, 3) := by decide +kernel
theorem dX3_left_92 : decode cX3_left 92 = .ok (.iload 4, 2) := by decide +kernel
theorem dX3_left_94 : decode cX3_left 94 = .ok (.iaload, 1) := by decide +kernel
theorem dX3_left_95 : decode cX3_left 95 = .ok (.iload_n 2, 1) := by decide +kernel
theorem dX3_left_96 : decode cX3_left 96 = .ok (.if_icmp .ne 6, 3) := by decide +kernel
theorem dX3_left_99 : decode cX3_left 99 = .ok (.iload 5, 2) := by decide +kernel
theorem dX3_left_101 : decode cX3_left 101 = .ok (.ireturn, 1) := by decide +kernel
theorem dX3_left_102 : decode cX3_left 102 = .ok (.iload_n 3, 1) := by decide +kernel
theorem dX3_left_103 : decode cX3_left 103 = .ok (.iload 5, 2) := by decide +kernel
theorem dX3_left_105 : decode cX3_left 105 = .ok (.isub, 1) := by decide +kernel
theorem dX3_left_106 : decode cX3_left 106 = .ok (.istore_n 3, 1) := by decide +kernel
theorem dX3_left_107 : decode cX3_left 107 = .ok (.iinc 4 1, 3) := by decide +kernel
theorem dX3_left_110 : decode cX3_left 110 = .ok (.goto (-61), 3) := by decide +kernel
theorem dX3_left_113 : decode cX3_left 113 = .ok (.iconst 0, 1) := by decide +kernel
theorem dX3_left_114 : decode cX3_left 114 = .ok (.ireturn, 1) := by decide +kernel
theorem dX3_best_0 : decode cX3_best 0 = .ok (.aload_n 0, 1) := by decide +kernel
theorem dX3_best_1 : decode cX3_best 1 = .ok (.getfield 10, 3) := by decide +kernel
theorem dX3_best_4 : decode cX3_best 4 = .ok (.iload_n 1, 1) := by decide +kernel
theorem dX3_best_5 : decode cX3_best 5 = .ok (.invokevirtual 68, 3) := by decide +kernel
theorem dX3_best_8 : decode cX3_best 8 = .ok (.ifCond .ne 5, 3) := by decide +kernel
theorem dX3_best_11 : decode cX3_best 11 = .ok (.iconst (-1), 1) := by decide +kernel
theorem dX3_best_12 : decode cX3_best 12 = .ok (.ireturn, 1) := by decide +kernel
theorem dX3_best_13 : decode cX3_best 13 = .ok (.iload_n 2, 1) := by decide +kernel
theorem dX3_best_14 : decode cX3_best 14 = .ok (.iconst 0, 1) := by decide +kernel
theorem dX3_best_15 : decode cX3_best 15 = .ok (.sipush 999, 3) := by decide +kernel
theorem dX3_best_18 : decode cX3_best 18 = .ok (.invokestatic 41, 3) := by decide +kernel
theorem dX3_best_21 : decode cX3_best 21 = .ok (.ifCond .eq 24, 3) := by decide +kernel
theorem dX3_best_24 : decode cX3_best 24 = .ok (.iload_n 3, 1) := by decide +kernel
theorem dX3_best_25 : decode cX3_best 25 = .ok (.iload_n 2, 1) := by decide +kernel
theorem dX3_best_26 : decode cX3_best 26 = .ok (.sipush 999, 3) := by decide +kernel
theorem dX3_best_29 : decode cX3_best 29 = .ok (.invokestatic 41, 3) := by decide +kernel
theorem dX3_best_32 : decode cX3_best 32 = .ok (.ifCond .eq 13, 3) := by decide +kernel
theorem dX3_best_35 : decode cX3_best 35 = .ok (.iload 4, 2) := by decide +kernel
theorem dX3_best_37 : decode cX3_best 37 = .ok (.iconst 0, 1) := by decide +kernel
theorem dX3_best_38 : decode cX3_best 38 = .ok (.iconst 1, 1) := by decide +kernel
theorem dX3_best_39 : decode cX3_best 39 = .ok (.invokestatic 41, 3) := by decide +kernel
theorem dX3_best_42 : decode cX3_best 42 = .ok (.ifCond .ne 6, 3) := by decide +kernel
theorem dX3_best_45 : decode cX3_best 45 = .ok (.bipush (-2), 2) := by decide +kernel
theorem dX3_best_47 : decode cX3_best 47 = .ok (.ireturn, 1) := by decide +kernel
theorem dX3_best_48 : decode cX3_best 48 = .ok (.aload_n 0, 1) := by decide +kernel
theorem dX3_best_49 : decode cX3_best 49 = .ok (.iload_n 1, 1) := by decide +kernel
theorem dX3_best_50 : decode cX3_best 50 = .ok (.invokevirtual 132, 3) := by decide +kernel
theorem dX3_best_53 : decode cX3_best 53 = .ok (.iload_n 2, 1) := by decide +kernel
theorem dX3_best_54 : decode cX3_best 54 = .ok (.istore 5, 2) := by decide +kernel
theorem dX3_best_56 : decode cX3_best 56 = .ok (.aload_n 0, 1) := by decide +kernel
theorem dX3_best_57 : decode cX3_best 57 = .ok (.iload_n 1, 1) := by decide +kernel
theorem dX3_best_58 : decode cX3_best 58 = .ok (.aload_n 0, 1) := by decide +kernel
theorem dX3_best_59 : decode cX3_best 59 = .ok (.getfield 10, 3) := by decide +kernel
theorem dX3_best_62 : decode cX3_best 62 = .ok (.getfield 45, 3) := by decide +kernel
theorem dX3_best_65 : decode cX3_best 65 = .ok (.iload_n 1, 1) := by decide +kernel
theorem dX3_best_66 : decode cX3_best 66 = .ok (.iaload, 1) := by decide +kernel
theorem dX3_best_67 : decode cX3_best 67 = .ok (.iload_n 2, 1) := by decide +kernel
theorem dX3_best_68 : decode cX3_best 68 = .ok (.invokevirtual 136, 3) := by decide +kernel
theorem dX3_best_71 : decode cX3_best 71 = .ok (.istore 6, 2) := by decide +kernel
theorem dX3_best_73 : decode cX3_best 73 = .ok (.iload_n 2, 1) := by decide +kernel
theorem dX3_best_74 : decode cX3_best 74 = .ok (.iconst 1, 1) := by decide +kernel
theorem dX3_best_75 : decode cX3_best 75 = .ok (.iadd, 1) := by decide +kernel
theorem dX3_best_76 : decode cX3_best 76 = .ok (.istore 7, 2) := by decide +kernel
theorem dX3_best_78 : decode cX3_best 78 = .ok (.iload 7, 2) := by decide +kernel
theorem dX3_best_80 : decode cX3_best 80 = .ok (.iload_n 3, 1) := by decide +kernel
theorem dX3_best_81 : decode cX3_best 81 = .ok (.if_icmp .gt 47, 3) := by decide +kernel
theorem dX3_best_84 : decode cX3_best 84 = .ok (.iload 6, 2) := by decide +kernel
theorem dX3_best_86 : decode cX3_best 86 = .ok (.ifCond .le 42, 3) := by decide +kernel
theorem dX3_best_89 : decode cX3_best 89 = .ok (.aload_n 0, 1) := by decide +kernel
theorem dX3_best_90 : decode cX3_best 90 = .ok (.iload_n 1, 1) := by decide +kernel
theorem dX3_best_91 : decode cX3_best 91 = .ok (.aload_n 0, 1) := by decide +kernel
theorem dX3_best_92 : decode cX3_best 92 = .ok (.getfield 10, 3) := by decide +kernel
theorem dX3_best_95 : decode cX3_best 95 = .ok (.getfield 45, 3) := by decide +kernel
theorem dX3_best_98 : decode cX3_best 98 = .ok (.iload_n 1, 1) := by decide +kernel
theorem dX3_best_99 : decode cX3_best 99 = .ok (.iaload, 1) := by decide +kernel
theorem dX3_best_100 : decode cX3_best 100 = .ok (.iload 7, 2) := by decide +kernel
theorem dX3_best_102 : decode cX3_best 102 = .ok (.invokevirtual 136, 3) := by decide +kernel
theorem dX3_best_105 : decode cX3_best 105 = .ok (.istore 8, 2) := by decide +kernel
theorem dX3_best_107 : decode cX3_best 107 = .ok (.iload 8, 2) := by decide +kernel
theorem dX3_best_109 : decode cX3_best 109 = .ok (.iload 6, 2) := by decide +kernel
theorem dX3_best_111 : decode cX3_best 111 = .ok (.if_icmp .ge 11, 3) := by decide +kernel
theorem dX3_best_114 : decode cX3_best 114 = .ok (.iload 8, 2) := by decide +kernel
theorem dX3_best_116 : decode cX3_best 116 = .ok (.istore 6, 2) := by decide +kernel
theorem dX3_best_118 : decode cX3_best 118 = .ok (.iload 7, 2) := by decide +kernel
theorem dX3_best_120 : decode cX3_best 120 = .ok (.istore 5, 2) := by decide +kernel
theorem dX3_best_122 : decode cX3_best 122 = .ok (.iinc 7 1, 3) := by decide +kernel
theorem dX3_best_125 : decode cX3_best 125 = .ok (.goto (-47), 3) := by decide +kernel
theorem dX3_best_128 : decode cX3_best 128 = .ok (.iload 4, 2) := by decide +kernel
theorem dX3_best_130 : decode cX3_best 130 = .ok (.ifCond .ne 8, 3) := by decide +kernel
theorem dX3_best_133 : decode cX3_best 133 = .ok (.iload 5, 2) := by decide +kernel
theorem dX3_best_135 : decode cX3_best 135 = .ok (.goto 5, 3) := by decide +kernel
theorem dX3_best_138 : decode cX3_best 138 = .ok (.iload 6, 2) := by decide +kernel
theorem dX3_best_140 : decode cX3_best 140 = .ok (.ireturn, 1) := by decide +kernel
theorem dX3_walk_0 : decode cX3_walk 0 = .ok (.aload_n 0, 1) := by decide +kernel
theorem dX3_walk_1 : decode cX3_walk 1 = .ok (.getfield 10, 3) := by decide +kernel
theorem dX3_walk_4 : decode cX3_walk 4 = .ok (.iload_n 1, 1) := by decide +kernel
theorem dX3_walk_5 : decode cX3_walk 5 = .ok (.invokevirtual 68, 3) := by decide +kernel
theorem dX3_walk_8 : decode cX3_walk 8 = .ok (.ifCond .ne 5, 3) := by decide +kernel
theorem dX3_walk_11 : decode cX3_walk 11 = .ok (.iconst (-1), 1) := by decide +kernel
theorem dX3_walk_12 : decode cX3_walk 12 = .ok (.ireturn, 1) := by decide +kernel
theorem dX3_walk_13 : decode cX3_walk 13 = .ok (.iload_n 2, 1) := by decide +kernel
theorem dX3_walk_14 : decode cX3_walk 14 = .ok (.iconst 1, 1) := by decide +kernel
theorem dX3_walk_15 : decode cX3_walk 15 = .ok (.bipush 60, 2) := by decide +kernel
theorem dX3_walk_17 : decode cX3_walk 17 = .ok (.invokestatic 41, 3) := by decide +kernel
theorem dX3_walk_20 : decode cX3_walk 20 = .ok (.ifCond .eq 12, 3) := by decide +kernel
theorem dX3_walk_23 : decode cX3_walk 23 = .ok (.iload_n 3, 1) := by decide +kernel
theorem dX3_walk_24 : decode cX3_walk 24 = .ok (.iconst 0, 1) := by decide +kernel
theorem dX3_walk_25 : decode cX3_walk 25 = .ok (.iconst 1, 1) := by decide +kernel
theorem dX3_walk_26 : decode cX3_walk 26 = .ok (.invokestatic 41, 3) := by decide +kernel
theorem dX3_walk_29 : decode cX3_walk 29 = .ok (.ifCond .ne 6, 3) := by decide +kernel
theorem dX3_walk_32 : decode cX3_walk 32 = .ok (.bipush (-2), 2) := by decide +kernel
theorem dX3_walk_34 : decode cX3_walk 34 = .ok (.ireturn, 1) := by decide +kernel
theorem dX3_walk_35 : decode cX3_walk 35 = .ok (.aload_n 0, 1) := by decide +kernel
theorem dX3_walk_36 : decode cX3_walk 36 = .ok (.iload_n 1, 1) := by decide +kernel
theorem dX3_walk_37 : decode cX3_walk 37 = .ok (.invokevirtual 132, 3) := by decide +kernel
theorem dX3_walk_40 : decode cX3_walk 40 = .ok (.iconst 0, 1) := by decide +kernel
theorem dX3_walk_41 : decode cX3_walk 41 = .ok (.istore 4, 2) := by decide +kernel
theorem dX3_walk_43 : decode cX3_walk 43 = .ok (.aload_n 0, 1) := by decide +kernel
theorem dX3_walk_44 : decode cX3_walk 44 = .ok (.iload_n 1, 1) := by decide +kernel
theorem dX3_walk_45 : decode cX3_walk 45 = .ok (.iconst 0, 1) := by decide +kernel
theorem dX3_walk_46 : decode cX3_walk 46 = .ok (.iload_n 2, 1) := by decide +kernel
theorem dX3_walk_47 : decode cX3_walk 47 = .ok (.invokevirtual 140, 3) := by decide +kernel
theorem dX3_walk_50 : decode cX3_walk 50 = .ok (.istore 5, 2) := by decide +kernel
theorem dX3_walk_52 : decode cX3_walk 52 = .ok (.iconst 1, 1) := by decide +kernel
theorem dX3_walk_53 : decode cX3_walk 53 = .ok (.istore 6, 2) := by decide +kernel
theorem dX3_walk_55 : decode cX3_walk 55 = .ok (.iload 6, 2) := by decide +kernel
theorem dX3_walk_57 : decode cX3_walk 57 = .ok (.bipush 9, 2) := by decide +kernel
theorem dX3_walk_59 : decode cX3_walk 59 = .ok (.if_icmp .gt 34, 3) := by decide +kernel
theorem dX3_walk_62 : decode cX3_walk 62 = .ok (.aload_n 0, 1) := by decide +kernel
theorem dX3_walk_63 : decode cX3_walk 63 = .ok (.iload_n 1, 1) := by decide +kernel
theorem dX3_walk_64 : decode cX3_walk 64 = .ok (.iload 6, 2) := by decide +kernel
theorem dX3_walk_66 : decode cX3_walk 66 = .ok (.iload_n 2, 1) := by decide +kernel
theorem dX3_walk_67 : decode cX3_walk 67 = .ok (.invokevirtual 140, 3) := by decide +kernel
theorem dX3_walk_70 : decode cX3_walk 70 = .ok (.istore 7, 2) := by decide +kernel
theorem dX3_walk_72 : decode cX3_walk 72 = .ok (.iload 7, 2) := by decide +kernel
theorem dX3_walk_74 : decode cX3_walk 74 = .ok (.iload 5, 2) := by decide +kernel
theorem dX3_walk_76 : decode cX3_walk 76 = .ok (.if_icmp .ge 11, 3) := by decide +kernel
theorem dX3_walk_79 : decode cX3_walk 79 = .ok (.iload 7, 2) := by decide +kernel
theorem dX3_walk_81 : decode cX3_walk 81 = .ok (.istore 5, 2) := by decide +kernel
theorem dX3_walk_83 : decode cX3_walk 83 = .ok (.iload 6, 2) := by decide +kernel
theorem dX3_walk_85 : decode cX3_walk 85 = .ok (.istore 4, 2) := by decide +kernel
theorem dX3_walk_87 : decode cX3_walk 87 = .ok (.iinc 6 1, 3) := by decide +kernel
theorem dX3_walk_90 : decode cX3_walk 90 = .ok (.goto (-35), 3) := by decide +kernel
theorem dX3_walk_93 : decode cX3_walk 93 = .ok (.iload_n 3, 1) := by decide +kernel
theorem dX3_walk_94 : decode cX3_walk 94 = .ok (.ifCond .ne 8, 3) := by decide +kernel
theorem dX3_walk_97 : decode cX3_walk 97 = .ok (.iload 4, 2) := by decide +kernel
theorem dX3_walk_99 : decode cX3_walk 99 = .ok (.goto 5, 3) := by decide +kernel
theorem dX3_walk_102 : decode cX3_walk 102 = .ok (.iload 5, 2) := by decide +kernel
theorem dX3_walk_104 : decode cX3_walk 104 = .ok (.ireturn, 1) := by decide +kernel
theorem dX3_claim_0 : decode cX3_claim 0 = .ok (.aload_n 0, 1) := by decide +kernel
theorem dX3_claim_1 : decode cX3_claim 1 = .ok (.getfield 10, 3) := by decide +kernel
theorem dX3_claim_4 : decode cX3_claim 4 = .ok (.iload_n 1, 1) := by decide +kernel
theorem dX3_claim_5 : decode cX3_claim 5 = .ok (.invokevirtual 68, 3) := by decide +kernel
theorem dX3_claim_8 : decode cX3_claim 8 = .ok (.ifCond .ne 5, 3) := by decide +kernel
theorem dX3_claim_11 : decode cX3_claim 11 = .ok (.iconst (-1), 1) := by decide +kernel
theorem dX3_claim_12 : decode cX3_claim 12 = .ok (.ireturn, 1) := by decide +kernel
theorem dX3_claim_13 : decode cX3_claim 13 = .ok (.iload_n 2, 1) := by decide +kernel
theorem dX3_claim_14 : decode cX3_claim 14 = .ok (.iconst 0, 1) := by decide +kernel
theorem dX3_claim_15 : decode cX3_claim 15 = .ok (.sipush 9999, 3) := by decide +kernel
theorem dX3_claim_18 : decode cX3_claim 18 = .ok (.invokestatic 41, 3) := by decide +kernel
theorem dX3_claim_21 : decode cX3_claim 21 = .ok (.ifCond .ne 6, 3) := by decide +kernel
theorem dX3_claim_24 : decode cX3_claim 24 = .ok (.bipush (-2), 2) := by decide +kernel
theorem dX3_claim_26 : decode cX3_claim 26 = .ok (.ireturn, 1) := by decide +kernel
theorem dX3_claim_27 : decode cX3_claim 27 = .ok (.aload_n 0, 1) := by decide +kernel
theorem dX3_claim_28 : decode cX3_claim 28 = .ok (.iload_n 1, 1) := by decide +kernel
theorem dX3_claim_29 : decode cX3_claim 29 = .ok (.invokevirtual 132, 3) := by decide +kernel
theorem dX3_claim_32 : decode cX3_claim 32 = .ok (.iconst 0, 1) := by decide +kernel
theorem dX3_claim_33 : decode cX3_claim 33 = .ok (.istore_n 3, 1) := by decide +kernel
theorem dX3_claim_34 : decode cX3_claim 34 = .ok (.iload_n 3, 1) := by decide +kernel
theorem dX3_claim_35 : decode cX3_claim 35 = .ok (.bipush 99, 2) := by decide +kernel
theorem dX3_claim_37 : decode cX3_claim 37 = .ok (.if_icmp .gt 30, 3) := by decide +kernel
theorem dX3_claim_40 : decode cX3_claim 40 = .ok (.aload_n 0, 1) := by decide +kernel
theorem dX3_claim_41 : decode cX3_claim 41 = .ok (.iload_n 1, 1) := by decide +kernel
theorem dX3_claim_42 : decode cX3_claim 42 = .ok (.iload_n 3, 1) := by decide +kernel
theorem dX3_claim_43 : decode cX3_claim 43 = .ok (.aload_n 0, 1) := by decide +kernel
theorem dX3_claim_44 : decode cX3_claim 44 = .ok (.getfield 10, 3) := by decide +kernel
theorem dX3_claim_47 : decode cX3_claim 47 = .ok (.getfield 49, 3) := by decide +kernel
theorem dX3_claim_50 : decode cX3_claim 50 = .ok (.iload_n 1, 1) := by decide +kernel
theorem dX3_claim_51 : decode cX3_claim 51 = .ok (.iaload, 1) := by decide +kernel
theorem dX3_claim_52 : decode cX3_claim 52 = .ok (.invokevirtual 136, 3) := by decide +kernel
theorem dX3_claim_55 : decode cX3_claim 55 = .ok (.iload_n 2, 1) := by decide +kernel
theorem dX3_claim_56 : decode cX3_claim 56 = .ok (.if_icmp .gt 5, 3) := by decide +kernel
theorem dX3_claim_59 : decode cX3_claim 59 = .ok (.iload_n 3, 1) := by decide +kernel
theorem dX3_claim_60 : decode cX3_claim 60 = .ok (.ireturn, 1) := by decide +kernel
theorem dX3_claim_61 : decode cX3_claim 61 = .ok (.iinc 3 1, 3) := by decide +kernel
theorem dX3_claim_64 : decode cX3_claim 64 = .ok (.goto (-30), 3) := by decide +kernel
theorem dX3_claim_67 : decode cX3_claim 67 = .ok (.bipush (-6), 2) := by decide +kernel
theorem dX3_claim_69 : decode cX3_claim 69 = .ok (.ireturn, 1) := by decide +kernel
theorem dX3_lied_0 : decode cX3_lied 0 = .ok (.aload_n 0, 1) := by decide +kernel
theorem dX3_lied_1 : decode cX3_lied 1 = .ok (.invokevirtual 143, 3) := by decide +kernel
theorem dX3_lied_4 : decode cX3_lied 4 = .ok (.ifCond .ne 6, 3) := by decide +kernel
theorem dX3_lied_7 : decode cX3_lied 7 = .ok (.bipush (-5), 2) := by decide +kernel
theorem dX3_lied_9 : decode cX3_lied 9 = .ok (.ireturn, 1) := by decide +kernel
theorem dX3_lied_10 : decode cX3_lied 10 = .ok (.iconst 0, 1) := by decide +kernel
theorem dX3_lied_11 : decode cX3_lied 11 = .ok (.istore_n 1, 1) := by decide +kernel
theorem dX3_lied_12 : decode cX3_lied 12 = .ok (.iconst 0, 1) := by decide +kernel
theorem dX3_lied_13 : decode cX3_lied 13 = .ok (.istore_n 2, 1) := by decide +kernel
theorem dX3_lied_14 : decode cX3_lied 14 = .ok (.iload_n 2, 1) := by decide +kernel
theorem dX3_lied_15 : decode cX3_lied 15 = .ok (.bipush 8, 2) := by decide +kernel
theorem dX3_lied_17 : decode cX3_lied 17 = .ok (.if_icmp .ge 37, 3) := by decide +kernel
theorem dX3_lied_20 : decode cX3_lied 20 = .ok (.aload_n 0, 1) := by decide +kernel
theorem dX3_lied_21 : decode cX3_lied 21 = .ok (.getfield 10, 3) := by decide +kernel
theorem dX3_lied_24 : decode cX3_lied 24 = .ok (.iload_n 2, 1) := by decide +kernel
theorem dX3_lied_25 : decode cX3_lied 25 = .ok (.invokevirtual 68, 3) := by decide +kernel
theorem dX3_lied_28 : decode cX3_lied 28 = .ok (.ifCond .eq 20, 3) := by decide +kernel
theorem dX3_lied_31 : decode cX3_lied 31 = .ok (.aload_n 0, 1) := by decide +kernel
theorem dX3_lied_32 : decode cX3_lied 32 = .ok (.iload_n 2, 1) := by decide +kernel
theorem dX3_lied_33 : decode cX3_lied 33 = .ok (.iconst 1, 1) := by decide +kernel
theorem dX3_lied_34 : decode cX3_lied 34 = .ok (.invokevirtual 147, 3) := by decide +kernel
theorem dX3_lied_37 : decode cX3_lied 37 = .ok (.bipush (-6), 2) := by decide +kernel
theorem dX3_lied_39 : decode cX3_lied 39 = .ok (.if_icmp .eq 9, 3) := by decide +kernel
theorem dX3_lied_42 : decode cX3_lied 42 = .ok (.iload_n 1, 1) := by decide +kernel
theorem dX3_lied_43 : decode cX3_lied 43 = .ok (.iconst 1, 1) := by decide +kernel
theorem dX3_lied_44 : decode cX3_lied 44 = .ok (.iload_n 2, 1) := by decide +kernel
theorem dX3_lied_45 : decode cX3_lied 45 = .ok (.ishl, 1) := by decide +kernel
theorem dX3_lied_46 : decode cX3_lied 46 = .ok (.ior, 1) := by decide +kernel
theorem dX3_lied_47 : decode cX3_lied 47 = .ok (.istore_n 1, 1) := by decide +kernel
theorem dX3_lied_48 : decode cX3_lied 48 = .ok (.iinc 2 1, 3) := by decide +kernel
theorem dX3_lied_51 : decode cX3_lied 51 = .ok (.goto (-37), 3) := by decide +kernel
theorem dX3_lied_54 : decode cX3_lied 54 = .ok (.iload_n 1, 1) := by decide +kernel
theorem dX3_lied_55 : decode cX3_lied 55 = .ok (.ireturn, 1) := by decide +kernel
theorem dX3_could_0 : decode cX3_could 0 = .ok (.aload_n 0, 1) := by decide +kernel
theorem dX3_could_1 : decode cX3_could 1 = .ok (.getfield 10, 3) := by decide +kernel
theorem dX3_could_4 : decode cX3_could 4 = .ok (.iload_n 1, 1) := by decide +kernel
theorem dX3_could_5 : decode cX3_could 5 = .ok (.invokevirtual 68, 3) := by decide +kernel
theorem dX3_could_8 : decode cX3_could 8 = .ok (.ifCond .ne 5, 3) := by decide +kernel
theorem dX3_could_11 : decode cX3_could 11 = .ok (.iconst (-1), 1) := by decide +kernel
theorem dX3_could_12 : decode cX3_could 12 = .ok (.ireturn, 1) := by decide +kernel
theorem dX3_could_13 : decode cX3_could 13 = .ok (.iload_n 2, 1) := by decide +kernel
theorem dX3_could_14 : decode cX3_could 14 = .ok (.iconst 0, 1) := by decide +kernel
theorem dX3_could_15 : decode cX3_could 15 = .ok (.iconst 1, 1) := by decide +kernel
theorem dX3_could_16 : decode cX3_could 16 = .ok (.invokestatic 41, 3) := by decide +kernel
theorem dX3_could_19 : decode cX3_could 19 = .ok (.ifCond .ne 6, 3) := by decide +kernel
theorem dX3_could_22 : decode cX3_could 22 = .ok (.bipush (-2), 2) := by decide +kernel
theorem dX3_could_24 : decode cX3_could 24 = .ok (.ireturn, 1) := by decide +kernel
theorem dX3_could_25 : decode cX3_could 25 = .ok (.aload_n 0, 1) := by decide +kernel
theorem dX3_could_26 : decode cX3_could 26 = .ok (.invokevirtual 143, 3) := by decide +kernel
theorem dX3_could_29 : decode cX3_could 29 = .ok (.ifCond .eq 20, 3) := by decide +kernel
theorem dX3_could_32 : decode cX3_could 32 = .ok (.aload_n 0, 1) := by decide +kernel
theorem dX3_could_33 : decode cX3_could 33 = .ok (.iload_n 1, 1) := by decide +kernel
theorem dX3_could_34 : decode cX3_could 34 = .ok (.iload_n 2, 1) := by decide +kernel
theorem dX3_could_35 : decode cX3_could 35 = .ok (.ifCond .ne 7, 3) := by decide +kernel
theorem dX3_could_38 : decode cX3_could 38 = .ok (.iconst 1, 1) := by decide +kernel
theorem dX3_could_39 : decode cX3_could 39 = .ok (.goto 4, 3) := by decide +kernel
theorem dX3_could_42 : decode cX3_could 42 = .ok (.iconst 0, 1) := by decide +kernel
theorem dX3_could_43 : decode cX3_could 43 = .ok (.invokevirtual 147, 3) := by decide +kernel
theorem dX3_could_46 : decode cX3_could 46 = .ok (.goto 5, 3) := by decide +kernel
theorem dX3_could_49 : decode cX3_could 49 = .ok (.bipush (-5), 2) := by decide +kernel
theorem dX3_could_51 : decode cX3_could 51 = .ok (.ireturn, 1) := by decide +kernel
theorem dX3_law_0 : decode cX3_law 0 = .ok (.iload_n 1, 1) := by decide +kernel
theorem dX3_law_1 : decode cX3_law 1 = .ok (.iconst 0, 1) := by decide +kernel
theorem dX3_law_2 : decode cX3_law 2 = .ok (.iconst 2, 1) := by decide +kernel
theorem dX3_law_3 : decode cX3_law 3 = .ok (.invokestatic 41, 3) := by decide +kernel
theorem dX3_law_6 : decode cX3_law 6 = .ok (.ifCond .ne 6, 3) := by decide +kernel
theorem dX3_law_9 : decode cX3_law 9 = .ok (.bipush (-2), 2) := by decide +kernel
theorem dX3_law_11 : decode cX3_law 11 = .ok (.ireturn, 1) := by decide +kernel
theorem dX3_law_12 : decode cX3_law 12 = .ok (.aload_n 0, 1) := by decide +kernel
theorem dX3_law_13 : decode cX3_law 13 = .ok (.getfield 16, 3) := by decide +kernel
theorem dX3_law_16 : decode cX3_law 16 = .ok (.aload_n 0, 1) := by decide +kernel
theorem dX3_law_17 : decode cX3_law 17 = .ok (.getfield 10, 3) := by decide +kernel
theorem dX3_law_20 : decode cX3_law 20 = .ok (.invokevirtual 151, 3) := by decide +kernel
theorem dX3_law_23 : decode cX3_law 23 = .ok (.iconst 1, 1) := by decide +kernel
theorem dX3_law_24 : decode cX3_law 24 = .ok (.istore_n 2, 1) := by decide +kernel
theorem dX3_law_25 : decode cX3_law 25 = .ok (.aload_n 0, 1) := by decide +kernel
theorem dX3_law_26 : decode cX3_law 26 = .ok (.iload_n 2, 1) := by decide +kernel
theorem dX3_law_27 : decode cX3_law 27 = .ok (.invokevirtual 155, 3) := by decide +kernel
theorem dX3_law_30 : decode cX3_law 30 = .ok (.aload_n 0, 1) := by decide +kernel
theorem dX3_law_31 : decode cX3_law 31 = .ok (.getfield 30, 3) := by decide +kernel
theorem dX3_law_34 : decode cX3_law 34 = .ok (.getfield 110, 3) := by decide +kernel
theorem dX3_law_37 : decode cX3_law 37 = .ok (.istore_n 3, 1) := by decide +kernel
theorem dX3_law_38 : decode cX3_law 38 = .ok (.aload_n 0, 1) := by decide +kernel
theorem dX3_law_39 : decode cX3_law 39 = .ok (.getfield 30, 3) := by decide +kernel
theorem dX3_law_42 : decode cX3_law 42 = .ok (.getfield 117, 3) := by decide +kernel
theorem dX3_law_45 : decode cX3_law 45 = .ok (.istore 4, 2) := by decide +kernel
theorem dX3_law_47 : decode cX3_law 47 = .ok (.iconst 2, 1) := by decide +kernel
theorem dX3_law_48 : decode cX3_law 48 = .ok (.istore 5, 2) := by decide +kernel
theorem dX3_law_50 : decode cX3_law 50 = .ok (.iload 5, 2) := by decide +kernel
theorem dX3_law_52 : decode cX3_law 52 = .ok (.bipush 16, 2) := by decide +kernel
theorem dX3_law_54 : decode cX3_law 54 = .ok (.if_icmp .ge 58, 3) := by decide +kernel
theorem dX3_law_57 : decode cX3_law 57 = .ok (.aload_n 0, 1) := by decide +kernel
theorem dX3_law_58 : decode cX3_law 58 = .ok (.iload 5, 2) := by decide +kernel
theorem dX3_law_60 : decode cX3_law 60 = .ok (.invokevirtual 155, 3) := by decide +kernel
theorem dX3_law_63 : decode cX3_law 63 = .ok (.aload_n 0, 1) := by decide +kernel
theorem dX3_law_64 : decode cX3_law 64 = .ok (.getfield 30, 3) := by decide +kernel
theorem dX3_law_67 : decode cX3_law 67 = .ok (.getfield 110, 3) := by decide +kernel
theorem dX3_law_70 : decode cX3_law 70 = .ok (.aload_n 0, 1) := by decide +kernel
theorem dX3_law_71 : decode cX3_law 71 = .ok (.getfield 30, 3) := by decide +kernel
theorem dX3_law_74 : decode cX3_law 74 = .ok (.getfield 117, 3) := by decide +kernel
theorem dX3_law_77 : decode cX3_law 77 = .ok (.iload_n 3, 1) := by decide +kernel
theorem dX3_law_78 : decode cX3_law 78 = .ok (.iload 4, 2) := by decide +kernel
theorem dX3_law_80 : decode cX3_law 80 = .ok (.invokestatic 158, 3) := by decide +kernel
theorem dX3_law_83 : decode cX3_law 83 = .ok (.ifCond .eq 23, 3) := by decide +kernel
theorem dX3_law_86 : decode cX3_law 86 = .ok (.iload 5, 2) := by decide +kernel
theorem dX3_law_88 : decode cX3_law 88 = .ok (.istore_n 2, 1) := by decide +kernel
theorem dX3_law_89 : decode cX3_law 89 = .ok (.aload_n 0, 1) := by decide +kernel
theorem dX3_law_90 : decode cX3_law 90 = .ok (.getfield 30, 3) := by decide +kernel
theorem dX3_law_93 : decode cX3_law 93 = .ok (.getfield 110, 3) := by decide +kernel
theorem dX3_law_96 : decode cX3_law 96 = .ok (.istore_n 3, 1) := by decide +kernel
theorem dX3_law_97 : decode cX3_law 97 = .ok (.aload_n 0, 1) := by decide +kernel
theorem dX3_law_98 : decode cX3_law 98 = .ok (.getfield 30, 3) := by decide +kernel
theorem dX3_law_101 : decode cX3_law 101 = .ok (.getfield 117, 3) := by decide +kernel
theorem dX3_law_104 : decode cX3_law 104 = .ok (.istore 4, 2) := by decide +kernel
theorem dX3_law_106 : decode cX3_law 106 = .ok (.iinc 5 1, 3) := by decide +kernel
theorem dX3_law_109 : decode cX3_law 109 = .ok (.goto (-59), 3) := by decide +kernel
theorem dX3_law_112 : decode cX3_law 112 = .ok (.iload_n 1, 1) := by decide +kernel
theorem dX3_law_113 : decode cX3_law 113 = .ok (.lookupswitch 35 #[(0, 27), (1, 31)], 27) := by decide +kernel
theorem dX3_law_140 : decode cX3_law 140 = .ok (.iload_n 2, 1) := by decide +kernel
theorem dX3_law_141 : decode cX3_law 141 = .ok (.iconst 4, 1) := by decide +kernel
theorem dX3_law_142 : decode cX3_law 142 = .ok (.idiv, 1) := by decide +kernel
theorem dX3_law_143 : decode cX3_law 143 = .ok (.ireturn, 1) := by decide +kernel
theorem dX3_law_144 : decode cX3_law 144 = .ok (.iload_n 2, 1) := by decide +kernel
theorem dX3_law_145 : decode cX3_law 145 = .ok (.iconst 4, 1) := by decide +kernel
theorem dX3_law_146 : decode cX3_law 146 = .ok (.irem, 1) := by decide +kernel
theorem dX3_law_147 : decode cX3_law 147 = .ok (.ireturn, 1) := by decide +kernel
theorem dX3_law_148 : decode cX3_law 148 = .ok (.iload_n 3, 1) := by decide +kernel
theorem dX3_law_149 : decode cX3_law 149 = .ok (.ireturn, 1) := by decide +kernel
theorem dX3_home_0 : decode cX3_home 0 = .ok (.aload_n 0, 1) := by decide +kernel
theorem dX3_home_1 : decode cX3_home 1 = .ok (.getfield 10, 3) := by decide +kernel
theorem dX3_home_4 : decode cX3_home 4 = .ok (.iload_n 1, 1) := by decide +kernel
theorem dX3_home_5 : decode cX3_home 5 = .ok (.invokevirtual 68, 3) := by decide +kernel
theorem dX3_home_8 : decode cX3_home 8 = .ok (.ifCond .ne 5, 3) := by decide +kernel
theorem dX3_home_11 : decode cX3_home 11 = .ok (.iconst (-1), 1) := by decide +kernel
theorem dX3_home_12 : decode cX3_home 12 = .ok (.ireturn, 1) := by decide +kernel
theorem dX3_home_13 : decode cX3_home 13 = .ok (.iload_n 2, 1) := by decide +kernel
theorem dX3_home_14 : decode cX3_home 14 = .ok (.iconst 0, 1) := by decide +kernel
theorem dX3_home_15 : decode cX3_home 15 = .ok (.bipush 99, 2) := by decide +kernel
theorem dX3_home_17 : decode cX3_home 17 = .ok (.invokestatic 41, 3) := by decide +kernel
theorem dX3_home_20 : decode cX3_home 20 = .ok (.ifCond .eq 12, 3) := by decide +kernel
theorem dX3_home_23 : decode cX3_home 23 = .ok (.iload_n 3, 1) := by decide +kernel
theorem dX3_home_24 : decode cX3_home 24 = .ok (.iconst 0, 1) := by decide +kernel
theorem dX3_home_25 : decode cX3_home 25 = .ok (.iconst 1, 1) := by decide +kernel
theorem dX3_home_26 : decode cX3_home 26 = .ok (.invokestatic 41, 3) := by decide +kernel
theorem dX3_home_29 : decode cX3_home 29 = .ok (.ifCond .ne 6, 3) := by decide +kernel
theorem dX3_home_32 : decode cX3_home 32 = .ok (.bipush (-2), 2) := by decide +kernel
theorem dX3_home_34 : decode cX3_home 34 = .ok (.ireturn, 1) := by decide +kernel
theorem dX3_home_35 : decode cX3_home 35 = .ok (.aload_n 0, 1) := by decide +kernel
theorem dX3_home_36 : decode cX3_home 36 = .ok (.iload_n 1, 1) := by decide +kernel
theorem dX3_home_37 : decode cX3_home 37 = .ok (.invokevirtual 132, 3) := by decide +kernel
theorem dX3_home_40 : decode cX3_home 40 = .ok (.iconst 0, 1) := by decide +kernel
theorem dX3_home_41 : decode cX3_home 41 = .ok (.istore 4, 2) := by decide +kernel
theorem dX3_home_43 : decode cX3_home 43 = .ok (.aload_n 0, 1) := by decide +kernel
theorem dX3_home_44 : decode cX3_home 44 = .ok (.iload_n 1, 1) := by decide +kernel
theorem dX3_home_45 : decode cX3_home 45 = .ok (.iconst 0, 1) := by decide +kernel
theorem dX3_home_46 : decode cX3_home 46 = .ok (.iload_n 2, 1) := by decide +kernel
theorem dX3_home_47 : decode cX3_home 47 = .ok (.invokevirtual 162, 3) := by decide +kernel
theorem dX3_home_50 : decode cX3_home 50 = .ok (.istore 5, 2) := by decide +kernel
theorem dX3_home_52 : decode cX3_home 52 = .ok (.iconst 1, 1) := by decide +kernel
theorem dX3_home_53 : decode cX3_home 53 = .ok (.istore 6, 2) := by decide +kernel
theorem dX3_home_55 : decode cX3_home 55 = .ok (.iload 6, 2) := by decide +kernel
theorem dX3_home_57 : decode cX3_home 57 = .ok (.bipush 99, 2) := by decide +kernel
theorem dX3_home_59 : decode cX3_home 59 = .ok (.if_icmp .gt 34, 3) := by decide +kernel
theorem dX3_home_62 : decode cX3_home 62 = .ok (.aload_n 0, 1) := by decide +kernel
theorem dX3_home_63 : decode cX3_home 63 = .ok (.iload_n 1, 1) := by decide +kernel
theorem dX3_home_64 : decode cX3_home 64 = .ok (.iload 6, 2) := by decide +kernel
theorem dX3_home_66 : decode cX3_home 66 = .ok (.iload_n 2, 1) := by decide +kernel
theorem dX3_home_67 : decode cX3_home 67 = .ok (.invokevirtual 162, 3) := by decide +kernel
theorem dX3_home_70 : decode cX3_home 70 = .ok (.istore 7, 2) := by decide +kernel
theorem dX3_home_72 : decode cX3_home 72 = .ok (.iload 7, 2) := by decide +kernel
theorem dX3_home_74 : decode cX3_home 74 = .ok (.iload 5, 2) := by decide +kernel
theorem dX3_home_76 : decode cX3_home 76 = .ok (.if_icmp .ge 11, 3) := by decide +kernel
theorem dX3_home_79 : decode cX3_home 79 = .ok (.iload 7, 2) := by decide +kernel
theorem dX3_home_81 : decode cX3_home 81 = .ok (.istore 5, 2) := by decide +kernel
theorem dX3_home_83 : decode cX3_home 83 = .ok (.iload 6, 2) := by decide +kernel
theorem dX3_home_85 : decode cX3_home 85 = .ok (.istore 4, 2) := by decide +kernel
theorem dX3_home_87 : decode cX3_home 87 = .ok (.iinc 6 1, 3) := by decide +kernel
theorem dX3_home_90 : decode cX3_home 90 = .ok (.goto (-35), 3) := by decide +kernel
theorem dX3_home_93 : decode cX3_home 93 = .ok (.iload_n 3, 1) := by decide +kernel
theorem dX3_home_94 : decode cX3_home 94 = .ok (.ifCond .ne 8, 3) := by decide +kernel
theorem dX3_home_97 : decode cX3_home 97 = .ok (.iload 4, 2) := by decide +kernel
theorem dX3_home_99 : decode cX3_home 99 = .ok (.goto 5, 3) := by decide +kernel
theorem dX3_home_102 : decode cX3_home 102 = .ok (.iload 5, 2) := by decide +kernel
theorem dX3_home_104 : decode cX3_home 104 = .ok (.ireturn, 1) := by decide +kernel
theorem dX3_two_0 : decode cX3_two 0 = .ok (.iload_n 1, 1) := by decide +kernel
theorem dX3_two_1 : decode cX3_two 1 = .ok (.iconst 0, 1) := by decide +kernel
theorem dX3_two_2 : decode cX3_two 2 = .ok (.iconst 2, 1) := by decide +kernel
theorem dX3_two_3 : decode cX3_two 3 = .ok (.invokestatic 41, 3) := by decide +kernel
theorem dX3_two_6 : decode cX3_two 6 = .ok (.ifCond .ne 6, 3) := by decide +kernel
theorem dX3_two_9 : decode cX3_two 9 = .ok (.bipush (-2), 2) := by decide +kernel
theorem dX3_two_11 : decode cX3_two 11 = .ok (.ireturn, 1) := by decide +kernel
theorem dX3_two_12 : decode cX3_two 12 = .ok (.aload_n 0, 1) := by decide +kernel
theorem dX3_two_13 : decode cX3_two 13 = .ok (.getfield 30, 3) := by decide +kernel
theorem dX3_two_16 : decode cX3_two 16 = .ok (.aload_n 0, 1) := by decide +kernel
theorem dX3_two_17 : decode cX3_two 17 = .ok (.getfield 10, 3) := by decide +kernel
theorem dX3_two_20 : decode cX3_two 20 = .ok (.aload_n 0, 1) := by decide +kernel
theorem dX3_two_21 : decode cX3_two 21 = .ok (.getfield 10, 3) := by decide +kernel
theorem dX3_two_24 : decode cX3_two 24 = .ok (.getfield 58, 3) := by decide +kernel
theorem dX3_two_27 : decode cX3_two 27 = .ok (.invokevirtual 94, 3) := by decide +kernel
theorem dX3_two_30 : decode cX3_two 30 = .ok (.iconst 0, 1) := by decide +kernel
theorem dX3_two_31 : decode cX3_two 31 = .ok (.istore_n 2, 1) := by decide +kernel
theorem dX3_two_32 : decode cX3_two 32 = .ok (.aload_n 0, 1) := by decide +kernel
theorem dX3_two_33 : decode cX3_two 33 = .ok (.getfield 30, 3) := by decide +kernel
theorem dX3_two_36 : decode cX3_two 36 = .ok (.getfield 110, 3) := by decide +kernel
theorem dX3_two_39 : decode cX3_two 39 = .ok (.istore_n 3, 1) := by decide +kernel
