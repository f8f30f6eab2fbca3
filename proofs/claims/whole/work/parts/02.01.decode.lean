theorem dX3_tryMoods_89 : decode cX3_tryMoods 89 = .ok (.goto 10, 3) := by decide +kernel
theorem dX3_tryMoods_92 : decode cX3_tryMoods 92 = .ok (.iload 8, 2) := by decide +kernel
theorem dX3_tryMoods_94 : decode cX3_tryMoods 94 = .ok (.iload 9, 2) := by decide +kernel
theorem dX3_tryMoods_96 : decode cX3_tryMoods 96 = .ok (.invokestatic 126, 3) := by decide +kernel
theorem dX3_tryMoods_99 : decode cX3_tryMoods 99 = .ok (.istore 8, 2) := by decide +kernel
theorem dX3_tryMoods_101 : decode cX3_tryMoods 101 = .ok (.iload 8, 2) := by decide +kernel
theorem dX3_tryMoods_103 : decode cX3_tryMoods 103 = .ok (.ifCond .ne 13, 3) := by decide +kernel
theorem dX3_tryMoods_106 : decode cX3_tryMoods 106 = .ok (.aload_n 0, 1) := by decide +kernel
theorem dX3_tryMoods_107 : decode cX3_tryMoods 107 = .ok (.getfield 24, 3) := by decide +kernel
theorem dX3_tryMoods_110 : decode cX3_tryMoods 110 = .ok (.iload_n 1, 1) := by decide +kernel
theorem dX3_tryMoods_111 : decode cX3_tryMoods 111 = .ok (.iload 7, 2) := by decide +kernel
theorem dX3_tryMoods_113 : decode cX3_tryMoods 113 = .ok (.iastore, 1) := by decide +kernel
theorem dX3_tryMoods_114 : decode cX3_tryMoods 114 = .ok (.iconst 0, 1) := by decide +kernel
theorem dX3_tryMoods_115 : decode cX3_tryMoods 115 = .ok (.ireturn, 1) := by decide +kernel
theorem dX3_tryMoods_116 : decode cX3_tryMoods 116 = .ok (.iload 4, 2) := by decide +kernel
theorem dX3_tryMoods_118 : decode cX3_tryMoods 118 = .ok (.iload 8, 2) := by decide +kernel
theorem dX3_tryMoods_120 : decode cX3_tryMoods 120 = .ok (.invokestatic 126, 3) := by decide +kernel
theorem dX3_tryMoods_123 : decode cX3_tryMoods 123 = .ok (.istore 4, 2) := by decide +kernel
theorem dX3_tryMoods_125 : decode cX3_tryMoods 125 = .ok (.iinc 7 1, 3) := by decide +kernel
theorem dX3_tryMoods_128 : decode cX3_tryMoods 128 = .ok (.goto (-94), 3) := by decide +kernel
theorem dX3_tryMoods_131 : decode cX3_tryMoods 131 = .ok (.iload 4, 2) := by decide +kernel
theorem dX3_tryMoods_133 : decode cX3_tryMoods 133 = .ok (.ireturn, 1) := by decide +kernel
theorem dX3_tryMood_0 : decode cX3_tryMood 0 = .ok (.iload_n 1, 1) := by decide +kernel
theorem dX3_tryMood_1 : decode cX3_tryMood 1 = .ok (.iload_n 2, 1) := by decide +kernel
theorem dX3_tryMood_2 : decode cX3_tryMood 2 = .ok (.iload_n 3, 1) := by decide +kernel
theorem dX3_tryMood_3 : decode cX3_tryMood 3 = .ok (.invokestatic 131, 3) := by decide +kernel
theorem dX3_tryMood_6 : decode cX3_tryMood 6 = .ok (.iload 4, 2) := by decide +kernel
theorem dX3_tryMood_8 : decode cX3_tryMood 8 = .ok (.if_icmp .eq 5, 3) := by decide +kernel
theorem dX3_tryMood_11 : decode cX3_tryMood 11 = .ok (.iconst 4, 1) := by decide +kernel
theorem dX3_tryMood_12 : decode cX3_tryMood 12 = .ok (.ireturn, 1) := by decide +kernel
theorem dX3_tryMood_13 : decode cX3_tryMood 13 = .ok (.aload_n 0, 1) := by decide +kernel
theorem dX3_tryMood_14 : decode cX3_tryMood 14 = .ok (.getfield 27, 3) := by decide +kernel
theorem dX3_tryMood_17 : decode cX3_tryMood 17 = .ok (.getfield 134, 3) := by decide +kernel
theorem dX3_tryMood_20 : decode cX3_tryMood 20 = .ok (.iload_n 1, 1) := by decide +kernel
theorem dX3_tryMood_21 : decode cX3_tryMood 21 = .ok (.ishr, 1) := by decide +kernel
theorem dX3_tryMood_22 : decode cX3_tryMood 22 = .ok (.iconst 1, 1) := by decide +kernel
theorem dX3_tryMood_23 : decode cX3_tryMood 23 = .ok (.iand, 1) := by decide +kernel
theorem dX3_tryMood_24 : decode cX3_tryMood 24 = .ok (.ifCond .ne 5, 3) := by decide +kernel
theorem dX3_tryMood_27 : decode cX3_tryMood 27 = .ok (.iconst 5, 1) := by decide +kernel
theorem dX3_tryMood_28 : decode cX3_tryMood 28 = .ok (.ireturn, 1) := by decide +kernel
theorem dX3_tryMood_29 : decode cX3_tryMood 29 = .ok (.iload_n 1, 1) := by decide +kernel
theorem dX3_tryMood_30 : decode cX3_tryMood 30 = .ok (.iload_n 2, 1) := by decide +kernel
theorem dX3_tryMood_31 : decode cX3_tryMood 31 = .ok (.aload_n 0, 1) := by decide +kernel
theorem dX3_tryMood_32 : decode cX3_tryMood 32 = .ok (.getfield 27, 3) := by decide +kernel
theorem dX3_tryMood_35 : decode cX3_tryMood 35 = .ok (.getfield 137, 3) := by decide +kernel
theorem dX3_tryMood_38 : decode cX3_tryMood 38 = .ok (.invokestatic 140, 3) := by decide +kernel
theorem dX3_tryMood_41 : decode cX3_tryMood 41 = .ok (.ifCond .eq 7, 3) := by decide +kernel
theorem dX3_tryMood_44 : decode cX3_tryMood 44 = .ok (.iconst 0, 1) := by decide +kernel
theorem dX3_tryMood_45 : decode cX3_tryMood 45 = .ok (.goto 5, 3) := by decide +kernel
theorem dX3_tryMood_48 : decode cX3_tryMood 48 = .ok (.bipush 6, 2) := by decide +kernel
theorem dX3_tryMood_50 : decode cX3_tryMood 50 = .ok (.ireturn, 1) := by decide +kernel
theorem dX3_tellOf_0 : decode cX3_tellOf 0 = .ok (.iload_n 2, 1) := by decide +kernel
theorem dX3_tellOf_1 : decode cX3_tellOf 1 = .ok (.tableswitch 59 0 3 #[31, 38, 45, 52], 31) := by decide +kernel
theorem dX3_tellOf_32 : decode cX3_tellOf 32 = .ok (.aload_n 0, 1) := by decide +kernel
theorem dX3_tellOf_33 : decode cX3_tellOf 33 = .ok (.getfield 11, 3) := by decide +kernel
theorem dX3_tellOf_36 : decode cX3_tellOf 36 = .ok (.iload_n 1, 1) := by decide +kernel
theorem dX3_tellOf_37 : decode cX3_tellOf 37 = .ok (.iaload, 1) := by decide +kernel
theorem dX3_tellOf_38 : decode cX3_tellOf 38 = .ok (.ireturn, 1) := by decide +kernel
theorem dX3_tellOf_39 : decode cX3_tellOf 39 = .ok (.aload_n 0, 1) := by decide +kernel
theorem dX3_tellOf_40 : decode cX3_tellOf 40 = .ok (.getfield 15, 3) := by decide +kernel
theorem dX3_tellOf_43 : decode cX3_tellOf 43 = .ok (.iload_n 1, 1) := by decide +kernel
theorem dX3_tellOf_44 : decode cX3_tellOf 44 = .ok (.iaload, 1) := by decide +kernel
theorem dX3_tellOf_45 : decode cX3_tellOf 45 = .ok (.ireturn, 1) := by decide +kernel
theorem dX3_tellOf_46 : decode cX3_tellOf 46 = .ok (.aload_n 0, 1) := by decide +kernel
theorem dX3_tellOf_47 : decode cX3_tellOf 47 = .ok (.getfield 18, 3) := by decide +kernel
theorem dX3_tellOf_50 : decode cX3_tellOf 50 = .ok (.iload_n 1, 1) := by decide +kernel
theorem dX3_tellOf_51 : decode cX3_tellOf 51 = .ok (.iaload, 1) := by decide +kernel
theorem dX3_tellOf_52 : decode cX3_tellOf 52 = .ok (.ireturn, 1) := by decide +kernel
theorem dX3_tellOf_53 : decode cX3_tellOf 53 = .ok (.aload_n 0, 1) := by decide +kernel
theorem dX3_tellOf_54 : decode cX3_tellOf 54 = .ok (.getfield 21, 3) := by decide +kernel
theorem dX3_tellOf_57 : decode cX3_tellOf 57 = .ok (.iload_n 1, 1) := by decide +kernel
theorem dX3_tellOf_58 : decode cX3_tellOf 58 = .ok (.iaload, 1) := by decide +kernel
theorem dX3_tellOf_59 : decode cX3_tellOf 59 = .ok (.ireturn, 1) := by decide +kernel
theorem dX3_tellOf_60 : decode cX3_tellOf 60 = .ok (.aload_n 0, 1) := by decide +kernel
theorem dX3_tellOf_61 : decode cX3_tellOf 61 = .ok (.getfield 24, 3) := by decide +kernel
theorem dX3_tellOf_64 : decode cX3_tellOf 64 = .ok (.iload_n 1, 1) := by decide +kernel
theorem dX3_tellOf_65 : decode cX3_tellOf 65 = .ok (.iaload, 1) := by decide +kernel
theorem dX3_tellOf_66 : decode cX3_tellOf 66 = .ok (.ireturn, 1) := by decide +kernel
theorem dX3_standing_0 : decode cX3_standing 0 = .ok (.iconst 0, 1) := by decide +kernel
theorem dX3_standing_1 : decode cX3_standing 1 = .ok (.istore_n 1, 1) := by decide +kernel
theorem dX3_standing_2 : decode cX3_standing 2 = .ok (.iconst 0, 1) := by decide +kernel
theorem dX3_standing_3 : decode cX3_standing 3 = .ok (.istore_n 2, 1) := by decide +kernel
theorem dX3_standing_4 : decode cX3_standing 4 = .ok (.iload_n 2, 1) := by decide +kernel
theorem dX3_standing_5 : decode cX3_standing 5 = .ok (.aload_n 0, 1) := by decide +kernel
theorem dX3_standing_6 : decode cX3_standing 6 = .ok (.getfield 35, 3) := by decide +kernel
theorem dX3_standing_9 : decode cX3_standing 9 = .ok (.if_icmp .ge 53, 3) := by decide +kernel
theorem dX3_standing_12 : decode cX3_standing 12 = .ok (.aload_n 0, 1) := by decide +kernel
theorem dX3_standing_13 : decode cX3_standing 13 = .ok (.aload_n 0, 1) := by decide +kernel
theorem dX3_standing_14 : decode cX3_standing 14 = .ok (.getfield 18, 3) := by decide +kernel
theorem dX3_standing_17 : decode cX3_standing 17 = .ok (.iload_n 2, 1) := by decide +kernel
theorem dX3_standing_18 : decode cX3_standing 18 = .ok (.iaload, 1) := by decide +kernel
theorem dX3_standing_19 : decode cX3_standing 19 = .ok (.iload_n 1, 1) := by decide +kernel
theorem dX3_standing_20 : decode cX3_standing 20 = .ok (.invokevirtual 143, 3) := by decide +kernel
theorem dX3_standing_23 : decode cX3_standing 23 = .ok (.ifCond .eq 33, 3) := by decide +kernel
theorem dX3_standing_26 : decode cX3_standing 26 = .ok (.aload_n 0, 1) := by decide +kernel
theorem dX3_standing_27 : decode cX3_standing 27 = .ok (.getfield 21, 3) := by decide +kernel
theorem dX3_standing_30 : decode cX3_standing 30 = .ok (.iload_n 2, 1) := by decide +kernel
theorem dX3_standing_31 : decode cX3_standing 31 = .ok (.iaload, 1) := by decide +kernel
theorem dX3_standing_32 : decode cX3_standing 32 = .ok (.iconst (-1), 1) := by decide +kernel
theorem dX3_standing_33 : decode cX3_standing 33 = .ok (.if_icmp .eq 17, 3) := by decide +kernel
theorem dX3_standing_36 : decode cX3_standing 36 = .ok (.aload_n 0, 1) := by decide +kernel
theorem dX3_standing_37 : decode cX3_standing 37 = .ok (.aload_n 0, 1) := by decide +kernel
theorem dX3_standing_38 : decode cX3_standing 38 = .ok (.getfield 21, 3) := by decide +kernel
theorem dX3_standing_41 : decode cX3_standing 41 = .ok (.iload_n 2, 1) := by decide +kernel
theorem dX3_standing_42 : decode cX3_standing 42 = .ok (.iaload, 1) := by decide +kernel
theorem dX3_standing_43 : decode cX3_standing 43 = .ok (.iload_n 1, 1) := by decide +kernel
theorem dX3_standing_44 : decode cX3_standing 44 = .ok (.invokevirtual 143, 3) := by decide +kernel
theorem dX3_standing_47 : decode cX3_standing 47 = .ok (.ifCond .eq 9, 3) := by decide +kernel
theorem dX3_standing_50 : decode cX3_standing 50 = .ok (.iload_n 1, 1) := by decide +kernel
theorem dX3_standing_51 : decode cX3_standing 51 = .ok (.iconst 1, 1) := by decide +kernel
theorem dX3_standing_52 : decode cX3_standing 52 = .ok (.iload_n 2, 1) := by decide +kernel
theorem dX3_standing_53 : decode cX3_standing 53 = .ok (.ishl, 1) := by decide +kernel
theorem dX3_standing_54 : decode cX3_standing 54 = .ok (.ior, 1) := by decide +kernel
theorem dX3_standing_55 : decode cX3_standing 55 = .ok (.istore_n 1, 1) := by decide +kernel
theorem dX3_standing_56 : decode cX3_standing 56 = .ok (.iinc 2 1, 3) := by decide +kernel
theorem dX3_standing_59 : decode cX3_standing 59 = .ok (.goto (-55), 3) := by decide +kernel
theorem dX3_standing_62 : decode cX3_standing 62 = .ok (.iload_n 1, 1) := by decide +kernel
theorem dX3_standing_63 : decode cX3_standing 63 = .ok (.ireturn, 1) := by decide +kernel
theorem dX3_isStanding_0 : decode cX3_isStanding 0 = .ok (.iload_n 1, 1) := by decide +kernel
theorem dX3_isStanding_1 : decode cX3_isStanding 1 = .ok (.bipush 16, 2) := by decide +kernel
theorem dX3_isStanding_3 : decode cX3_isStanding 3 = .ok (.if_icmp .ge 14, 3) := by decide +kernel
theorem dX3_isStanding_6 : decode cX3_isStanding 6 = .ok (.aload_n 0, 1) := by decide +kernel
theorem dX3_isStanding_7 : decode cX3_isStanding 7 = .ok (.getfield 27, 3) := by decide +kernel
theorem dX3_isStanding_10 : decode cX3_isStanding 10 = .ok (.iload_n 1, 1) := by decide +kernel
theorem dX3_isStanding_11 : decode cX3_isStanding 11 = .ok (.invokevirtual 92, 3) := by decide +kernel
theorem dX3_isStanding_14 : decode cX3_isStanding 14 = .ok (.goto 19, 3) := by decide +kernel
theorem dX3_isStanding_17 : decode cX3_isStanding 17 = .ok (.iload_n 2, 1) := by decide +kernel
theorem dX3_isStanding_18 : decode cX3_isStanding 18 = .ok (.iload_n 1, 1) := by decide +kernel
theorem dX3_isStanding_19 : decode cX3_isStanding 19 = .ok (.bipush 16, 2) := by decide +kernel
theorem dX3_isStanding_21 : decode cX3_isStanding 21 = .ok (.isub, 1) := by decide +kernel
theorem dX3_isStanding_22 : decode cX3_isStanding 22 = .ok (.ishr, 1) := by decide +kernel
theorem dX3_isStanding_23 : decode cX3_isStanding 23 = .ok (.iconst 1, 1) := by decide +kernel
theorem dX3_isStanding_24 : decode cX3_isStanding 24 = .ok (.iand, 1) := by decide +kernel
theorem dX3_isStanding_25 : decode cX3_isStanding 25 = .ok (.ifCond .eq 7, 3) := by decide +kernel
theorem dX3_isStanding_28 : decode cX3_isStanding 28 = .ok (.iconst 1, 1) := by decide +kernel
theorem dX3_isStanding_29 : decode cX3_isStanding 29 = .ok (.goto 4, 3) := by decide +kernel
theorem dX3_isStanding_32 : decode cX3_isStanding 32 = .ok (.iconst 0, 1) := by decide +kernel
theorem dX3_isStanding_33 : decode cX3_isStanding 33 = .ok (.ireturn, 1) := by decide +kernel
theorem dX3_stepsOf_0 : decode cX3_stepsOf 0 = .ok (.iconst 0, 1) := by decide +kernel
theorem dX3_stepsOf_1 : decode cX3_stepsOf 1 = .ok (.istore_n 2, 1) := by decide +kernel
theorem dX3_stepsOf_2 : decode cX3_stepsOf 2 = .ok (.iconst 0, 1) := by decide +kernel
theorem dX3_stepsOf_3 : decode cX3_stepsOf 3 = .ok (.istore_n 3, 1) := by decide +kernel
theorem dX3_stepsOf_4 : decode cX3_stepsOf 4 = .ok (.iload_n 3, 1) := by decide +kernel
theorem dX3_stepsOf_5 : decode cX3_stepsOf 5 = .ok (.aload_n 0, 1) := by decide +kernel
theorem dX3_stepsOf_6 : decode cX3_stepsOf 6 = .ok (.getfield 35, 3) := by decide +kernel
theorem dX3_stepsOf_9 : decode cX3_stepsOf 9 = .ok (.if_icmp .ge 25, 3) := by decide +kernel
theorem dX3_stepsOf_12 : decode cX3_stepsOf 12 = .ok (.aload_n 0, 1) := by decide +kernel
theorem dX3_stepsOf_13 : decode cX3_stepsOf 13 = .ok (.getfield 15, 3) := by decide +kernel
theorem dX3_stepsOf_16 : decode cX3_stepsOf 16 = .ok (.iload_n 3, 1) := by decide +kernel
theorem dX3_stepsOf_17 : decode cX3_stepsOf 17 = .ok (.iaload, 1) := by decide +kernel
theorem dX3_stepsOf_18 : decode cX3_stepsOf 18 = .ok (.iload_n 1, 1) := by decide +kernel
theorem dX3_stepsOf_19 : decode cX3_stepsOf 19 = .ok (.if_icmp .ne 9, 3) := by decide +kernel
theorem dX3_stepsOf_22 : decode cX3_stepsOf 22 = .ok (.iload_n 2, 1) := by decide +kernel
theorem dX3_stepsOf_23 : decode cX3_stepsOf 23 = .ok (.iconst 1, 1) := by decide +kernel
theorem dX3_stepsOf_24 : decode cX3_stepsOf 24 = .ok (.iload_n 3, 1) := by decide +kernel
theorem dX3_stepsOf_25 : decode cX3_stepsOf 25 = .ok (.ishl, 1) := by decide +kernel
theorem dX3_stepsOf_26 : decode cX3_stepsOf 26 = .ok (.ior, 1) := by decide +kernel
theorem dX3_stepsOf_27 : decode cX3_stepsOf 27 = .ok (.istore_n 2, 1) := by decide +kernel
theorem dX3_stepsOf_28 : decode cX3_stepsOf 28 = .ok (.iinc 3 1, 3) := by decide +kernel
theorem dX3_stepsOf_31 : decode cX3_stepsOf 31 = .ok (.goto (-27), 3) := by decide +kernel
theorem dX3_stepsOf_34 : decode cX3_stepsOf 34 = .ok (.iload_n 2, 1) := by decide +kernel
theorem dX3_stepsOf_35 : decode cX3_stepsOf 35 = .ok (.ireturn, 1) := by decide +kernel
theorem dX3_countWanted_0 : decode cX3_countWanted 0 = .ok (.iconst 0, 1) := by decide +kernel
theorem dX3_countWanted_1 : decode cX3_countWanted 1 = .ok (.istore_n 2, 1) := by decide +kernel
theorem dX3_countWanted_2 : decode cX3_countWanted 2 = .ok (.iconst 0, 1) := by decide +kernel
theorem dX3_countWanted_3 : decode cX3_countWanted 3 = .ok (.istore_n 3, 1) := by decide +kernel
theorem dX3_countWanted_4 : decode cX3_countWanted 4 = .ok (.iload_n 3, 1) := by decide +kernel
theorem dX3_countWanted_5 : decode cX3_countWanted 5 = .ok (.aload_n 0, 1) := by decide +kernel
theorem dX3_countWanted_6 : decode cX3_countWanted 6 = .ok (.getfield 35, 3) := by decide +kernel
theorem dX3_countWanted_9 : decode cX3_countWanted 9 = .ok (.if_icmp .ge 36, 3) := by decide +kernel
theorem dX3_countWanted_12 : decode cX3_countWanted 12 = .ok (.iload_n 1, 1) := by decide +kernel
theorem dX3_countWanted_13 : decode cX3_countWanted 13 = .ok (.iload_n 3, 1) := by decide +kernel
theorem dX3_countWanted_14 : decode cX3_countWanted 14 = .ok (.ishr, 1) := by decide +kernel
theorem dX3_countWanted_15 : decode cX3_countWanted 15 = .ok (.iconst 1, 1) := by decide +kernel
theorem dX3_countWanted_16 : decode cX3_countWanted 16 = .ok (.iand, 1) := by decide +kernel
theorem dX3_countWanted_17 : decode cX3_countWanted 17 = .ok (.ifCond .eq 22, 3) := by decide +kernel
theorem dX3_countWanted_20 : decode cX3_countWanted 20 = .ok (.aload_n 0, 1) := by decide +kernel
theorem dX3_countWanted_21 : decode cX3_countWanted 21 = .ok (.getfield 27, 3) := by decide +kernel
theorem dX3_countWanted_24 : decode cX3_countWanted 24 = .ok (.aload_n 0, 1) := by decide +kernel
theorem dX3_countWanted_25 : decode cX3_countWanted 25 = .ok (.getfield 11, 3) := by decide +kernel
theorem dX3_countWanted_28 : decode cX3_countWanted 28 = .ok (.iload_n 3, 1) := by decide +kernel
theorem dX3_countWanted_29 : decode cX3_countWanted 29 = .ok (.iaload, 1) := by decide +kernel
theorem dX3_countWanted_30 : decode cX3_countWanted 30 = .ok (.invokevirtual 146, 3) := by decide +kernel
theorem dX3_countWanted_33 : decode cX3_countWanted 33 = .ok (.ifCond .eq 6, 3) := by decide +kernel
theorem dX3_countWanted_36 : decode cX3_countWanted 36 = .ok (.iinc 2 1, 3) := by decide +kernel
theorem dX3_countWanted_39 : decode cX3_countWanted 39 = .ok (.iinc 3 1, 3) := by decide +kernel
theorem dX3_countWanted_42 : decode cX3_countWanted 42 = .ok (.goto (-38), 3) := by decide +kernel
theorem dX3_countWanted_45 : decode cX3_countWanted 45 = .ok (.iload_n 2, 1) := by decide +kernel
theorem dX3_countWanted_46 : decode cX3_countWanted 46 = .ok (.ireturn, 1) := by decide +kernel
theorem dX3_countRepeated_0 : decode cX3_countRepeated 0 = .ok (.iconst 0, 1) := by decide +kernel
theorem dX3_countRepeated_1 : decode cX3_countRepeated 1 = .ok (.istore_n 2, 1) := by decide +kernel
theorem dX3_countRepeated_2 : decode cX3_countRepeated 2 = .ok (.iconst 0, 1) := by decide +kernel
theorem dX3_countRepeated_3 : decode cX3_countRepeated 3 = .ok (.istore_n 3, 1) := by decide +kernel
theorem dX3_countRepeated_4 : decode cX3_countRepeated 4 = .ok (.iload_n 3, 1) := by decide +kernel
theorem dX3_countRepeated_5 : decode cX3_countRepeated 5 = .ok (.aload_n 0, 1) := by decide +kernel
theorem dX3_countRepeated_6 : decode cX3_countRepeated 6 = .ok (.getfield 35, 3) := by decide +kernel
theorem dX3_countRepeated_9 : decode cX3_countRepeated 9 = .ok (.if_icmp .ge 44, 3) := by decide +kernel
theorem dX3_countRepeated_12 : decode cX3_countRepeated 12 = .ok (.iload_n 1, 1) := by decide +kernel
theorem dX3_countRepeated_13 : decode cX3_countRepeated 13 = .ok (.iload_n 3, 1) := by decide +kernel
theorem dX3_countRepeated_14 : decode cX3_countRepeated 14 = .ok (.ishr, 1) := by decide +kernel
theorem dX3_countRepeated_15 : decode cX3_countRepeated 15 = .ok (.iconst 1, 1) := by decide +kernel
theorem dX3_countRepeated_16 : decode cX3_countRepeated 16 = .ok (.iand, 1) := by decide +kernel
theorem dX3_countRepeated_17 : decode cX3_countRepeated 17 = .ok (.ifCond .eq 30, 3) := by decide +kernel
theorem dX3_countRepeated_20 : decode cX3_countRepeated 20 = .ok (.aload_n 0, 1) := by decide +kernel
theorem dX3_countRepeated_21 : decode cX3_countRepeated 21 = .ok (.getfield 27, 3) := by decide +kernel
theorem dX3_countRepeated_24 : decode cX3_countRepeated 24 = .ok (.aload_n 0, 1) := by decide +kernel
theorem dX3_countRepeated_25 : decode cX3_countRepeated 25 = .ok (.getfield 11, 3) := by decide +kernel
theorem dX3_countRepeated_28 : decode cX3_countRepeated 28 = .ok (.iload_n 3, 1) := by decide +kernel
theorem dX3_countRepeated_29 : decode cX3_countRepeated 29 = .ok (.iaload, 1) := by decide +kernel
theorem dX3_countRepeated_30 : decode cX3_countRepeated 30 = .ok (.invokevirtual 149, 3) := by decide +kernel
theorem dX3_countRepeated_33 : decode cX3_countRepeated 33 = .ok (.ifCond .ne 11, 3) := by decide +kernel
theorem dX3_countRepeated_36 : decode cX3_countRepeated 36 = .ok (.aload_n 0, 1) := by decide +kernel
theorem dX3_countRepeated_37 : decode cX3_countRepeated 37 = .ok (.iload_n 3, 1) := by decide +kernel
theorem dX3_countRepeated_38 : decode cX3_countRepeated 38 = .ok (.invokevirtual 152, 3) := by decide +kernel
theorem dX3_countRepeated_41 : decode cX3_countRepeated 41 = .ok (.ifCond .eq 6, 3) := by decide +kernel
theorem dX3_countRepeated_44 : decode cX3_countRepeated 44 = .ok (.iinc 2 1, 3) := by decide +kernel
theorem dX3_countRepeated_47 : decode cX3_countRepeated 47 = .ok (.iinc 3 1, 3) := by decide +kernel
theorem dX3_countRepeated_50 : decode cX3_countRepeated 50 = .ok (.goto (-46), 3) := by decide +kernel
theorem dX3_countRepeated_53 : decode cX3_countRepeated 53 = .ok (.iload_n 2, 1) := by decide +kernel
theorem dX3_countRepeated_54 : decode cX3_countRepeated 54 = .ok (.ireturn, 1) := by decide +kernel
theorem dX3_isPleadedAhead_0 : decode cX3_isPleadedAhead 0 = .ok (.iconst 0, 1) := by decide +kernel
theorem dX3_isPleadedAhead_1 : decode cX3_isPleadedAhead 1 = .ok (.istore_n 2, 1) := by decide +kernel
theorem dX3_isPleadedAhead_2 : decode cX3_isPleadedAhead 2 = .ok (.iload_n 2, 1) := by decide +kernel
theorem dX3_isPleadedAhead_3 : decode cX3_isPleadedAhead 3 = .ok (.iload_n 1, 1) := by decide +kernel
theorem dX3_isPleadedAhead_4 : decode cX3_isPleadedAhead 4 = .ok (.if_icmp .ge 26, 3) := by decide +kernel
theorem dX3_isPleadedAhead_7 : decode cX3_isPleadedAhead 7 = .ok (.aload_n 0, 1) := by decide +kernel
theorem dX3_isPleadedAhead_8 : decode cX3_isPleadedAhead 8 = .ok (.getfield 11, 3) := by decide +kernel
theorem dX3_isPleadedAhead_11 : decode cX3_isPleadedAhead 11 = .ok (.iload_n 2, 1) := by decide +kernel
theorem dX3_isPleadedAhead_12 : decode cX3_isPleadedAhead 12 = .ok (.iaload, 1) := by decide +kernel
theorem dX3_isPleadedAhead_13 : decode cX3_isPleadedAhead 13 = .ok (.aload_n 0, 1) := by decide +kernel
theorem dX3_isPleadedAhead_14 : decode cX3_isPleadedAhead 14 = .ok (.getfield 11, 3) := by decide +kernel
theorem dX3_isPleadedAhead_17 : decode cX3_isPleadedAhead 17 = .ok (.iload_n 1, 1) := by decide +kernel
theorem dX3_isPleadedAhead_18 : decode cX3_isPleadedAhead 18 = .ok (.iaload, 1) := by decide +kernel
theorem dX3_isPleadedAhead_19 : decode cX3_isPleadedAhead 19 = .ok (.if_icmp .ne 5, 3) := by decide +kernel
theorem dX3_isPleadedAhead_22 : decode cX3_isPleadedAhead 22 = .ok (.iconst 1, 1) := by decide +kernel
theorem dX3_isPleadedAhead_23 : decode cX3_isPleadedAhead 23 = .ok (.ireturn, 1) := by decide +kernel
theorem dX3_isPleadedAhead_24 : decode cX3_isPleadedAhead 24 = .ok (.iinc 2 1, 3) := by decide +kernel
theorem dX3_isPleadedAhead_27 : decode cX3_isPleadedAhead 27 = .ok (.goto (-25), 3) := by decide +kernel
theorem dX3_isPleadedAhead_30 : decode cX3_isPleadedAhead 30 = .ok (.iconst 0, 1) := by decide +kernel
theorem dX3_isPleadedAhead_31 : decode cX3_isPleadedAhead 31 = .ok (.ireturn, 1) := by decide +kernel
theorem dX4_init_0 : decode cX4_init 0 = .ok (.aload_n 0, 1) := by decide +kernel
theorem dX4_init_1 : decode cX4_init 1 = .ok (.invokespecial 3, 3) := by decide +kernel
theorem dX4_init_4 : decode cX4_init 4 = .ok (.aload_n 0, 1) := by decide +kernel
theorem dX4_init_5 : decode cX4_init 5 = .ok (.new 9, 3) := by decide +kernel
theorem dX4_init_8 : decode cX4_init 8 = .ok (.dup, 1) := by decide +kernel
theorem dX4_init_9 : decode cX4_init 9 = .ok (.invokespecial 11, 3) := by decide +kernel
theorem dX4_init_12 : decode cX4_init 12 = .ok (.putfield 12, 3) := by decide +kernel
theorem dX4_init_15 : decode cX4_init 15 = .ok (.return_, 1) := by decide +kernel
theorem dX4_firstPremise_0 : decode cX4_firstPremise 0 = .ok (.iload_n 0, 1) := by decide +kernel
theorem dX4_firstPremise_1 : decode cX4_firstPremise 1 = .ok (.iconst 1, 1) := by decide +kernel
theorem dX4_firstPremise_2 : decode cX4_firstPremise 2 = .ok (.iand, 1) := by decide +kernel
theorem dX4_firstPremise_3 : decode cX4_firstPremise 3 = .ok (.ifCond .eq 12, 3) := by decide +kernel
theorem dX4_firstPremise_6 : decode cX4_firstPremise 6 = .ok (.iload_n 1, 1) := by decide +kernel
theorem dX4_firstPremise_7 : decode cX4_firstPremise 7 = .ok (.iload_n 2, 1) := by decide +kernel
theorem dX4_firstPremise_8 : decode cX4_firstPremise 8 = .ok (.iload_n 3, 1) := by decide +kernel
theorem dX4_firstPremise_9 : decode cX4_firstPremise 9 = .ok (.invokestatic 18, 3) := by decide +kernel
theorem dX4_firstPremise_12 : decode cX4_firstPremise 12 = .ok (.goto 9, 3) := by decide +kernel
theorem dX4_firstPremise_15 : decode cX4_firstPremise 15 = .ok (.iload_n 1, 1) := by decide +kernel
theorem dX4_firstPremise_16 : decode cX4_firstPremise 16 = .ok (.iload_n 3, 1) := by decide +kernel
theorem dX4_firstPremise_17 : decode cX4_firstPremise 17 = .ok (.iload_n 2, 1) := by decide +kernel
theorem dX4_firstPremise_18 : decode cX4_firstPremise 18 = .ok (.invokestatic 18, 3) := by decide +kernel
theorem dX4_firstPremise_21 : decode cX4_firstPremise 21 = .ok (.ireturn, 1) := by decide +kernel
theorem dX4_secondPremise_0 : decode cX4_secondPremise 0 = .ok (.iload_n 0, 1) := by decide +kernel
theorem dX4_secondPremise_1 : decode cX4_secondPremise 1 = .ok (.iconst 2, 1) := by decide +kernel
theorem dX4_secondPremise_2 : decode cX4_secondPremise 2 = .ok (.if_icmp .gt 12, 3) := by decide +kernel
theorem dX4_secondPremise_5 : decode cX4_secondPremise 5 = .ok (.iload_n 1, 1) := by decide +kernel
theorem dX4_secondPremise_6 : decode cX4_secondPremise 6 = .ok (.iload_n 3, 1) := by decide +kernel
theorem dX4_secondPremise_7 : decode cX4_secondPremise 7 = .ok (.iload_n 2, 1) := by decide +kernel
theorem dX4_secondPremise_8 : decode cX4_secondPremise 8 = .ok (.invokestatic 18, 3) := by decide +kernel
theorem dX4_secondPremise_11 : decode cX4_secondPremise 11 = .ok (.goto 9, 3) := by decide +kernel
theorem dX4_secondPremise_14 : decode cX4_secondPremise 14 = .ok (.iload_n 1, 1) := by decide +kernel
theorem dX4_secondPremise_15 : decode cX4_secondPremise 15 = .ok (.iload_n 2, 1) := by decide +kernel
theorem dX4_secondPremise_16 : decode cX4_secondPremise 16 = .ok (.iload_n 3, 1) := by decide +kernel
theorem dX4_secondPremise_17 : decode cX4_secondPremise 17 = .ok (.invokestatic 18, 3) := by decide +kernel
theorem dX4_secondPremise_20 : decode cX4_secondPremise 20 = .ok (.ireturn, 1) := by decide +kernel
theorem dX4_middleOfFirst_0 : decode cX4_middleOfFirst 0 = .ok (.iload_n 0, 1) := by decide +kernel
theorem dX4_middleOfFirst_1 : decode cX4_middleOfFirst 1 = .ok (.iconst 1, 1) := by decide +kernel
theorem dX4_middleOfFirst_2 : decode cX4_middleOfFirst 2 = .ok (.iand, 1) := by decide +kernel
theorem dX4_middleOfFirst_3 : decode cX4_middleOfFirst 3 = .ok (.ifCond .eq 10, 3) := by decide +kernel
theorem dX4_middleOfFirst_6 : decode cX4_middleOfFirst 6 = .ok (.iload_n 1, 1) := by decide +kernel
theorem dX4_middleOfFirst_7 : decode cX4_middleOfFirst 7 = .ok (.invokestatic 24, 3) := by decide +kernel
theorem dX4_middleOfFirst_10 : decode cX4_middleOfFirst 10 = .ok (.goto 7, 3) := by decide +kernel
theorem dX4_middleOfFirst_13 : decode cX4_middleOfFirst 13 = .ok (.iload_n 1, 1) := by decide +kernel
theorem dX4_middleOfFirst_14 : decode cX4_middleOfFirst 14 = .ok (.invokestatic 28, 3) := by decide +kernel
theorem dX4_middleOfFirst_17 : decode cX4_middleOfFirst 17 = .ok (.ireturn, 1) := by decide +kernel
theorem dX4_majorOf_0 : decode cX4_majorOf 0 = .ok (.iload_n 0, 1) := by decide +kernel
theorem dX4_majorOf_1 : decode cX4_majorOf 1 = .ok (.iconst 1, 1) := by decide +kernel
theorem dX4_majorOf_2 : decode cX4_majorOf 2 = .ok (.iand, 1) := by decide +kernel
theorem dX4_majorOf_3 : decode cX4_majorOf 3 = .ok (.ifCond .eq 10, 3) := by decide +kernel
theorem dX4_majorOf_6 : decode cX4_majorOf 6 = .ok (.iload_n 1, 1) := by decide +kernel
theorem dX4_majorOf_7 : decode cX4_majorOf 7 = .ok (.invokestatic 28, 3) := by decide +kernel
theorem dX4_majorOf_10 : decode cX4_majorOf 10 = .ok (.goto 7, 3) := by decide +kernel
theorem dX4_majorOf_13 : decode cX4_majorOf 13 = .ok (.iload_n 1, 1) := by decide +kernel
theorem dX4_majorOf_14 : decode cX4_majorOf 14 = .ok (.invokestatic 24, 3) := by decide +kernel
theorem dX4_majorOf_17 : decode cX4_majorOf 17 = .ok (.ireturn, 1) := by decide +kernel
theorem dX4_middleOfSecond_0 : decode cX4_middleOfSecond 0 = .ok (.iload_n 0, 1) := by decide +kernel
theorem dX4_middleOfSecond_1 : decode cX4_middleOfSecond 1 = .ok (.iconst 2, 1) := by decide +kernel
theorem dX4_middleOfSecond_2 : decode cX4_middleOfSecond 2 = .ok (.if_icmp .gt 10, 3) := by decide +kernel
theorem dX4_middleOfSecond_5 : decode cX4_middleOfSecond 5 = .ok (.iload_n 1, 1) := by decide +kernel
theorem dX4_middleOfSecond_6 : decode cX4_middleOfSecond 6 = .ok (.invokestatic 28, 3) := by decide +kernel
theorem dX4_middleOfSecond_9 : decode cX4_middleOfSecond 9 = .ok (.goto 7, 3) := by decide +kernel
theorem dX4_middleOfSecond_12 : decode cX4_middleOfSecond 12 = .ok (.iload_n 1, 1) := by decide +kernel
theorem dX4_middleOfSecond_13 : decode cX4_middleOfSecond 13 = .ok (.invokestatic 24, 3) := by decide +kernel
theorem dX4_middleOfSecond_16 : decode cX4_middleOfSecond 16 = .ok (.ireturn, 1) := by decide +kernel
theorem dX4_minorOf_0 : decode cX4_minorOf 0 = .ok (.iload_n 0, 1) := by decide +kernel
theorem dX4_minorOf_1 : decode cX4_minorOf 1 = .ok (.iconst 2, 1) := by decide +kernel
theorem dX4_minorOf_2 : decode cX4_minorOf 2 = .ok (.if_icmp .gt 10, 3) := by decide +kernel
theorem dX4_minorOf_5 : decode cX4_minorOf 5 = .ok (.iload_n 1, 1) := by decide +kernel
theorem dX4_minorOf_6 : decode cX4_minorOf 6 = .ok (.invokestatic 24, 3) := by decide +kernel
theorem dX4_minorOf_9 : decode cX4_minorOf 9 = .ok (.goto 7, 3) := by decide +kernel
theorem dX4_minorOf_12 : decode cX4_minorOf 12 = .ok (.iload_n 1, 1) := by decide +kernel
theorem dX4_minorOf_13 : decode cX4_minorOf 13 = .ok (.invokestatic 28, 3) := by decide +kernel
theorem dX4_minorOf_16 : decode cX4_minorOf 16 = .ok (.ireturn, 1) := by decide +kernel
theorem dX4_conclusion_0 : decode cX4_conclusion 0 = .ok (.iload_n 0, 1) := by decide +kernel
theorem dX4_conclusion_1 : decode cX4_conclusion 1 = .ok (.bipush 19, 2) := by decide +kernel
theorem dX4_conclusion_3 : decode cX4_conclusion 3 = .ok (.if_icmp .lt 9, 3) := by decide +kernel
theorem dX4_conclusion_6 : decode cX4_conclusion 6 = .ok (.iload_n 0, 1) := by decide +kernel
theorem dX4_conclusion_7 : decode cX4_conclusion 7 = .ok (.iload_n 1, 1) := by decide +kernel
theorem dX4_conclusion_8 : decode cX4_conclusion 8 = .ok (.invokestatic 31, 3) := by decide +kernel
theorem dX4_conclusion_11 : decode cX4_conclusion 11 = .ok (.ireturn, 1) := by decide +kernel
theorem dX4_conclusion_12 : decode cX4_conclusion 12 = .ok (.getstatic 35, 3) := by decide +kernel
theorem dX4_conclusion_15 : decode cX4_conclusion 15 = .ok (.iload_n 0, 1) := by decide +kernel
theorem dX4_conclusion_16 : decode cX4_conclusion 16 = .ok (.iaload, 1) := by decide +kernel
theorem dX4_conclusion_17 : decode cX4_conclusion 17 = .ok (.istore_n 3, 1) := by decide +kernel
theorem dX4_conclusion_18 : decode cX4_conclusion 18 = .ok (.iload_n 1, 1) := by decide +kernel
theorem dX4_conclusion_19 : decode cX4_conclusion 19 = .ok (.invokestatic 39, 3) := by decide +kernel
theorem dX4_conclusion_22 : decode cX4_conclusion 22 = .ok (.getstatic 42, 3) := by decide +kernel
theorem dX4_conclusion_25 : decode cX4_conclusion 25 = .ok (.iload_n 0, 1) := by decide +kernel
theorem dX4_conclusion_26 : decode cX4_conclusion 26 = .ok (.iaload, 1) := by decide +kernel
theorem dX4_conclusion_27 : decode cX4_conclusion 27 = .ok (.if_icmp .ne 28, 3) := by decide +kernel
theorem dX4_conclusion_30 : decode cX4_conclusion 30 = .ok (.iload_n 2, 1) := by decide +kernel
theorem dX4_conclusion_31 : decode cX4_conclusion 31 = .ok (.invokestatic 39, 3) := by decide +kernel
theorem dX4_conclusion_34 : decode cX4_conclusion 34 = .ok (.getstatic 45, 3) := by decide +kernel
theorem dX4_conclusion_37 : decode cX4_conclusion 37 = .ok (.iload_n 0, 1) := by decide +kernel
theorem dX4_conclusion_38 : decode cX4_conclusion 38 = .ok (.iaload, 1) := by decide +kernel
theorem dX4_conclusion_39 : decode cX4_conclusion 39 = .ok (.if_icmp .ne 16, 3) := by decide +kernel
theorem dX4_conclusion_42 : decode cX4_conclusion 42 = .ok (.iload_n 3, 1) := by decide +kernel
theorem dX4_conclusion_43 : decode cX4_conclusion 43 = .ok (.iload_n 1, 1) := by decide +kernel
theorem dX4_conclusion_44 : decode cX4_conclusion 44 = .ok (.invokestatic 48, 3) := by decide +kernel
theorem dX4_conclusion_47 : decode cX4_conclusion 47 = .ok (.iload_n 3, 1) := by decide +kernel
theorem dX4_conclusion_48 : decode cX4_conclusion 48 = .ok (.iload_n 2, 1) := by decide +kernel
theorem dX4_conclusion_49 : decode cX4_conclusion 49 = .ok (.invokestatic 51, 3) := by decide +kernel
theorem dX4_conclusion_52 : decode cX4_conclusion 52 = .ok (.if_icmp .eq 6, 3) := by decide +kernel
theorem dX4_conclusion_55 : decode cX4_conclusion 55 = .ok (.bipush (-2), 2) := by decide +kernel
theorem dX4_conclusion_57 : decode cX4_conclusion 57 = .ok (.ireturn, 1) := by decide +kernel
theorem dX4_conclusion_58 : decode cX4_conclusion 58 = .ok (.getstatic 54, 3) := by decide +kernel
theorem dX4_conclusion_61 : decode cX4_conclusion 61 = .ok (.iload_n 0, 1) := by decide +kernel
theorem dX4_conclusion_62 : decode cX4_conclusion 62 = .ok (.iaload, 1) := by decide +kernel
theorem dX4_conclusion_63 : decode cX4_conclusion 63 = .ok (.iload_n 3, 1) := by decide +kernel
theorem dX4_conclusion_64 : decode cX4_conclusion 64 = .ok (.iload_n 2, 1) := by decide +kernel
theorem dX4_conclusion_65 : decode cX4_conclusion 65 = .ok (.invokestatic 57, 3) := by decide +kernel
theorem dX4_conclusion_68 : decode cX4_conclusion 68 = .ok (.iload_n 3, 1) := by decide +kernel
theorem dX4_conclusion_69 : decode cX4_conclusion 69 = .ok (.iload_n 1, 1) := by decide +kernel
theorem dX4_conclusion_70 : decode cX4_conclusion 70 = .ok (.invokestatic 60, 3) := by decide +kernel
theorem dX4_conclusion_73 : decode cX4_conclusion 73 = .ok (.invokestatic 18, 3) := by decide +kernel
theorem dX4_conclusion_76 : decode cX4_conclusion 76 = .ok (.ireturn, 1) := by decide +kernel
theorem dX4_singleConclusion_0 : decode cX4_singleConclusion 0 = .ok (.iload_n 1, 1) := by decide +kernel
theorem dX4_singleConclusion_1 : decode cX4_singleConclusion 1 = .ok (.invokestatic 39, 3) := by decide +kernel
theorem dX4_singleConclusion_4 : decode cX4_singleConclusion 4 = .ok (.istore_n 2, 1) := by decide +kernel
theorem dX4_singleConclusion_5 : decode cX4_singleConclusion 5 = .ok (.iload_n 1, 1) := by decide +kernel
theorem dX4_singleConclusion_6 : decode cX4_singleConclusion 6 = .ok (.invokestatic 24, 3) := by decide +kernel
theorem dX4_singleConclusion_9 : decode cX4_singleConclusion 9 = .ok (.istore_n 3, 1) := by decide +kernel
theorem dX4_singleConclusion_10 : decode cX4_singleConclusion 10 = .ok (.iload_n 1, 1) := by decide +kernel
theorem dX4_singleConclusion_11 : decode cX4_singleConclusion 11 = .ok (.invokestatic 28, 3) := by decide +kernel
theorem dX4_singleConclusion_14 : decode cX4_singleConclusion 14 = .ok (.istore 4, 2) := by decide +kernel
theorem dX4_singleConclusion_16 : decode cX4_singleConclusion 16 = .ok (.iload_n 0, 1) := by decide +kernel
theorem dX4_singleConclusion_17 : decode cX4_singleConclusion 17 = .ok (.lookupswitch 62 #[(19, 27), (20, 50)], 27) := by decide +kernel
theorem dX4_singleConclusion_44 : decode cX4_singleConclusion 44 = .ok (.iload_n 2, 1) := by decide +kernel
theorem dX4_singleConclusion_45 : decode cX4_singleConclusion 45 = .ok (.iconst 1, 1) := by decide +kernel
theorem dX4_singleConclusion_46 : decode cX4_singleConclusion 46 = .ok (.if_icmp .eq 8, 3) := by decide +kernel
theorem dX4_singleConclusion_49 : decode cX4_singleConclusion 49 = .ok (.iload_n 2, 1) := by decide +kernel
theorem dX4_singleConclusion_50 : decode cX4_singleConclusion 50 = .ok (.iconst 2, 1) := by decide +kernel
theorem dX4_singleConclusion_51 : decode cX4_singleConclusion 51 = .ok (.if_icmp .ne 13, 3) := by decide +kernel
theorem dX4_singleConclusion_54 : decode cX4_singleConclusion 54 = .ok (.iload_n 2, 1) := by decide +kernel
theorem dX4_singleConclusion_55 : decode cX4_singleConclusion 55 = .ok (.iload 4, 2) := by decide +kernel
theorem dX4_singleConclusion_57 : decode cX4_singleConclusion 57 = .ok (.iload_n 3, 1) := by decide +kernel
theorem dX4_singleConclusion_58 : decode cX4_singleConclusion 58 = .ok (.invokestatic 18, 3) := by decide +kernel
theorem dX4_singleConclusion_61 : decode cX4_singleConclusion 61 = .ok (.goto 5, 3) := by decide +kernel
theorem dX4_singleConclusion_64 : decode cX4_singleConclusion 64 = .ok (.bipush (-2), 2) := by decide +kernel
theorem dX4_singleConclusion_66 : decode cX4_singleConclusion 66 = .ok (.ireturn, 1) := by decide +kernel
theorem dX4_singleConclusion_67 : decode cX4_singleConclusion 67 = .ok (.iload_n 2, 1) := by decide +kernel
theorem dX4_singleConclusion_68 : decode cX4_singleConclusion 68 = .ok (.iconst 1, 1) := by decide +kernel
theorem dX4_singleConclusion_69 : decode cX4_singleConclusion 69 = .ok (.ixor, 1) := by decide +kernel
theorem dX4_singleConclusion_70 : decode cX4_singleConclusion 70 = .ok (.iload_n 3, 1) := by decide +kernel
theorem dX4_singleConclusion_71 : decode cX4_singleConclusion 71 = .ok (.iload 4, 2) := by decide +kernel
theorem dX4_singleConclusion_73 : decode cX4_singleConclusion 73 = .ok (.iconst 1, 1) := by decide +kernel
theorem dX4_singleConclusion_74 : decode cX4_singleConclusion 74 = .ok (.ixor, 1) := by decide +kernel
theorem dX4_singleConclusion_75 : decode cX4_singleConclusion 75 = .ok (.invokestatic 18, 3) := by decide +kernel
theorem dX4_singleConclusion_78 : decode cX4_singleConclusion 78 = .ok (.ireturn, 1) := by decide +kernel
theorem dX4_singleConclusion_79 : decode cX4_singleConclusion 79 = .ok (.iload_n 2, 1) := by decide +kernel
theorem dX4_singleConclusion_80 : decode cX4_singleConclusion 80 = .ok (.iconst 2, 1) := by decide +kernel
theorem dX4_singleConclusion_81 : decode cX4_singleConclusion 81 = .ok (.if_icmp .ge 15, 3) := by decide +kernel
theorem dX4_singleConclusion_84 : decode cX4_singleConclusion 84 = .ok (.iload_n 2, 1) := by decide +kernel
theorem dX4_singleConclusion_85 : decode cX4_singleConclusion 85 = .ok (.iconst 2, 1) := by decide +kernel
theorem dX4_singleConclusion_86 : decode cX4_singleConclusion 86 = .ok (.iadd, 1) := by decide +kernel
theorem dX4_singleConclusion_87 : decode cX4_singleConclusion 87 = .ok (.iload_n 3, 1) := by decide +kernel
theorem dX4_singleConclusion_88 : decode cX4_singleConclusion 88 = .ok (.iload 4, 2) := by decide +kernel
theorem dX4_singleConclusion_90 : decode cX4_singleConclusion 90 = .ok (.invokestatic 18, 3) := by decide +kernel
theorem dX4_singleConclusion_93 : decode cX4_singleConclusion 93 = .ok (.goto 5, 3) := by decide +kernel
theorem dX4_singleConclusion_96 : decode cX4_singleConclusion 96 = .ok (.bipush (-2), 2) := by decide +kernel
theorem dX4_singleConclusion_98 : decode cX4_singleConclusion 98 = .ok (.ireturn, 1) := by decide +kernel
theorem dX4_singlePremise_0 : decode cX4_singlePremise 0 = .ok (.iload_n 1, 1) := by decide +kernel
theorem dX4_singlePremise_1 : decode cX4_singlePremise 1 = .ok (.invokestatic 39, 3) := by decide +kernel
theorem dX4_singlePremise_4 : decode cX4_singlePremise 4 = .ok (.istore_n 2, 1) := by decide +kernel
theorem dX4_singlePremise_5 : decode cX4_singlePremise 5 = .ok (.iload_n 0, 1) := by decide +kernel
theorem dX4_singlePremise_6 : decode cX4_singlePremise 6 = .ok (.bipush 21, 2) := by decide +kernel
theorem dX4_singlePremise_8 : decode cX4_singlePremise 8 = .ok (.if_icmp .ne 28, 3) := by decide +kernel
theorem dX4_singlePremise_11 : decode cX4_singlePremise 11 = .ok (.iload_n 2, 1) := by decide +kernel
theorem dX4_singlePremise_12 : decode cX4_singlePremise 12 = .ok (.iconst 2, 1) := by decide +kernel
theorem dX4_singlePremise_13 : decode cX4_singlePremise 13 = .ok (.if_icmp .lt 20, 3) := by decide +kernel
theorem dX4_singlePremise_16 : decode cX4_singlePremise 16 = .ok (.iload_n 2, 1) := by decide +kernel
theorem dX4_singlePremise_17 : decode cX4_singlePremise 17 = .ok (.iconst 2, 1) := by decide +kernel
theorem dX4_singlePremise_18 : decode cX4_singlePremise 18 = .ok (.isub, 1) := by decide +kernel
theorem dX4_singlePremise_19 : decode cX4_singlePremise 19 = .ok (.iload_n 1, 1) := by decide +kernel
theorem dX4_singlePremise_20 : decode cX4_singlePremise 20 = .ok (.invokestatic 24, 3) := by decide +kernel
theorem dX4_singlePremise_23 : decode cX4_singlePremise 23 = .ok (.iload_n 1, 1) := by decide +kernel
theorem dX4_singlePremise_24 : decode cX4_singlePremise 24 = .ok (.invokestatic 28, 3) := by decide +kernel
theorem dX4_singlePremise_27 : decode cX4_singlePremise 27 = .ok (.invokestatic 18, 3) := by decide +kernel
theorem dX4_singlePremise_30 : decode cX4_singlePremise 30 = .ok (.goto 5, 3) := by decide +kernel
theorem dX4_singlePremise_33 : decode cX4_singlePremise 33 = .ok (.bipush (-2), 2) := by decide +kernel
theorem dX4_singlePremise_35 : decode cX4_singlePremise 35 = .ok (.ireturn, 1) := by decide +kernel
theorem dX4_singlePremise_36 : decode cX4_singlePremise 36 = .ok (.iload_n 0, 1) := by decide +kernel
theorem dX4_singlePremise_37 : decode cX4_singlePremise 37 = .ok (.iload_n 1, 1) := by decide +kernel
theorem dX4_singlePremise_38 : decode cX4_singlePremise 38 = .ok (.invokestatic 31, 3) := by decide +kernel
theorem dX4_singlePremise_41 : decode cX4_singlePremise 41 = .ok (.ireturn, 1) := by decide +kernel
theorem dX4_isAlive_0 : decode cX4_isAlive 0 = .ok (.iload_n 0, 1) := by decide +kernel
theorem dX4_isAlive_1 : decode cX4_isAlive 1 = .ok (.tableswitch 61 15 21 #[43, 43, 52, 43, 61, 61, 43], 43) := by decide +kernel
theorem dX4_isAlive_44 : decode cX4_isAlive 44 = .ok (.iload_n 1, 1) := by decide +kernel
theorem dX4_isAlive_45 : decode cX4_isAlive 45 = .ok (.invokestatic 24, 3) := by decide +kernel
theorem dX4_isAlive_48 : decode cX4_isAlive 48 = .ok (.iload_n 2, 1) := by decide +kernel
theorem dX4_isAlive_49 : decode cX4_isAlive 49 = .ok (.invokestatic 63, 3) := by decide +kernel
theorem dX4_isAlive_52 : decode cX4_isAlive 52 = .ok (.ireturn, 1) := by decide +kernel
theorem dX4_isAlive_53 : decode cX4_isAlive 53 = .ok (.iload_n 1, 1) := by decide +kernel
theorem dX4_isAlive_54 : decode cX4_isAlive 54 = .ok (.invokestatic 28, 3) := by decide +kernel
theorem dX4_isAlive_57 : decode cX4_isAlive 57 = .ok (.iload_n 2, 1) := by decide +kernel
theorem dX4_isAlive_58 : decode cX4_isAlive 58 = .ok (.invokestatic 63, 3) := by decide +kernel
theorem dX4_isAlive_61 : decode cX4_isAlive 61 = .ok (.ireturn, 1) := by decide +kernel
theorem dX4_isAlive_62 : decode cX4_isAlive 62 = .ok (.iconst 1, 1) := by decide +kernel
theorem dX4_isAlive_63 : decode cX4_isAlive 63 = .ok (.ireturn, 1) := by decide +kernel
theorem dX4_isLivingKind_0 : decode cX4_isLivingKind 0 = .ok (.iload_n 0, 1) := by decide +kernel
theorem dX4_isLivingKind_1 : decode cX4_isLivingKind 1 = .ok (.iconst 1, 1) := by decide +kernel
theorem dX4_isLivingKind_2 : decode cX4_isLivingKind 2 = .ok (.iand, 1) := by decide +kernel
theorem dX4_isLivingKind_3 : decode cX4_isLivingKind 3 = .ok (.ifCond .ne 17, 3) := by decide +kernel
theorem dX4_isLivingKind_6 : decode cX4_isLivingKind 6 = .ok (.iload_n 1, 1) := by decide +kernel
theorem dX4_isLivingKind_7 : decode cX4_isLivingKind 7 = .ok (.iload_n 0, 1) := by decide +kernel
theorem dX4_isLivingKind_8 : decode cX4_isLivingKind 8 = .ok (.iconst 1, 1) := by decide +kernel
theorem dX4_isLivingKind_9 : decode cX4_isLivingKind 9 = .ok (.ishr, 1) := by decide +kernel
theorem dX4_isLivingKind_10 : decode cX4_isLivingKind 10 = .ok (.ishr, 1) := by decide +kernel
theorem dX4_isLivingKind_11 : decode cX4_isLivingKind 11 = .ok (.iconst 1, 1) := by decide +kernel
theorem dX4_isLivingKind_12 : decode cX4_isLivingKind 12 = .ok (.iand, 1) := by decide +kernel
theorem dX4_isLivingKind_13 : decode cX4_isLivingKind 13 = .ok (.ifCond .eq 7, 3) := by decide +kernel
theorem dX4_isLivingKind_16 : decode cX4_isLivingKind 16 = .ok (.iconst 1, 1) := by decide +kernel
theorem dX4_isLivingKind_17 : decode cX4_isLivingKind 17 = .ok (.goto 4, 3) := by decide +kernel
theorem dX4_isLivingKind_20 : decode cX4_isLivingKind 20 = .ok (.iconst 0, 1) := by decide +kernel
theorem dX4_isLivingKind_21 : decode cX4_isLivingKind 21 = .ok (.ireturn, 1) := by decide +kernel
theorem dX4_mustLive_0 : decode cX4_mustLive 0 = .ok (.iload 4, 2) := by decide +kernel
theorem dX4_mustLive_2 : decode cX4_mustLive 2 = .ok (.iload_n 1, 1) := by decide +kernel
theorem dX4_mustLive_3 : decode cX4_mustLive 3 = .ok (.iconst 2, 1) := by decide +kernel
theorem dX4_mustLive_4 : decode cX4_mustLive 4 = .ok (.iconst 4, 1) := by decide +kernel
theorem dX4_mustLive_5 : decode cX4_mustLive 5 = .ok (.invokestatic 67, 3) := by decide +kernel
theorem dX4_mustLive_8 : decode cX4_mustLive 8 = .ok (.istore 5, 2) := by decide +kernel
theorem dX4_mustLive_10 : decode cX4_mustLive 10 = .ok (.iload 4, 2) := by decide +kernel
theorem dX4_mustLive_12 : decode cX4_mustLive 12 = .ok (.iload_n 2, 1) := by decide +kernel
theorem dX4_mustLive_13 : decode cX4_mustLive 13 = .ok (.iconst 2, 1) := by decide +kernel
theorem dX4_mustLive_14 : decode cX4_mustLive 14 = .ok (.iconst 0, 1) := by decide +kernel
theorem dX4_mustLive_15 : decode cX4_mustLive 15 = .ok (.invokestatic 71, 3) := by decide +kernel
theorem dX4_mustLive_18 : decode cX4_mustLive 18 = .ok (.istore 6, 2) := by decide +kernel
theorem dX4_mustLive_20 : decode cX4_mustLive 20 = .ok (.iload_n 3, 1) := by decide +kernel
theorem dX4_mustLive_21 : decode cX4_mustLive 21 = .ok (.iconst 0, 1) := by decide +kernel
theorem dX4_mustLive_22 : decode cX4_mustLive 22 = .ok (.iconst 4, 1) := by decide +kernel
theorem dX4_mustLive_23 : decode cX4_mustLive 23 = .ok (.invokestatic 18, 3) := by decide +kernel
theorem dX4_mustLive_26 : decode cX4_mustLive 26 = .ok (.invokestatic 74, 3) := by decide +kernel
theorem dX4_mustLive_29 : decode cX4_mustLive 29 = .ok (.istore 7, 2) := by decide +kernel
theorem dX4_mustLive_31 : decode cX4_mustLive 31 = .ok (.aload_n 0, 1) := by decide +kernel
theorem dX4_mustLive_32 : decode cX4_mustLive 32 = .ok (.bipush 7, 2) := by decide +kernel
theorem dX4_mustLive_34 : decode cX4_mustLive 34 = .ok (.iload 5, 2) := by decide +kernel
theorem dX4_mustLive_36 : decode cX4_mustLive 36 = .ok (.iload 6, 2) := by decide +kernel
theorem dX4_mustLive_38 : decode cX4_mustLive 38 = .ok (.iload 7, 2) := by decide +kernel
theorem dX4_mustLive_40 : decode cX4_mustLive 40 = .ok (.invokevirtual 77, 3) := by decide +kernel
theorem dX4_mustLive_43 : decode cX4_mustLive 43 = .ok (.ifCond .ne 5, 3) := by decide +kernel
theorem dX4_mustLive_46 : decode cX4_mustLive 46 = .ok (.iconst (-1), 1) := by decide +kernel
theorem dX4_mustLive_47 : decode cX4_mustLive 47 = .ok (.ireturn, 1) := by decide +kernel
theorem dX4_mustLive_48 : decode cX4_mustLive 48 = .ok (.iconst 0, 1) := by decide +kernel
theorem dX4_mustLive_49 : decode cX4_mustLive 49 = .ok (.istore 8, 2) := by decide +kernel
theorem dX4_mustLive_51 : decode cX4_mustLive 51 = .ok (.iload 8, 2) := by decide +kernel
theorem dX4_mustLive_53 : decode cX4_mustLive 53 = .ok (.getstatic 81, 3) := by decide +kernel
theorem dX4_mustLive_56 : decode cX4_mustLive 56 = .ok (.arraylength, 1) := by decide +kernel
theorem dX4_mustLive_57 : decode cX4_mustLive 57 = .ok (.if_icmp .ge 35, 3) := by decide +kernel
theorem dX4_mustLive_60 : decode cX4_mustLive 60 = .ok (.aload_n 0, 1) := by decide +kernel
theorem dX4_mustLive_61 : decode cX4_mustLive 61 = .ok (.getstatic 81, 3) := by decide +kernel
theorem dX4_mustLive_64 : decode cX4_mustLive 64 = .ok (.iload 8, 2) := by decide +kernel
theorem dX4_mustLive_66 : decode cX4_mustLive 66 = .ok (.iaload, 1) := by decide +kernel
theorem dX4_mustLive_67 : decode cX4_mustLive 67 = .ok (.iload 5, 2) := by decide +kernel
theorem dX4_mustLive_69 : decode cX4_mustLive 69 = .ok (.iload 6, 2) := by decide +kernel
theorem dX4_mustLive_71 : decode cX4_mustLive 71 = .ok (.iload 7, 2) := by decide +kernel
theorem dX4_mustLive_73 : decode cX4_mustLive 73 = .ok (.invokevirtual 77, 3) := by decide +kernel
theorem dX4_mustLive_76 : decode cX4_mustLive 76 = .ok (.ifCond .eq 10, 3) := by decide +kernel
theorem dX4_mustLive_79 : decode cX4_mustLive 79 = .ok (.getstatic 81, 3) := by decide +kernel
theorem dX4_mustLive_82 : decode cX4_mustLive 82 = .ok (.iload 8, 2) := by decide +kernel
theorem dX4_mustLive_84 : decode cX4_mustLive 84 = .ok (.iaload, 1) := by decide +kernel
theorem dX4_mustLive_85 : decode cX4_mustLive 85 = .ok (.ireturn, 1) := by decide +kernel
theorem dX4_mustLive_86 : decode cX4_mustLive 86 = .ok (.iinc 8 1, 3) := by decide +kernel
theorem dX4_mustLive_89 : decode cX4_mustLive 89 = .ok (.goto (-38), 3) := by decide +kernel
theorem dX4_mustLive_92 : decode cX4_mustLive 92 = .ok (.iconst (-1), 1) := by decide +kernel
theorem dX4_mustLive_93 : decode cX4_mustLive 93 = .ok (.ireturn, 1) := by decide +kernel
theorem dX4_holdsWith_0 : decode cX4_holdsWith 0 = .ok (.aload_n 0, 1) := by decide +kernel
theorem dX4_holdsWith_1 : decode cX4_holdsWith 1 = .ok (.getfield 12, 3) := by decide +kernel
theorem dX4_holdsWith_4 : decode cX4_holdsWith 4 = .ok (.invokevirtual 84, 3) := by decide +kernel
theorem dX4_holdsWith_7 : decode cX4_holdsWith 7 = .ok (.aload_n 0, 1) := by decide +kernel
theorem dX4_holdsWith_8 : decode cX4_holdsWith 8 = .ok (.getfield 12, 3) := by decide +kernel
theorem dX4_holdsWith_11 : decode cX4_holdsWith 11 = .ok (.iload_n 1, 1) := by decide +kernel
theorem dX4_holdsWith_12 : decode cX4_holdsWith 12 = .ok (.invokevirtual 87, 3) := by decide +kernel
theorem dX4_holdsWith_15 : decode cX4_holdsWith 15 = .ok (.aload_n 0, 1) := by decide +kernel
theorem dX4_holdsWith_16 : decode cX4_holdsWith 16 = .ok (.getfield 12, 3) := by decide +kernel
theorem dX4_holdsWith_19 : decode cX4_holdsWith 19 = .ok (.iload_n 2, 1) := by decide +kernel
theorem dX4_holdsWith_20 : decode cX4_holdsWith 20 = .ok (.invokevirtual 91, 3) := by decide +kernel
theorem dX4_holdsWith_23 : decode cX4_holdsWith 23 = .ok (.aload_n 0, 1) := by decide +kernel
theorem dX4_holdsWith_24 : decode cX4_holdsWith 24 = .ok (.getfield 12, 3) := by decide +kernel
theorem dX4_holdsWith_27 : decode cX4_holdsWith 27 = .ok (.iload_n 3, 1) := by decide +kernel
theorem dX4_holdsWith_28 : decode cX4_holdsWith 28 = .ok (.invokevirtual 91, 3) := by decide +kernel
theorem dX4_holdsWith_31 : decode cX4_holdsWith 31 = .ok (.aload_n 0, 1) := by decide +kernel
theorem dX4_holdsWith_32 : decode cX4_holdsWith 32 = .ok (.getfield 12, 3) := by decide +kernel
theorem dX4_holdsWith_35 : decode cX4_holdsWith 35 = .ok (.iload 4, 2) := by decide +kernel
theorem dX4_holdsWith_37 : decode cX4_holdsWith 37 = .ok (.invokevirtual 91, 3) := by decide +kernel
theorem dX4_holdsWith_40 : decode cX4_holdsWith 40 = .ok (.aload_n 0, 1) := by decide +kernel
theorem dX4_holdsWith_41 : decode cX4_holdsWith 41 = .ok (.getfield 12, 3) := by decide +kernel
theorem dX4_holdsWith_44 : decode cX4_holdsWith 44 = .ok (.invokevirtual 94, 3) := by decide +kernel
theorem dX4_holdsWith_47 : decode cX4_holdsWith 47 = .ok (.ifCond .ne 7, 3) := by decide +kernel
theorem dX4_holdsWith_50 : decode cX4_holdsWith 50 = .ok (.iconst 1, 1) := by decide +kernel
theorem dX4_holdsWith_51 : decode cX4_holdsWith 51 = .ok (.goto 4, 3) := by decide +kernel
theorem dX4_holdsWith_54 : decode cX4_holdsWith 54 = .ok (.iconst 0, 1) := by decide +kernel
theorem dX4_holdsWith_55 : decode cX4_holdsWith 55 = .ok (.ireturn, 1) := by decide +kernel
theorem dX4_isOfAll_0 : decode cX4_isOfAll 0 = .ok (.iload_n 0, 1) := by decide +kernel
theorem dX4_isOfAll_1 : decode cX4_isOfAll 1 = .ok (.invokestatic 39, 3) := by decide +kernel
theorem dX4_isOfAll_4 : decode cX4_isOfAll 4 = .ok (.istore_n 2, 1) := by decide +kernel
theorem dX4_isOfAll_5 : decode cX4_isOfAll 5 = .ok (.iload_n 1, 1) := by decide +kernel
theorem dX4_isOfAll_6 : decode cX4_isOfAll 6 = .ok (.iload_n 0, 1) := by decide +kernel
theorem dX4_isOfAll_7 : decode cX4_isOfAll 7 = .ok (.invokestatic 24, 3) := by decide +kernel
theorem dX4_isOfAll_10 : decode cX4_isOfAll 10 = .ok (.if_icmp .ne 8, 3) := by decide +kernel
theorem dX4_isOfAll_13 : decode cX4_isOfAll 13 = .ok (.iload_n 2, 1) := by decide +kernel
theorem dX4_isOfAll_14 : decode cX4_isOfAll 14 = .ok (.iconst 2, 1) := by decide +kernel
theorem dX4_isOfAll_15 : decode cX4_isOfAll 15 = .ok (.if_icmp .lt 17, 3) := by decide +kernel
theorem dX4_isOfAll_18 : decode cX4_isOfAll 18 = .ok (.iload_n 1, 1) := by decide +kernel
theorem dX4_isOfAll_19 : decode cX4_isOfAll 19 = .ok (.iload_n 0, 1) := by decide +kernel
theorem dX4_isOfAll_20 : decode cX4_isOfAll 20 = .ok (.invokestatic 28, 3) := by decide +kernel
theorem dX4_isOfAll_23 : decode cX4_isOfAll 23 = .ok (.if_icmp .ne 13, 3) := by decide +kernel
theorem dX4_isOfAll_26 : decode cX4_isOfAll 26 = .ok (.iload_n 2, 1) := by decide +kernel
theorem dX4_isOfAll_27 : decode cX4_isOfAll 27 = .ok (.iconst 1, 1) := by decide +kernel
theorem dX4_isOfAll_28 : decode cX4_isOfAll 28 = .ok (.iand, 1) := by decide +kernel
theorem dX4_isOfAll_29 : decode cX4_isOfAll 29 = .ok (.ifCond .eq 7, 3) := by decide +kernel
theorem dX4_isOfAll_32 : decode cX4_isOfAll 32 = .ok (.iconst 1, 1) := by decide +kernel
theorem dX4_isOfAll_33 : decode cX4_isOfAll 33 = .ok (.goto 4, 3) := by decide +kernel
theorem dX4_isOfAll_36 : decode cX4_isOfAll 36 = .ok (.iconst 0, 1) := by decide +kernel
theorem dX4_isOfAll_37 : decode cX4_isOfAll 37 = .ok (.ireturn, 1) := by decide +kernel
theorem dX4_broken_0 : decode cX4_broken 0 = .ok (.iload_n 3, 1) := by decide +kernel
theorem dX4_broken_1 : decode cX4_broken 1 = .ok (.iload_n 0, 1) := by decide +kernel
theorem dX4_broken_2 : decode cX4_broken 2 = .ok (.iconst 2, 1) := by decide +kernel
theorem dX4_broken_3 : decode cX4_broken 3 = .ok (.iconst 4, 1) := by decide +kernel
theorem dX4_broken_4 : decode cX4_broken 4 = .ok (.invokestatic 67, 3) := by decide +kernel
theorem dX4_broken_7 : decode cX4_broken 7 = .ok (.istore 4, 2) := by decide +kernel
theorem dX4_broken_9 : decode cX4_broken 9 = .ok (.iload_n 3, 1) := by decide +kernel
theorem dX4_broken_10 : decode cX4_broken 10 = .ok (.iload_n 1, 1) := by decide +kernel
theorem dX4_broken_11 : decode cX4_broken 11 = .ok (.iconst 2, 1) := by decide +kernel
theorem dX4_broken_12 : decode cX4_broken 12 = .ok (.iconst 0, 1) := by decide +kernel
theorem dX4_broken_13 : decode cX4_broken 13 = .ok (.invokestatic 71, 3) := by decide +kernel
theorem dX4_broken_16 : decode cX4_broken 16 = .ok (.istore 5, 2) := by decide +kernel
theorem dX4_broken_18 : decode cX4_broken 18 = .ok (.iload_n 2, 1) := by decide +kernel
theorem dX4_broken_19 : decode cX4_broken 19 = .ok (.iconst 0, 1) := by decide +kernel
theorem dX4_broken_20 : decode cX4_broken 20 = .ok (.iconst 4, 1) := by decide +kernel
theorem dX4_broken_21 : decode cX4_broken 21 = .ok (.invokestatic 18, 3) := by decide +kernel
theorem dX4_broken_24 : decode cX4_broken 24 = .ok (.istore 6, 2) := by decide +kernel
theorem dX4_broken_26 : decode cX4_broken 26 = .ok (.iload 4, 2) := by decide +kernel
theorem dX4_broken_28 : decode cX4_broken 28 = .ok (.iconst 2, 1) := by decide +kernel
theorem dX4_broken_29 : decode cX4_broken 29 = .ok (.invokestatic 98, 3) := by decide +kernel
theorem dX4_broken_32 : decode cX4_broken 32 = .ok (.ifCond .ne 14, 3) := by decide +kernel
theorem dX4_broken_35 : decode cX4_broken 35 = .ok (.iload 5, 2) := by decide +kernel
theorem dX4_broken_37 : decode cX4_broken 37 = .ok (.iconst 2, 1) := by decide +kernel
theorem dX4_broken_38 : decode cX4_broken 38 = .ok (.invokestatic 98, 3) := by decide +kernel
theorem dX4_broken_41 : decode cX4_broken 41 = .ok (.ifCond .ne 5, 3) := by decide +kernel
theorem dX4_broken_44 : decode cX4_broken 44 = .ok (.iconst 1, 1) := by decide +kernel
theorem dX4_broken_45 : decode cX4_broken 45 = .ok (.ireturn, 1) := by decide +kernel
theorem dX4_broken_46 : decode cX4_broken 46 = .ok (.iload 6, 2) := by decide +kernel
theorem dX4_broken_48 : decode cX4_broken 48 = .ok (.iconst 4, 1) := by decide +kernel
theorem dX4_broken_49 : decode cX4_broken 49 = .ok (.invokestatic 98, 3) := by decide +kernel
theorem dX4_broken_52 : decode cX4_broken 52 = .ok (.ifCond .eq 14, 3) := by decide +kernel
theorem dX4_broken_55 : decode cX4_broken 55 = .ok (.iload 4, 2) := by decide +kernel
theorem dX4_broken_57 : decode cX4_broken 57 = .ok (.iconst 4, 1) := by decide +kernel
theorem dX4_broken_58 : decode cX4_broken 58 = .ok (.invokestatic 98, 3) := by decide +kernel
theorem dX4_broken_61 : decode cX4_broken 61 = .ok (.ifCond .ne 5, 3) := by decide +kernel
theorem dX4_broken_64 : decode cX4_broken 64 = .ok (.iconst 2, 1) := by decide +kernel
theorem dX4_broken_65 : decode cX4_broken 65 = .ok (.ireturn, 1) := by decide +kernel
theorem dX4_broken_66 : decode cX4_broken 66 = .ok (.iload 6, 2) := by decide +kernel
theorem dX4_broken_68 : decode cX4_broken 68 = .ok (.iconst 0, 1) := by decide +kernel
theorem dX4_broken_69 : decode cX4_broken 69 = .ok (.invokestatic 98, 3) := by decide +kernel
theorem dX4_broken_72 : decode cX4_broken 72 = .ok (.ifCond .eq 14, 3) := by decide +kernel
theorem dX4_broken_75 : decode cX4_broken 75 = .ok (.iload 5, 2) := by decide +kernel
theorem dX4_broken_77 : decode cX4_broken 77 = .ok (.iconst 0, 1) := by decide +kernel
theorem dX4_broken_78 : decode cX4_broken 78 = .ok (.invokestatic 98, 3) := by decide +kernel
theorem dX4_broken_81 : decode cX4_broken 81 = .ok (.ifCond .ne 5, 3) := by decide +kernel
theorem dX4_broken_84 : decode cX4_broken 84 = .ok (.iconst 3, 1) := by decide +kernel
theorem dX4_broken_85 : decode cX4_broken 85 = .ok (.ireturn, 1) := by decide +kernel
theorem dX4_broken_86 : decode cX4_broken 86 = .ok (.iload_n 0, 1) := by decide +kernel
theorem dX4_broken_87 : decode cX4_broken 87 = .ok (.iconst 1, 1) := by decide +kernel
theorem dX4_broken_88 : decode cX4_broken 88 = .ok (.iand, 1) := by decide +kernel
theorem dX4_broken_89 : decode cX4_broken 89 = .ok (.iload_n 1, 1) := by decide +kernel
theorem dX4_broken_90 : decode cX4_broken 90 = .ok (.iconst 1, 1) := by decide +kernel
theorem dX4_broken_91 : decode cX4_broken 91 = .ok (.iand, 1) := by decide +kernel
theorem dX4_broken_92 : decode cX4_broken 92 = .ok (.iadd, 1) := by decide +kernel
theorem dX4_broken_93 : decode cX4_broken 93 = .ok (.istore 7, 2) := by decide +kernel
theorem dX4_broken_95 : decode cX4_broken 95 = .ok (.iload 7, 2) := by decide +kernel
theorem dX4_broken_97 : decode cX4_broken 97 = .ok (.iconst 2, 1) := by decide +kernel
theorem dX4_broken_98 : decode cX4_broken 98 = .ok (.if_icmp .ne 5, 3) := by decide +kernel
theorem dX4_broken_101 : decode cX4_broken 101 = .ok (.iconst 4, 1) := by decide +kernel
theorem dX4_broken_102 : decode cX4_broken 102 = .ok (.ireturn, 1) := by decide +kernel
theorem dX4_broken_103 : decode cX4_broken 103 = .ok (.iload 7, 2) := by decide +kernel
theorem dX4_broken_105 : decode cX4_broken 105 = .ok (.iload_n 2, 1) := by decide +kernel
theorem dX4_broken_106 : decode cX4_broken 106 = .ok (.iconst 1, 1) := by decide +kernel
theorem dX4_broken_107 : decode cX4_broken 107 = .ok (.iand, 1) := by decide +kernel
theorem dX4_broken_108 : decode cX4_broken 108 = .ok (.if_icmp .eq 7, 3) := by decide +kernel
theorem dX4_broken_111 : decode cX4_broken 111 = .ok (.iconst 5, 1) := by decide +kernel
theorem dX4_broken_112 : decode cX4_broken 112 = .ok (.goto 5, 3) := by decide +kernel
theorem dX4_broken_115 : decode cX4_broken 115 = .ok (.bipush 6, 2) := by decide +kernel
theorem dX4_broken_117 : decode cX4_broken 117 = .ok (.ireturn, 1) := by decide +kernel
theorem dX5_init_0 : decode cX5_init 0 = .ok (.aload_n 0, 1) := by decide +kernel
theorem dX5_init_1 : decode cX5_init 1 = .ok (.invokespecial 3, 3) := by decide +kernel
theorem dX5_init_4 : decode cX5_init 4 = .ok (.aload_n 0, 1) := by decide +kernel
theorem dX5_init_5 : decode cX5_init 5 = .ok (.sipush 2304, 3) := by decide +kernel
theorem dX5_init_8 : decode cX5_init 8 = .ok (.newarray .int, 2) := by decide +kernel
theorem dX5_init_10 : decode cX5_init 10 = .ok (.putfield 9, 3) := by decide +kernel
theorem dX5_init_13 : decode cX5_init 13 = .ok (.aload_n 0, 1) := by decide +kernel
theorem dX5_init_14 : decode cX5_init 14 = .ok (.sipush 2304, 3) := by decide +kernel
theorem dX5_init_17 : decode cX5_init 17 = .ok (.newarray .int, 2) := by decide +kernel
theorem dX5_init_19 : decode cX5_init 19 = .ok (.putfield 15, 3) := by decide +kernel
theorem dX5_init_22 : decode cX5_init 22 = .ok (.aload_n 0, 1) := by decide +kernel
theorem dX5_init_23 : decode cX5_init 23 = .ok (.bipush 96, 2) := by decide +kernel
theorem dX5_init_25 : decode cX5_init 25 = .ok (.newarray .int, 2) := by decide +kernel
theorem dX5_init_27 : decode cX5_init 27 = .ok (.putfield 18, 3) := by decide +kernel
theorem dX5_init_30 : decode cX5_init 30 = .ok (.aload_n 0, 1) := by decide +kernel
theorem dX5_init_31 : decode cX5_init 31 = .ok (.bipush 96, 2) := by decide +kernel
theorem dX5_init_33 : decode cX5_init 33 = .ok (.newarray .int, 2) := by decide +kernel
theorem dX5_init_35 : decode cX5_init 35 = .ok (.putfield 21, 3) := by decide +kernel
theorem dX5_init_38 : decode cX5_init 38 = .ok (.aload_n 0, 1) := by decide +kernel
theorem dX5_init_39 : decode cX5_init 39 = .ok (.sipush 2304, 3) := by decide +kernel
theorem dX5_init_42 : decode cX5_init 42 = .ok (.newarray .int, 2) := by decide +kernel
theorem dX5_init_44 : decode cX5_init 44 = .ok (.putfield 24, 3) := by decide +kernel
theorem dX5_init_47 : decode cX5_init 47 = .ok (.aload_n 0, 1) := by decide +kernel
theorem dX5_init_48 : decode cX5_init 48 = .ok (.iconst (-1), 1) := by decide +kernel
theorem dX5_init_49 : decode cX5_init 49 = .ok (.putfield 27, 3) := by decide +kernel
theorem dX5_init_52 : decode cX5_init 52 = .ok (.aload_n 0, 1) := by decide +kernel
theorem dX5_init_53 : decode cX5_init 53 = .ok (.aload_n 1, 1) := by decide +kernel
theorem dX5_init_54 : decode cX5_init 54 = .ok (.putfield 31, 3) := by decide +kernel
theorem dX5_init_57 : decode cX5_init 57 = .ok (.return_, 1) := by decide +kernel
theorem dX5_stepsTo_0 : decode cX5_stepsTo 0 = .ok (.aload_n 0, 1) := by decide +kernel
theorem dX5_stepsTo_1 : decode cX5_stepsTo 1 = .ok (.invokevirtual 35, 3) := by decide +kernel
theorem dX5_stepsTo_4 : decode cX5_stepsTo 4 = .ok (.aload_n 0, 1) := by decide +kernel
theorem dX5_stepsTo_5 : decode cX5_stepsTo 5 = .ok (.getfield 9, 3) := by decide +kernel
theorem dX5_stepsTo_8 : decode cX5_stepsTo 8 = .ok (.iload_n 1, 1) := by decide +kernel
theorem dX5_stepsTo_9 : decode cX5_stepsTo 9 = .ok (.iaload, 1) := by decide +kernel
theorem dX5_stepsTo_10 : decode cX5_stepsTo 10 = .ok (.ldc 38, 2) := by decide +kernel
theorem dX5_stepsTo_12 : decode cX5_stepsTo 12 = .ok (.if_icmp .ge 12, 3) := by decide +kernel
theorem dX5_stepsTo_15 : decode cX5_stepsTo 15 = .ok (.aload_n 0, 1) := by decide +kernel
theorem dX5_stepsTo_16 : decode cX5_stepsTo 16 = .ok (.getfield 9, 3) := by decide +kernel
theorem dX5_stepsTo_19 : decode cX5_stepsTo 19 = .ok (.iload_n 1, 1) := by decide +kernel
theorem dX5_stepsTo_20 : decode cX5_stepsTo 20 = .ok (.iaload, 1) := by decide +kernel
theorem dX5_stepsTo_21 : decode cX5_stepsTo 21 = .ok (.goto 5, 3) := by decide +kernel
theorem dX5_stepsTo_24 : decode cX5_stepsTo 24 = .ok (.bipush (-2), 2) := by decide +kernel
theorem dX5_stepsTo_26 : decode cX5_stepsTo 26 = .ok (.ireturn, 1) := by decide +kernel
theorem dX5_settle_0 : decode cX5_settle 0 = .ok (.aload_n 0, 1) := by decide +kernel
theorem dX5_settle_1 : decode cX5_settle 1 = .ok (.getfield 31, 3) := by decide +kernel
theorem dX5_settle_4 : decode cX5_settle 4 = .ok (.invokevirtual 39, 3) := by decide +kernel
theorem dX5_settle_7 : decode cX5_settle 7 = .ok (.istore_n 1, 1) := by decide +kernel
theorem dX5_settle_8 : decode cX5_settle 8 = .ok (.aload_n 0, 1) := by decide +kernel
theorem dX5_settle_9 : decode cX5_settle 9 = .ok (.getfield 27, 3) := by decide +kernel
theorem dX5_settle_12 : decode cX5_settle 12 = .ok (.iload_n 1, 1) := by decide +kernel
theorem dX5_settle_13 : decode cX5_settle 13 = .ok (.if_icmp .ne 32, 3) := by decide +kernel
theorem dX5_settle_16 : decode cX5_settle 16 = .ok (.aload_n 0, 1) := by decide +kernel
theorem dX5_settle_17 : decode cX5_settle 17 = .ok (.getfield 45, 3) := by decide +kernel
theorem dX5_settle_20 : decode cX5_settle 20 = .ok (.aload_n 0, 1) := by decide +kernel
theorem dX5_settle_21 : decode cX5_settle 21 = .ok (.getfield 31, 3) := by decide +kernel
theorem dX5_settle_24 : decode cX5_settle 24 = .ok (.getfield 48, 3) := by decide +kernel
theorem dX5_settle_27 : decode cX5_settle 27 = .ok (.if_icmp .ne 18, 3) := by decide +kernel
theorem dX5_settle_30 : decode cX5_settle 30 = .ok (.aload_n 0, 1) := by decide +kernel
theorem dX5_settle_31 : decode cX5_settle 31 = .ok (.getfield 51, 3) := by decide +kernel
theorem dX5_settle_34 : decode cX5_settle 34 = .ok (.aload_n 0, 1) := by decide +kernel
theorem dX5_settle_35 : decode cX5_settle 35 = .ok (.getfield 31, 3) := by decide +kernel
theorem dX5_settle_38 : decode cX5_settle 38 = .ok (.getfield 54, 3) := by decide +kernel
theorem dX5_settle_41 : decode cX5_settle 41 = .ok (.if_icmp .ne 4, 3) := by decide +kernel
theorem dX5_settle_44 : decode cX5_settle 44 = .ok (.return_, 1) := by decide +kernel
theorem dX5_settle_45 : decode cX5_settle 45 = .ok (.aload_n 0, 1) := by decide +kernel
theorem dX5_settle_46 : decode cX5_settle 46 = .ok (.iload_n 1, 1) := by decide +kernel
theorem dX5_settle_47 : decode cX5_settle 47 = .ok (.putfield 27, 3) := by decide +kernel
theorem dX5_settle_50 : decode cX5_settle 50 = .ok (.aload_n 0, 1) := by decide +kernel
theorem dX5_settle_51 : decode cX5_settle 51 = .ok (.aload_n 0, 1) := by decide +kernel
theorem dX5_settle_52 : decode cX5_settle 52 = .ok (.getfield 31, 3) := by decide +kernel
theorem dX5_settle_55 : decode cX5_settle 55 = .ok (.getfield 48, 3) := by decide +kernel
theorem dX5_settle_58 : decode cX5_settle 58 = .ok (.putfield 45, 3) := by decide +kernel
theorem dX5_settle_61 : decode cX5_settle 61 = .ok (.aload_n 0, 1) := by decide +kernel
theorem dX5_settle_62 : decode cX5_settle 62 = .ok (.aload_n 0, 1) := by decide +kernel
theorem dX5_settle_63 : decode cX5_settle 63 = .ok (.getfield 31, 3) := by decide +kernel
theorem dX5_settle_66 : decode cX5_settle 66 = .ok (.getfield 54, 3) := by decide +kernel
theorem dX5_settle_69 : decode cX5_settle 69 = .ok (.putfield 51, 3) := by decide +kernel
theorem dX5_settle_72 : decode cX5_settle 72 = .ok (.iconst 0, 1) := by decide +kernel
theorem dX5_settle_73 : decode cX5_settle 73 = .ok (.istore_n 2, 1) := by decide +kernel
theorem dX5_settle_74 : decode cX5_settle 74 = .ok (.iload_n 2, 1) := by decide +kernel
theorem dX5_settle_75 : decode cX5_settle 75 = .ok (.sipush 2304, 3) := by decide +kernel
theorem dX5_settle_78 : decode cX5_settle 78 = .ok (.if_icmp .ge 17, 3) := by decide +kernel
theorem dX5_settle_81 : decode cX5_settle 81 = .ok (.aload_n 0, 1) := by decide +kernel
theorem dX5_settle_82 : decode cX5_settle 82 = .ok (.getfield 9, 3) := by decide +kernel
theorem dX5_settle_85 : decode cX5_settle 85 = .ok (.iload_n 2, 1) := by decide +kernel
theorem dX5_settle_86 : decode cX5_settle 86 = .ok (.ldc 38, 2) := by decide +kernel
theorem dX5_settle_88 : decode cX5_settle 88 = .ok (.iastore, 1) := by decide +kernel
theorem dX5_settle_89 : decode cX5_settle 89 = .ok (.iinc 2 1, 3) := by decide +kernel
theorem dX5_settle_92 : decode cX5_settle 92 = .ok (.goto (-18), 3) := by decide +kernel
theorem dX5_settle_95 : decode cX5_settle 95 = .ok (.iconst 0, 1) := by decide +kernel
theorem dX5_settle_96 : decode cX5_settle 96 = .ok (.istore_n 2, 1) := by decide +kernel
theorem dX5_settle_97 : decode cX5_settle 97 = .ok (.iload_n 2, 1) := by decide +kernel
theorem dX5_settle_98 : decode cX5_settle 98 = .ok (.aload_n 0, 1) := by decide +kernel
theorem dX5_settle_99 : decode cX5_settle 99 = .ok (.getfield 18, 3) := by decide +kernel
theorem dX5_settle_102 : decode cX5_settle 102 = .ok (.arraylength, 1) := by decide +kernel
theorem dX5_settle_103 : decode cX5_settle 103 = .ok (.if_icmp .ge 23, 3) := by decide +kernel
theorem dX5_settle_106 : decode cX5_settle 106 = .ok (.aload_n 0, 1) := by decide +kernel
theorem dX5_settle_107 : decode cX5_settle 107 = .ok (.getfield 18, 3) := by decide +kernel
theorem dX5_settle_110 : decode cX5_settle 110 = .ok (.iload_n 2, 1) := by decide +kernel
theorem dX5_settle_111 : decode cX5_settle 111 = .ok (.iconst 0, 1) := by decide +kernel
theorem dX5_settle_112 : decode cX5_settle 112 = .ok (.iastore, 1) := by decide +kernel
theorem dX5_settle_113 : decode cX5_settle 113 = .ok (.aload_n 0, 1) := by decide +kernel
theorem dX5_settle_114 : decode cX5_settle 114 = .ok (.getfield 21, 3) := by decide +kernel
theorem dX5_settle_117 : decode cX5_settle 117 = .ok (.iload_n 2, 1) := by decide +kernel
theorem dX5_settle_118 : decode cX5_settle 118 = .ok (.iconst 0, 1) := by decide +kernel
theorem dX5_settle_119 : decode cX5_settle 119 = .ok (.iastore, 1) := by decide +kernel
theorem dX5_settle_120 : decode cX5_settle 120 = .ok (.iinc 2 1, 3) := by decide +kernel
theorem dX5_settle_123 : decode cX5_settle 123 = .ok (.goto (-26), 3) := by decide +kernel
theorem dX5_settle_126 : decode cX5_settle 126 = .ok (.aload_n 0, 1) := by decide +kernel
theorem dX5_settle_127 : decode cX5_settle 127 = .ok (.iconst 0, 1) := by decide +kernel
theorem dX5_settle_128 : decode cX5_settle 128 = .ok (.putfield 57, 3) := by decide +kernel
theorem dX5_settle_131 : decode cX5_settle 131 = .ok (.iconst 0, 1) := by decide +kernel
theorem dX5_settle_132 : decode cX5_settle 132 = .ok (.istore_n 2, 1) := by decide +kernel
theorem dX5_settle_133 : decode cX5_settle 133 = .ok (.iload_n 2, 1) := by decide +kernel
theorem dX5_settle_134 : decode cX5_settle 134 = .ok (.aload_n 0, 1) := by decide +kernel
theorem dX5_settle_135 : decode cX5_settle 135 = .ok (.getfield 31, 3) := by decide +kernel
theorem dX5_settle_138 : decode cX5_settle 138 = .ok (.getfield 60, 3) := by decide +kernel
theorem dX5_settle_141 : decode cX5_settle 141 = .ok (.if_icmp .ge 34, 3) := by decide +kernel
theorem dX5_settle_144 : decode cX5_settle 144 = .ok (.aload_n 0, 1) := by decide +kernel
theorem dX5_settle_145 : decode cX5_settle 145 = .ok (.getfield 31, 3) := by decide +kernel
theorem dX5_settle_148 : decode cX5_settle 148 = .ok (.iload_n 2, 1) := by decide +kernel
theorem dX5_settle_149 : decode cX5_settle 149 = .ok (.invokevirtual 63, 3) := by decide +kernel
theorem dX5_settle_152 : decode cX5_settle 152 = .ok (.ifCond .eq 17, 3) := by decide +kernel
theorem dX5_settle_155 : decode cX5_settle 155 = .ok (.aload_n 0, 1) := by decide +kernel
theorem dX5_settle_156 : decode cX5_settle 156 = .ok (.aload_n 0, 1) := by decide +kernel
theorem dX5_settle_157 : decode cX5_settle 157 = .ok (.getfield 31, 3) := by decide +kernel
theorem dX5_settle_160 : decode cX5_settle 160 = .ok (.getfield 67, 3) := by decide +kernel
theorem dX5_settle_163 : decode cX5_settle 163 = .ok (.iload_n 2, 1) := by decide +kernel
theorem dX5_settle_164 : decode cX5_settle 164 = .ok (.iaload, 1) := by decide +kernel
theorem dX5_settle_165 : decode cX5_settle 165 = .ok (.iconst 0, 1) := by decide +kernel
theorem dX5_settle_166 : decode cX5_settle 166 = .ok (.invokevirtual 70, 3) := by decide +kernel
theorem dX5_settle_169 : decode cX5_settle 169 = .ok (.iinc 2 1, 3) := by decide +kernel
theorem dX5_settle_172 : decode cX5_settle 172 = .ok (.goto (-39), 3) := by decide +kernel
theorem dX5_settle_175 : decode cX5_settle 175 = .ok (.aload_n 0, 1) := by decide +kernel
theorem dX5_settle_176 : decode cX5_settle 176 = .ok (.iconst 0, 1) := by decide +kernel
theorem dX5_settle_177 : decode cX5_settle 177 = .ok (.putfield 74, 3) := by decide +kernel
theorem dX5_settle_180 : decode cX5_settle 180 = .ok (.aload_n 0, 1) := by decide +kernel
theorem dX5_settle_181 : decode cX5_settle 181 = .ok (.iconst 0, 1) := by decide +kernel
theorem dX5_settle_182 : decode cX5_settle 182 = .ok (.putfield 77, 3) := by decide +kernel
theorem dX5_settle_185 : decode cX5_settle 185 = .ok (.iconst 0, 1) := by decide +kernel
theorem dX5_settle_186 : decode cX5_settle 186 = .ok (.istore_n 2, 1) := by decide +kernel
theorem dX5_settle_187 : decode cX5_settle 187 = .ok (.iload_n 2, 1) := by decide +kernel
theorem dX5_settle_188 : decode cX5_settle 188 = .ok (.sipush 2304, 3) := by decide +kernel
theorem dX5_settle_191 : decode cX5_settle 191 = .ok (.if_icmp .ge 24, 3) := by decide +kernel
theorem dX5_settle_194 : decode cX5_settle 194 = .ok (.aload_n 0, 1) := by decide +kernel
theorem dX5_settle_195 : decode cX5_settle 195 = .ok (.getfield 74, 3) := by decide +kernel
theorem dX5_settle_198 : decode cX5_settle 198 = .ok (.aload_n 0, 1) := by decide +kernel
theorem dX5_settle_199 : decode cX5_settle 199 = .ok (.getfield 57, 3) := by decide +kernel
theorem dX5_settle_202 : decode cX5_settle 202 = .ok (.if_icmp .ge 13, 3) := by decide +kernel
theorem dX5_settle_205 : decode cX5_settle 205 = .ok (.aload_n 0, 1) := by decide +kernel
theorem dX5_settle_206 : decode cX5_settle 206 = .ok (.invokevirtual 80, 3) := by decide +kernel
theorem dX5_settle_209 : decode cX5_settle 209 = .ok (.iinc 2 1, 3) := by decide +kernel
theorem dX5_settle_212 : decode cX5_settle 212 = .ok (.goto (-25), 3) := by decide +kernel
theorem dX5_settle_215 : decode cX5_settle 215 = .ok (.return_, 1) := by decide +kernel
theorem dX5_settleShortest_0 : decode cX5_settleShortest 0 = .ok (.ldc 38, 2) := by decide +kernel
theorem dX5_settleShortest_2 : decode cX5_settleShortest 2 = .ok (.istore_n 1, 1) := by decide +kernel
theorem dX5_settleShortest_3 : decode cX5_settleShortest 3 = .ok (.aload_n 0, 1) := by decide +kernel
theorem dX5_settleShortest_4 : decode cX5_settleShortest 4 = .ok (.getfield 74, 3) := by decide +kernel
theorem dX5_settleShortest_7 : decode cX5_settleShortest 7 = .ok (.istore_n 2, 1) := by decide +kernel
theorem dX5_settleShortest_8 : decode cX5_settleShortest 8 = .ok (.iload_n 2, 1) := by decide +kernel
theorem dX5_settleShortest_9 : decode cX5_settleShortest 9 = .ok (.aload_n 0, 1) := by decide +kernel
theorem dX5_settleShortest_10 : decode cX5_settleShortest 10 = .ok (.getfield 57, 3) := by decide +kernel
theorem dX5_settleShortest_13 : decode cX5_settleShortest 13 = .ok (.if_icmp .ge 25, 3) := by decide +kernel
theorem dX5_settleShortest_16 : decode cX5_settleShortest 16 = .ok (.iload_n 1, 1) := by decide +kernel
theorem dX5_settleShortest_17 : decode cX5_settleShortest 17 = .ok (.aload_n 0, 1) := by decide +kernel
theorem dX5_settleShortest_18 : decode cX5_settleShortest 18 = .ok (.getfield 9, 3) := by decide +kernel
theorem dX5_settleShortest_21 : decode cX5_settleShortest 21 = .ok (.aload_n 0, 1) := by decide +kernel
theorem dX5_settleShortest_22 : decode cX5_settleShortest 22 = .ok (.getfield 15, 3) := by decide +kernel
theorem dX5_settleShortest_25 : decode cX5_settleShortest 25 = .ok (.iload_n 2, 1) := by decide +kernel
theorem dX5_settleShortest_26 : decode cX5_settleShortest 26 = .ok (.iaload, 1) := by decide +kernel
theorem dX5_settleShortest_27 : decode cX5_settleShortest 27 = .ok (.iaload, 1) := by decide +kernel
theorem dX5_settleShortest_28 : decode cX5_settleShortest 28 = .ok (.invokestatic 83, 3) := by decide +kernel
theorem dX5_settleShortest_31 : decode cX5_settleShortest 31 = .ok (.istore_n 1, 1) := by decide +kernel
theorem dX5_settleShortest_32 : decode cX5_settleShortest 32 = .ok (.iinc 2 1, 3) := by decide +kernel
theorem dX5_settleShortest_35 : decode cX5_settleShortest 35 = .ok (.goto (-27), 3) := by decide +kernel
theorem dX5_settleShortest_38 : decode cX5_settleShortest 38 = .ok (.aload_n 0, 1) := by decide +kernel
theorem dX5_settleShortest_39 : decode cX5_settleShortest 39 = .ok (.getfield 74, 3) := by decide +kernel
theorem dX5_settleShortest_42 : decode cX5_settleShortest 42 = .ok (.istore_n 2, 1) := by decide +kernel
theorem dX5_settleShortest_43 : decode cX5_settleShortest 43 = .ok (.iload_n 2, 1) := by decide +kernel
theorem dX5_settleShortest_44 : decode cX5_settleShortest 44 = .ok (.istore_n 3, 1) := by decide +kernel
theorem dX5_settleShortest_45 : decode cX5_settleShortest 45 = .ok (.iload_n 3, 1) := by decide +kernel
theorem dX5_settleShortest_46 : decode cX5_settleShortest 46 = .ok (.aload_n 0, 1) := by decide +kernel
theorem dX5_settleShortest_47 : decode cX5_settleShortest 47 = .ok (.getfield 57, 3) := by decide +kernel
theorem dX5_settleShortest_50 : decode cX5_settleShortest 50 = .ok (.if_icmp .ge 113, 3) := by decide +kernel
theorem dX5_settleShortest_53 : decode cX5_settleShortest 53 = .ok (.aload_n 0, 1) := by decide +kernel
theorem dX5_settleShortest_54 : decode cX5_settleShortest 54 = .ok (.getfield 15, 3) := by decide +kernel
theorem dX5_settleShortest_57 : decode cX5_settleShortest 57 = .ok (.iload_n 3, 1) := by decide +kernel
theorem dX5_settleShortest_58 : decode cX5_settleShortest 58 = .ok (.iaload, 1) := by decide +kernel
theorem dX5_settleShortest_59 : decode cX5_settleShortest 59 = .ok (.istore 4, 2) := by decide +kernel
theorem dX5_settleShortest_61 : decode cX5_settleShortest 61 = .ok (.aload_n 0, 1) := by decide +kernel
theorem dX5_settleShortest_62 : decode cX5_settleShortest 62 = .ok (.getfield 9, 3) := by decide +kernel
theorem dX5_settleShortest_65 : decode cX5_settleShortest 65 = .ok (.iload 4, 2) := by decide +kernel
theorem dX5_settleShortest_67 : decode cX5_settleShortest 67 = .ok (.iaload, 1) := by decide +kernel
theorem dX5_settleShortest_68 : decode cX5_settleShortest 68 = .ok (.iload_n 1, 1) := by decide +kernel
theorem dX5_settleShortest_69 : decode cX5_settleShortest 69 = .ok (.if_icmp .ne 88, 3) := by decide +kernel
theorem dX5_settleShortest_72 : decode cX5_settleShortest 72 = .ok (.aload_n 0, 1) := by decide +kernel
theorem dX5_settleShortest_73 : decode cX5_settleShortest 73 = .ok (.getfield 15, 3) := by decide +kernel
theorem dX5_settleShortest_76 : decode cX5_settleShortest 76 = .ok (.iload_n 3, 1) := by decide +kernel
theorem dX5_settleShortest_77 : decode cX5_settleShortest 77 = .ok (.aload_n 0, 1) := by decide +kernel
theorem dX5_settleShortest_78 : decode cX5_settleShortest 78 = .ok (.getfield 15, 3) := by decide +kernel
theorem dX5_settleShortest_81 : decode cX5_settleShortest 81 = .ok (.aload_n 0, 1) := by decide +kernel
theorem dX5_settleShortest_82 : decode cX5_settleShortest 82 = .ok (.getfield 74, 3) := by decide +kernel
theorem dX5_settleShortest_85 : decode cX5_settleShortest 85 = .ok (.iaload, 1) := by decide +kernel
theorem dX5_settleShortest_86 : decode cX5_settleShortest 86 = .ok (.iastore, 1) := by decide +kernel
theorem dX5_settleShortest_87 : decode cX5_settleShortest 87 = .ok (.aload_n 0, 1) := by decide +kernel
theorem dX5_settleShortest_88 : decode cX5_settleShortest 88 = .ok (.getfield 15, 3) := by decide +kernel
theorem dX5_settleShortest_91 : decode cX5_settleShortest 91 = .ok (.aload_n 0, 1) := by decide +kernel
theorem dX5_settleShortest_92 : decode cX5_settleShortest 92 = .ok (.getfield 74, 3) := by decide +kernel
theorem dX5_settleShortest_95 : decode cX5_settleShortest 95 = .ok (.iload 4, 2) := by decide +kernel
theorem dX5_settleShortest_97 : decode cX5_settleShortest 97 = .ok (.iastore, 1) := by decide +kernel
theorem dX5_settleShortest_98 : decode cX5_settleShortest 98 = .ok (.aload_n 0, 1) := by decide +kernel
theorem dX5_settleShortest_99 : decode cX5_settleShortest 99 = .ok (.dup, 1) := by decide +kernel
theorem dX5_settleShortest_100 : decode cX5_settleShortest 100 = .ok (.getfield 74, 3) := by decide +kernel
theorem dX5_settleShortest_103 : decode cX5_settleShortest 103 = .ok (.iconst 1, 1) := by decide +kernel
theorem dX5_settleShortest_104 : decode cX5_settleShortest 104 = .ok (.iadd, 1) := by decide +kernel
theorem dX5_settleShortest_105 : decode cX5_settleShortest 105 = .ok (.putfield 74, 3) := by decide +kernel
theorem dX5_settleShortest_108 : decode cX5_settleShortest 108 = .ok (.aload_n 0, 1) := by decide +kernel
theorem dX5_settleShortest_109 : decode cX5_settleShortest 109 = .ok (.getfield 18, 3) := by decide +kernel
theorem dX5_settleShortest_112 : decode cX5_settleShortest 112 = .ok (.iload 4, 2) := by decide +kernel
theorem dX5_settleShortest_114 : decode cX5_settleShortest 114 = .ok (.bipush 24, 2) := by decide +kernel
theorem dX5_settleShortest_116 : decode cX5_settleShortest 116 = .ok (.idiv, 1) := by decide +kernel
theorem dX5_settleShortest_117 : decode cX5_settleShortest 117 = .ok (.dup2, 1) := by decide +kernel
theorem dX5_settleShortest_118 : decode cX5_settleShortest 118 = .ok (.iaload, 1) := by decide +kernel
theorem dX5_settleShortest_119 : decode cX5_settleShortest 119 = .ok (.iconst 1, 1) := by decide +kernel
theorem dX5_settleShortest_120 : decode cX5_settleShortest 120 = .ok (.iload 4, 2) := by decide +kernel
theorem dX5_settleShortest_122 : decode cX5_settleShortest 122 = .ok (.invokestatic 89, 3) := by decide +kernel
theorem dX5_settleShortest_125 : decode cX5_settleShortest 125 = .ok (.ishl, 1) := by decide +kernel
theorem dX5_settleShortest_126 : decode cX5_settleShortest 126 = .ok (.ior, 1) := by decide +kernel
theorem dX5_settleShortest_127 : decode cX5_settleShortest 127 = .ok (.iastore, 1) := by decide +kernel
theorem dX5_settleShortest_128 : decode cX5_settleShortest 128 = .ok (.aload_n 0, 1) := by decide +kernel
theorem dX5_settleShortest_129 : decode cX5_settleShortest 129 = .ok (.getfield 21, 3) := by decide +kernel
theorem dX5_settleShortest_132 : decode cX5_settleShortest 132 = .ok (.bipush 24, 2) := by decide +kernel
theorem dX5_settleShortest_134 : decode cX5_settleShortest 134 = .ok (.iload 4, 2) := by decide +kernel
theorem dX5_settleShortest_136 : decode cX5_settleShortest 136 = .ok (.invokestatic 95, 3) := by decide +kernel
theorem dX5_settleShortest_139 : decode cX5_settleShortest 139 = .ok (.imul, 1) := by decide +kernel
theorem dX5_settleShortest_140 : decode cX5_settleShortest 140 = .ok (.iload 4, 2) := by decide +kernel
theorem dX5_settleShortest_142 : decode cX5_settleShortest 142 = .ok (.invokestatic 89, 3) := by decide +kernel
theorem dX5_settleShortest_145 : decode cX5_settleShortest 145 = .ok (.iadd, 1) := by decide +kernel
theorem dX5_settleShortest_146 : decode cX5_settleShortest 146 = .ok (.dup2, 1) := by decide +kernel
theorem dX5_settleShortest_147 : decode cX5_settleShortest 147 = .ok (.iaload, 1) := by decide +kernel
theorem dX5_settleShortest_148 : decode cX5_settleShortest 148 = .ok (.iconst 1, 1) := by decide +kernel
theorem dX5_settleShortest_149 : decode cX5_settleShortest 149 = .ok (.iload 4, 2) := by decide +kernel
theorem dX5_settleShortest_151 : decode cX5_settleShortest 151 = .ok (.invokestatic 98, 3) := by decide +kernel
theorem dX5_settleShortest_154 : decode cX5_settleShortest 154 = .ok (.ishl, 1) := by decide +kernel
theorem dX5_settleShortest_155 : decode cX5_settleShortest 155 = .ok (.ior, 1) := by decide +kernel
theorem dX5_settleShortest_156 : decode cX5_settleShortest 156 = .ok (.iastore, 1) := by decide +kernel
theorem dX5_settleShortest_157 : decode cX5_settleShortest 157 = .ok (.iinc 3 1, 3) := by decide +kernel
theorem dX5_settleShortest_160 : decode cX5_settleShortest 160 = .ok (.goto (-115), 3) := by decide +kernel
theorem dX5_settleShortest_163 : decode cX5_settleShortest 163 = .ok (.aload_n 0, 1) := by decide +kernel
theorem dX5_settleShortest_164 : decode cX5_settleShortest 164 = .ok (.iload_n 1, 1) := by decide +kernel
theorem dX5_settleShortest_165 : decode cX5_settleShortest 165 = .ok (.putfield 77, 3) := by decide +kernel
theorem dX5_settleShortest_168 : decode cX5_settleShortest 168 = .ok (.iload_n 2, 1) := by decide +kernel
theorem dX5_settleShortest_169 : decode cX5_settleShortest 169 = .ok (.istore_n 3, 1) := by decide +kernel
theorem dX5_settleShortest_170 : decode cX5_settleShortest 170 = .ok (.iload_n 3, 1) := by decide +kernel
theorem dX5_settleShortest_171 : decode cX5_settleShortest 171 = .ok (.aload_n 0, 1) := by decide +kernel
theorem dX5_settleShortest_172 : decode cX5_settleShortest 172 = .ok (.getfield 74, 3) := by decide +kernel
theorem dX5_settleShortest_175 : decode cX5_settleShortest 175 = .ok (.if_icmp .ge 39, 3) := by decide +kernel
theorem dX5_settleShortest_178 : decode cX5_settleShortest 178 = .ok (.aload_n 0, 1) := by decide +kernel
theorem dX5_settleShortest_179 : decode cX5_settleShortest 179 = .ok (.aload_n 0, 1) := by decide +kernel
theorem dX5_settleShortest_180 : decode cX5_settleShortest 180 = .ok (.getfield 15, 3) := by decide +kernel
theorem dX5_settleShortest_183 : decode cX5_settleShortest 183 = .ok (.iload_n 3, 1) := by decide +kernel
theorem dX5_settleShortest_184 : decode cX5_settleShortest 184 = .ok (.iaload, 1) := by decide +kernel
theorem dX5_settleShortest_185 : decode cX5_settleShortest 185 = .ok (.invokevirtual 101, 3) := by decide +kernel
theorem dX5_settleShortest_188 : decode cX5_settleShortest 188 = .ok (.aload_n 0, 1) := by decide +kernel
theorem dX5_settleShortest_189 : decode cX5_settleShortest 189 = .ok (.aload_n 0, 1) := by decide +kernel
theorem dX5_settleShortest_190 : decode cX5_settleShortest 190 = .ok (.getfield 15, 3) := by decide +kernel
theorem dX5_settleShortest_193 : decode cX5_settleShortest 193 = .ok (.iload_n 3, 1) := by decide +kernel
theorem dX5_settleShortest_194 : decode cX5_settleShortest 194 = .ok (.iaload, 1) := by decide +kernel
theorem dX5_settleShortest_195 : decode cX5_settleShortest 195 = .ok (.invokevirtual 105, 3) := by decide +kernel
theorem dX5_settleShortest_198 : decode cX5_settleShortest 198 = .ok (.aload_n 0, 1) := by decide +kernel
theorem dX5_settleShortest_199 : decode cX5_settleShortest 199 = .ok (.aload_n 0, 1) := by decide +kernel
theorem dX5_settleShortest_200 : decode cX5_settleShortest 200 = .ok (.getfield 15, 3) := by decide +kernel
theorem dX5_settleShortest_203 : decode cX5_settleShortest 203 = .ok (.iload_n 3, 1) := by decide +kernel
theorem dX5_settleShortest_204 : decode cX5_settleShortest 204 = .ok (.iaload, 1) := by decide +kernel
theorem dX5_settleShortest_205 : decode cX5_settleShortest 205 = .ok (.invokevirtual 108, 3) := by decide +kernel
theorem dX5_settleShortest_208 : decode cX5_settleShortest 208 = .ok (.iinc 3 1, 3) := by decide +kernel
theorem dX5_settleShortest_211 : decode cX5_settleShortest 211 = .ok (.goto (-41), 3) := by decide +kernel
theorem dX5_settleShortest_214 : decode cX5_settleShortest 214 = .ok (.return_, 1) := by decide +kernel
theorem dX5_isAllowed_0 : decode cX5_isAllowed 0 = .ok (.aload_n 0, 1) := by decide +kernel
theorem dX5_isAllowed_1 : decode cX5_isAllowed 1 = .ok (.getfield 51, 3) := by decide +kernel
theorem dX5_isAllowed_4 : decode cX5_isAllowed 4 = .ok (.iload_n 1, 1) := by decide +kernel
theorem dX5_isAllowed_5 : decode cX5_isAllowed 5 = .ok (.ishr, 1) := by decide +kernel
theorem dX5_isAllowed_6 : decode cX5_isAllowed 6 = .ok (.iconst 1, 1) := by decide +kernel
theorem dX5_isAllowed_7 : decode cX5_isAllowed 7 = .ok (.iand, 1) := by decide +kernel
theorem dX5_isAllowed_8 : decode cX5_isAllowed 8 = .ok (.ifCond .eq 7, 3) := by decide +kernel
theorem dX5_isAllowed_11 : decode cX5_isAllowed 11 = .ok (.iconst 1, 1) := by decide +kernel
theorem dX5_isAllowed_12 : decode cX5_isAllowed 12 = .ok (.goto 4, 3) := by decide +kernel
theorem dX5_isAllowed_15 : decode cX5_isAllowed 15 = .ok (.iconst 0, 1) := by decide +kernel
theorem dX5_isAllowed_16 : decode cX5_isAllowed 16 = .ok (.ireturn, 1) := by decide +kernel
theorem dX5_offer_0 : decode cX5_offer 0 = .ok (.iload_n 2, 1) := by decide +kernel
theorem dX5_offer_1 : decode cX5_offer 1 = .ok (.aload_n 0, 1) := by decide +kernel
theorem dX5_offer_2 : decode cX5_offer 2 = .ok (.getfield 9, 3) := by decide +kernel
theorem dX5_offer_5 : decode cX5_offer 5 = .ok (.iload_n 1, 1) := by decide +kernel
theorem dX5_offer_6 : decode cX5_offer 6 = .ok (.iaload, 1) := by decide +kernel
theorem dX5_offer_7 : decode cX5_offer 7 = .ok (.if_icmp .lt 4, 3) := by decide +kernel
theorem dX5_offer_10 : decode cX5_offer 10 = .ok (.return_, 1) := by decide +kernel
theorem dX5_offer_11 : decode cX5_offer 11 = .ok (.aload_n 0, 1) := by decide +kernel
theorem dX5_offer_12 : decode cX5_offer 12 = .ok (.getfield 9, 3) := by decide +kernel
theorem dX5_offer_15 : decode cX5_offer 15 = .ok (.iload_n 1, 1) := by decide +kernel
theorem dX5_offer_16 : decode cX5_offer 16 = .ok (.iaload, 1) := by decide +kernel
theorem dX5_offer_17 : decode cX5_offer 17 = .ok (.ldc 38, 2) := by decide +kernel
theorem dX5_offer_19 : decode cX5_offer 19 = .ok (.if_icmp .ne 33, 3) := by decide +kernel
theorem dX5_offer_22 : decode cX5_offer 22 = .ok (.aload_n 0, 1) := by decide +kernel
theorem dX5_offer_23 : decode cX5_offer 23 = .ok (.getfield 57, 3) := by decide +kernel
theorem dX5_offer_26 : decode cX5_offer 26 = .ok (.sipush 2304, 3) := by decide +kernel
theorem dX5_offer_29 : decode cX5_offer 29 = .ok (.if_icmp .ge 23, 3) := by decide +kernel
theorem dX5_offer_32 : decode cX5_offer 32 = .ok (.aload_n 0, 1) := by decide +kernel
theorem dX5_offer_33 : decode cX5_offer 33 = .ok (.getfield 15, 3) := by decide +kernel
theorem dX5_offer_36 : decode cX5_offer 36 = .ok (.aload_n 0, 1) := by decide +kernel
theorem dX5_offer_37 : decode cX5_offer 37 = .ok (.getfield 57, 3) := by decide +kernel
theorem dX5_offer_40 : decode cX5_offer 40 = .ok (.iload_n 1, 1) := by decide +kernel
theorem dX5_offer_41 : decode cX5_offer 41 = .ok (.iastore, 1) := by decide +kernel
theorem dX5_offer_42 : decode cX5_offer 42 = .ok (.aload_n 0, 1) := by decide +kernel
theorem dX5_offer_43 : decode cX5_offer 43 = .ok (.dup, 1) := by decide +kernel
theorem dX5_offer_44 : decode cX5_offer 44 = .ok (.getfield 57, 3) := by decide +kernel
theorem dX5_offer_47 : decode cX5_offer 47 = .ok (.iconst 1, 1) := by decide +kernel
theorem dX5_offer_48 : decode cX5_offer 48 = .ok (.iadd, 1) := by decide +kernel
theorem dX5_offer_49 : decode cX5_offer 49 = .ok (.putfield 57, 3) := by decide +kernel
theorem dX5_offer_52 : decode cX5_offer 52 = .ok (.aload_n 0, 1) := by decide +kernel
theorem dX5_offer_53 : decode cX5_offer 53 = .ok (.getfield 9, 3) := by decide +kernel
theorem dX5_offer_56 : decode cX5_offer 56 = .ok (.iload_n 1, 1) := by decide +kernel
theorem dX5_offer_57 : decode cX5_offer 57 = .ok (.iload_n 2, 1) := by decide +kernel
theorem dX5_offer_58 : decode cX5_offer 58 = .ok (.iastore, 1) := by decide +kernel
theorem dX5_offer_59 : decode cX5_offer 59 = .ok (.return_, 1) := by decide +kernel
theorem dX5_useAlone_0 : decode cX5_useAlone 0 = .ok (.bipush 19, 2) := by decide +kernel
theorem dX5_useAlone_2 : decode cX5_useAlone 2 = .ok (.istore_n 2, 1) := by decide +kernel
theorem dX5_useAlone_3 : decode cX5_useAlone 3 = .ok (.iload_n 2, 1) := by decide +kernel
theorem dX5_useAlone_4 : decode cX5_useAlone 4 = .ok (.bipush 22, 2) := by decide +kernel
theorem dX5_useAlone_6 : decode cX5_useAlone 6 = .ok (.if_icmp .ge 52, 3) := by decide +kernel
theorem dX5_useAlone_9 : decode cX5_useAlone 9 = .ok (.iload_n 2, 1) := by decide +kernel
theorem dX5_useAlone_10 : decode cX5_useAlone 10 = .ok (.iload_n 1, 1) := by decide +kernel
theorem dX5_useAlone_11 : decode cX5_useAlone 11 = .ok (.invokestatic 113, 3) := by decide +kernel
theorem dX5_useAlone_14 : decode cX5_useAlone 14 = .ok (.istore_n 3, 1) := by decide +kernel
theorem dX5_useAlone_15 : decode cX5_useAlone 15 = .ok (.iload_n 3, 1) := by decide +kernel
theorem dX5_useAlone_16 : decode cX5_useAlone 16 = .ok (.ifCond .lt 36, 3) := by decide +kernel
theorem dX5_useAlone_19 : decode cX5_useAlone 19 = .ok (.aload_n 0, 1) := by decide +kernel
theorem dX5_useAlone_20 : decode cX5_useAlone 20 = .ok (.iload_n 2, 1) := by decide +kernel
theorem dX5_useAlone_21 : decode cX5_useAlone 21 = .ok (.invokevirtual 116, 3) := by decide +kernel
theorem dX5_useAlone_24 : decode cX5_useAlone 24 = .ok (.ifCond .eq 28, 3) := by decide +kernel
theorem dX5_useAlone_27 : decode cX5_useAlone 27 = .ok (.iload_n 2, 1) := by decide +kernel
theorem dX5_useAlone_28 : decode cX5_useAlone 28 = .ok (.iload_n 1, 1) := by decide +kernel
theorem dX5_useAlone_29 : decode cX5_useAlone 29 = .ok (.aload_n 0, 1) := by decide +kernel
theorem dX5_useAlone_30 : decode cX5_useAlone 30 = .ok (.getfield 45, 3) := by decide +kernel
theorem dX5_useAlone_33 : decode cX5_useAlone 33 = .ok (.invokestatic 119, 3) := by decide +kernel
theorem dX5_useAlone_36 : decode cX5_useAlone 36 = .ok (.ifCond .eq 16, 3) := by decide +kernel
theorem dX5_useAlone_39 : decode cX5_useAlone 39 = .ok (.aload_n 0, 1) := by decide +kernel
theorem dX5_useAlone_40 : decode cX5_useAlone 40 = .ok (.iload_n 3, 1) := by decide +kernel
theorem dX5_useAlone_41 : decode cX5_useAlone 41 = .ok (.aload_n 0, 1) := by decide +kernel
theorem dX5_useAlone_42 : decode cX5_useAlone 42 = .ok (.getfield 9, 3) := by decide +kernel
theorem dX5_useAlone_45 : decode cX5_useAlone 45 = .ok (.iload_n 1, 1) := by decide +kernel
theorem dX5_useAlone_46 : decode cX5_useAlone 46 = .ok (.iaload, 1) := by decide +kernel
theorem dX5_useAlone_47 : decode cX5_useAlone 47 = .ok (.iconst 1, 1) := by decide +kernel
theorem dX5_useAlone_48 : decode cX5_useAlone 48 = .ok (.iadd, 1) := by decide +kernel
theorem dX5_useAlone_49 : decode cX5_useAlone 49 = .ok (.invokevirtual 70, 3) := by decide +kernel
theorem dX5_useAlone_52 : decode cX5_useAlone 52 = .ok (.iinc 2 1, 3) := by decide +kernel
theorem dX5_useAlone_55 : decode cX5_useAlone 55 = .ok (.goto (-52), 3) := by decide +kernel
theorem dX5_useAlone_58 : decode cX5_useAlone 58 = .ok (.return_, 1) := by decide +kernel
theorem dX5_useFirst_0 : decode cX5_useFirst 0 = .ok (.iload_n 1, 1) := by decide +kernel
theorem dX5_useFirst_1 : decode cX5_useFirst 1 = .ok (.invokestatic 95, 3) := by decide +kernel
theorem dX5_useFirst_4 : decode cX5_useFirst 4 = .ok (.istore_n 2, 1) := by decide +kernel
theorem dX5_useFirst_5 : decode cX5_useFirst 5 = .ok (.iconst 0, 1) := by decide +kernel
theorem dX5_useFirst_6 : decode cX5_useFirst 6 = .ok (.istore_n 3, 1) := by decide +kernel
theorem dX5_useFirst_7 : decode cX5_useFirst 7 = .ok (.iload_n 3, 1) := by decide +kernel
theorem dX5_useFirst_8 : decode cX5_useFirst 8 = .ok (.bipush 19, 2) := by decide +kernel
theorem dX5_useFirst_10 : decode cX5_useFirst 10 = .ok (.if_icmp .ge 200, 3) := by decide +kernel
theorem dX5_useFirst_13 : decode cX5_useFirst 13 = .ok (.iload_n 2, 1) := by decide +kernel
theorem dX5_useFirst_14 : decode cX5_useFirst 14 = .ok (.getstatic 123, 3) := by decide +kernel
theorem dX5_useFirst_17 : decode cX5_useFirst 17 = .ok (.iload_n 3, 1) := by decide +kernel
theorem dX5_useFirst_18 : decode cX5_useFirst 18 = .ok (.iaload, 1) := by decide +kernel
theorem dX5_useFirst_19 : decode cX5_useFirst 19 = .ok (.if_icmp .ne 185, 3) := by decide +kernel
theorem dX5_useFirst_22 : decode cX5_useFirst 22 = .ok (.aload_n 0, 1) := by decide +kernel
theorem dX5_useFirst_23 : decode cX5_useFirst 23 = .ok (.iload_n 3, 1) := by decide +kernel
theorem dX5_useFirst_24 : decode cX5_useFirst 24 = .ok (.invokevirtual 116, 3) := by decide +kernel
theorem dX5_useFirst_27 : decode cX5_useFirst 27 = .ok (.ifCond .eq 177, 3) := by decide +kernel
theorem dX5_useFirst_30 : decode cX5_useFirst 30 = .ok (.iload_n 3, 1) := by decide +kernel
theorem dX5_useFirst_31 : decode cX5_useFirst 31 = .ok (.iload_n 1, 1) := by decide +kernel
theorem dX5_useFirst_32 : decode cX5_useFirst 32 = .ok (.aload_n 0, 1) := by decide +kernel
theorem dX5_useFirst_33 : decode cX5_useFirst 33 = .ok (.getfield 45, 3) := by decide +kernel
theorem dX5_useFirst_36 : decode cX5_useFirst 36 = .ok (.invokestatic 119, 3) := by decide +kernel
theorem dX5_useFirst_39 : decode cX5_useFirst 39 = .ok (.ifCond .ne 6, 3) := by decide +kernel
theorem dX5_useFirst_42 : decode cX5_useFirst 42 = .ok (.goto 162, 3) := by decide +kernel
theorem dX5_useFirst_45 : decode cX5_useFirst 45 = .ok (.getstatic 126, 3) := by decide +kernel
theorem dX5_useFirst_48 : decode cX5_useFirst 48 = .ok (.iload_n 3, 1) := by decide +kernel
theorem dX5_useFirst_49 : decode cX5_useFirst 49 = .ok (.iaload, 1) := by decide +kernel
theorem dX5_useFirst_50 : decode cX5_useFirst 50 = .ok (.istore 4, 2) := by decide +kernel
theorem dX5_useFirst_52 : decode cX5_useFirst 52 = .ok (.iload 4, 2) := by decide +kernel
theorem dX5_useFirst_54 : decode cX5_useFirst 54 = .ok (.iload_n 1, 1) := by decide +kernel
theorem dX5_useFirst_55 : decode cX5_useFirst 55 = .ok (.invokestatic 129, 3) := by decide +kernel
theorem dX5_useFirst_58 : decode cX5_useFirst 58 = .ok (.istore 5, 2) := by decide +kernel
theorem dX5_useFirst_60 : decode cX5_useFirst 60 = .ok (.iload 4, 2) := by decide +kernel
theorem dX5_useFirst_62 : decode cX5_useFirst 62 = .ok (.iload_n 1, 1) := by decide +kernel
theorem dX5_useFirst_63 : decode cX5_useFirst 63 = .ok (.invokestatic 132, 3) := by decide +kernel
theorem dX5_useFirst_66 : decode cX5_useFirst 66 = .ok (.istore 6, 2) := by decide +kernel
theorem dX5_useFirst_68 : decode cX5_useFirst 68 = .ok (.iload 4, 2) := by decide +kernel
theorem dX5_useFirst_70 : decode cX5_useFirst 70 = .ok (.iconst 2, 1) := by decide +kernel
theorem dX5_useFirst_71 : decode cX5_useFirst 71 = .ok (.if_icmp .gt 10, 3) := by decide +kernel
theorem dX5_useFirst_74 : decode cX5_useFirst 74 = .ok (.aload_n 0, 1) := by decide +kernel
theorem dX5_useFirst_75 : decode cX5_useFirst 75 = .ok (.getfield 21, 3) := by decide +kernel
theorem dX5_useFirst_78 : decode cX5_useFirst 78 = .ok (.goto 7, 3) := by decide +kernel
theorem dX5_useFirst_81 : decode cX5_useFirst 81 = .ok (.aload_n 0, 1) := by decide +kernel
theorem dX5_useFirst_82 : decode cX5_useFirst 82 = .ok (.getfield 18, 3) := by decide +kernel
theorem dX5_useFirst_85 : decode cX5_useFirst 85 = .ok (.astore 7, 2) := by decide +kernel
theorem dX5_useFirst_87 : decode cX5_useFirst 87 = .ok (.aload 7, 2) := by decide +kernel
theorem dX5_useFirst_89 : decode cX5_useFirst 89 = .ok (.bipush 24, 2) := by decide +kernel
theorem dX5_useFirst_91 : decode cX5_useFirst 91 = .ok (.getstatic 135, 3) := by decide +kernel
theorem dX5_useFirst_94 : decode cX5_useFirst 94 = .ok (.iload_n 3, 1) := by decide +kernel
theorem dX5_useFirst_95 : decode cX5_useFirst 95 = .ok (.iaload, 1) := by decide +kernel
theorem dX5_useFirst_96 : decode cX5_useFirst 96 = .ok (.imul, 1) := by decide +kernel
theorem dX5_useFirst_97 : decode cX5_useFirst 97 = .ok (.iload 5, 2) := by decide +kernel
theorem dX5_useFirst_99 : decode cX5_useFirst 99 = .ok (.iadd, 1) := by decide +kernel
theorem dX5_useFirst_100 : decode cX5_useFirst 100 = .ok (.iaload, 1) := by decide +kernel
theorem dX5_useFirst_101 : decode cX5_useFirst 101 = .ok (.aload_n 0, 1) := by decide +kernel
theorem dX5_useFirst_102 : decode cX5_useFirst 102 = .ok (.getfield 21, 3) := by decide +kernel
theorem dX5_useFirst_105 : decode cX5_useFirst 105 = .ok (.bipush 24, 2) := by decide +kernel
theorem dX5_useFirst_107 : decode cX5_useFirst 107 = .ok (.getstatic 138, 3) := by decide +kernel
theorem dX5_useFirst_110 : decode cX5_useFirst 110 = .ok (.iload_n 3, 1) := by decide +kernel
theorem dX5_useFirst_111 : decode cX5_useFirst 111 = .ok (.iaload, 1) := by decide +kernel
theorem dX5_useFirst_112 : decode cX5_useFirst 112 = .ok (.imul, 1) := by decide +kernel
theorem dX5_useFirst_113 : decode cX5_useFirst 113 = .ok (.iload 6, 2) := by decide +kernel
theorem dX5_useFirst_115 : decode cX5_useFirst 115 = .ok (.iadd, 1) := by decide +kernel
theorem dX5_useFirst_116 : decode cX5_useFirst 116 = .ok (.iaload, 1) := by decide +kernel
theorem dX5_useFirst_117 : decode cX5_useFirst 117 = .ok (.iconst (-1), 1) := by decide +kernel
theorem dX5_useFirst_118 : decode cX5_useFirst 118 = .ok (.ixor, 1) := by decide +kernel
theorem dX5_useFirst_119 : decode cX5_useFirst 119 = .ok (.iand, 1) := by decide +kernel
theorem dX5_useFirst_120 : decode cX5_useFirst 120 = .ok (.istore 8, 2) := by decide +kernel
theorem dX5_useFirst_122 : decode cX5_useFirst 122 = .ok (.iconst 0, 1) := by decide +kernel
theorem dX5_useFirst_123 : decode cX5_useFirst 123 = .ok (.istore 9, 2) := by decide +kernel
theorem dX5_useFirst_125 : decode cX5_useFirst 125 = .ok (.iload 9, 2) := by decide +kernel
theorem dX5_useFirst_127 : decode cX5_useFirst 127 = .ok (.bipush 24, 2) := by decide +kernel
theorem dX5_useFirst_129 : decode cX5_useFirst 129 = .ok (.if_icmp .ge 75, 3) := by decide +kernel
theorem dX5_useFirst_132 : decode cX5_useFirst 132 = .ok (.iload 8, 2) := by decide +kernel
theorem dX5_useFirst_134 : decode cX5_useFirst 134 = .ok (.iload 9, 2) := by decide +kernel
theorem dX5_useFirst_136 : decode cX5_useFirst 136 = .ok (.ishr, 1) := by decide +kernel
theorem dX5_useFirst_137 : decode cX5_useFirst 137 = .ok (.ifCond .eq 67, 3) := by decide +kernel
theorem dX5_useFirst_140 : decode cX5_useFirst 140 = .ok (.iload 8, 2) := by decide +kernel
theorem dX5_useFirst_142 : decode cX5_useFirst 142 = .ok (.iload 9, 2) := by decide +kernel
theorem dX5_useFirst_144 : decode cX5_useFirst 144 = .ok (.ishr, 1) := by decide +kernel
theorem dX5_useFirst_145 : decode cX5_useFirst 145 = .ok (.iconst 1, 1) := by decide +kernel
theorem dX5_useFirst_146 : decode cX5_useFirst 146 = .ok (.iand, 1) := by decide +kernel
theorem dX5_useFirst_147 : decode cX5_useFirst 147 = .ok (.ifCond .eq 51, 3) := by decide +kernel
theorem dX5_useFirst_150 : decode cX5_useFirst 150 = .ok (.iload 4, 2) := by decide +kernel
theorem dX5_useFirst_152 : decode cX5_useFirst 152 = .ok (.getstatic 135, 3) := by decide +kernel
theorem dX5_useFirst_155 : decode cX5_useFirst 155 = .ok (.iload_n 3, 1) := by decide +kernel
theorem dX5_useFirst_156 : decode cX5_useFirst 156 = .ok (.iaload, 1) := by decide +kernel
theorem dX5_useFirst_157 : decode cX5_useFirst 157 = .ok (.iload 5, 2) := by decide +kernel
theorem dX5_useFirst_159 : decode cX5_useFirst 159 = .ok (.iload 9, 2) := by decide +kernel
theorem dX5_useFirst_161 : decode cX5_useFirst 161 = .ok (.invokestatic 141, 3) := by decide +kernel
theorem dX5_useFirst_164 : decode cX5_useFirst 164 = .ok (.istore 10, 2) := by decide +kernel
theorem dX5_useFirst_166 : decode cX5_useFirst 166 = .ok (.aload_n 0, 1) := by decide +kernel
theorem dX5_useFirst_167 : decode cX5_useFirst 167 = .ok (.getstatic 138, 3) := by decide +kernel
theorem dX5_useFirst_170 : decode cX5_useFirst 170 = .ok (.iload_n 3, 1) := by decide +kernel
theorem dX5_useFirst_171 : decode cX5_useFirst 171 = .ok (.iaload, 1) := by decide +kernel
theorem dX5_useFirst_172 : decode cX5_useFirst 172 = .ok (.iload 9, 2) := by decide +kernel
theorem dX5_useFirst_174 : decode cX5_useFirst 174 = .ok (.iload 6, 2) := by decide +kernel
theorem dX5_useFirst_176 : decode cX5_useFirst 176 = .ok (.invokestatic 145, 3) := by decide +kernel
theorem dX5_useFirst_179 : decode cX5_useFirst 179 = .ok (.aload_n 0, 1) := by decide +kernel
theorem dX5_useFirst_180 : decode cX5_useFirst 180 = .ok (.getfield 9, 3) := by decide +kernel
theorem dX5_useFirst_183 : decode cX5_useFirst 183 = .ok (.iload_n 1, 1) := by decide +kernel
theorem dX5_useFirst_184 : decode cX5_useFirst 184 = .ok (.iaload, 1) := by decide +kernel
theorem dX5_useFirst_185 : decode cX5_useFirst 185 = .ok (.aload_n 0, 1) := by decide +kernel
theorem dX5_useFirst_186 : decode cX5_useFirst 186 = .ok (.getfield 9, 3) := by decide +kernel
theorem dX5_useFirst_189 : decode cX5_useFirst 189 = .ok (.iload 10, 2) := by decide +kernel
theorem dX5_useFirst_191 : decode cX5_useFirst 191 = .ok (.iaload, 1) := by decide +kernel
theorem dX5_useFirst_192 : decode cX5_useFirst 192 = .ok (.iadd, 1) := by decide +kernel
theorem dX5_useFirst_193 : decode cX5_useFirst 193 = .ok (.iconst 1, 1) := by decide +kernel
theorem dX5_useFirst_194 : decode cX5_useFirst 194 = .ok (.iadd, 1) := by decide +kernel
theorem dX5_useFirst_195 : decode cX5_useFirst 195 = .ok (.invokevirtual 70, 3) := by decide +kernel
theorem dX5_useFirst_198 : decode cX5_useFirst 198 = .ok (.iinc 9 1, 3) := by decide +kernel
theorem dX5_useFirst_201 : decode cX5_useFirst 201 = .ok (.goto (-76), 3) := by decide +kernel
theorem dX5_useFirst_204 : decode cX5_useFirst 204 = .ok (.iinc 3 1, 3) := by decide +kernel
theorem dX5_useFirst_207 : decode cX5_useFirst 207 = .ok (.goto (-200), 3) := by decide +kernel
theorem dX5_useFirst_210 : decode cX5_useFirst 210 = .ok (.return_, 1) := by decide +kernel
theorem dX5_useSecond_0 : decode cX5_useSecond 0 = .ok (.iload_n 1, 1) := by decide +kernel
theorem dX5_useSecond_1 : decode cX5_useSecond 1 = .ok (.invokestatic 95, 3) := by decide +kernel
theorem dX5_useSecond_4 : decode cX5_useSecond 4 = .ok (.istore_n 2, 1) := by decide +kernel
theorem dX5_useSecond_5 : decode cX5_useSecond 5 = .ok (.iconst 0, 1) := by decide +kernel
theorem dX5_useSecond_6 : decode cX5_useSecond 6 = .ok (.istore_n 3, 1) := by decide +kernel
theorem dX5_useSecond_7 : decode cX5_useSecond 7 = .ok (.iload_n 3, 1) := by decide +kernel
theorem dX5_useSecond_8 : decode cX5_useSecond 8 = .ok (.bipush 19, 2) := by decide +kernel
theorem dX5_useSecond_10 : decode cX5_useSecond 10 = .ok (.if_icmp .ge 202, 3) := by decide +kernel
theorem dX5_useSecond_13 : decode cX5_useSecond 13 = .ok (.iload_n 2, 1) := by decide +kernel
theorem dX5_useSecond_14 : decode cX5_useSecond 14 = .ok (.getstatic 135, 3) := by decide +kernel
theorem dX5_useSecond_17 : decode cX5_useSecond 17 = .ok (.iload_n 3, 1) := by decide +kernel
theorem dX5_useSecond_18 : decode cX5_useSecond 18 = .ok (.iaload, 1) := by decide +kernel
theorem dX5_useSecond_19 : decode cX5_useSecond 19 = .ok (.if_icmp .ne 187, 3) := by decide +kernel
theorem dX5_useSecond_22 : decode cX5_useSecond 22 = .ok (.aload_n 0, 1) := by decide +kernel
theorem dX5_useSecond_23 : decode cX5_useSecond 23 = .ok (.iload_n 3, 1) := by decide +kernel
theorem dX5_useSecond_24 : decode cX5_useSecond 24 = .ok (.invokevirtual 116, 3) := by decide +kernel
theorem dX5_useSecond_27 : decode cX5_useSecond 27 = .ok (.ifCond .ne 6, 3) := by decide +kernel
theorem dX5_useSecond_30 : decode cX5_useSecond 30 = .ok (.goto 176, 3) := by decide +kernel
theorem dX5_useSecond_33 : decode cX5_useSecond 33 = .ok (.getstatic 126, 3) := by decide +kernel
theorem dX5_useSecond_36 : decode cX5_useSecond 36 = .ok (.iload_n 3, 1) := by decide +kernel
theorem dX5_useSecond_37 : decode cX5_useSecond 37 = .ok (.iaload, 1) := by decide +kernel
theorem dX5_useSecond_38 : decode cX5_useSecond 38 = .ok (.istore 4, 2) := by decide +kernel
theorem dX5_useSecond_40 : decode cX5_useSecond 40 = .ok (.iload 4, 2) := by decide +kernel
theorem dX5_useSecond_42 : decode cX5_useSecond 42 = .ok (.iload_n 1, 1) := by decide +kernel
theorem dX5_useSecond_43 : decode cX5_useSecond 43 = .ok (.invokestatic 149, 3) := by decide +kernel
theorem dX5_useSecond_46 : decode cX5_useSecond 46 = .ok (.istore 5, 2) := by decide +kernel
theorem dX5_useSecond_48 : decode cX5_useSecond 48 = .ok (.iload 4, 2) := by decide +kernel
theorem dX5_useSecond_50 : decode cX5_useSecond 50 = .ok (.iload_n 1, 1) := by decide +kernel
theorem dX5_useSecond_51 : decode cX5_useSecond 51 = .ok (.invokestatic 152, 3) := by decide +kernel
theorem dX5_useSecond_54 : decode cX5_useSecond 54 = .ok (.istore 6, 2) := by decide +kernel
theorem dX5_useSecond_56 : decode cX5_useSecond 56 = .ok (.iload 4, 2) := by decide +kernel
theorem dX5_useSecond_58 : decode cX5_useSecond 58 = .ok (.iconst 1, 1) := by decide +kernel
theorem dX5_useSecond_59 : decode cX5_useSecond 59 = .ok (.iand, 1) := by decide +kernel
theorem dX5_useSecond_60 : decode cX5_useSecond 60 = .ok (.ifCond .eq 10, 3) := by decide +kernel
theorem dX5_useSecond_63 : decode cX5_useSecond 63 = .ok (.aload_n 0, 1) := by decide +kernel
theorem dX5_useSecond_64 : decode cX5_useSecond 64 = .ok (.getfield 18, 3) := by decide +kernel
theorem dX5_useSecond_67 : decode cX5_useSecond 67 = .ok (.goto 7, 3) := by decide +kernel
theorem dX5_useSecond_70 : decode cX5_useSecond 70 = .ok (.aload_n 0, 1) := by decide +kernel
theorem dX5_useSecond_71 : decode cX5_useSecond 71 = .ok (.getfield 21, 3) := by decide +kernel
theorem dX5_useSecond_74 : decode cX5_useSecond 74 = .ok (.astore 7, 2) := by decide +kernel
theorem dX5_useSecond_76 : decode cX5_useSecond 76 = .ok (.aload 7, 2) := by decide +kernel
theorem dX5_useSecond_78 : decode cX5_useSecond 78 = .ok (.bipush 24, 2) := by decide +kernel
theorem dX5_useSecond_80 : decode cX5_useSecond 80 = .ok (.getstatic 123, 3) := by decide +kernel
theorem dX5_useSecond_83 : decode cX5_useSecond 83 = .ok (.iload_n 3, 1) := by decide +kernel
theorem dX5_useSecond_84 : decode cX5_useSecond 84 = .ok (.iaload, 1) := by decide +kernel
theorem dX5_useSecond_85 : decode cX5_useSecond 85 = .ok (.imul, 1) := by decide +kernel
theorem dX5_useSecond_86 : decode cX5_useSecond 86 = .ok (.iload 5, 2) := by decide +kernel
theorem dX5_useSecond_88 : decode cX5_useSecond 88 = .ok (.iadd, 1) := by decide +kernel
theorem dX5_useSecond_89 : decode cX5_useSecond 89 = .ok (.iaload, 1) := by decide +kernel
theorem dX5_useSecond_90 : decode cX5_useSecond 90 = .ok (.aload_n 0, 1) := by decide +kernel
theorem dX5_useSecond_91 : decode cX5_useSecond 91 = .ok (.getfield 18, 3) := by decide +kernel
theorem dX5_useSecond_94 : decode cX5_useSecond 94 = .ok (.bipush 24, 2) := by decide +kernel
theorem dX5_useSecond_96 : decode cX5_useSecond 96 = .ok (.getstatic 138, 3) := by decide +kernel
theorem dX5_useSecond_99 : decode cX5_useSecond 99 = .ok (.iload_n 3, 1) := by decide +kernel
theorem dX5_useSecond_100 : decode cX5_useSecond 100 = .ok (.iaload, 1) := by decide +kernel
theorem dX5_useSecond_101 : decode cX5_useSecond 101 = .ok (.imul, 1) := by decide +kernel
theorem dX5_useSecond_102 : decode cX5_useSecond 102 = .ok (.iload 6, 2) := by decide +kernel
theorem dX5_useSecond_104 : decode cX5_useSecond 104 = .ok (.iadd, 1) := by decide +kernel
theorem dX5_useSecond_105 : decode cX5_useSecond 105 = .ok (.iaload, 1) := by decide +kernel
theorem dX5_useSecond_106 : decode cX5_useSecond 106 = .ok (.iconst (-1), 1) := by decide +kernel
theorem dX5_useSecond_107 : decode cX5_useSecond 107 = .ok (.ixor, 1) := by decide +kernel
theorem dX5_useSecond_108 : decode cX5_useSecond 108 = .ok (.iand, 1) := by decide +kernel
theorem dX5_useSecond_109 : decode cX5_useSecond 109 = .ok (.istore 8, 2) := by decide +kernel
theorem dX5_useSecond_111 : decode cX5_useSecond 111 = .ok (.iconst 0, 1) := by decide +kernel
theorem dX5_useSecond_112 : decode cX5_useSecond 112 = .ok (.istore 9, 2) := by decide +kernel
theorem dX5_useSecond_114 : decode cX5_useSecond 114 = .ok (.iload 9, 2) := by decide +kernel
theorem dX5_useSecond_116 : decode cX5_useSecond 116 = .ok (.bipush 24, 2) := by decide +kernel
theorem dX5_useSecond_118 : decode cX5_useSecond 118 = .ok (.if_icmp .ge 88, 3) := by decide +kernel
theorem dX5_useSecond_121 : decode cX5_useSecond 121 = .ok (.iload 8, 2) := by decide +kernel
theorem dX5_useSecond_123 : decode cX5_useSecond 123 = .ok (.iload 9, 2) := by decide +kernel
theorem dX5_useSecond_125 : decode cX5_useSecond 125 = .ok (.ishr, 1) := by decide +kernel
theorem dX5_useSecond_126 : decode cX5_useSecond 126 = .ok (.ifCond .eq 80, 3) := by decide +kernel
theorem dX5_useSecond_129 : decode cX5_useSecond 129 = .ok (.iload 4, 2) := by decide +kernel
theorem dX5_useSecond_131 : decode cX5_useSecond 131 = .ok (.getstatic 123, 3) := by decide +kernel
theorem dX5_useSecond_134 : decode cX5_useSecond 134 = .ok (.iload_n 3, 1) := by decide +kernel
theorem dX5_useSecond_135 : decode cX5_useSecond 135 = .ok (.iaload, 1) := by decide +kernel
theorem dX5_useSecond_136 : decode cX5_useSecond 136 = .ok (.iload 5, 2) := by decide +kernel
theorem dX5_useSecond_138 : decode cX5_useSecond 138 = .ok (.iload 9, 2) := by decide +kernel
theorem dX5_useSecond_140 : decode cX5_useSecond 140 = .ok (.invokestatic 155, 3) := by decide +kernel
theorem dX5_useSecond_143 : decode cX5_useSecond 143 = .ok (.istore 10, 2) := by decide +kernel
theorem dX5_useSecond_145 : decode cX5_useSecond 145 = .ok (.iload 8, 2) := by decide +kernel
theorem dX5_useSecond_147 : decode cX5_useSecond 147 = .ok (.iload 9, 2) := by decide +kernel
theorem dX5_useSecond_149 : decode cX5_useSecond 149 = .ok (.ishr, 1) := by decide +kernel
theorem dX5_useSecond_150 : decode cX5_useSecond 150 = .ok (.iconst 1, 1) := by decide +kernel
theorem dX5_useSecond_151 : decode cX5_useSecond 151 = .ok (.iand, 1) := by decide +kernel
theorem dX5_useSecond_152 : decode cX5_useSecond 152 = .ok (.ifCond .eq 48, 3) := by decide +kernel
theorem dX5_useSecond_155 : decode cX5_useSecond 155 = .ok (.iload_n 3, 1) := by decide +kernel
theorem dX5_useSecond_156 : decode cX5_useSecond 156 = .ok (.iload 10, 2) := by decide +kernel
theorem dX5_useSecond_158 : decode cX5_useSecond 158 = .ok (.aload_n 0, 1) := by decide +kernel
theorem dX5_useSecond_159 : decode cX5_useSecond 159 = .ok (.getfield 45, 3) := by decide +kernel
theorem dX5_useSecond_162 : decode cX5_useSecond 162 = .ok (.invokestatic 119, 3) := by decide +kernel
theorem dX5_useSecond_165 : decode cX5_useSecond 165 = .ok (.ifCond .eq 35, 3) := by decide +kernel
theorem dX5_useSecond_168 : decode cX5_useSecond 168 = .ok (.aload_n 0, 1) := by decide +kernel
theorem dX5_useSecond_169 : decode cX5_useSecond 169 = .ok (.getstatic 138, 3) := by decide +kernel
theorem dX5_useSecond_172 : decode cX5_useSecond 172 = .ok (.iload_n 3, 1) := by decide +kernel
theorem dX5_useSecond_173 : decode cX5_useSecond 173 = .ok (.iaload, 1) := by decide +kernel
theorem dX5_useSecond_174 : decode cX5_useSecond 174 = .ok (.iload 6, 2) := by decide +kernel
theorem dX5_useSecond_176 : decode cX5_useSecond 176 = .ok (.iload 9, 2) := by decide +kernel
theorem dX5_useSecond_178 : decode cX5_useSecond 178 = .ok (.invokestatic 145, 3) := by decide +kernel
theorem dX5_useSecond_181 : decode cX5_useSecond 181 = .ok (.aload_n 0, 1) := by decide +kernel
theorem dX5_useSecond_182 : decode cX5_useSecond 182 = .ok (.getfield 9, 3) := by decide +kernel
theorem dX5_useSecond_185 : decode cX5_useSecond 185 = .ok (.iload 10, 2) := by decide +kernel
theorem dX5_useSecond_187 : decode cX5_useSecond 187 = .ok (.iaload, 1) := by decide +kernel
theorem dX5_useSecond_188 : decode cX5_useSecond 188 = .ok (.aload_n 0, 1) := by decide +kernel
theorem dX5_useSecond_189 : decode cX5_useSecond 189 = .ok (.getfield 9, 3) := by decide +kernel
theorem dX5_useSecond_192 : decode cX5_useSecond 192 = .ok (.iload_n 1, 1) := by decide +kernel
theorem dX5_useSecond_193 : decode cX5_useSecond 193 = .ok (.iaload, 1) := by decide +kernel
theorem dX5_useSecond_194 : decode cX5_useSecond 194 = .ok (.iadd, 1) := by decide +kernel
theorem dX5_useSecond_195 : decode cX5_useSecond 195 = .ok (.iconst 1, 1) := by decide +kernel
theorem dX5_useSecond_196 : decode cX5_useSecond 196 = .ok (.iadd, 1) := by decide +kernel
theorem dX5_useSecond_197 : decode cX5_useSecond 197 = .ok (.invokevirtual 70, 3) := by decide +kernel
theorem dX5_useSecond_200 : decode cX5_useSecond 200 = .ok (.iinc 9 1, 3) := by decide +kernel
theorem dX5_useSecond_203 : decode cX5_useSecond 203 = .ok (.goto (-89), 3) := by decide +kernel
theorem dX5_useSecond_206 : decode cX5_useSecond 206 = .ok (.iinc 3 1, 3) := by decide +kernel
theorem dX5_useSecond_209 : decode cX5_useSecond 209 = .ok (.goto (-202), 3) := by decide +kernel
theorem dX5_useSecond_212 : decode cX5_useSecond 212 = .ok (.return_, 1) := by decide +kernel
theorem dX5_findLast_0 : decode cX5_findLast 0 = .ok (.aload_n 0, 1) := by decide +kernel
theorem dX5_findLast_1 : decode cX5_findLast 1 = .ok (.iconst (-1), 1) := by decide +kernel
theorem dX5_findLast_2 : decode cX5_findLast 2 = .ok (.putfield 158, 3) := by decide +kernel
theorem dX5_findLast_5 : decode cX5_findLast 5 = .ok (.aload_n 0, 1) := by decide +kernel
theorem dX5_findLast_6 : decode cX5_findLast 6 = .ok (.iconst (-1), 1) := by decide +kernel
theorem dX5_findLast_7 : decode cX5_findLast 7 = .ok (.putfield 161, 3) := by decide +kernel
theorem dX5_findLast_10 : decode cX5_findLast 10 = .ok (.aload_n 0, 1) := by decide +kernel
theorem dX5_findLast_11 : decode cX5_findLast 11 = .ok (.iconst (-1), 1) := by decide +kernel
theorem dX5_findLast_12 : decode cX5_findLast 12 = .ok (.putfield 164, 3) := by decide +kernel
theorem dX5_findLast_15 : decode cX5_findLast 15 = .ok (.iconst 0, 1) := by decide +kernel
theorem dX5_findLast_16 : decode cX5_findLast 16 = .ok (.istore_n 2, 1) := by decide +kernel
theorem dX5_findLast_17 : decode cX5_findLast 17 = .ok (.iload_n 2, 1) := by decide +kernel
theorem dX5_findLast_18 : decode cX5_findLast 18 = .ok (.bipush 22, 2) := by decide +kernel
theorem dX5_findLast_20 : decode cX5_findLast 20 = .ok (.if_icmp .ge 55, 3) := by decide +kernel
theorem dX5_findLast_23 : decode cX5_findLast 23 = .ok (.aload_n 0, 1) := by decide +kernel
theorem dX5_findLast_24 : decode cX5_findLast 24 = .ok (.getfield 9, 3) := by decide +kernel
theorem dX5_findLast_27 : decode cX5_findLast 27 = .ok (.iload_n 1, 1) := by decide +kernel
theorem dX5_findLast_28 : decode cX5_findLast 28 = .ok (.iaload, 1) := by decide +kernel
theorem dX5_findLast_29 : decode cX5_findLast 29 = .ok (.ifCond .le 46, 3) := by decide +kernel
theorem dX5_findLast_32 : decode cX5_findLast 32 = .ok (.aload_n 0, 1) := by decide +kernel
theorem dX5_findLast_33 : decode cX5_findLast 33 = .ok (.getfield 158, 3) := by decide +kernel
theorem dX5_findLast_36 : decode cX5_findLast 36 = .ok (.iconst (-1), 1) := by decide +kernel
theorem dX5_findLast_37 : decode cX5_findLast 37 = .ok (.if_icmp .ne 38, 3) := by decide +kernel
theorem dX5_findLast_40 : decode cX5_findLast 40 = .ok (.aload_n 0, 1) := by decide +kernel
theorem dX5_findLast_41 : decode cX5_findLast 41 = .ok (.iload_n 2, 1) := by decide +kernel
theorem dX5_findLast_42 : decode cX5_findLast 42 = .ok (.invokevirtual 116, 3) := by decide +kernel
theorem dX5_findLast_45 : decode cX5_findLast 45 = .ok (.ifCond .eq 24, 3) := by decide +kernel
theorem dX5_findLast_48 : decode cX5_findLast 48 = .ok (.iload_n 2, 1) := by decide +kernel
theorem dX5_findLast_49 : decode cX5_findLast 49 = .ok (.bipush 19, 2) := by decide +kernel
theorem dX5_findLast_51 : decode cX5_findLast 51 = .ok (.if_icmp .ge 12, 3) := by decide +kernel
theorem dX5_findLast_54 : decode cX5_findLast 54 = .ok (.aload_n 0, 1) := by decide +kernel
theorem dX5_findLast_55 : decode cX5_findLast 55 = .ok (.iload_n 2, 1) := by decide +kernel
theorem dX5_findLast_56 : decode cX5_findLast 56 = .ok (.iload_n 1, 1) := by decide +kernel
theorem dX5_findLast_57 : decode cX5_findLast 57 = .ok (.invokevirtual 167, 3) := by decide +kernel
theorem dX5_findLast_60 : decode cX5_findLast 60 = .ok (.goto 9, 3) := by decide +kernel
theorem dX5_findLast_63 : decode cX5_findLast 63 = .ok (.aload_n 0, 1) := by decide +kernel
theorem dX5_findLast_64 : decode cX5_findLast 64 = .ok (.iload_n 2, 1) := by decide +kernel
theorem dX5_findLast_65 : decode cX5_findLast 65 = .ok (.iload_n 1, 1) := by decide +kernel
theorem dX5_findLast_66 : decode cX5_findLast 66 = .ok (.invokevirtual 170, 3) := by decide +kernel
theorem dX5_findLast_69 : decode cX5_findLast 69 = .ok (.iinc 2 1, 3) := by decide +kernel
theorem dX5_findLast_72 : decode cX5_findLast 72 = .ok (.goto (-55), 3) := by decide +kernel
theorem dX5_findLast_75 : decode cX5_findLast 75 = .ok (.return_, 1) := by decide +kernel
theorem dX5_findPair_0 : decode cX5_findPair 0 = .ok (.iload_n 2, 1) := by decide +kernel
theorem dX5_findPair_1 : decode cX5_findPair 1 = .ok (.invokestatic 95, 3) := by decide +kernel
theorem dX5_findPair_4 : decode cX5_findPair 4 = .ok (.getstatic 138, 3) := by decide +kernel
theorem dX5_findPair_7 : decode cX5_findPair 7 = .ok (.iload_n 1, 1) := by decide +kernel
theorem dX5_findPair_8 : decode cX5_findPair 8 = .ok (.iaload, 1) := by decide +kernel
theorem dX5_findPair_9 : decode cX5_findPair 9 = .ok (.if_icmp .eq 4, 3) := by decide +kernel
theorem dX5_findPair_12 : decode cX5_findPair 12 = .ok (.return_, 1) := by decide +kernel
theorem dX5_findPair_13 : decode cX5_findPair 13 = .ok (.getstatic 126, 3) := by decide +kernel
theorem dX5_findPair_16 : decode cX5_findPair 16 = .ok (.iload_n 1, 1) := by decide +kernel
theorem dX5_findPair_17 : decode cX5_findPair 17 = .ok (.iaload, 1) := by decide +kernel
theorem dX5_findPair_18 : decode cX5_findPair 18 = .ok (.istore_n 3, 1) := by decide +kernel
theorem dX5_findPair_19 : decode cX5_findPair 19 = .ok (.iconst 0, 1) := by decide +kernel
theorem dX5_findPair_20 : decode cX5_findPair 20 = .ok (.istore 4, 2) := by decide +kernel
theorem dX5_findPair_22 : decode cX5_findPair 22 = .ok (.iload 4, 2) := by decide +kernel
theorem dX5_findPair_24 : decode cX5_findPair 24 = .ok (.bipush 24, 2) := by decide +kernel
theorem dX5_findPair_26 : decode cX5_findPair 26 = .ok (.if_icmp .ge 100, 3) := by decide +kernel
theorem dX5_findPair_29 : decode cX5_findPair 29 = .ok (.iload_n 3, 1) := by decide +kernel
theorem dX5_findPair_30 : decode cX5_findPair 30 = .ok (.getstatic 123, 3) := by decide +kernel
theorem dX5_findPair_33 : decode cX5_findPair 33 = .ok (.iload_n 1, 1) := by decide +kernel
theorem dX5_findPair_34 : decode cX5_findPair 34 = .ok (.iaload, 1) := by decide +kernel
theorem dX5_findPair_35 : decode cX5_findPair 35 = .ok (.iload 4, 2) := by decide +kernel
theorem dX5_findPair_37 : decode cX5_findPair 37 = .ok (.iload_n 2, 1) := by decide +kernel
theorem dX5_findPair_38 : decode cX5_findPair 38 = .ok (.invokestatic 89, 3) := by decide +kernel
theorem dX5_findPair_41 : decode cX5_findPair 41 = .ok (.invokestatic 155, 3) := by decide +kernel
theorem dX5_findPair_44 : decode cX5_findPair 44 = .ok (.istore 5, 2) := by decide +kernel
theorem dX5_findPair_46 : decode cX5_findPair 46 = .ok (.iload_n 3, 1) := by decide +kernel
theorem dX5_findPair_47 : decode cX5_findPair 47 = .ok (.getstatic 135, 3) := by decide +kernel
theorem dX5_findPair_50 : decode cX5_findPair 50 = .ok (.iload_n 1, 1) := by decide +kernel
theorem dX5_findPair_51 : decode cX5_findPair 51 = .ok (.iaload, 1) := by decide +kernel
theorem dX5_findPair_52 : decode cX5_findPair 52 = .ok (.iload 4, 2) := by decide +kernel
theorem dX5_findPair_54 : decode cX5_findPair 54 = .ok (.iload_n 2, 1) := by decide +kernel
theorem dX5_findPair_55 : decode cX5_findPair 55 = .ok (.invokestatic 98, 3) := by decide +kernel
theorem dX5_findPair_58 : decode cX5_findPair 58 = .ok (.invokestatic 141, 3) := by decide +kernel
theorem dX5_findPair_61 : decode cX5_findPair 61 = .ok (.istore 6, 2) := by decide +kernel
theorem dX5_findPair_63 : decode cX5_findPair 63 = .ok (.aload_n 0, 1) := by decide +kernel
theorem dX5_findPair_64 : decode cX5_findPair 64 = .ok (.getfield 9, 3) := by decide +kernel
theorem dX5_findPair_67 : decode cX5_findPair 67 = .ok (.iload 5, 2) := by decide +kernel
theorem dX5_findPair_69 : decode cX5_findPair 69 = .ok (.iaload, 1) := by decide +kernel
theorem dX5_findPair_70 : decode cX5_findPair 70 = .ok (.aload_n 0, 1) := by decide +kernel
theorem dX5_findPair_71 : decode cX5_findPair 71 = .ok (.getfield 9, 3) := by decide +kernel
theorem dX5_findPair_74 : decode cX5_findPair 74 = .ok (.iload 6, 2) := by decide +kernel
theorem dX5_findPair_76 : decode cX5_findPair 76 = .ok (.iaload, 1) := by decide +kernel
theorem dX5_findPair_77 : decode cX5_findPair 77 = .ok (.iadd, 1) := by decide +kernel
theorem dX5_findPair_78 : decode cX5_findPair 78 = .ok (.iconst 1, 1) := by decide +kernel
theorem dX5_findPair_79 : decode cX5_findPair 79 = .ok (.iadd, 1) := by decide +kernel
theorem dX5_findPair_80 : decode cX5_findPair 80 = .ok (.aload_n 0, 1) := by decide +kernel
theorem dX5_findPair_81 : decode cX5_findPair 81 = .ok (.getfield 9, 3) := by decide +kernel
theorem dX5_findPair_84 : decode cX5_findPair 84 = .ok (.iload_n 2, 1) := by decide +kernel
theorem dX5_findPair_85 : decode cX5_findPair 85 = .ok (.iaload, 1) := by decide +kernel
theorem dX5_findPair_86 : decode cX5_findPair 86 = .ok (.if_icmp .ne 34, 3) := by decide +kernel
theorem dX5_findPair_89 : decode cX5_findPair 89 = .ok (.iload_n 1, 1) := by decide +kernel
theorem dX5_findPair_90 : decode cX5_findPair 90 = .ok (.iload 5, 2) := by decide +kernel
theorem dX5_findPair_92 : decode cX5_findPair 92 = .ok (.aload_n 0, 1) := by decide +kernel
theorem dX5_findPair_93 : decode cX5_findPair 93 = .ok (.getfield 45, 3) := by decide +kernel
theorem dX5_findPair_96 : decode cX5_findPair 96 = .ok (.invokestatic 119, 3) := by decide +kernel
theorem dX5_findPair_99 : decode cX5_findPair 99 = .ok (.ifCond .eq 21, 3) := by decide +kernel
theorem dX5_findPair_102 : decode cX5_findPair 102 = .ok (.aload_n 0, 1) := by decide +kernel
theorem dX5_findPair_103 : decode cX5_findPair 103 = .ok (.iload_n 1, 1) := by decide +kernel
theorem dX5_findPair_104 : decode cX5_findPair 104 = .ok (.putfield 158, 3) := by decide +kernel
theorem dX5_findPair_107 : decode cX5_findPair 107 = .ok (.aload_n 0, 1) := by decide +kernel
theorem dX5_findPair_108 : decode cX5_findPair 108 = .ok (.iload 5, 2) := by decide +kernel
theorem dX5_findPair_110 : decode cX5_findPair 110 = .ok (.putfield 161, 3) := by decide +kernel
theorem dX5_findPair_113 : decode cX5_findPair 113 = .ok (.aload_n 0, 1) := by decide +kernel
theorem dX5_findPair_114 : decode cX5_findPair 114 = .ok (.iload 6, 2) := by decide +kernel
theorem dX5_findPair_116 : decode cX5_findPair 116 = .ok (.putfield 164, 3) := by decide +kernel
theorem dX5_findPair_119 : decode cX5_findPair 119 = .ok (.return_, 1) := by decide +kernel
theorem dX5_findPair_120 : decode cX5_findPair 120 = .ok (.iinc 4 1, 3) := by decide +kernel
theorem dX5_findPair_123 : decode cX5_findPair 123 = .ok (.goto (-101), 3) := by decide +kernel
theorem dX5_findPair_126 : decode cX5_findPair 126 = .ok (.return_, 1) := by decide +kernel
theorem dX5_findSingle_0 : decode cX5_findSingle 0 = .ok (.iload_n 1, 1) := by decide +kernel
theorem dX5_findSingle_1 : decode cX5_findSingle 1 = .ok (.iload_n 2, 1) := by decide +kernel
theorem dX5_findSingle_2 : decode cX5_findSingle 2 = .ok (.invokestatic 173, 3) := by decide +kernel
theorem dX5_findSingle_5 : decode cX5_findSingle 5 = .ok (.istore_n 3, 1) := by decide +kernel
theorem dX5_findSingle_6 : decode cX5_findSingle 6 = .ok (.iload_n 3, 1) := by decide +kernel
theorem dX5_findSingle_7 : decode cX5_findSingle 7 = .ok (.ifCond .lt 42, 3) := by decide +kernel
theorem dX5_findSingle_10 : decode cX5_findSingle 10 = .ok (.aload_n 0, 1) := by decide +kernel
theorem dX5_findSingle_11 : decode cX5_findSingle 11 = .ok (.getfield 9, 3) := by decide +kernel
theorem dX5_findSingle_14 : decode cX5_findSingle 14 = .ok (.iload_n 3, 1) := by decide +kernel
theorem dX5_findSingle_15 : decode cX5_findSingle 15 = .ok (.iaload, 1) := by decide +kernel
theorem dX5_findSingle_16 : decode cX5_findSingle 16 = .ok (.iconst 1, 1) := by decide +kernel
theorem dX5_findSingle_17 : decode cX5_findSingle 17 = .ok (.iadd, 1) := by decide +kernel
theorem dX5_findSingle_18 : decode cX5_findSingle 18 = .ok (.aload_n 0, 1) := by decide +kernel
theorem dX5_findSingle_19 : decode cX5_findSingle 19 = .ok (.getfield 9, 3) := by decide +kernel
theorem dX5_findSingle_22 : decode cX5_findSingle 22 = .ok (.iload_n 2, 1) := by decide +kernel
theorem dX5_findSingle_23 : decode cX5_findSingle 23 = .ok (.iaload, 1) := by decide +kernel
theorem dX5_findSingle_24 : decode cX5_findSingle 24 = .ok (.if_icmp .ne 25, 3) := by decide +kernel
theorem dX5_findSingle_27 : decode cX5_findSingle 27 = .ok (.iload_n 1, 1) := by decide +kernel
theorem dX5_findSingle_28 : decode cX5_findSingle 28 = .ok (.iload_n 3, 1) := by decide +kernel
theorem dX5_findSingle_29 : decode cX5_findSingle 29 = .ok (.aload_n 0, 1) := by decide +kernel
theorem dX5_findSingle_30 : decode cX5_findSingle 30 = .ok (.getfield 45, 3) := by decide +kernel
theorem dX5_findSingle_33 : decode cX5_findSingle 33 = .ok (.invokestatic 119, 3) := by decide +kernel
theorem dX5_findSingle_36 : decode cX5_findSingle 36 = .ok (.ifCond .eq 13, 3) := by decide +kernel
theorem dX5_findSingle_39 : decode cX5_findSingle 39 = .ok (.aload_n 0, 1) := by decide +kernel
theorem dX5_findSingle_40 : decode cX5_findSingle 40 = .ok (.iload_n 1, 1) := by decide +kernel
theorem dX5_findSingle_41 : decode cX5_findSingle 41 = .ok (.putfield 158, 3) := by decide +kernel
theorem dX5_findSingle_44 : decode cX5_findSingle 44 = .ok (.aload_n 0, 1) := by decide +kernel
theorem dX5_findSingle_45 : decode cX5_findSingle 45 = .ok (.iload_n 3, 1) := by decide +kernel
theorem dX5_findSingle_46 : decode cX5_findSingle 46 = .ok (.putfield 161, 3) := by decide +kernel
theorem dX5_findSingle_49 : decode cX5_findSingle 49 = .ok (.return_, 1) := by decide +kernel
theorem dX5_trace_0 : decode cX5_trace 0 = .ok (.iconst 0, 1) := by decide +kernel
theorem dX5_trace_1 : decode cX5_trace 1 = .ok (.istore_n 2, 1) := by decide +kernel
theorem dX5_trace_2 : decode cX5_trace 2 = .ok (.iload_n 2, 1) := by decide +kernel
theorem dX5_trace_3 : decode cX5_trace 3 = .ok (.sipush 2304, 3) := by decide +kernel
theorem dX5_trace_6 : decode cX5_trace 6 = .ok (.if_icmp .ge 16, 3) := by decide +kernel
theorem dX5_trace_9 : decode cX5_trace 9 = .ok (.aload_n 0, 1) := by decide +kernel
theorem dX5_trace_10 : decode cX5_trace 10 = .ok (.getfield 24, 3) := by decide +kernel
theorem dX5_trace_13 : decode cX5_trace 13 = .ok (.iload_n 2, 1) := by decide +kernel
theorem dX5_trace_14 : decode cX5_trace 14 = .ok (.iconst (-1), 1) := by decide +kernel
theorem dX5_trace_15 : decode cX5_trace 15 = .ok (.iastore, 1) := by decide +kernel
theorem dX5_trace_16 : decode cX5_trace 16 = .ok (.iinc 2 1, 3) := by decide +kernel
theorem dX5_trace_19 : decode cX5_trace 19 = .ok (.goto (-17), 3) := by decide +kernel
theorem dX5_trace_22 : decode cX5_trace 22 = .ok (.aload_n 0, 1) := by decide +kernel
theorem dX5_trace_23 : decode cX5_trace 23 = .ok (.getfield 24, 3) := by decide +kernel
theorem dX5_trace_26 : decode cX5_trace 26 = .ok (.iload_n 1, 1) := by decide +kernel
theorem dX5_trace_27 : decode cX5_trace 27 = .ok (.iconst 0, 1) := by decide +kernel
theorem dX5_trace_28 : decode cX5_trace 28 = .ok (.iastore, 1) := by decide +kernel
theorem dX5_trace_29 : decode cX5_trace 29 = .ok (.aload_n 0, 1) := by decide +kernel
theorem dX5_trace_30 : decode cX5_trace 30 = .ok (.iconst 0, 1) := by decide +kernel
theorem dX5_trace_31 : decode cX5_trace 31 = .ok (.putfield 176, 3) := by decide +kernel
theorem dX5_trace_34 : decode cX5_trace 34 = .ok (.aload_n 0, 1) := by decide +kernel
theorem dX5_trace_35 : decode cX5_trace 35 = .ok (.iconst 0, 1) := by decide +kernel
theorem dX5_trace_36 : decode cX5_trace 36 = .ok (.putfield 179, 3) := by decide +kernel
theorem dX5_trace_39 : decode cX5_trace 39 = .ok (.aload_n 0, 1) := by decide +kernel
theorem dX5_trace_40 : decode cX5_trace 40 = .ok (.iconst 0, 1) := by decide +kernel
theorem dX5_trace_41 : decode cX5_trace 41 = .ok (.putfield 182, 3) := by decide +kernel
theorem dX5_trace_44 : decode cX5_trace 44 = .ok (.aload_n 0, 1) := by decide +kernel
theorem dX5_trace_45 : decode cX5_trace 45 = .ok (.getfield 74, 3) := by decide +kernel
theorem dX5_trace_48 : decode cX5_trace 48 = .ok (.iconst 1, 1) := by decide +kernel
theorem dX5_trace_49 : decode cX5_trace 49 = .ok (.isub, 1) := by decide +kernel
theorem dX5_trace_50 : decode cX5_trace 50 = .ok (.istore_n 2, 1) := by decide +kernel
theorem dX5_trace_51 : decode cX5_trace 51 = .ok (.iload_n 2, 1) := by decide +kernel
theorem dX5_trace_52 : decode cX5_trace 52 = .ok (.ifCond .lt 34, 3) := by decide +kernel
theorem dX5_trace_55 : decode cX5_trace 55 = .ok (.aload_n 0, 1) := by decide +kernel
theorem dX5_trace_56 : decode cX5_trace 56 = .ok (.getfield 24, 3) := by decide +kernel
theorem dX5_trace_59 : decode cX5_trace 59 = .ok (.aload_n 0, 1) := by decide +kernel
theorem dX5_trace_60 : decode cX5_trace 60 = .ok (.getfield 15, 3) := by decide +kernel
theorem dX5_trace_63 : decode cX5_trace 63 = .ok (.iload_n 2, 1) := by decide +kernel
theorem dX5_trace_64 : decode cX5_trace 64 = .ok (.iaload, 1) := by decide +kernel
theorem dX5_trace_65 : decode cX5_trace 65 = .ok (.iaload, 1) := by decide +kernel
theorem dX5_trace_66 : decode cX5_trace 66 = .ok (.iconst (-1), 1) := by decide +kernel
theorem dX5_trace_67 : decode cX5_trace 67 = .ok (.if_icmp .eq 13, 3) := by decide +kernel
theorem dX5_trace_70 : decode cX5_trace 70 = .ok (.aload_n 0, 1) := by decide +kernel
theorem dX5_trace_71 : decode cX5_trace 71 = .ok (.aload_n 0, 1) := by decide +kernel
theorem dX5_trace_72 : decode cX5_trace 72 = .ok (.getfield 15, 3) := by decide +kernel
theorem dX5_trace_75 : decode cX5_trace 75 = .ok (.iload_n 2, 1) := by decide +kernel
theorem dX5_trace_76 : decode cX5_trace 76 = .ok (.iaload, 1) := by decide +kernel
theorem dX5_trace_77 : decode cX5_trace 77 = .ok (.invokevirtual 185, 3) := by decide +kernel
theorem dX5_trace_80 : decode cX5_trace 80 = .ok (.iinc 2 (-1), 3) := by decide +kernel
theorem dX5_trace_83 : decode cX5_trace 83 = .ok (.goto (-32), 3) := by decide +kernel
theorem dX5_trace_86 : decode cX5_trace 86 = .ok (.return_, 1) := by decide +kernel
theorem dX5_traceOne_0 : decode cX5_traceOne 0 = .ok (.aload_n 0, 1) := by decide +kernel
theorem dX5_traceOne_1 : decode cX5_traceOne 1 = .ok (.getfield 24, 3) := by decide +kernel
theorem dX5_traceOne_4 : decode cX5_traceOne 4 = .ok (.iload_n 1, 1) := by decide +kernel
theorem dX5_traceOne_5 : decode cX5_traceOne 5 = .ok (.iaload, 1) := by decide +kernel
theorem dX5_traceOne_6 : decode cX5_traceOne 6 = .ok (.istore_n 2, 1) := by decide +kernel
theorem dX5_traceOne_7 : decode cX5_traceOne 7 = .ok (.aload_n 0, 1) := by decide +kernel
theorem dX5_traceOne_8 : decode cX5_traceOne 8 = .ok (.getfield 9, 3) := by decide +kernel
theorem dX5_traceOne_11 : decode cX5_traceOne 11 = .ok (.iload_n 1, 1) := by decide +kernel
theorem dX5_traceOne_12 : decode cX5_traceOne 12 = .ok (.iaload, 1) := by decide +kernel
theorem dX5_traceOne_13 : decode cX5_traceOne 13 = .ok (.ifCond .ne 32, 3) := by decide +kernel
theorem dX5_traceOne_16 : decode cX5_traceOne 16 = .ok (.aload_n 0, 1) := by decide +kernel
theorem dX5_traceOne_17 : decode cX5_traceOne 17 = .ok (.dup, 1) := by decide +kernel
theorem dX5_traceOne_18 : decode cX5_traceOne 18 = .ok (.getfield 176, 3) := by decide +kernel
theorem dX5_traceOne_21 : decode cX5_traceOne 21 = .ok (.iconst 1, 1) := by decide +kernel
theorem dX5_traceOne_22 : decode cX5_traceOne 22 = .ok (.aload_n 0, 1) := by decide +kernel
theorem dX5_traceOne_23 : decode cX5_traceOne 23 = .ok (.iload_n 1, 1) := by decide +kernel
theorem dX5_traceOne_24 : decode cX5_traceOne 24 = .ok (.invokevirtual 188, 3) := by decide +kernel
theorem dX5_traceOne_27 : decode cX5_traceOne 27 = .ok (.ishl, 1) := by decide +kernel
theorem dX5_traceOne_28 : decode cX5_traceOne 28 = .ok (.ior, 1) := by decide +kernel
theorem dX5_traceOne_29 : decode cX5_traceOne 29 = .ok (.putfield 176, 3) := by decide +kernel
theorem dX5_traceOne_32 : decode cX5_traceOne 32 = .ok (.aload_n 0, 1) := by decide +kernel
theorem dX5_traceOne_33 : decode cX5_traceOne 33 = .ok (.aload_n 0, 1) := by decide +kernel
theorem dX5_traceOne_34 : decode cX5_traceOne 34 = .ok (.getfield 182, 3) := by decide +kernel
theorem dX5_traceOne_37 : decode cX5_traceOne 37 = .ok (.iload_n 2, 1) := by decide +kernel
theorem dX5_traceOne_38 : decode cX5_traceOne 38 = .ok (.invokestatic 191, 3) := by decide +kernel
theorem dX5_traceOne_41 : decode cX5_traceOne 41 = .ok (.putfield 182, 3) := by decide +kernel
theorem dX5_traceOne_44 : decode cX5_traceOne 44 = .ok (.return_, 1) := by decide +kernel
theorem dX5_traceOne_45 : decode cX5_traceOne 45 = .ok (.aload_n 0, 1) := by decide +kernel
theorem dX5_traceOne_46 : decode cX5_traceOne 46 = .ok (.iload_n 1, 1) := by decide +kernel
theorem dX5_traceOne_47 : decode cX5_traceOne 47 = .ok (.invokevirtual 194, 3) := by decide +kernel
theorem dX5_traceOne_50 : decode cX5_traceOne 50 = .ok (.aload_n 0, 1) := by decide +kernel
theorem dX5_traceOne_51 : decode cX5_traceOne 51 = .ok (.getfield 158, 3) := by decide +kernel
theorem dX5_traceOne_54 : decode cX5_traceOne 54 = .ok (.iconst (-1), 1) := by decide +kernel
theorem dX5_traceOne_55 : decode cX5_traceOne 55 = .ok (.if_icmp .eq 18, 3) := by decide +kernel
theorem dX5_traceOne_58 : decode cX5_traceOne 58 = .ok (.aload_n 0, 1) := by decide +kernel
theorem dX5_traceOne_59 : decode cX5_traceOne 59 = .ok (.dup, 1) := by decide +kernel
theorem dX5_traceOne_60 : decode cX5_traceOne 60 = .ok (.getfield 179, 3) := by decide +kernel
theorem dX5_traceOne_63 : decode cX5_traceOne 63 = .ok (.iconst 1, 1) := by decide +kernel
theorem dX5_traceOne_64 : decode cX5_traceOne 64 = .ok (.aload_n 0, 1) := by decide +kernel
theorem dX5_traceOne_65 : decode cX5_traceOne 65 = .ok (.getfield 158, 3) := by decide +kernel
theorem dX5_traceOne_68 : decode cX5_traceOne 68 = .ok (.ishl, 1) := by decide +kernel
theorem dX5_traceOne_69 : decode cX5_traceOne 69 = .ok (.ior, 1) := by decide +kernel
theorem dX5_traceOne_70 : decode cX5_traceOne 70 = .ok (.putfield 179, 3) := by decide +kernel
theorem dX5_traceOne_73 : decode cX5_traceOne 73 = .ok (.aload_n 0, 1) := by decide +kernel
theorem dX5_traceOne_74 : decode cX5_traceOne 74 = .ok (.getfield 161, 3) := by decide +kernel
theorem dX5_traceOne_77 : decode cX5_traceOne 77 = .ok (.iconst (-1), 1) := by decide +kernel
theorem dX5_traceOne_78 : decode cX5_traceOne 78 = .ok (.if_icmp .eq 27, 3) := by decide +kernel
theorem dX5_traceOne_81 : decode cX5_traceOne 81 = .ok (.aload_n 0, 1) := by decide +kernel
theorem dX5_traceOne_82 : decode cX5_traceOne 82 = .ok (.getfield 24, 3) := by decide +kernel
theorem dX5_traceOne_85 : decode cX5_traceOne 85 = .ok (.aload_n 0, 1) := by decide +kernel
theorem dX5_traceOne_86 : decode cX5_traceOne 86 = .ok (.getfield 161, 3) := by decide +kernel
theorem dX5_traceOne_89 : decode cX5_traceOne 89 = .ok (.aload_n 0, 1) := by decide +kernel
theorem dX5_traceOne_90 : decode cX5_traceOne 90 = .ok (.getfield 24, 3) := by decide +kernel
theorem dX5_traceOne_93 : decode cX5_traceOne 93 = .ok (.aload_n 0, 1) := by decide +kernel
theorem dX5_traceOne_94 : decode cX5_traceOne 94 = .ok (.getfield 161, 3) := by decide +kernel
theorem dX5_traceOne_97 : decode cX5_traceOne 97 = .ok (.iaload, 1) := by decide +kernel
theorem dX5_traceOne_98 : decode cX5_traceOne 98 = .ok (.iload_n 2, 1) := by decide +kernel
theorem dX5_traceOne_99 : decode cX5_traceOne 99 = .ok (.iconst 1, 1) := by decide +kernel
theorem dX5_traceOne_100 : decode cX5_traceOne 100 = .ok (.iadd, 1) := by decide +kernel
theorem dX5_traceOne_101 : decode cX5_traceOne 101 = .ok (.invokestatic 191, 3) := by decide +kernel
theorem dX5_traceOne_104 : decode cX5_traceOne 104 = .ok (.iastore, 1) := by decide +kernel
theorem dX5_traceOne_105 : decode cX5_traceOne 105 = .ok (.aload_n 0, 1) := by decide +kernel
theorem dX5_traceOne_106 : decode cX5_traceOne 106 = .ok (.getfield 164, 3) := by decide +kernel
theorem dX5_traceOne_109 : decode cX5_traceOne 109 = .ok (.iconst (-1), 1) := by decide +kernel
theorem dX5_traceOne_110 : decode cX5_traceOne 110 = .ok (.if_icmp .eq 27, 3) := by decide +kernel
theorem dX5_traceOne_113 : decode cX5_traceOne 113 = .ok (.aload_n 0, 1) := by decide +kernel
theorem dX5_traceOne_114 : decode cX5_traceOne 114 = .ok (.getfield 24, 3) := by decide +kernel
theorem dX5_traceOne_117 : decode cX5_traceOne 117 = .ok (.aload_n 0, 1) := by decide +kernel
theorem dX5_traceOne_118 : decode cX5_traceOne 118 = .ok (.getfield 164, 3) := by decide +kernel
theorem dX5_traceOne_121 : decode cX5_traceOne 121 = .ok (.aload_n 0, 1) := by decide +kernel
theorem dX5_traceOne_122 : decode cX5_traceOne 122 = .ok (.getfield 24, 3) := by decide +kernel
theorem dX5_traceOne_125 : decode cX5_traceOne 125 = .ok (.aload_n 0, 1) := by decide +kernel
theorem dX5_traceOne_126 : decode cX5_traceOne 126 = .ok (.getfield 164, 3) := by decide +kernel
theorem dX5_traceOne_129 : decode cX5_traceOne 129 = .ok (.iaload, 1) := by decide +kernel
theorem dX5_traceOne_130 : decode cX5_traceOne 130 = .ok (.iload_n 2, 1) := by decide +kernel
theorem dX5_traceOne_131 : decode cX5_traceOne 131 = .ok (.iconst 1, 1) := by decide +kernel
theorem dX5_traceOne_132 : decode cX5_traceOne 132 = .ok (.iadd, 1) := by decide +kernel
theorem dX5_traceOne_133 : decode cX5_traceOne 133 = .ok (.invokestatic 191, 3) := by decide +kernel
theorem dX5_traceOne_136 : decode cX5_traceOne 136 = .ok (.iastore, 1) := by decide +kernel
theorem dX5_traceOne_137 : decode cX5_traceOne 137 = .ok (.return_, 1) := by decide +kernel
theorem dX5_firstSaying_0 : decode cX5_firstSaying 0 = .ok (.iconst 0, 1) := by decide +kernel
theorem dX5_firstSaying_1 : decode cX5_firstSaying 1 = .ok (.istore_n 2, 1) := by decide +kernel
theorem dX5_firstSaying_2 : decode cX5_firstSaying 2 = .ok (.iload_n 2, 1) := by decide +kernel
theorem dX5_firstSaying_3 : decode cX5_firstSaying 3 = .ok (.aload_n 0, 1) := by decide +kernel
theorem dX5_firstSaying_4 : decode cX5_firstSaying 4 = .ok (.getfield 31, 3) := by decide +kernel
theorem dX5_firstSaying_7 : decode cX5_firstSaying 7 = .ok (.getfield 60, 3) := by decide +kernel
theorem dX5_firstSaying_10 : decode cX5_firstSaying 10 = .ok (.iconst 1, 1) := by decide +kernel
theorem dX5_firstSaying_11 : decode cX5_firstSaying 11 = .ok (.isub, 1) := by decide +kernel
theorem dX5_firstSaying_12 : decode cX5_firstSaying 12 = .ok (.if_icmp .ge 33, 3) := by decide +kernel
theorem dX5_firstSaying_15 : decode cX5_firstSaying 15 = .ok (.aload_n 0, 1) := by decide +kernel
theorem dX5_firstSaying_16 : decode cX5_firstSaying 16 = .ok (.getfield 31, 3) := by decide +kernel
theorem dX5_firstSaying_19 : decode cX5_firstSaying 19 = .ok (.iload_n 2, 1) := by decide +kernel
theorem dX5_firstSaying_20 : decode cX5_firstSaying 20 = .ok (.invokevirtual 63, 3) := by decide +kernel
theorem dX5_firstSaying_23 : decode cX5_firstSaying 23 = .ok (.ifCond .eq 16, 3) := by decide +kernel
theorem dX5_firstSaying_26 : decode cX5_firstSaying 26 = .ok (.aload_n 0, 1) := by decide +kernel
theorem dX5_firstSaying_27 : decode cX5_firstSaying 27 = .ok (.getfield 31, 3) := by decide +kernel
